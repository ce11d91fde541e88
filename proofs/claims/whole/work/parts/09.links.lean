set_option maxRecDepth 20000
theorem xw166 : Cond.methodLink RX0 3 objectInit ∈ xBW := xbw 166 (by decide +kernel) (by decide +kernel)
theorem xw89 : Cond.instanceMethod objectInit ∈ xBW := xbw 89 (by decide +kernel) (by decide +kernel)
theorem xw90 : Cond.code objectInit ⟨#[0xb1]⟩ 1 none ∈ xBW := xbw 90 (by decide +kernel) (by decide +kernel)
theorem xw167 : Cond.fieldLink RX0 9 "RentStream$Bill" "rent" "I" ∈ xBW := xbw 167 (by decide +kernel) (by decide +kernel)
theorem xw170 : Cond.fieldLink RX0 15 "RentStream$Bill" "lowered" "I" ∈ xBW := xbw 170 (by decide +kernel) (by decide +kernel)
theorem xw173 : Cond.fieldLink RX0 18 "RentStream$Bill" "benefit" "I" ∈ xBW := xbw 173 (by decide +kernel) (by decide +kernel)
theorem xw176 : Cond.fieldLink RX0 21 "RentStream$Bill" "heat" "I" ∈ xBW := xbw 176 (by decide +kernel) (by decide +kernel)
theorem xw123 : Cond.fieldLink RX4 9 "RentStream$Months" "numbers" "[I" ∈ xBW := xbw 123 (by decide +kernel) (by decide +kernel)
theorem xw122 : Cond.methodLink RX4 3 objectInit ∈ xBW := xbw 122 (by decide +kernel) (by decide +kernel)
theorem xw127 : Cond.arrayClass .int ∈ xBW := xbw 127 (by decide +kernel) (by decide +kernel)
theorem xw136 : Cond.methodLink RJ5 3 objectInit ∈ xBW := xbw 136 (by decide +kernel) (by decide +kernel)
theorem xw137 : Cond.fieldLink RJ5 18 "java/lang/String" "COMPACT_STRINGS" "Z" ∈ xBW := xbw 137 (by decide +kernel) (by decide +kernel)
theorem xw160 : Cond.arrayClass .byte ∈ xBW := xbw 160 (by decide +kernel) (by decide +kernel)
theorem xw146 : Cond.fieldLink RJ5 15 "java/lang/AbstractStringBuilder" "value" "[B" ∈ xBW := xbw 146 (by decide +kernel) (by decide +kernel)
theorem xw147 : Cond.fieldLink RJ5 22 "java/lang/AbstractStringBuilder" "coder" "B" ∈ xBW := xbw 147 (by decide +kernel) (by decide +kernel)
theorem xw133 : Cond.methodLink RJ4 1 yJ5_init_d00df ∈ xBW := xbw 133 (by decide +kernel) (by decide +kernel)
theorem xw134 : Cond.instanceMethod yJ5_init_d00df ∈ xBW := xbw 134 (by decide +kernel) (by decide +kernel)
theorem xw55 : Cond.initialized RJ5 ∈ xBW := xbw 55 (by decide +kernel) (by decide +kernel)
theorem xw135 : Cond.code yJ5_init_d00df cJ5_init_d00df 2 none ∈ xBW := xbw 135 (by decide +kernel) (by decide +kernel)
theorem xw102 : Cond.methodLink RJxa1e45 1 objectInit ∈ xBW := xbw 102 (by decide +kernel) (by decide +kernel)
theorem xw99 : Cond.methodLink RJxc12de 1 yJxa1e45_init_da8c8 ∈ xBW := xbw 99 (by decide +kernel) (by decide +kernel)
theorem xw100 : Cond.instanceMethod yJxa1e45_init_da8c8 ∈ xBW := xbw 100 (by decide +kernel) (by decide +kernel)
theorem xw51 : Cond.initialized RJxa1e45 ∈ xBW := xbw 51 (by decide +kernel) (by decide +kernel)
theorem xw101 : Cond.code yJxa1e45_init_da8c8 cJxa1e45_init_da8c8 1 none ∈ xBW := xbw 101 (by decide +kernel) (by decide +kernel)
theorem xw107 : Cond.fieldLink RJxc12de 7 "java/util/AbstractList" "modCount" "I" ∈ xBW := xbw 107 (by decide +kernel) (by decide +kernel)
theorem xw96 : Cond.methodLink RJx4a65c 1 yJxc12de_init_da8c8 ∈ xBW := xbw 96 (by decide +kernel) (by decide +kernel)
theorem xw97 : Cond.instanceMethod yJxc12de_init_da8c8 ∈ xBW := xbw 97 (by decide +kernel) (by decide +kernel)
theorem xw52 : Cond.initialized RJxc12de ∈ xBW := xbw 52 (by decide +kernel) (by decide +kernel)
theorem xw98 : Cond.code yJxc12de_init_da8c8 cJxc12de_init_da8c8 1 none ∈ xBW := xbw 98 (by decide +kernel) (by decide +kernel)
theorem xw103 : Cond.fieldLink RJx4a65c 39 "java/util/ArrayList" "DEFAULTCAPACITY_EMPTY_ELEMENTDATA" "[Ljava/lang/Object;" ∈ xBW := xbw 103 (by decide +kernel) (by decide +kernel)
theorem xw105 : Cond.fieldLink RJx4a65c 9 "java/util/ArrayList" "elementData" "[Ljava/lang/Object;" ∈ xBW := xbw 105 (by decide +kernel) (by decide +kernel)
theorem xw88 : Cond.methodLink RX7 1 objectInit ∈ xBW := xbw 88 (by decide +kernel) (by decide +kernel)
theorem xw91 : Cond.classLink RX7 7 "java/util/ArrayList" ∈ xBW := xbw 91 (by decide +kernel) (by decide +kernel)
theorem xw92 : Cond.instantiable RJx4a65c 3 ∈ xBW := xbw 92 (by decide +kernel) (by decide +kernel)
theorem xw53 : Cond.initialized RJx4a65c ∈ xBW := xbw 53 (by decide +kernel) (by decide +kernel)
theorem xw93 : Cond.methodLink RX7 9 yJx4a65c_init_da8c8 ∈ xBW := xbw 93 (by decide +kernel) (by decide +kernel)
theorem xw94 : Cond.instanceMethod yJx4a65c_init_da8c8 ∈ xBW := xbw 94 (by decide +kernel) (by decide +kernel)
theorem xw95 : Cond.code yJx4a65c_init_da8c8 cJx4a65c_init_da8c8 1 none ∈ xBW := xbw 95 (by decide +kernel) (by decide +kernel)
theorem xw187 : Cond.fieldLink RX7 10 "RentStream" "flats" "Ljava/util/ArrayList;" ∈ xBW := xbw 187 (by decide +kernel) (by decide +kernel)
theorem xw188 : Cond.fieldLink RX7 16 "RentStream" "leases" "Ljava/util/ArrayList;" ∈ xBW := xbw 188 (by decide +kernel) (by decide +kernel)
theorem xw189 : Cond.fieldLink RX7 19 "RentStream" "repairs" "Ljava/util/ArrayList;" ∈ xBW := xbw 189 (by decide +kernel) (by decide +kernel)
theorem xw117 : Cond.classLink RX7 22 "RentStream$Months" ∈ xBW := xbw 117 (by decide +kernel) (by decide +kernel)
theorem xw118 : Cond.instantiable RX4 1 ∈ xBW := xbw 118 (by decide +kernel) (by decide +kernel)
theorem xw54 : Cond.initialized RX4 ∈ xBW := xbw 54 (by decide +kernel) (by decide +kernel)
theorem xw119 : Cond.methodLink RX7 24 yX4_init ∈ xBW := xbw 119 (by decide +kernel) (by decide +kernel)
theorem xw120 : Cond.instanceMethod yX4_init ∈ xBW := xbw 120 (by decide +kernel) (by decide +kernel)
theorem xw121 : Cond.code yX4_init cX4_init 3 none ∈ xBW := xbw 121 (by decide +kernel) (by decide +kernel)
theorem xw190 : Cond.fieldLink RX7 27 "RentStream" "indexes" "LRentStream$Months;" ∈ xBW := xbw 190 (by decide +kernel) (by decide +kernel)
theorem xw191 : Cond.fieldLink RX7 31 "RentStream" "heatCosts" "LRentStream$Months;" ∈ xBW := xbw 191 (by decide +kernel) (by decide +kernel)
theorem xw128 : Cond.classLink RX7 34 "java/lang/StringBuilder" ∈ xBW := xbw 128 (by decide +kernel) (by decide +kernel)
theorem xw129 : Cond.instantiable RJ4 4 ∈ xBW := xbw 129 (by decide +kernel) (by decide +kernel)
theorem xw56 : Cond.initialized RJ4 ∈ xBW := xbw 56 (by decide +kernel) (by decide +kernel)
theorem xw130 : Cond.methodLink RX7 36 yJ4_init_da8c8 ∈ xBW := xbw 130 (by decide +kernel) (by decide +kernel)
theorem xw131 : Cond.instanceMethod yJ4_init_da8c8 ∈ xBW := xbw 131 (by decide +kernel) (by decide +kernel)
theorem xw132 : Cond.code yJ4_init_da8c8 cJ4_init_da8c8 1 none ∈ xBW := xbw 132 (by decide +kernel) (by decide +kernel)
theorem xw192 : Cond.fieldLink RX7 37 "RentStream" "lineText" "Ljava/lang/StringBuilder;" ∈ xBW := xbw 192 (by decide +kernel) (by decide +kernel)
theorem xw161 : Cond.classLink RX7 41 "RentStream$Bill" ∈ xBW := xbw 161 (by decide +kernel) (by decide +kernel)
theorem xw162 : Cond.instantiable RX0 4 ∈ xBW := xbw 162 (by decide +kernel) (by decide +kernel)
theorem xw59 : Cond.initialized RX0 ∈ xBW := xbw 59 (by decide +kernel) (by decide +kernel)
theorem xw164 : Cond.instanceMethod yX0_init ∈ xBW := xbw 164 (by decide +kernel) (by decide +kernel)
theorem xw165 : Cond.code yX0_init cX0_init 1 none ∈ xBW := xbw 165 (by decide +kernel) (by decide +kernel)
theorem xw193 : Cond.fieldLink RX7 44 "RentStream" "settledAnew" "LRentStream$Bill;" ∈ xBW := xbw 193 (by decide +kernel) (by decide +kernel)
theorem xw194 : Cond.fieldLink RX7 48 "RentStream" "nextIndex" "I" ∈ xBW := xbw 194 (by decide +kernel) (by decide +kernel)
theorem xw195 : Cond.fieldLink RX7 52 "RentStream" "day" "I" ∈ xBW := xbw 195 (by decide +kernel) (by decide +kernel)
theorem xw196 : Cond.fieldLink RX7 55 "RentStream" "ownerAccount" "J" ∈ xBW := xbw 196 (by decide +kernel) (by decide +kernel)
theorem xw682 : Cond.methodLink RX7 370 Lib.Math.min.name ∈ xBW := xbw 682 (by decide +kernel) (by decide +kernel)
theorem xw410 : Cond.static Lib.Math.min.name ∈ xBW := xbw 410 (by decide +kernel) (by decide +kernel)
theorem xw68 : Cond.initialized RJ9 ∈ xBW := xbw 68 (by decide +kernel) (by decide +kernel)
theorem xw411 : Cond.code Lib.Math.min.name Lib.Math.min.code 2 (some .int) ∈ xBW := xbw 411 (by decide +kernel) (by decide +kernel)
theorem xw683 : Cond.methodLink RX7 372 Lib.Math.max.name ∈ xBW := xbw 683 (by decide +kernel) (by decide +kernel)
theorem xw373 : Cond.static Lib.Math.max.name ∈ xBW := xbw 373 (by decide +kernel) (by decide +kernel)
theorem xw374 : Cond.code Lib.Math.max.name Lib.Math.max.code 2 (some .int) ∈ xBW := xbw 374 (by decide +kernel) (by decide +kernel)
theorem xw531 : Cond.fieldLink RX7 223 "RentStream$Lease" "deskAccount" "J" ∈ xBW := xbw 531 (by decide +kernel) (by decide +kernel)
theorem xw522 : Cond.fieldLink RX3 20 "RentStream$Lease" "told" "LRentStream$Months;" ∈ xBW := xbw 522 (by decide +kernel) (by decide +kernel)
theorem xw678 : Cond.methodLink RX3 73 yX4_in ∈ xBW := xbw 678 (by decide +kernel) (by decide +kernel)
theorem xw582 : Cond.instanceMethod yX4_in ∈ xBW := xbw 582 (by decide +kernel) (by decide +kernel)
theorem xw583 : Cond.selects RX4 yX4_in yX4_in ∈ xBW := xbw 583 (by decide +kernel) (by decide +kernel)
theorem xw584 : Cond.code yX4_in cX4_in 2 (some .int) ∈ xBW := xbw 584 (by decide +kernel) (by decide +kernel)
theorem xw534 : Cond.fieldLink RX3 58 "RentStream$Lease" "rent" "I" ∈ xBW := xbw 534 (by decide +kernel) (by decide +kernel)
theorem xw581 : Cond.methodLink RX7 114 yX4_in ∈ xBW := xbw 581 (by decide +kernel) (by decide +kernel)
theorem xw810 : Cond.methodLink RX7 298 yX3_rentAt ∈ xBW := xbw 810 (by decide +kernel) (by decide +kernel)
theorem xw811 : Cond.instanceMethod yX3_rentAt ∈ xBW := xbw 811 (by decide +kernel) (by decide +kernel)
theorem xw812 : Cond.selects RX3 yX3_rentAt yX3_rentAt ∈ xBW := xbw 812 (by decide +kernel) (by decide +kernel)
theorem xw74 : Cond.initialized RX3 ∈ xBW := xbw 74 (by decide +kernel) (by decide +kernel)
theorem xw813 : Cond.code yX3_rentAt cX3_rentAt 2 (some .int) ∈ xBW := xbw 813 (by decide +kernel) (by decide +kernel)
theorem xw821 : Cond.methodLink RX7 301 yX3_incomeIn ∈ xBW := xbw 821 (by decide +kernel) (by decide +kernel)
theorem xw675 : Cond.instanceMethod yX3_incomeIn ∈ xBW := xbw 675 (by decide +kernel) (by decide +kernel)
theorem xw676 : Cond.selects RX3 yX3_incomeIn yX3_incomeIn ∈ xBW := xbw 676 (by decide +kernel) (by decide +kernel)
theorem xw677 : Cond.code yX3_incomeIn cX3_incomeIn 3 (some .int) ∈ xBW := xbw 677 (by decide +kernel) (by decide +kernel)
theorem xw822 : Cond.methodLink RX7 304 yX7_benefitFor ∈ xBW := xbw 822 (by decide +kernel) (by decide +kernel)
theorem xw680 : Cond.static yX7_benefitFor ∈ xBW := xbw 680 (by decide +kernel) (by decide +kernel)
theorem xw50 : Cond.initialized RX7 ∈ xBW := xbw 50 (by decide +kernel) (by decide +kernel)
theorem xw681 : Cond.code yX7_benefitFor cX7_benefitFor 4 (some .int) ∈ xBW := xbw 681 (by decide +kernel) (by decide +kernel)
theorem xw688 : Cond.methodLink RX7 176 yX7_postToDesk ∈ xBW := xbw 688 (by decide +kernel) (by decide +kernel)
theorem xw690 : Cond.instanceMethod yX7_postToDesk ∈ xBW := xbw 690 (by decide +kernel) (by decide +kernel)
theorem xw14 : Cond.selects RX7 yX7_postToDesk yX7_postToDesk ∈ xBW := xbw 14 (by decide +kernel) (by decide +kernel)
theorem xw691 : Cond.code yX7_postToDesk cX7_postToDesk 4 none ∈ xBW := xbw 691 (by decide +kernel) (by decide +kernel)
theorem xw535 : Cond.fieldLink RX3 61 "RentStream$Lease" "first" "I" ∈ xBW := xbw 535 (by decide +kernel) (by decide +kernel)
theorem xw520 : Cond.fieldLink RX3 9 "RentStream$Lease" "last" "I" ∈ xBW := xbw 520 (by decide +kernel) (by decide +kernel)
theorem xw452 : Cond.methodLink RJ15 105 yJ3_checkIndex_8e157 ∈ xBW := xbw 452 (by decide +kernel) (by decide +kernel)
theorem xw453 : Cond.static yJ3_checkIndex_8e157 ∈ xBW := xbw 453 (by decide +kernel) (by decide +kernel)
theorem xw73 : Cond.initialized RJ3 ∈ xBW := xbw 73 (by decide +kernel) (by decide +kernel)
theorem xw454 : Cond.code yJ3_checkIndex_8e157 cJ3_checkIndex_8e157 3 (some .int) ∈ xBW := xbw 454 (by decide +kernel) (by decide +kernel)
theorem xw106 : Cond.fieldLink RJx4a65c 48 "java/util/ArrayList" "size" "I" ∈ xBW := xbw 106 (by decide +kernel) (by decide +kernel)
theorem xw449 : Cond.methodLink RJx4a65c 118 yJ15_checkIndex_7cf53 ∈ xBW := xbw 449 (by decide +kernel) (by decide +kernel)
theorem xw450 : Cond.static yJ15_checkIndex_7cf53 ∈ xBW := xbw 450 (by decide +kernel) (by decide +kernel)
theorem xw72 : Cond.initialized RJ15 ∈ xBW := xbw 72 (by decide +kernel) (by decide +kernel)
theorem xw451 : Cond.code yJ15_checkIndex_7cf53 cJ15_checkIndex_7cf53 2 (some .int) ∈ xBW := xbw 451 (by decide +kernel) (by decide +kernel)
theorem xw455 : Cond.methodLink RJx4a65c 123 yJx4a65c_elementData_915e3 ∈ xBW := xbw 455 (by decide +kernel) (by decide +kernel)
theorem xw456 : Cond.instanceMethod yJx4a65c_elementData_915e3 ∈ xBW := xbw 456 (by decide +kernel) (by decide +kernel)
theorem xw457 : Cond.selects RJx4a65c yJx4a65c_elementData_915e3 yJx4a65c_elementData_915e3 ∈ xBW := xbw 457 (by decide +kernel) (by decide +kernel)
theorem xw458 : Cond.code yJx4a65c_elementData_915e3 cJx4a65c_elementData_915e3 2 (some (.object "java/lang/Object")) ∈ xBW := xbw 458 (by decide +kernel) (by decide +kernel)
theorem xw300 : Cond.methodLink RX7 66 yJx4a65c_size_8abf5 ∈ xBW := xbw 300 (by decide +kernel) (by decide +kernel)
theorem xw301 : Cond.instanceMethod yJx4a65c_size_8abf5 ∈ xBW := xbw 301 (by decide +kernel) (by decide +kernel)
theorem xw302 : Cond.selects RJx4a65c yJx4a65c_size_8abf5 yJx4a65c_size_8abf5 ∈ xBW := xbw 302 (by decide +kernel) (by decide +kernel)
theorem xw303 : Cond.code yJx4a65c_size_8abf5 cJx4a65c_size_8abf5 1 (some .int) ∈ xBW := xbw 303 (by decide +kernel) (by decide +kernel)
theorem xw445 : Cond.methodLink RX7 149 yJx4a65c_get_915e3 ∈ xBW := xbw 445 (by decide +kernel) (by decide +kernel)
theorem xw446 : Cond.instanceMethod yJx4a65c_get_915e3 ∈ xBW := xbw 446 (by decide +kernel) (by decide +kernel)
theorem xw447 : Cond.selects RJx4a65c yJx4a65c_get_915e3 yJx4a65c_get_915e3 ∈ xBW := xbw 447 (by decide +kernel) (by decide +kernel)
theorem xw448 : Cond.code yJx4a65c_get_915e3 cJx4a65c_get_915e3 2 (some (.object "java/lang/Object")) ∈ xBW := xbw 448 (by decide +kernel) (by decide +kernel)
theorem xw465 : Cond.classLink RX7 95 "RentStream$Lease" ∈ xBW := xbw 465 (by decide +kernel) (by decide +kernel)
theorem xw770 : Cond.methodLink RX7 209 yX3_runsIn ∈ xBW := xbw 770 (by decide +kernel) (by decide +kernel)
theorem xw767 : Cond.instanceMethod yX3_runsIn ∈ xBW := xbw 767 (by decide +kernel) (by decide +kernel)
theorem xw768 : Cond.selects RX3 yX3_runsIn yX3_runsIn ∈ xBW := xbw 768 (by decide +kernel) (by decide +kernel)
theorem xw769 : Cond.code yX3_runsIn cX3_runsIn 2 (some .boolean) ∈ xBW := xbw 769 (by decide +kernel) (by decide +kernel)
theorem xw835 : Cond.methodLink RX7 295 yX7_payAhead ∈ xBW := xbw 835 (by decide +kernel) (by decide +kernel)
theorem xw837 : Cond.instanceMethod yX7_payAhead ∈ xBW := xbw 837 (by decide +kernel) (by decide +kernel)
theorem xw27 : Cond.selects RX7 yX7_payAhead yX7_payAhead ∈ xBW := xbw 27 (by decide +kernel) (by decide +kernel)
theorem xw838 : Cond.code yX7_payAhead cX7_payAhead 6 none ∈ xBW := xbw 838 (by decide +kernel) (by decide +kernel)
theorem xw608 : Cond.methodLink RX7 133 yX4_put ∈ xBW := xbw 608 (by decide +kernel) (by decide +kernel)
theorem xw609 : Cond.instanceMethod yX4_put ∈ xBW := xbw 609 (by decide +kernel) (by decide +kernel)
theorem xw610 : Cond.selects RX4 yX4_put yX4_put ∈ xBW := xbw 610 (by decide +kernel) (by decide +kernel)
theorem xw611 : Cond.code yX4_put cX4_put 3 none ∈ xBW := xbw 611 (by decide +kernel) (by decide +kernel)
theorem xw429 : Cond.classLink RX7 144 "java/lang/IndexOutOfBoundsException" ∈ xBW := xbw 429 (by decide +kernel) (by decide +kernel)
theorem xw71 : Cond.initialized "java/lang/IndexOutOfBoundsException" ∈ xBW := xbw 71 (by decide +kernel) (by decide +kernel)
theorem xw468 : Cond.methodLink RX7 97 yX7_monthNow ∈ xBW := xbw 468 (by decide +kernel) (by decide +kernel)
theorem xw470 : Cond.instanceMethod yX7_monthNow ∈ xBW := xbw 470 (by decide +kernel) (by decide +kernel)
theorem xw10 : Cond.selects RX7 yX7_monthNow yX7_monthNow ∈ xBW := xbw 10 (by decide +kernel) (by decide +kernel)
theorem xw471 : Cond.code yX7_monthNow cX7_monthNow 1 (some .int) ∈ xBW := xbw 471 (by decide +kernel) (by decide +kernel)
theorem xw536 : Cond.fieldLink RX3 50 "RentStream$Lease" "bills" "[LRentStream$Bill;" ∈ xBW := xbw 536 (by decide +kernel) (by decide +kernel)
theorem xw567 : Cond.methodLink RX7 103 yX7_leaseAt ∈ xBW := xbw 567 (by decide +kernel) (by decide +kernel)
theorem xw569 : Cond.instanceMethod yX7_leaseAt ∈ xBW := xbw 569 (by decide +kernel) (by decide +kernel)
theorem xw11 : Cond.selects RX7 yX7_leaseAt yX7_leaseAt ∈ xBW := xbw 11 (by decide +kernel) (by decide +kernel)
theorem xw570 : Cond.code yX7_leaseAt cX7_leaseAt 2 (some (.object "RentStream$Lease")) ∈ xBW := xbw 570 (by decide +kernel) (by decide +kernel)
theorem xw661 : Cond.methodLink RX7 162 yX7_needMonth ∈ xBW := xbw 661 (by decide +kernel) (by decide +kernel)
theorem xw663 : Cond.instanceMethod yX7_needMonth ∈ xBW := xbw 663 (by decide +kernel) (by decide +kernel)
theorem xw12 : Cond.selects RX7 yX7_needMonth yX7_needMonth ∈ xBW := xbw 12 (by decide +kernel) (by decide +kernel)
theorem xw664 : Cond.code yX7_needMonth cX7_needMonth 2 none ∈ xBW := xbw 664 (by decide +kernel) (by decide +kernel)
theorem xw231 : Cond.classLink RX7 59 "java/lang/IllegalArgumentException" ∈ xBW := xbw 231 (by decide +kernel) (by decide +kernel)
theorem xw64 : Cond.initialized "java/lang/IllegalArgumentException" ∈ xBW := xbw 64 (by decide +kernel) (by decide +kernel)
theorem xw868 : Cond.methodLink RX7 228 yX3_billOf ∈ xBW := xbw 868 (by decide +kernel) (by decide +kernel)
theorem xw671 : Cond.instanceMethod yX3_billOf ∈ xBW := xbw 671 (by decide +kernel) (by decide +kernel)
theorem xw672 : Cond.selects RX3 yX3_billOf yX3_billOf ∈ xBW := xbw 672 (by decide +kernel) (by decide +kernel)
theorem xw673 : Cond.code yX3_billOf cX3_billOf 2 (some (.object "RentStream$Bill")) ∈ xBW := xbw 673 (by decide +kernel) (by decide +kernel)
theorem xw870 : Cond.methodLink RX7 234 yX0_amount ∈ xBW := xbw 870 (by decide +kernel) (by decide +kernel)
theorem xw871 : Cond.instanceMethod yX0_amount ∈ xBW := xbw 871 (by decide +kernel) (by decide +kernel)
theorem xw872 : Cond.selects RX0 yX0_amount yX0_amount ∈ xBW := xbw 872 (by decide +kernel) (by decide +kernel)
theorem xw873 : Cond.code yX0_amount cX0_amount 2 (some .int) ∈ xBW := xbw 873 (by decide +kernel) (by decide +kernel)
theorem xw869 : Cond.constantLong RX7 232 (-1 : Int64) ∈ xBW := xbw 869 (by decide +kernel) (by decide +kernel)
theorem xw521 : Cond.fieldLink RX7 107 "RentStream$Lease" "last" "I" ∈ xBW := xbw 521 (by decide +kernel) (by decide +kernel)
theorem xw304 : Cond.classLink RX7 70 "java/lang/IllegalStateException" ∈ xBW := xbw 304 (by decide +kernel) (by decide +kernel)
theorem xw65 : Cond.initialized "java/lang/IllegalStateException" ∈ xBW := xbw 65 (by decide +kernel) (by decide +kernel)
theorem xw529 : Cond.fieldLink RX7 182 "RentStream$Lease" "tenantAccount" "J" ∈ xBW := xbw 529 (by decide +kernel) (by decide +kernel)
theorem xw817 : Cond.constantLong RX7 362 (3000 : Int64) ∈ xBW := xbw 817 (by decide +kernel) (by decide +kernel)
theorem xw818 : Cond.methodLink RX7 364 Lib.MathLoose.min_long.x ∈ xBW := xbw 818 (by decide +kernel) (by decide +kernel)
theorem xw819 : Cond.static Lib.MathLoose.min_long.x ∈ xBW := xbw 819 (by decide +kernel) (by decide +kernel)
theorem xw820 : Cond.code Lib.MathLoose.min_long.x Lib.MathLoose.min_long.code 4 (some .long) ∈ xBW := xbw 820 (by decide +kernel) (by decide +kernel)
theorem xw169 : Cond.fieldLink RX7 350 "RentStream$Bill" "rent" "I" ∈ xBW := xbw 169 (by decide +kernel) (by decide +kernel)
theorem xw519 : Cond.fieldLink RX7 265 "RentStream$Lease" "home" "LRentStream$Flat;" ∈ xBW := xbw 519 (by decide +kernel) (by decide +kernel)
theorem xw335 : Cond.fieldLink RX7 256 "RentStream$Flat" "pointsOff" "LRentStream$Months;" ∈ xBW := xbw 335 (by decide +kernel) (by decide +kernel)
theorem xw814 : Cond.methodLink RX7 353 yX7_loweredBy ∈ xBW := xbw 814 (by decide +kernel) (by decide +kernel)
theorem xw815 : Cond.static yX7_loweredBy ∈ xBW := xbw 815 (by decide +kernel) (by decide +kernel)
theorem xw816 : Cond.code yX7_loweredBy cX7_loweredBy 4 (some .int) ∈ xBW := xbw 816 (by decide +kernel) (by decide +kernel)
theorem xw172 : Cond.fieldLink RX7 356 "RentStream$Bill" "lowered" "I" ∈ xBW := xbw 172 (by decide +kernel) (by decide +kernel)
theorem xw175 : Cond.fieldLink RX7 292 "RentStream$Bill" "benefit" "I" ∈ xBW := xbw 175 (by decide +kernel) (by decide +kernel)
theorem xw527 : Cond.fieldLink RX7 311 "RentStream$Lease" "heatShare" "LRentStream$HeatShare;" ∈ xBW := xbw 527 (by decide +kernel) (by decide +kernel)
theorem xw505 : Cond.fieldLink RX7 315 "RentStream$HeatShare" "cents" "I" ∈ xBW := xbw 505 (by decide +kernel) (by decide +kernel)
theorem xw177 : Cond.fieldLink RX7 359 "RentStream$Bill" "heat" "I" ∈ xBW := xbw 177 (by decide +kernel) (by decide +kernel)
theorem xw806 : Cond.methodLink RX7 216 yX7_settle ∈ xBW := xbw 806 (by decide +kernel) (by decide +kernel)
theorem xw808 : Cond.instanceMethod yX7_settle ∈ xBW := xbw 808 (by decide +kernel) (by decide +kernel)
theorem xw25 : Cond.selects RX7 yX7_settle yX7_settle ∈ xBW := xbw 25 (by decide +kernel) (by decide +kernel)
theorem xw809 : Cond.code yX7_settle cX7_settle 4 none ∈ xBW := xbw 809 (by decide +kernel) (by decide +kernel)
theorem xw823 : Cond.methodLink RX7 288 yX3_putBill ∈ xBW := xbw 823 (by decide +kernel) (by decide +kernel)
theorem xw824 : Cond.instanceMethod yX3_putBill ∈ xBW := xbw 824 (by decide +kernel) (by decide +kernel)
theorem xw825 : Cond.selects RX3 yX3_putBill yX3_putBill ∈ xBW := xbw 825 (by decide +kernel) (by decide +kernel)
theorem xw826 : Cond.code yX3_putBill cX3_putBill 3 none ∈ xBW := xbw 826 (by decide +kernel) (by decide +kernel)
theorem xw827 : Cond.methodLink RX7 220 yX0_ofTenant ∈ xBW := xbw 827 (by decide +kernel) (by decide +kernel)
theorem xw828 : Cond.instanceMethod yX0_ofTenant ∈ xBW := xbw 828 (by decide +kernel) (by decide +kernel)
theorem xw829 : Cond.selects RX0 yX0_ofTenant yX0_ofTenant ∈ xBW := xbw 829 (by decide +kernel) (by decide +kernel)
theorem xw830 : Cond.code yX0_ofTenant cX0_ofTenant 1 (some .int) ∈ xBW := xbw 830 (by decide +kernel) (by decide +kernel)
theorem xw684 : Cond.methodLink RX7 172 yX7_postToTenant ∈ xBW := xbw 684 (by decide +kernel) (by decide +kernel)
theorem xw686 : Cond.instanceMethod yX7_postToTenant ∈ xBW := xbw 686 (by decide +kernel) (by decide +kernel)
theorem xw13 : Cond.selects RX7 yX7_postToTenant yX7_postToTenant ∈ xBW := xbw 13 (by decide +kernel) (by decide +kernel)
theorem xw687 : Cond.code yX7_postToTenant cX7_postToTenant 4 none ∈ xBW := xbw 687 (by decide +kernel) (by decide +kernel)
theorem xw508 : Cond.fieldLink RX2 16 "RentStream$HeatShare" "remainder" "J" ∈ xBW := xbw 508 (by decide +kernel) (by decide +kernel)
theorem xw504 : Cond.fieldLink RX2 7 "RentStream$HeatShare" "cents" "I" ∈ xBW := xbw 504 (by decide +kernel) (by decide +kernel)
theorem xw791 : Cond.methodLink RX7 347 yX2_takeOneMore ∈ xBW := xbw 791 (by decide +kernel) (by decide +kernel)
theorem xw792 : Cond.instanceMethod yX2_takeOneMore ∈ xBW := xbw 792 (by decide +kernel) (by decide +kernel)
theorem xw793 : Cond.selects RX2 yX2_takeOneMore yX2_takeOneMore ∈ xBW := xbw 793 (by decide +kernel) (by decide +kernel)
theorem xw76 : Cond.initialized RX2 ∈ xBW := xbw 76 (by decide +kernel) (by decide +kernel)
theorem xw794 : Cond.code yX2_takeOneMore cX2_takeOneMore 1 none ∈ xBW := xbw 794 (by decide +kernel) (by decide +kernel)
theorem xw787 : Cond.methodLink RX7 343 yX2_isAheadOf ∈ xBW := xbw 787 (by decide +kernel) (by decide +kernel)
theorem xw788 : Cond.instanceMethod yX2_isAheadOf ∈ xBW := xbw 788 (by decide +kernel) (by decide +kernel)
theorem xw789 : Cond.selects RX2 yX2_isAheadOf yX2_isAheadOf ∈ xBW := xbw 789 (by decide +kernel) (by decide +kernel)
theorem xw790 : Cond.code yX2_isAheadOf cX2_isAheadOf 2 (some .boolean) ∈ xBW := xbw 790 (by decide +kernel) (by decide +kernel)
theorem xw783 : Cond.methodLink RX7 339 yJx4a65c_isEmpty_aae02 ∈ xBW := xbw 783 (by decide +kernel) (by decide +kernel)
theorem xw784 : Cond.instanceMethod yJx4a65c_isEmpty_aae02 ∈ xBW := xbw 784 (by decide +kernel) (by decide +kernel)
theorem xw785 : Cond.selects RJx4a65c yJx4a65c_isEmpty_aae02 yJx4a65c_isEmpty_aae02 ∈ xBW := xbw 785 (by decide +kernel) (by decide +kernel)
theorem xw786 : Cond.code yJx4a65c_isEmpty_aae02 cJx4a65c_isEmpty_aae02 1 (some .boolean) ∈ xBW := xbw 786 (by decide +kernel) (by decide +kernel)
theorem xw506 : Cond.fieldLink RX2 13 "RentStream$HeatShare" "weight" "I" ∈ xBW := xbw 506 (by decide +kernel) (by decide +kernel)
theorem xw779 : Cond.methodLink RX7 336 yX7_giveOneMore ∈ xBW := xbw 779 (by decide +kernel) (by decide +kernel)
theorem xw781 : Cond.instanceMethod yX7_giveOneMore ∈ xBW := xbw 781 (by decide +kernel) (by decide +kernel)
theorem xw23 : Cond.selects RX7 yX7_giveOneMore yX7_giveOneMore ∈ xBW := xbw 23 (by decide +kernel) (by decide +kernel)
theorem xw782 : Cond.code yX7_giveOneMore cX7_giveOneMore 4 none ∈ xBW := xbw 782 (by decide +kernel) (by decide +kernel)
theorem xw775 : Cond.methodLink RX7 332 yX2_takeWhole ∈ xBW := xbw 775 (by decide +kernel) (by decide +kernel)
theorem xw776 : Cond.instanceMethod yX2_takeWhole ∈ xBW := xbw 776 (by decide +kernel) (by decide +kernel)
theorem xw777 : Cond.selects RX2 yX2_takeWhole yX2_takeWhole ∈ xBW := xbw 777 (by decide +kernel) (by decide +kernel)
theorem xw778 : Cond.code yX2_takeWhole cX2_takeWhole 7 (some .int) ∈ xBW := xbw 778 (by decide +kernel) (by decide +kernel)
theorem xw507 : Cond.fieldLink RX7 323 "RentStream$HeatShare" "weight" "I" ∈ xBW := xbw 507 (by decide +kernel) (by decide +kernel)
theorem xw766 : Cond.methodLink RX3 64 yX3_runsIn ∈ xBW := xbw 766 (by decide +kernel) (by decide +kernel)
theorem xw518 : Cond.fieldLink RX3 54 "RentStream$Lease" "home" "LRentStream$Flat;" ∈ xBW := xbw 518 (by decide +kernel) (by decide +kernel)
theorem xw331 : Cond.fieldLink RX3 68 "RentStream$Flat" "uses" "LRentStream$Months;" ∈ xBW := xbw 331 (by decide +kernel) (by decide +kernel)
theorem xw762 : Cond.methodLink RX7 329 yX3_useIn ∈ xBW := xbw 762 (by decide +kernel) (by decide +kernel)
theorem xw763 : Cond.instanceMethod yX3_useIn ∈ xBW := xbw 763 (by decide +kernel) (by decide +kernel)
theorem xw764 : Cond.selects RX3 yX3_useIn yX3_useIn ∈ xBW := xbw 764 (by decide +kernel) (by decide +kernel)
theorem xw765 : Cond.code yX3_useIn cX3_useIn 2 (some .int) ∈ xBW := xbw 765 (by decide +kernel) (by decide +kernel)
theorem xw771 : Cond.methodLink RX7 326 yX7_shareByWeights ∈ xBW := xbw 771 (by decide +kernel) (by decide +kernel)
theorem xw773 : Cond.instanceMethod yX7_shareByWeights ∈ xBW := xbw 773 (by decide +kernel) (by decide +kernel)
theorem xw22 : Cond.selects RX7 yX7_shareByWeights yX7_shareByWeights ∈ xBW := xbw 22 (by decide +kernel) (by decide +kernel)
theorem xw774 : Cond.code yX7_shareByWeights cX7_shareByWeights 6 none ∈ xBW := xbw 774 (by decide +kernel) (by decide +kernel)
theorem xw329 : Cond.fieldLink RX7 320 "RentStream$Flat" "rooms" "I" ∈ xBW := xbw 329 (by decide +kernel) (by decide +kernel)
theorem xw758 : Cond.methodLink RX7 307 yX7_usesOfAll ∈ xBW := xbw 758 (by decide +kernel) (by decide +kernel)
theorem xw760 : Cond.instanceMethod yX7_usesOfAll ∈ xBW := xbw 760 (by decide +kernel) (by decide +kernel)
theorem xw21 : Cond.selects RX7 yX7_usesOfAll yX7_usesOfAll ∈ xBW := xbw 21 (by decide +kernel) (by decide +kernel)
theorem xw761 : Cond.code yX7_usesOfAll cX7_usesOfAll 5 (some .long) ∈ xBW := xbw 761 (by decide +kernel) (by decide +kernel)
theorem xw330 : Cond.fieldLink RX1 14 "RentStream$Flat" "uses" "LRentStream$Months;" ∈ xBW := xbw 330 (by decide +kernel) (by decide +kernel)
theorem xw752 : Cond.methodLink RX1 50 yX4_in ∈ xBW := xbw 752 (by decide +kernel) (by decide +kernel)
theorem xw339 : Cond.fieldLink RX1 30 "RentStream$Flat" "lastReadIn" "I" ∈ xBW := xbw 339 (by decide +kernel) (by decide +kernel)
theorem xw748 : Cond.methodLink RX1 42 yX1_guessedUse ∈ xBW := xbw 748 (by decide +kernel) (by decide +kernel)
theorem xw750 : Cond.instanceMethod yX1_guessedUse ∈ xBW := xbw 750 (by decide +kernel) (by decide +kernel)
theorem xw19 : Cond.selects RX1 yX1_guessedUse yX1_guessedUse ∈ xBW := xbw 19 (by decide +kernel) (by decide +kernel)
theorem xw66 : Cond.initialized RX1 ∈ xBW := xbw 66 (by decide +kernel) (by decide +kernel)
theorem xw751 : Cond.code yX1_guessedUse cX1_guessedUse 6 (some .int) ∈ xBW := xbw 751 (by decide +kernel) (by decide +kernel)
theorem xw753 : Cond.methodLink RX1 46 yX4_put ∈ xBW := xbw 753 (by decide +kernel) (by decide +kernel)
theorem xw338 : Cond.fieldLink RX1 27 "RentStream$Flat" "counted" "I" ∈ xBW := xbw 338 (by decide +kernel) (by decide +kernel)
theorem xw336 : Cond.fieldLink RX1 23 "RentStream$Flat" "shown" "I" ∈ xBW := xbw 336 (by decide +kernel) (by decide +kernel)
theorem xw747 : Cond.methodLink RX1 36 Lib.Math.max.name ∈ xBW := xbw 747 (by decide +kernel) (by decide +kernel)
theorem xw484 : Cond.fieldLink RX5 9 "RentStream$Plan" "state" "I" ∈ xBW := xbw 484 (by decide +kernel) (by decide +kernel)
theorem xw488 : Cond.fieldLink RX5 22 "RentStream$Plan" "monthsEnded" "I" ∈ xBW := xbw 488 (by decide +kernel) (by decide +kernel)
theorem xw486 : Cond.fieldLink RX5 15 "RentStream$Plan" "owedAtFirst" "J" ∈ xBW := xbw 486 (by decide +kernel) (by decide +kernel)
theorem xw487 : Cond.fieldLink RX5 19 "RentStream$Plan" "part" "J" ∈ xBW := xbw 487 (by decide +kernel) (by decide +kernel)
theorem xw799 : Cond.methodLink RX5 25 Lib.MathLoose.max_long.x ∈ xBW := xbw 799 (by decide +kernel) (by decide +kernel)
theorem xw800 : Cond.static Lib.MathLoose.max_long.x ∈ xBW := xbw 800 (by decide +kernel) (by decide +kernel)
theorem xw801 : Cond.code Lib.MathLoose.max_long.x Lib.MathLoose.max_long.code 4 (some .long) ∈ xBW := xbw 801 (by decide +kernel) (by decide +kernel)
theorem xw525 : Cond.fieldLink RX7 187 "RentStream$Lease" "plan" "LRentStream$Plan;" ∈ xBW := xbw 525 (by decide +kernel) (by decide +kernel)
theorem xw795 : Cond.methodLink RX7 281 yX5_endMonth ∈ xBW := xbw 795 (by decide +kernel) (by decide +kernel)
theorem xw796 : Cond.instanceMethod yX5_endMonth ∈ xBW := xbw 796 (by decide +kernel) (by decide +kernel)
theorem xw797 : Cond.selects RX5 yX5_endMonth yX5_endMonth ∈ xBW := xbw 797 (by decide +kernel) (by decide +kernel)
theorem xw75 : Cond.initialized RX5 ∈ xBW := xbw 75 (by decide +kernel) (by decide +kernel)
theorem xw798 : Cond.code yX5_endMonth cX5_endMonth 5 none ∈ xBW := xbw 798 (by decide +kernel) (by decide +kernel)
theorem xw802 : Cond.methodLink RX7 284 yX7_makeBill ∈ xBW := xbw 802 (by decide +kernel) (by decide +kernel)
theorem xw804 : Cond.instanceMethod yX7_makeBill ∈ xBW := xbw 804 (by decide +kernel) (by decide +kernel)
theorem xw24 : Cond.selects RX7 yX7_makeBill yX7_makeBill ∈ xBW := xbw 24 (by decide +kernel) (by decide +kernel)
theorem xw805 : Cond.code yX7_makeBill cX7_makeBill 4 none ∈ xBW := xbw 805 (by decide +kernel) (by decide +kernel)
theorem xw754 : Cond.methodLink RX7 213 yX7_shareHeat ∈ xBW := xbw 754 (by decide +kernel) (by decide +kernel)
theorem xw756 : Cond.instanceMethod yX7_shareHeat ∈ xBW := xbw 756 (by decide +kernel) (by decide +kernel)
theorem xw20 : Cond.selects RX7 yX7_shareHeat yX7_shareHeat ∈ xBW := xbw 20 (by decide +kernel) (by decide +kernel)
theorem xw757 : Cond.code yX7_shareHeat cX7_shareHeat 6 none ∈ xBW := xbw 757 (by decide +kernel) (by decide +kernel)
theorem xw320 : Cond.classLink RX7 75 "RentStream$Flat" ∈ xBW := xbw 320 (by decide +kernel) (by decide +kernel)
theorem xw743 : Cond.methodLink RX7 278 yX1_findUse ∈ xBW := xbw 743 (by decide +kernel) (by decide +kernel)
theorem xw744 : Cond.instanceMethod yX1_findUse ∈ xBW := xbw 744 (by decide +kernel) (by decide +kernel)
theorem xw745 : Cond.selects RX1 yX1_findUse yX1_findUse ∈ xBW := xbw 745 (by decide +kernel) (by decide +kernel)
theorem xw746 : Cond.code yX1_findUse cX1_findUse 3 none ∈ xBW := xbw 746 (by decide +kernel) (by decide +kernel)
theorem xw632 : Cond.fieldLink RX6 23 "RentStream$Repair" "grade" "I" ∈ xBW := xbw 632 (by decide +kernel) (by decide +kernel)
theorem xw627 : Cond.fieldLink RX6 9 "RentStream$Repair" "isMended" "Z" ∈ xBW := xbw 627 (by decide +kernel) (by decide +kernel)
theorem xw633 : Cond.fieldLink RX6 26 "RentStream$Repair" "reportedOn" "I" ∈ xBW := xbw 633 (by decide +kernel) (by decide +kernel)
theorem xw729 : Cond.methodLink RX6 29 yX6_clock ∈ xBW := xbw 729 (by decide +kernel) (by decide +kernel)
theorem xw731 : Cond.instanceMethod yX6_clock ∈ xBW := xbw 731 (by decide +kernel) (by decide +kernel)
theorem xw16 : Cond.selects RX6 yX6_clock yX6_clock ∈ xBW := xbw 16 (by decide +kernel) (by decide +kernel)
theorem xw77 : Cond.initialized RX6 ∈ xBW := xbw 77 (by decide +kernel) (by decide +kernel)
theorem xw732 : Cond.code yX6_clock cX6_clock 1 (some .int) ∈ xBW := xbw 732 (by decide +kernel) (by decide +kernel)
theorem xw631 : Cond.fieldLink RX6 19 "RentStream$Repair" "home" "LRentStream$Flat;" ∈ xBW := xbw 631 (by decide +kernel) (by decide +kernel)
theorem xw334 : Cond.fieldLink RX6 33 "RentStream$Flat" "pointsOff" "LRentStream$Months;" ∈ xBW := xbw 334 (by decide +kernel) (by decide +kernel)
theorem xw733 : Cond.methodLink RX6 39 yX4_in ∈ xBW := xbw 733 (by decide +kernel) (by decide +kernel)
theorem xw734 : Cond.methodLink RX6 45 yX6_pointsADay ∈ xBW := xbw 734 (by decide +kernel) (by decide +kernel)
theorem xw736 : Cond.instanceMethod yX6_pointsADay ∈ xBW := xbw 736 (by decide +kernel) (by decide +kernel)
theorem xw17 : Cond.selects RX6 yX6_pointsADay yX6_pointsADay ∈ xBW := xbw 17 (by decide +kernel) (by decide +kernel)
theorem xw737 : Cond.code yX6_pointsADay cX6_pointsADay 1 (some .int) ∈ xBW := xbw 737 (by decide +kernel) (by decide +kernel)
theorem xw738 : Cond.methodLink RX6 48 yX4_put ∈ xBW := xbw 738 (by decide +kernel) (by decide +kernel)
theorem xw629 : Cond.fieldLink RX6 15 "RentStream$Repair" "daysTaken" "I" ∈ xBW := xbw 629 (by decide +kernel) (by decide +kernel)
theorem xw739 : Cond.methodLink RX7 272 yX7_endMonth ∈ xBW := xbw 739 (by decide +kernel) (by decide +kernel)
theorem xw741 : Cond.instanceMethod yX7_endMonth ∈ xBW := xbw 741 (by decide +kernel) (by decide +kernel)
theorem xw18 : Cond.selects RX7 yX7_endMonth yX7_endMonth ∈ xBW := xbw 18 (by decide +kernel) (by decide +kernel)
theorem xw742 : Cond.code yX7_endMonth cX7_endMonth 4 none ∈ xBW := xbw 742 (by decide +kernel) (by decide +kernel)
theorem xw831 : Cond.methodLink RX7 275 yX7_beginMonth ∈ xBW := xbw 831 (by decide +kernel) (by decide +kernel)
theorem xw833 : Cond.instanceMethod yX7_beginMonth ∈ xBW := xbw 833 (by decide +kernel) (by decide +kernel)
theorem xw26 : Cond.selects RX7 yX7_beginMonth yX7_beginMonth ∈ xBW := xbw 26 (by decide +kernel) (by decide +kernel)
theorem xw834 : Cond.code yX7_beginMonth cX7_beginMonth 4 none ∈ xBW := xbw 834 (by decide +kernel) (by decide +kernel)
theorem xw621 : Cond.classLink RX7 141 "RentStream$Repair" ∈ xBW := xbw 621 (by decide +kernel) (by decide +kernel)
theorem xw725 : Cond.methodLink RX7 269 yX6_takePoints ∈ xBW := xbw 725 (by decide +kernel) (by decide +kernel)
theorem xw726 : Cond.instanceMethod yX6_takePoints ∈ xBW := xbw 726 (by decide +kernel) (by decide +kernel)
theorem xw727 : Cond.selects RX6 yX6_takePoints yX6_takePoints ∈ xBW := xbw 727 (by decide +kernel) (by decide +kernel)
theorem xw728 : Cond.code yX6_takePoints cX6_takePoints 3 none ∈ xBW := xbw 728 (by decide +kernel) (by decide +kernel)
theorem xw325 : Cond.methodLink RX1 3 objectInit ∈ xBW := xbw 325 (by decide +kernel) (by decide +kernel)
theorem xw326 : Cond.classLink RX1 9 "RentStream$Months" ∈ xBW := xbw 326 (by decide +kernel) (by decide +kernel)
theorem xw327 : Cond.methodLink RX1 11 yX4_init ∈ xBW := xbw 327 (by decide +kernel) (by decide +kernel)
theorem xw333 : Cond.fieldLink RX1 20 "RentStream$Flat" "pointsOff" "LRentStream$Months;" ∈ xBW := xbw 333 (by decide +kernel) (by decide +kernel)
theorem xw328 : Cond.fieldLink RX1 33 "RentStream$Flat" "rooms" "I" ∈ xBW := xbw 328 (by decide +kernel) (by decide +kernel)
theorem xw406 : Cond.classLink RJ7 110 "[Ljava/lang/Object;" ∈ xBW := xbw 406 (by decide +kernel) (by decide +kernel)
theorem xw408 : Cond.classLink RJ7 2 "java/lang/Object" ∈ xBW := xbw 408 (by decide +kernel) (by decide +kernel)
theorem xw409 : Cond.methodLink RJ7 304 Lib.Math.min.name ∈ xBW := xbw 409 (by decide +kernel) (by decide +kernel)
theorem xw412 : Cond.methodLink RJ7 150 arraycopyName ∈ xBW := xbw 412 (by decide +kernel) (by decide +kernel)
theorem xw414 : Cond.native arraycopyName ∈ xBW := xbw 414 (by decide +kernel) (by decide +kernel)
theorem xw413 : Cond.static arraycopyName ∈ xBW := xbw 413 (by decide +kernel) (by decide +kernel)
theorem xw70 : Cond.initialized "java/lang/System" ∈ xBW := xbw 70 (by decide +kernel) (by decide +kernel)
theorem xw382 : Cond.methodLink RJ7 86 xGetC ∈ xBW := xbw 382 (by decide +kernel) (by decide +kernel)
theorem xw1565 : Cond.selects "[Ljava/lang/Object;" xGetC xGetC ∈ xBW := xbw 1565 (by decide +kernel) (by decide +kernel)
theorem xw383 : Cond.instanceMethod xGetC ∈ xBW := xbw 383 (by decide +kernel) (by decide +kernel)
theorem xw402 : Cond.native xGetC ∈ xBW := xbw 402 (by decide +kernel) (by decide +kernel)
theorem xw403 : Cond.methodLink RJ7 300 yJ7_copyOf_6403c ∈ xBW := xbw 403 (by decide +kernel) (by decide +kernel)
theorem xw404 : Cond.static yJ7_copyOf_6403c ∈ xBW := xbw 404 (by decide +kernel) (by decide +kernel)
theorem xw69 : Cond.initialized RJ7 ∈ xBW := xbw 69 (by decide +kernel) (by decide +kernel)
theorem xw405 : Cond.code yJ7_copyOf_6403c cJ7_copyOf_6403c 4 (some (.array (.object "java/lang/Object"))) ∈ xBW := xbw 405 (by decide +kernel) (by decide +kernel)
theorem xw372 : Cond.methodLink RJ8 194 Lib.Math.max.name ∈ xBW := xbw 372 (by decide +kernel) (by decide +kernel)
theorem xw375 : Cond.constant RJ8 200 (2147483639 : Int32) ∈ xBW := xbw 375 (by decide +kernel) (by decide +kernel)
theorem xw369 : Cond.methodLink RJx4a65c 73 yJ8_newLength_cabcc ∈ xBW := xbw 369 (by decide +kernel) (by decide +kernel)
theorem xw370 : Cond.static yJ8_newLength_cabcc ∈ xBW := xbw 370 (by decide +kernel) (by decide +kernel)
theorem xw67 : Cond.initialized RJ8 ∈ xBW := xbw 67 (by decide +kernel) (by decide +kernel)
theorem xw371 : Cond.code yJ8_newLength_cabcc cJ8_newLength_cabcc 4 (some .int) ∈ xBW := xbw 371 (by decide +kernel) (by decide +kernel)
theorem xw379 : Cond.methodLink RJx4a65c 66 yJ7_copyOf_1904c ∈ xBW := xbw 379 (by decide +kernel) (by decide +kernel)
theorem xw380 : Cond.static yJ7_copyOf_1904c ∈ xBW := xbw 380 (by decide +kernel) (by decide +kernel)
theorem xw381 : Cond.code yJ7_copyOf_1904c cJ7_copyOf_1904c 2 (some (.array (.object "java/lang/Object"))) ∈ xBW := xbw 381 (by decide +kernel) (by decide +kernel)
theorem xw415 : Cond.methodLink RJx4a65c 79 Lib.Math.max.name ∈ xBW := xbw 415 (by decide +kernel) (by decide +kernel)
theorem xw416 : Cond.classLink RJx4a65c 7 "java/lang/Object" ∈ xBW := xbw 416 (by decide +kernel) (by decide +kernel)
theorem xw365 : Cond.methodLink RJx4a65c 69 yJx4a65c_grow_92f84 ∈ xBW := xbw 365 (by decide +kernel) (by decide +kernel)
theorem xw367 : Cond.instanceMethod yJx4a65c_grow_92f84 ∈ xBW := xbw 367 (by decide +kernel) (by decide +kernel)
theorem xw7 : Cond.selects RJx4a65c yJx4a65c_grow_92f84 yJx4a65c_grow_92f84 ∈ xBW := xbw 7 (by decide +kernel) (by decide +kernel)
theorem xw368 : Cond.code yJx4a65c_grow_92f84 cJx4a65c_grow_92f84 4 (some (.array (.object "java/lang/Object"))) ∈ xBW := xbw 368 (by decide +kernel) (by decide +kernel)
theorem xw361 : Cond.methodLink RJx4a65c 129 yJx4a65c_grow_d5877 ∈ xBW := xbw 361 (by decide +kernel) (by decide +kernel)
theorem xw363 : Cond.instanceMethod yJx4a65c_grow_d5877 ∈ xBW := xbw 363 (by decide +kernel) (by decide +kernel)
theorem xw6 : Cond.selects RJx4a65c yJx4a65c_grow_d5877 yJx4a65c_grow_d5877 ∈ xBW := xbw 6 (by decide +kernel) (by decide +kernel)
theorem xw364 : Cond.code yJx4a65c_grow_d5877 cJx4a65c_grow_d5877 1 (some (.array (.object "java/lang/Object"))) ∈ xBW := xbw 364 (by decide +kernel) (by decide +kernel)
theorem xw108 : Cond.fieldLink RJx4a65c 63 "java/util/ArrayList" "modCount" "I" ∈ xBW := xbw 108 (by decide +kernel) (by decide +kernel)
theorem xw109 : Cond.sameField "java/util/ArrayList" "java/util/AbstractList" "modCount" "I" ∈ xBW := xbw 109 (by decide +kernel) (by decide +kernel)
theorem xw357 : Cond.methodLink RJx4a65c 131 yJx4a65c_add_72be8 ∈ xBW := xbw 357 (by decide +kernel) (by decide +kernel)
theorem xw359 : Cond.instanceMethod yJx4a65c_add_72be8 ∈ xBW := xbw 359 (by decide +kernel) (by decide +kernel)
theorem xw5 : Cond.selects RJx4a65c yJx4a65c_add_72be8 yJx4a65c_add_72be8 ∈ xBW := xbw 5 (by decide +kernel) (by decide +kernel)
theorem xw360 : Cond.code yJx4a65c_add_72be8 cJx4a65c_add_72be8 4 none ∈ xBW := xbw 360 (by decide +kernel) (by decide +kernel)
theorem xw321 : Cond.instantiable RX1 6 ∈ xBW := xbw 321 (by decide +kernel) (by decide +kernel)
theorem xw322 : Cond.methodLink RX7 77 yX1_init ∈ xBW := xbw 322 (by decide +kernel) (by decide +kernel)
theorem xw323 : Cond.instanceMethod yX1_init ∈ xBW := xbw 323 (by decide +kernel) (by decide +kernel)
theorem xw324 : Cond.code yX1_init cX1_init 2 none ∈ xBW := xbw 324 (by decide +kernel) (by decide +kernel)
theorem xw353 : Cond.methodLink RX7 78 yJx4a65c_add_9ea2d ∈ xBW := xbw 353 (by decide +kernel) (by decide +kernel)
theorem xw354 : Cond.instanceMethod yJx4a65c_add_9ea2d ∈ xBW := xbw 354 (by decide +kernel) (by decide +kernel)
theorem xw355 : Cond.selects RJx4a65c yJx4a65c_add_9ea2d yJx4a65c_add_9ea2d ∈ xBW := xbw 355 (by decide +kernel) (by decide +kernel)
theorem xw356 : Cond.code yJx4a65c_add_9ea2d cJx4a65c_add_9ea2d 2 (some .boolean) ∈ xBW := xbw 356 (by decide +kernel) (by decide +kernel)
theorem xw592 : Cond.constant RX7 121 (1000000 : Int32) ∈ xBW := xbw 592 (by decide +kernel) (by decide +kernel)
theorem xw606 : Cond.constant RX7 130 (10000000 : Int32) ∈ xBW := xbw 606 (by decide +kernel) (by decide +kernel)
theorem xw670 : Cond.methodLink RX3 77 yX3_billOf ∈ xBW := xbw 670 (by decide +kernel) (by decide +kernel)
theorem xw168 : Cond.fieldLink RX3 81 "RentStream$Bill" "rent" "I" ∈ xBW := xbw 168 (by decide +kernel) (by decide +kernel)
theorem xw171 : Cond.fieldLink RX3 82 "RentStream$Bill" "lowered" "I" ∈ xBW := xbw 171 (by decide +kernel) (by decide +kernel)
theorem xw674 : Cond.methodLink RX3 85 yX3_incomeIn ∈ xBW := xbw 674 (by decide +kernel) (by decide +kernel)
theorem xw174 : Cond.fieldLink RX3 92 "RentStream$Bill" "benefit" "I" ∈ xBW := xbw 174 (by decide +kernel) (by decide +kernel)
theorem xw523 : Cond.fieldLink RX7 165 "RentStream$Lease" "told" "LRentStream$Months;" ∈ xBW := xbw 523 (by decide +kernel) (by decide +kernel)
theorem xw666 : Cond.methodLink RX7 168 yX3_benefitsAnew ∈ xBW := xbw 666 (by decide +kernel) (by decide +kernel)
theorem xw667 : Cond.instanceMethod yX3_benefitsAnew ∈ xBW := xbw 667 (by decide +kernel) (by decide +kernel)
theorem xw668 : Cond.selects RX3 yX3_benefitsAnew yX3_benefitsAnew ∈ xBW := xbw 668 (by decide +kernel) (by decide +kernel)
theorem xw669 : Cond.code yX3_benefitsAnew cX3_benefitsAnew 8 (some .long) ∈ xBW := xbw 669 (by decide +kernel) (by decide +kernel)
theorem xw503 : Cond.methodLink RX2 1 objectInit ∈ xBW := xbw 503 (by decide +kernel) (by decide +kernel)
theorem xw483 : Cond.methodLink RX5 3 objectInit ∈ xBW := xbw 483 (by decide +kernel) (by decide +kernel)
theorem xw475 : Cond.methodLink RX3 3 objectInit ∈ xBW := xbw 475 (by decide +kernel) (by decide +kernel)
theorem xw476 : Cond.classLink RX3 15 "RentStream$Months" ∈ xBW := xbw 476 (by decide +kernel) (by decide +kernel)
theorem xw477 : Cond.methodLink RX3 17 yX4_init ∈ xBW := xbw 477 (by decide +kernel) (by decide +kernel)
theorem xw478 : Cond.classLink RX3 24 "RentStream$Plan" ∈ xBW := xbw 478 (by decide +kernel) (by decide +kernel)
theorem xw479 : Cond.instantiable RX5 4 ∈ xBW := xbw 479 (by decide +kernel) (by decide +kernel)
theorem xw481 : Cond.instanceMethod yX5_init ∈ xBW := xbw 481 (by decide +kernel) (by decide +kernel)
theorem xw482 : Cond.code yX5_init cX5_init 1 none ∈ xBW := xbw 482 (by decide +kernel) (by decide +kernel)
theorem xw524 : Cond.fieldLink RX3 27 "RentStream$Lease" "plan" "LRentStream$Plan;" ∈ xBW := xbw 524 (by decide +kernel) (by decide +kernel)
theorem xw498 : Cond.classLink RX3 31 "RentStream$HeatShare" ∈ xBW := xbw 498 (by decide +kernel) (by decide +kernel)
theorem xw499 : Cond.instantiable RX2 3 ∈ xBW := xbw 499 (by decide +kernel) (by decide +kernel)
theorem xw501 : Cond.instanceMethod yX2_init ∈ xBW := xbw 501 (by decide +kernel) (by decide +kernel)
theorem xw502 : Cond.code yX2_init cX2_init 1 none ∈ xBW := xbw 502 (by decide +kernel) (by decide +kernel)
theorem xw526 : Cond.fieldLink RX3 34 "RentStream$Lease" "heatShare" "LRentStream$HeatShare;" ∈ xBW := xbw 526 (by decide +kernel) (by decide +kernel)
theorem xw528 : Cond.fieldLink RX3 38 "RentStream$Lease" "tenantAccount" "J" ∈ xBW := xbw 528 (by decide +kernel) (by decide +kernel)
theorem xw530 : Cond.fieldLink RX3 42 "RentStream$Lease" "deskAccount" "J" ∈ xBW := xbw 530 (by decide +kernel) (by decide +kernel)
theorem xw532 : Cond.fieldLink RX3 45 "RentStream$Lease" "paid" "J" ∈ xBW := xbw 532 (by decide +kernel) (by decide +kernel)
theorem xw516 : Cond.classLink RX3 48 "RentStream$Bill" ∈ xBW := xbw 516 (by decide +kernel) (by decide +kernel)
theorem xw425 : Cond.methodLink RX7 82 yX7_flatAt ∈ xBW := xbw 425 (by decide +kernel) (by decide +kernel)
theorem xw427 : Cond.instanceMethod yX7_flatAt ∈ xBW := xbw 427 (by decide +kernel) (by decide +kernel)
theorem xw8 : Cond.selects RX7 yX7_flatAt yX7_flatAt ∈ xBW := xbw 8 (by decide +kernel) (by decide +kernel)
theorem xw428 : Cond.code yX7_flatAt cX7_flatAt 2 (some (.object "RentStream$Flat")) ∈ xBW := xbw 428 (by decide +kernel) (by decide +kernel)
theorem xw459 : Cond.constant RX7 86 (500000 : Int32) ∈ xBW := xbw 459 (by decide +kernel) (by decide +kernel)
theorem xw461 : Cond.methodLink RX7 89 yX7_isLetOn ∈ xBW := xbw 461 (by decide +kernel) (by decide +kernel)
theorem xw463 : Cond.instanceMethod yX7_isLetOn ∈ xBW := xbw 463 (by decide +kernel) (by decide +kernel)
theorem xw9 : Cond.selects RX7 yX7_isLetOn yX7_isLetOn ∈ xBW := xbw 9 (by decide +kernel) (by decide +kernel)
theorem xw464 : Cond.code yX7_isLetOn cX7_isLetOn 4 (some .boolean) ∈ xBW := xbw 464 (by decide +kernel) (by decide +kernel)
theorem xw467 : Cond.instantiable RX3 11 ∈ xBW := xbw 467 (by decide +kernel) (by decide +kernel)
theorem xw472 : Cond.methodLink RX7 100 yX3_init ∈ xBW := xbw 472 (by decide +kernel) (by decide +kernel)
theorem xw473 : Cond.instanceMethod yX3_init ∈ xBW := xbw 473 (by decide +kernel) (by decide +kernel)
theorem xw474 : Cond.code yX3_init cX3_init 4 none ∈ xBW := xbw 474 (by decide +kernel) (by decide +kernel)
theorem xw916 : Cond.methodLink RJ5 114 yJ8_newLength_cabcc ∈ xBW := xbw 916 (by decide +kernel) (by decide +kernel)
theorem xw917 : Cond.constant RJ5 39 (2147483647 : Int32) ∈ xBW := xbw 917 (by decide +kernel) (by decide +kernel)
theorem xw912 : Cond.methodLink RJ5 104 yJ5_newCapacity_0f7a4 ∈ xBW := xbw 912 (by decide +kernel) (by decide +kernel)
theorem xw914 : Cond.instanceMethod yJ5_newCapacity_0f7a4 ∈ xBW := xbw 914 (by decide +kernel) (by decide +kernel)
theorem xw1 : Cond.selects RJ4 yJ5_newCapacity_0f7a4 yJ5_newCapacity_0f7a4 ∈ xBW := xbw 1 (by decide +kernel) (by decide +kernel)
theorem xw915 : Cond.code yJ5_newCapacity_0f7a4 cJ5_newCapacity_0f7a4 6 (some .int) ∈ xBW := xbw 915 (by decide +kernel) (by decide +kernel)
theorem xw918 : Cond.methodLink RJ5 108 yJ7_copyOf_9075b ∈ xBW := xbw 918 (by decide +kernel) (by decide +kernel)
theorem xw919 : Cond.static yJ7_copyOf_9075b ∈ xBW := xbw 919 (by decide +kernel) (by decide +kernel)
theorem xw920 : Cond.code yJ7_copyOf_9075b cJ7_copyOf_9075b 3 (some (.array .byte)) ∈ xBW := xbw 920 (by decide +kernel) (by decide +kernel)
theorem xw928 : Cond.methodLink RJ5 83 yJ5_isLatin1_aae02 ∈ xBW := xbw 928 (by decide +kernel) (by decide +kernel)
theorem xw929 : Cond.instanceMethod yJ5_isLatin1_aae02 ∈ xBW := xbw 929 (by decide +kernel) (by decide +kernel)
theorem xw931 : Cond.selects RJ4 yJ5_isLatin1_aae02 yJ5_isLatin1_aae02 ∈ xBW := xbw 931 (by decide +kernel) (by decide +kernel)
theorem xw932 : Cond.code yJ5_isLatin1_aae02 cJ5_isLatin1_aae02 1 (some .boolean) ∈ xBW := xbw 932 (by decide +kernel) (by decide +kernel)
theorem xw150 : Cond.fieldLink RJ5 79 "java/lang/AbstractStringBuilder" "count" "I" ∈ xBW := xbw 150 (by decide +kernel) (by decide +kernel)
theorem xw908 : Cond.methodLink RJ5 100 yJ5_ensureCapacityInternal_d00df ∈ xBW := xbw 908 (by decide +kernel) (by decide +kernel)
theorem xw910 : Cond.instanceMethod yJ5_ensureCapacityInternal_d00df ∈ xBW := xbw 910 (by decide +kernel) (by decide +kernel)
theorem xw0 : Cond.selects RJ4 yJ5_ensureCapacityInternal_d00df yJ5_ensureCapacityInternal_d00df ∈ xBW := xbw 0 (by decide +kernel) (by decide +kernel)
theorem xw911 : Cond.code yJ5_ensureCapacityInternal_d00df cJ5_ensureCapacityInternal_d00df 3 none ∈ xBW := xbw 911 (by decide +kernel) (by decide +kernel)
theorem xw1152 : Cond.methodLink RJ5 191 yJ1_canEncode_fc78d ∈ xBW := xbw 1152 (by decide +kernel) (by decide +kernel)
theorem xw1153 : Cond.static yJ1_canEncode_fc78d ∈ xBW := xbw 1153 (by decide +kernel) (by decide +kernel)
theorem xw79 : Cond.initialized RJ1 ∈ xBW := xbw 79 (by decide +kernel) (by decide +kernel)
theorem xw1154 : Cond.code yJ1_canEncode_fc78d cJ1_canEncode_fc78d 1 (some .boolean) ∈ xBW := xbw 1154 (by decide +kernel) (by decide +kernel)
theorem xw1149 : Cond.methodLink RJ4 50 yJ5_append_3fe6f ∈ xBW := xbw 1149 (by decide +kernel) (by decide +kernel)
theorem xw1541 : Cond.sameMethod yJ5_append_3fe6f.cls yJ5_append_3fe6f.cls yJ5_append_3fe6f.name yJ5_append_3fe6f.desc ∈ xBW := xbw 1541 (by decide +kernel) (by decide +kernel)
theorem xw159 : Cond.superclass RJ4 yJ5_append_3fe6f.cls ∈ xBW := xbw 159 (by decide +kernel) (by decide +kernel)
theorem xw1150 : Cond.instanceMethod yJ5_append_3fe6f ∈ xBW := xbw 1150 (by decide +kernel) (by decide +kernel)
theorem xw1151 : Cond.code yJ5_append_3fe6f cJ5_append_3fe6f 2 (some (.object "java/lang/AbstractStringBuilder")) ∈ xBW := xbw 1151 (by decide +kernel) (by decide +kernel)
theorem xw1145 : Cond.methodLink RX7 375 yJ4_append_cf468 ∈ xBW := xbw 1145 (by decide +kernel) (by decide +kernel)
theorem xw1146 : Cond.instanceMethod yJ4_append_cf468 ∈ xBW := xbw 1146 (by decide +kernel) (by decide +kernel)
theorem xw1147 : Cond.selects RJ4 yJ4_append_cf468 yJ4_append_cf468 ∈ xBW := xbw 1147 (by decide +kernel) (by decide +kernel)
theorem xw1148 : Cond.code yJ4_append_cf468 cJ4_append_cf468 2 (some (.object "java/lang/StringBuilder")) ∈ xBW := xbw 1148 (by decide +kernel) (by decide +kernel)
theorem xw1015 : Cond.fieldLink RJ6 83 "java/lang/Integer" "DigitOnes" "[B" ∈ xBW := xbw 1015 (by decide +kernel) (by decide +kernel)
theorem xw1017 : Cond.fieldLink RJ6 87 "java/lang/Integer" "DigitTens" "[B" ∈ xBW := xbw 1017 (by decide +kernel) (by decide +kernel)
theorem xw1009 : Cond.methodLink RJ5 245 yJ6_stringSize_0f7a4 ∈ xBW := xbw 1009 (by decide +kernel) (by decide +kernel)
theorem xw1010 : Cond.static yJ6_stringSize_0f7a4 ∈ xBW := xbw 1010 (by decide +kernel) (by decide +kernel)
theorem xw81 : Cond.initialized RJ6 ∈ xBW := xbw 81 (by decide +kernel) (by decide +kernel)
theorem xw1011 : Cond.code yJ6_stringSize_0f7a4 cJ6_stringSize_0f7a4 4 (some .int) ∈ xBW := xbw 1011 (by decide +kernel) (by decide +kernel)
theorem xw1012 : Cond.methodLink RJ5 248 yJ6_getChars_ba4f3 ∈ xBW := xbw 1012 (by decide +kernel) (by decide +kernel)
theorem xw1013 : Cond.static yJ6_getChars_ba4f3 ∈ xBW := xbw 1013 (by decide +kernel) (by decide +kernel)
theorem xw1014 : Cond.code yJ6_getChars_ba4f3 cJ6_getChars_ba4f3 7 (some .int) ∈ xBW := xbw 1014 (by decide +kernel) (by decide +kernel)
theorem xw1006 : Cond.methodLink RJ4 53 yJ5_append_c97b9 ∈ xBW := xbw 1006 (by decide +kernel) (by decide +kernel)
theorem xw1540 : Cond.sameMethod yJ5_append_c97b9.cls yJ5_append_c97b9.cls yJ5_append_c97b9.name yJ5_append_c97b9.desc ∈ xBW := xbw 1540 (by decide +kernel) (by decide +kernel)
theorem xw1007 : Cond.instanceMethod yJ5_append_c97b9 ∈ xBW := xbw 1007 (by decide +kernel) (by decide +kernel)
theorem xw1008 : Cond.code yJ5_append_c97b9 cJ5_append_c97b9 4 (some (.object "java/lang/AbstractStringBuilder")) ∈ xBW := xbw 1008 (by decide +kernel) (by decide +kernel)
theorem xw1165 : Cond.methodLink RX7 379 yJ4_append_bf812 ∈ xBW := xbw 1165 (by decide +kernel) (by decide +kernel)
theorem xw1003 : Cond.instanceMethod yJ4_append_bf812 ∈ xBW := xbw 1003 (by decide +kernel) (by decide +kernel)
theorem xw1004 : Cond.selects RJ4 yJ4_append_bf812 yJ4_append_bf812 ∈ xBW := xbw 1004 (by decide +kernel) (by decide +kernel)
theorem xw1005 : Cond.code yJ4_append_bf812 cJ4_append_bf812 2 (some (.object "java/lang/StringBuilder")) ∈ xBW := xbw 1005 (by decide +kernel) (by decide +kernel)
theorem xw1174 : Cond.methodLink RX7 395 yX7_writeDigits ∈ xBW := xbw 1174 (by decide +kernel) (by decide +kernel)
theorem xw1175 : Cond.static yX7_writeDigits ∈ xBW := xbw 1175 (by decide +kernel) (by decide +kernel)
theorem xw1176 : Cond.code yX7_writeDigits cX7_writeDigits 4 none ∈ xBW := xbw 1176 (by decide +kernel) (by decide +kernel)
theorem xw1171 : Cond.methodLink RX7 391 yX7_writeWhole ∈ xBW := xbw 1171 (by decide +kernel) (by decide +kernel)
theorem xw1172 : Cond.static yX7_writeWhole ∈ xBW := xbw 1172 (by decide +kernel) (by decide +kernel)
theorem xw1173 : Cond.code yX7_writeWhole cX7_writeWhole 5 none ∈ xBW := xbw 1173 (by decide +kernel) (by decide +kernel)
theorem xw967 : Cond.fieldLink RJ0 38 "java/lang/String" "COMPACT_STRINGS" "Z" ∈ xBW := xbw 967 (by decide +kernel) (by decide +kernel)
theorem xw1085 : Cond.fieldLink RJ0 15 "java/lang/String" "coder" "B" ∈ xBW := xbw 1085 (by decide +kernel) (by decide +kernel)
theorem xw976 : Cond.methodLink RJ5 40 yJ0_coder_7d493 ∈ xBW := xbw 976 (by decide +kernel) (by decide +kernel)
theorem xw964 : Cond.instanceMethod yJ0_coder_7d493 ∈ xBW := xbw 964 (by decide +kernel) (by decide +kernel)
theorem xw965 : Cond.selects RJ0 yJ0_coder_7d493 yJ0_coder_7d493 ∈ xBW := xbw 965 (by decide +kernel) (by decide +kernel)
theorem xw57 : Cond.initialized RJ0 ∈ xBW := xbw 57 (by decide +kernel) (by decide +kernel)
theorem xw966 : Cond.code yJ0_coder_7d493 cJ0_coder_7d493 1 (some .byte) ∈ xBW := xbw 966 (by decide +kernel) (by decide +kernel)
theorem xw963 : Cond.methodLink RJ0 335 yJ0_coder_7d493 ∈ xBW := xbw 963 (by decide +kernel) (by decide +kernel)
theorem xw1084 : Cond.fieldLink RJ0 9 "java/lang/String" "value" "[B" ∈ xBW := xbw 1084 (by decide +kernel) (by decide +kernel)
theorem xw1000 : Cond.methodLink RJ0 212 arraycopyName ∈ xBW := xbw 1000 (by decide +kernel) (by decide +kernel)
theorem xw972 : Cond.methodLink RJ5 397 yJ5_inflateIfNeededFor_a7421 ∈ xBW := xbw 972 (by decide +kernel) (by decide +kernel)
theorem xw974 : Cond.instanceMethod yJ5_inflateIfNeededFor_a7421 ∈ xBW := xbw 974 (by decide +kernel) (by decide +kernel)
theorem xw3 : Cond.selects RJ4 yJ5_inflateIfNeededFor_a7421 yJ5_inflateIfNeededFor_a7421 ∈ xBW := xbw 3 (by decide +kernel) (by decide +kernel)
theorem xw975 : Cond.code yJ5_inflateIfNeededFor_a7421 cJ5_inflateIfNeededFor_a7421 2 none ∈ xBW := xbw 975 (by decide +kernel) (by decide +kernel)
theorem xw996 : Cond.methodLink RJ5 399 yJ0_getBytes_840e7 ∈ xBW := xbw 996 (by decide +kernel) (by decide +kernel)
theorem xw997 : Cond.instanceMethod yJ0_getBytes_840e7 ∈ xBW := xbw 997 (by decide +kernel) (by decide +kernel)
theorem xw998 : Cond.selects RJ0 yJ0_getBytes_840e7 yJ0_getBytes_840e7 ∈ xBW := xbw 998 (by decide +kernel) (by decide +kernel)
theorem xw999 : Cond.code yJ0_getBytes_840e7 cJ0_getBytes_840e7 4 none ∈ xBW := xbw 999 (by decide +kernel) (by decide +kernel)
theorem xw959 : Cond.methodLink RJ5 32 yJ0_length_8abf5 ∈ xBW := xbw 959 (by decide +kernel) (by decide +kernel)
theorem xw960 : Cond.instanceMethod yJ0_length_8abf5 ∈ xBW := xbw 960 (by decide +kernel) (by decide +kernel)
theorem xw961 : Cond.selects RJ0 yJ0_length_8abf5 yJ0_length_8abf5 ∈ xBW := xbw 961 (by decide +kernel) (by decide +kernel)
theorem xw962 : Cond.code yJ0_length_8abf5 cJ0_length_8abf5 1 (some .int) ∈ xBW := xbw 962 (by decide +kernel) (by decide +kernel)
theorem xw968 : Cond.methodLink RJ5 208 yJ5_putStringAt_47b60 ∈ xBW := xbw 968 (by decide +kernel) (by decide +kernel)
theorem xw970 : Cond.instanceMethod yJ5_putStringAt_47b60 ∈ xBW := xbw 970 (by decide +kernel) (by decide +kernel)
theorem xw2 : Cond.selects RJ4 yJ5_putStringAt_47b60 yJ5_putStringAt_47b60 ∈ xBW := xbw 2 (by decide +kernel) (by decide +kernel)
theorem xw971 : Cond.code yJ5_putStringAt_47b60 cJ5_putStringAt_47b60 3 none ∈ xBW := xbw 971 (by decide +kernel) (by decide +kernel)
theorem xw901 : Cond.methodLink RJ4 29 yJ5_append_cf1ce ∈ xBW := xbw 901 (by decide +kernel) (by decide +kernel)
theorem xw1533 : Cond.sameMethod yJ5_append_cf1ce.cls yJ5_append_cf1ce.cls yJ5_append_cf1ce.name yJ5_append_cf1ce.desc ∈ xBW := xbw 1533 (by decide +kernel) (by decide +kernel)
theorem xw902 : Cond.instanceMethod yJ5_append_cf1ce ∈ xBW := xbw 902 (by decide +kernel) (by decide +kernel)
theorem xw903 : Cond.code yJ5_append_cf1ce cJ5_append_cf1ce 3 (some (.object "java/lang/AbstractStringBuilder")) ∈ xBW := xbw 903 (by decide +kernel) (by decide +kernel)
theorem xw1167 : Cond.methodLink RX7 384 yJ4_append_15ec4 ∈ xBW := xbw 1167 (by decide +kernel) (by decide +kernel)
theorem xw898 : Cond.instanceMethod yJ4_append_15ec4 ∈ xBW := xbw 898 (by decide +kernel) (by decide +kernel)
theorem xw899 : Cond.selects RJ4 yJ4_append_15ec4 yJ4_append_15ec4 ∈ xBW := xbw 899 (by decide +kernel) (by decide +kernel)
theorem xw900 : Cond.code yJ4_append_15ec4 cJ4_append_15ec4 2 (some (.object "java/lang/StringBuilder")) ∈ xBW := xbw 900 (by decide +kernel) (by decide +kernel)
theorem xw1168 : Cond.methodLink RX7 387 yX7_writeAmount ∈ xBW := xbw 1168 (by decide +kernel) (by decide +kernel)
theorem xw1169 : Cond.static yX7_writeAmount ∈ xBW := xbw 1169 (by decide +kernel) (by decide +kernel)
theorem xw1170 : Cond.code yX7_writeAmount cX7_writeAmount 3 none ∈ xBW := xbw 1170 (by decide +kernel) (by decide +kernel)
theorem xw945 : Cond.fieldLink RJ0 1053 "jdk/internal/util/Preconditions" "SIOOBE_FORMATTER" "Ljava/util/function/BiFunction;" ∈ xBW := xbw 945 (by decide +kernel) (by decide +kernel)
theorem xw1164 : Cond.methodLink RJ0 1059 yJ3_checkIndex_8e157 ∈ xBW := xbw 1164 (by decide +kernel) (by decide +kernel)
theorem xw1185 : Cond.methodLink RJ5 138 Lib.Math.min.name ∈ xBW := xbw 1185 (by decide +kernel) (by decide +kernel)
theorem xw1186 : Cond.methodLink RJ5 144 yJ0_checkIndex_df160 ∈ xBW := xbw 1186 (by decide +kernel) (by decide +kernel)
theorem xw1162 : Cond.static yJ0_checkIndex_df160 ∈ xBW := xbw 1162 (by decide +kernel) (by decide +kernel)
theorem xw1163 : Cond.code yJ0_checkIndex_df160 cJ0_checkIndex_df160 2 none ∈ xBW := xbw 1163 (by decide +kernel) (by decide +kernel)
theorem xw1182 : Cond.methodLink RJ4 329 yJ5_charAt_5068e ∈ xBW := xbw 1182 (by decide +kernel) (by decide +kernel)
theorem xw1543 : Cond.sameMethod yJ5_charAt_5068e.cls yJ5_charAt_5068e.cls yJ5_charAt_5068e.name yJ5_charAt_5068e.desc ∈ xBW := xbw 1543 (by decide +kernel) (by decide +kernel)
theorem xw1183 : Cond.instanceMethod yJ5_charAt_5068e ∈ xBW := xbw 1183 (by decide +kernel) (by decide +kernel)
theorem xw1184 : Cond.code yJ5_charAt_5068e cJ5_charAt_5068e 5 (some .char) ∈ xBW := xbw 1184 (by decide +kernel) (by decide +kernel)
theorem xw1051 : Cond.methodLink RJ4 343 yJ5_length_8abf5 ∈ xBW := xbw 1051 (by decide +kernel) (by decide +kernel)
theorem xw1047 : Cond.sameMethod yJ5_length_8abf5.cls yJ5_length_8abf5.cls yJ5_length_8abf5.name yJ5_length_8abf5.desc ∈ xBW := xbw 1047 (by decide +kernel) (by decide +kernel)
theorem xw1046 : Cond.instanceMethod yJ5_length_8abf5 ∈ xBW := xbw 1046 (by decide +kernel) (by decide +kernel)
theorem xw1052 : Cond.code yJ5_length_8abf5 cJ5_length_8abf5 1 (some .int) ∈ xBW := xbw 1052 (by decide +kernel) (by decide +kernel)
theorem xw148 : Cond.fieldLink RJ5 73 "java/lang/AbstractStringBuilder" "maybeLatin1" "Z" ∈ xBW := xbw 148 (by decide +kernel) (by decide +kernel)
theorem xw886 : Cond.methodLink RJ4 333 yJ5_setLength_d00df ∈ xBW := xbw 886 (by decide +kernel) (by decide +kernel)
theorem xw1532 : Cond.sameMethod yJ5_setLength_d00df.cls yJ5_setLength_d00df.cls yJ5_setLength_d00df.name yJ5_setLength_d00df.desc ∈ xBW := xbw 1532 (by decide +kernel) (by decide +kernel)
theorem xw887 : Cond.instanceMethod yJ5_setLength_d00df ∈ xBW := xbw 887 (by decide +kernel) (by decide +kernel)
theorem xw888 : Cond.code yJ5_setLength_d00df cJ5_setLength_d00df 2 none ∈ xBW := xbw 888 (by decide +kernel) (by decide +kernel)
theorem xw882 : Cond.methodLink RX7 239 yJ4_setLength_d00df ∈ xBW := xbw 882 (by decide +kernel) (by decide +kernel)
theorem xw883 : Cond.instanceMethod yJ4_setLength_d00df ∈ xBW := xbw 883 (by decide +kernel) (by decide +kernel)
theorem xw884 : Cond.selects RJ4 yJ4_setLength_d00df yJ4_setLength_d00df ∈ xBW := xbw 884 (by decide +kernel) (by decide +kernel)
theorem xw885 : Cond.code yJ4_setLength_d00df cJ4_setLength_d00df 2 none ∈ xBW := xbw 885 (by decide +kernel) (by decide +kernel)
theorem xw1142 : Cond.methodLink RX7 242 yX7_writeLine ∈ xBW := xbw 1142 (by decide +kernel) (by decide +kernel)
theorem xw1143 : Cond.static yX7_writeLine ∈ xBW := xbw 1143 (by decide +kernel) (by decide +kernel)
theorem xw1144 : Cond.code yX7_writeLine cX7_writeLine 4 none ∈ xBW := xbw 1144 (by decide +kernel) (by decide +kernel)
theorem xw1177 : Cond.methodLink RX7 246 yJ4_length_8abf5 ∈ xBW := xbw 1177 (by decide +kernel) (by decide +kernel)
theorem xw1049 : Cond.instanceMethod yJ4_length_8abf5 ∈ xBW := xbw 1049 (by decide +kernel) (by decide +kernel)
theorem xw1542 : Cond.selects RJ4 yJ4_length_8abf5 yJ4_length_8abf5 ∈ xBW := xbw 1542 (by decide +kernel) (by decide +kernel)
theorem xw1050 : Cond.code yJ4_length_8abf5 cJ4_length_8abf5 1 (some .int) ∈ xBW := xbw 1050 (by decide +kernel) (by decide +kernel)
theorem xw1178 : Cond.methodLink RX7 249 yJ4_charAt_5068e ∈ xBW := xbw 1178 (by decide +kernel) (by decide +kernel)
theorem xw1179 : Cond.instanceMethod yJ4_charAt_5068e ∈ xBW := xbw 1179 (by decide +kernel) (by decide +kernel)
theorem xw1180 : Cond.selects RJ4 yJ4_charAt_5068e yJ4_charAt_5068e ∈ xBW := xbw 1180 (by decide +kernel) (by decide +kernel)
theorem xw1181 : Cond.code yJ4_charAt_5068e cJ4_charAt_5068e 2 (some .char) ∈ xBW := xbw 1181 (by decide +kernel) (by decide +kernel)
theorem xw628 : Cond.fieldLink RX7 153 "RentStream$Repair" "isMended" "Z" ∈ xBW := xbw 628 (by decide +kernel) (by decide +kernel)
theorem xw630 : Cond.fieldLink RX7 159 "RentStream$Repair" "daysTaken" "I" ∈ xBW := xbw 630 (by decide +kernel) (by decide +kernel)
theorem xw533 : Cond.fieldLink RX7 179 "RentStream$Lease" "paid" "J" ∈ xBW := xbw 533 (by decide +kernel) (by decide +kernel)
theorem xw721 : Cond.methodLink RX7 206 yX7_endDay ∈ xBW := xbw 721 (by decide +kernel) (by decide +kernel)
theorem xw723 : Cond.instanceMethod yX7_endDay ∈ xBW := xbw 723 (by decide +kernel) (by decide +kernel)
theorem xw15 : Cond.selects RX7 yX7_endDay yX7_endDay ∈ xBW := xbw 15 (by decide +kernel) (by decide +kernel)
theorem xw724 : Cond.code yX7_endDay cX7_endDay 3 none ∈ xBW := xbw 724 (by decide +kernel) (by decide +kernel)
theorem xw485 : Cond.fieldLink RX7 191 "RentStream$Plan" "state" "I" ∈ xBW := xbw 485 (by decide +kernel) (by decide +kernel)
theorem xw708 : Cond.methodLink RX7 198 yX5_begin ∈ xBW := xbw 708 (by decide +kernel) (by decide +kernel)
theorem xw709 : Cond.instanceMethod yX5_begin ∈ xBW := xbw 709 (by decide +kernel) (by decide +kernel)
theorem xw710 : Cond.selects RX5 yX5_begin yX5_begin ∈ xBW := xbw 710 (by decide +kernel) (by decide +kernel)
theorem xw711 : Cond.code yX5_begin cX5_begin 5 none ∈ xBW := xbw 711 (by decide +kernel) (by decide +kernel)
theorem xw337 : Cond.fieldLink RX7 118 "RentStream$Flat" "shown" "I" ∈ xBW := xbw 337 (by decide +kernel) (by decide +kernel)
theorem xw594 : Cond.methodLink RX7 124 yX1_readMeter ∈ xBW := xbw 594 (by decide +kernel) (by decide +kernel)
theorem xw595 : Cond.instanceMethod yX1_readMeter ∈ xBW := xbw 595 (by decide +kernel) (by decide +kernel)
theorem xw596 : Cond.selects RX1 yX1_readMeter yX1_readMeter ∈ xBW := xbw 596 (by decide +kernel) (by decide +kernel)
theorem xw597 : Cond.code yX1_readMeter cX1_readMeter 4 (some .int) ∈ xBW := xbw 597 (by decide +kernel) (by decide +kernel)
theorem xw626 : Cond.methodLink RX6 3 objectInit ∈ xBW := xbw 626 (by decide +kernel) (by decide +kernel)
theorem xw622 : Cond.instantiable RX6 5 ∈ xBW := xbw 622 (by decide +kernel) (by decide +kernel)
theorem xw623 : Cond.methodLink RX7 143 yX6_init ∈ xBW := xbw 623 (by decide +kernel) (by decide +kernel)
theorem xw624 : Cond.instanceMethod yX6_init ∈ xBW := xbw 624 (by decide +kernel) (by decide +kernel)
theorem xw625 : Cond.code yX6_init cX6_init 4 none ∈ xBW := xbw 625 (by decide +kernel) (by decide +kernel)
theorem xw332 : Cond.fieldLink RX7 253 "RentStream$Flat" "uses" "LRentStream$Months;" ∈ xBW := xbw 332 (by decide +kernel) (by decide +kernel)
theorem xw1224 : Cond.fieldLink RX8 28 "RentStreamModel" "uses" "[I" ∈ xBW := xbw 1224 (by decide +kernel) (by decide +kernel)
theorem xw1240 : Cond.fieldLink RX8 69 "RentStreamModel" "told" "[I" ∈ xBW := xbw 1240 (by decide +kernel) (by decide +kernel)
theorem xw1214 : Cond.methodLink RX8 1 objectInit ∈ xBW := xbw 1214 (by decide +kernel) (by decide +kernel)
theorem xw1218 : Cond.fieldLink RX8 7 "RentStreamModel" "rooms" "[I" ∈ xBW := xbw 1218 (by decide +kernel) (by decide +kernel)
theorem xw1219 : Cond.fieldLink RX8 13 "RentStreamModel" "added" "[I" ∈ xBW := xbw 1219 (by decide +kernel) (by decide +kernel)
theorem xw1220 : Cond.fieldLink RX8 16 "RentStreamModel" "shown" "[I" ∈ xBW := xbw 1220 (by decide +kernel) (by decide +kernel)
theorem xw1221 : Cond.fieldLink RX8 19 "RentStreamModel" "readIn" "[I" ∈ xBW := xbw 1221 (by decide +kernel) (by decide +kernel)
theorem xw1222 : Cond.fieldLink RX8 22 "RentStreamModel" "counted" "[I" ∈ xBW := xbw 1222 (by decide +kernel) (by decide +kernel)
theorem xw1223 : Cond.fieldLink RX8 25 "RentStreamModel" "points" "[I" ∈ xBW := xbw 1223 (by decide +kernel) (by decide +kernel)
theorem xw1225 : Cond.fieldLink RX8 31 "RentStreamModel" "indexes" "[I" ∈ xBW := xbw 1225 (by decide +kernel) (by decide +kernel)
theorem xw1228 : Cond.fieldLink RX8 34 "RentStreamModel" "repairOf" "[I" ∈ xBW := xbw 1228 (by decide +kernel) (by decide +kernel)
theorem xw1229 : Cond.fieldLink RX8 37 "RentStreamModel" "grades" "[I" ∈ xBW := xbw 1229 (by decide +kernel) (by decide +kernel)
theorem xw1230 : Cond.fieldLink RX8 40 "RentStreamModel" "reported" "[I" ∈ xBW := xbw 1230 (by decide +kernel) (by decide +kernel)
theorem xw1231 : Cond.fieldLink RX8 43 "RentStreamModel" "took" "[I" ∈ xBW := xbw 1231 (by decide +kernel) (by decide +kernel)
theorem xw1336 : Cond.arrayClass .boolean ∈ xBW := xbw 1336 (by decide +kernel) (by decide +kernel)
theorem xw1232 : Cond.fieldLink RX8 46 "RentStreamModel" "areMended" "[Z" ∈ xBW := xbw 1232 (by decide +kernel) (by decide +kernel)
theorem xw1234 : Cond.fieldLink RX8 50 "RentStreamModel" "flatOf" "[I" ∈ xBW := xbw 1234 (by decide +kernel) (by decide +kernel)
theorem xw1235 : Cond.fieldLink RX8 53 "RentStreamModel" "rents" "[I" ∈ xBW := xbw 1235 (by decide +kernel) (by decide +kernel)
theorem xw1236 : Cond.fieldLink RX8 56 "RentStreamModel" "starts" "[I" ∈ xBW := xbw 1236 (by decide +kernel) (by decide +kernel)
theorem xw1237 : Cond.fieldLink RX8 59 "RentStreamModel" "lasts" "[I" ∈ xBW := xbw 1237 (by decide +kernel) (by decide +kernel)
theorem xw1337 : Cond.arrayClass .long ∈ xBW := xbw 1337 (by decide +kernel) (by decide +kernel)
theorem xw1238 : Cond.fieldLink RX8 62 "RentStreamModel" "owed" "[J" ∈ xBW := xbw 1238 (by decide +kernel) (by decide +kernel)
theorem xw1239 : Cond.fieldLink RX8 66 "RentStreamModel" "desk" "[J" ∈ xBW := xbw 1239 (by decide +kernel) (by decide +kernel)
theorem xw1241 : Cond.fieldLink RX8 72 "RentStreamModel" "areBilled" "[Z" ∈ xBW := xbw 1241 (by decide +kernel) (by decide +kernel)
theorem xw1242 : Cond.fieldLink RX8 75 "RentStreamModel" "billRent" "[I" ∈ xBW := xbw 1242 (by decide +kernel) (by decide +kernel)
theorem xw1243 : Cond.fieldLink RX8 78 "RentStreamModel" "billLess" "[I" ∈ xBW := xbw 1243 (by decide +kernel) (by decide +kernel)
theorem xw1244 : Cond.fieldLink RX8 81 "RentStreamModel" "billBenefit" "[I" ∈ xBW := xbw 1244 (by decide +kernel) (by decide +kernel)
theorem xw1245 : Cond.fieldLink RX8 84 "RentStreamModel" "billHeat" "[I" ∈ xBW := xbw 1245 (by decide +kernel) (by decide +kernel)
theorem xw1246 : Cond.fieldLink RX8 87 "RentStreamModel" "plans" "[I" ∈ xBW := xbw 1246 (by decide +kernel) (by decide +kernel)
theorem xw1247 : Cond.fieldLink RX8 90 "RentStreamModel" "planFirst" "[J" ∈ xBW := xbw 1247 (by decide +kernel) (by decide +kernel)
theorem xw1248 : Cond.fieldLink RX8 93 "RentStreamModel" "planPart" "[J" ∈ xBW := xbw 1248 (by decide +kernel) (by decide +kernel)
theorem xw1249 : Cond.fieldLink RX8 96 "RentStreamModel" "planEnds" "[I" ∈ xBW := xbw 1249 (by decide +kernel) (by decide +kernel)
theorem xw1250 : Cond.fieldLink RX8 99 "RentStreamModel" "weights" "[J" ∈ xBW := xbw 1250 (by decide +kernel) (by decide +kernel)
theorem xw1251 : Cond.fieldLink RX8 102 "RentStreamModel" "shares" "[J" ∈ xBW := xbw 1251 (by decide +kernel) (by decide +kernel)
theorem xw1252 : Cond.fieldLink RX8 105 "RentStreamModel" "rests" "[J" ∈ xBW := xbw 1252 (by decide +kernel) (by decide +kernel)
theorem xw1338 : Cond.arrayClass .char ∈ xBW := xbw 1338 (by decide +kernel) (by decide +kernel)
theorem xw1253 : Cond.fieldLink RX8 108 "RentStreamModel" "signs" "[C" ∈ xBW := xbw 1253 (by decide +kernel) (by decide +kernel)
theorem xw1215 : Cond.fieldLink RX8 112 "RentStreamModel" "thrown" "I" ∈ xBW := xbw 1215 (by decide +kernel) (by decide +kernel)
theorem xw1233 : Cond.fieldLink RX8 123 "RentStreamModel" "leases" "I" ∈ xBW := xbw 1233 (by decide +kernel) (by decide +kernel)
theorem xw1347 : Cond.methodLink RX8 119 yX8_in ∈ xBW := xbw 1347 (by decide +kernel) (by decide +kernel)
theorem xw1348 : Cond.static yX8_in ∈ xBW := xbw 1348 (by decide +kernel) (by decide +kernel)
theorem xw60 : Cond.initialized RX8 ∈ xBW := xbw 60 (by decide +kernel) (by decide +kernel)
theorem xw1349 : Cond.code yX8_in cX8_in 3 (some .boolean) ∈ xBW := xbw 1349 (by decide +kernel) (by decide +kernel)
theorem xw1216 : Cond.fieldLink RX8 126 "RentStreamModel" "day" "I" ∈ xBW := xbw 1216 (by decide +kernel) (by decide +kernel)
theorem xw1354 : Cond.methodLink RX8 129 yX8_month ∈ xBW := xbw 1354 (by decide +kernel) (by decide +kernel)
theorem xw1356 : Cond.instanceMethod yX8_month ∈ xBW := xbw 1356 (by decide +kernel) (by decide +kernel)
theorem xw29 : Cond.selects RX8 yX8_month yX8_month ∈ xBW := xbw 29 (by decide +kernel) (by decide +kernel)
theorem xw1357 : Cond.code yX8_month cX8_month 1 (some .int) ∈ xBW := xbw 1357 (by decide +kernel) (by decide +kernel)
theorem xw1350 : Cond.methodLink RX8 133 yX8_holds ∈ xBW := xbw 1350 (by decide +kernel) (by decide +kernel)
theorem xw1352 : Cond.instanceMethod yX8_holds ∈ xBW := xbw 1352 (by decide +kernel) (by decide +kernel)
theorem xw28 : Cond.selects RX8 yX8_holds yX8_holds ∈ xBW := xbw 28 (by decide +kernel) (by decide +kernel)
theorem xw1353 : Cond.code yX8_holds cX8_holds 2 (some .boolean) ∈ xBW := xbw 1353 (by decide +kernel) (by decide +kernel)
theorem xw1413 : Cond.methodLink RX8 173 yX8_at ∈ xBW := xbw 1413 (by decide +kernel) (by decide +kernel)
theorem xw1414 : Cond.static yX8_at ∈ xBW := xbw 1414 (by decide +kernel) (by decide +kernel)
theorem xw1415 : Cond.code yX8_at cX8_at 2 (some .int) ∈ xBW := xbw 1415 (by decide +kernel) (by decide +kernel)
theorem xw1461 : Cond.constantLong RX8 159 (-1 : Int64) ∈ xBW := xbw 1461 (by decide +kernel) (by decide +kernel)
theorem xw1379 : Cond.methodLink RX8 148 yX8_isLease ∈ xBW := xbw 1379 (by decide +kernel) (by decide +kernel)
theorem xw1381 : Cond.instanceMethod yX8_isLease ∈ xBW := xbw 1381 (by decide +kernel) (by decide +kernel)
theorem xw33 : Cond.selects RX8 yX8_isLease yX8_isLease ∈ xBW := xbw 33 (by decide +kernel) (by decide +kernel)
theorem xw1382 : Cond.code yX8_isLease cX8_isLease 2 (some .boolean) ∈ xBW := xbw 1382 (by decide +kernel) (by decide +kernel)
theorem xw1409 : Cond.methodLink RX8 202 yX8_isMonth ∈ xBW := xbw 1409 (by decide +kernel) (by decide +kernel)
theorem xw1411 : Cond.instanceMethod yX8_isMonth ∈ xBW := xbw 1411 (by decide +kernel) (by decide +kernel)
theorem xw34 : Cond.selects RX8 yX8_isMonth yX8_isMonth ∈ xBW := xbw 34 (by decide +kernel) (by decide +kernel)
theorem xw1412 : Cond.code yX8_isMonth cX8_isMonth 2 (some .boolean) ∈ xBW := xbw 1412 (by decide +kernel) (by decide +kernel)
theorem xw1217 : Cond.fieldLink RX8 116 "RentStreamModel" "flats" "I" ∈ xBW := xbw 1217 (by decide +kernel) (by decide +kernel)
theorem xw1391 : Cond.constant RX8 151 (1000000 : Int32) ∈ xBW := xbw 1391 (by decide +kernel) (by decide +kernel)
theorem xw1226 : Cond.fieldLink RX8 152 "RentStreamModel" "cost" "I" ∈ xBW := xbw 1226 (by decide +kernel) (by decide +kernel)
theorem xw1396 : Cond.constant RX8 155 (10000000 : Int32) ∈ xBW := xbw 1396 (by decide +kernel) (by decide +kernel)
theorem xw1416 : Cond.methodLink RX8 182 yX8_incomeIn ∈ xBW := xbw 1416 (by decide +kernel) (by decide +kernel)
theorem xw1418 : Cond.instanceMethod yX8_incomeIn ∈ xBW := xbw 1418 (by decide +kernel) (by decide +kernel)
theorem xw35 : Cond.selects RX8 yX8_incomeIn yX8_incomeIn ∈ xBW := xbw 35 (by decide +kernel) (by decide +kernel)
theorem xw1419 : Cond.code yX8_incomeIn cX8_incomeIn 5 (some .int) ∈ xBW := xbw 1419 (by decide +kernel) (by decide +kernel)
theorem xw1420 : Cond.methodLink RX8 185 yX8_benefitFor ∈ xBW := xbw 1420 (by decide +kernel) (by decide +kernel)
theorem xw1421 : Cond.static yX8_benefitFor ∈ xBW := xbw 1421 (by decide +kernel) (by decide +kernel)
theorem xw1422 : Cond.code yX8_benefitFor cX8_benefitFor 4 (some .int) ∈ xBW := xbw 1422 (by decide +kernel) (by decide +kernel)
theorem xw1371 : Cond.methodLink RX8 137 yX8_runs ∈ xBW := xbw 1371 (by decide +kernel) (by decide +kernel)
theorem xw1373 : Cond.instanceMethod yX8_runs ∈ xBW := xbw 1373 (by decide +kernel) (by decide +kernel)
theorem xw32 : Cond.selects RX8 yX8_runs yX8_runs ∈ xBW := xbw 32 (by decide +kernel) (by decide +kernel)
theorem xw1374 : Cond.code yX8_runs cX8_runs 3 (some .boolean) ∈ xBW := xbw 1374 (by decide +kernel) (by decide +kernel)
theorem xw1362 : Cond.methodLink RX8 141 yX8_isFlat ∈ xBW := xbw 1362 (by decide +kernel) (by decide +kernel)
theorem xw1364 : Cond.instanceMethod yX8_isFlat ∈ xBW := xbw 1364 (by decide +kernel) (by decide +kernel)
theorem xw30 : Cond.selects RX8 yX8_isFlat yX8_isFlat ∈ xBW := xbw 30 (by decide +kernel) (by decide +kernel)
theorem xw1365 : Cond.code yX8_isFlat cX8_isFlat 2 (some .boolean) ∈ xBW := xbw 1365 (by decide +kernel) (by decide +kernel)
theorem xw1366 : Cond.constant RX8 144 (500000 : Int32) ∈ xBW := xbw 1366 (by decide +kernel) (by decide +kernel)
theorem xw1367 : Cond.methodLink RX8 145 yX8_isLet ∈ xBW := xbw 1367 (by decide +kernel) (by decide +kernel)
theorem xw1369 : Cond.instanceMethod yX8_isLet ∈ xBW := xbw 1369 (by decide +kernel) (by decide +kernel)
theorem xw31 : Cond.selects RX8 yX8_isLet yX8_isLet ∈ xBW := xbw 31 (by decide +kernel) (by decide +kernel)
theorem xw1370 : Cond.code yX8_isLet cX8_isLet 4 (some .boolean) ∈ xBW := xbw 1370 (by decide +kernel) (by decide +kernel)
theorem xw1254 : Cond.fieldLink RX8 218 "RentStreamModel" "signsMany" "I" ∈ xBW := xbw 1254 (by decide +kernel) (by decide +kernel)
theorem xw1504 : Cond.methodLink RX8 225 yX8_adds ∈ xBW := xbw 1504 (by decide +kernel) (by decide +kernel)
theorem xw1506 : Cond.instanceMethod yX8_adds ∈ xBW := xbw 1506 (by decide +kernel) (by decide +kernel)
theorem xw46 : Cond.selects RX8 yX8_adds yX8_adds ∈ xBW := xbw 46 (by decide +kernel) (by decide +kernel)
theorem xw1507 : Cond.code yX8_adds cX8_adds 2 none ∈ xBW := xbw 1507 (by decide +kernel) (by decide +kernel)
theorem xw1512 : Cond.methodLink RX8 221 yX8_powerOf ∈ xBW := xbw 1512 (by decide +kernel) (by decide +kernel)
theorem xw1513 : Cond.static yX8_powerOf ∈ xBW := xbw 1513 (by decide +kernel) (by decide +kernel)
theorem xw1514 : Cond.code yX8_powerOf cX8_powerOf 3 (some .int) ∈ xBW := xbw 1514 (by decide +kernel) (by decide +kernel)
theorem xw1508 : Cond.methodLink RX8 228 yX8_addsNumber ∈ xBW := xbw 1508 (by decide +kernel) (by decide +kernel)
theorem xw1510 : Cond.instanceMethod yX8_addsNumber ∈ xBW := xbw 1510 (by decide +kernel) (by decide +kernel)
theorem xw47 : Cond.selects RX8 yX8_addsNumber yX8_addsNumber ∈ xBW := xbw 47 (by decide +kernel) (by decide +kernel)
theorem xw1511 : Cond.code yX8_addsNumber cX8_addsNumber 4 none ∈ xBW := xbw 1511 (by decide +kernel) (by decide +kernel)
theorem xw1515 : Cond.methodLink RX8 231 yX8_addsAmount ∈ xBW := xbw 1515 (by decide +kernel) (by decide +kernel)
theorem xw1517 : Cond.instanceMethod yX8_addsAmount ∈ xBW := xbw 1517 (by decide +kernel) (by decide +kernel)
theorem xw48 : Cond.selects RX8 yX8_addsAmount yX8_addsAmount ∈ xBW := xbw 48 (by decide +kernel) (by decide +kernel)
theorem xw1518 : Cond.code yX8_addsAmount cX8_addsAmount 6 none ∈ xBW := xbw 1518 (by decide +kernel) (by decide +kernel)
theorem xw1227 : Cond.fieldLink RX8 156 "RentStreamModel" "repairs" "I" ∈ xBW := xbw 1227 (by decide +kernel) (by decide +kernel)
theorem xw1487 : Cond.methodLink RX8 214 yX8_owes ∈ xBW := xbw 1487 (by decide +kernel) (by decide +kernel)
theorem xw1480 : Cond.instanceMethod yX8_owes ∈ xBW := xbw 1480 (by decide +kernel) (by decide +kernel)
theorem xw1481 : Cond.selects RX8 yX8_owes yX8_owes ∈ xBW := xbw 1481 (by decide +kernel) (by decide +kernel)
theorem xw1482 : Cond.code yX8_owes cX8_owes 2 (some .long) ∈ xBW := xbw 1482 (by decide +kernel) (by decide +kernel)
theorem xw1470 : Cond.methodLink RX8 177 yX8_rentIn ∈ xBW := xbw 1470 (by decide +kernel) (by decide +kernel)
theorem xw1472 : Cond.instanceMethod yX8_rentIn ∈ xBW := xbw 1472 (by decide +kernel) (by decide +kernel)
theorem xw44 : Cond.selects RX8 yX8_rentIn yX8_rentIn ∈ xBW := xbw 44 (by decide +kernel) (by decide +kernel)
theorem xw1473 : Cond.code yX8_rentIn cX8_rentIn 3 (some .int) ∈ xBW := xbw 1473 (by decide +kernel) (by decide +kernel)
theorem xw1474 : Cond.constantLong RX8 180 (3000 : Int64) ∈ xBW := xbw 1474 (by decide +kernel) (by decide +kernel)
theorem xw1451 : Cond.methodLink RX8 161 yX8_weighs ∈ xBW := xbw 1451 (by decide +kernel) (by decide +kernel)
theorem xw1453 : Cond.instanceMethod yX8_weighs ∈ xBW := xbw 1453 (by decide +kernel) (by decide +kernel)
theorem xw40 : Cond.selects RX8 yX8_weighs yX8_weighs ∈ xBW := xbw 40 (by decide +kernel) (by decide +kernel)
theorem xw1454 : Cond.code yX8_weighs cX8_weighs 7 (some .long) ∈ xBW := xbw 1454 (by decide +kernel) (by decide +kernel)
theorem xw1457 : Cond.methodLink RX8 169 yX8_sharesBy ∈ xBW := xbw 1457 (by decide +kernel) (by decide +kernel)
theorem xw1459 : Cond.instanceMethod yX8_sharesBy ∈ xBW := xbw 1459 (by decide +kernel) (by decide +kernel)
theorem xw41 : Cond.selects RX8 yX8_sharesBy yX8_sharesBy ∈ xBW := xbw 41 (by decide +kernel) (by decide +kernel)
theorem xw1460 : Cond.code yX8_sharesBy cX8_sharesBy 10 none ∈ xBW := xbw 1460 (by decide +kernel) (by decide +kernel)
theorem xw1455 : Cond.constantLong RX8 165 (3 : Int64) ∈ xBW := xbw 1455 (by decide +kernel) (by decide +kernel)
theorem xw1456 : Cond.constantLong RX8 167 (10 : Int64) ∈ xBW := xbw 1456 (by decide +kernel) (by decide +kernel)
theorem xw1462 : Cond.methodLink RX8 196 yX8_looksAtPlan ∈ xBW := xbw 1462 (by decide +kernel) (by decide +kernel)
theorem xw1464 : Cond.instanceMethod yX8_looksAtPlan ∈ xBW := xbw 1464 (by decide +kernel) (by decide +kernel)
theorem xw42 : Cond.selects RX8 yX8_looksAtPlan yX8_looksAtPlan ∈ xBW := xbw 42 (by decide +kernel) (by decide +kernel)
theorem xw1465 : Cond.code yX8_looksAtPlan cX8_looksAtPlan 4 none ∈ xBW := xbw 1465 (by decide +kernel) (by decide +kernel)
theorem xw1466 : Cond.methodLink RX8 199 yX8_bills ∈ xBW := xbw 1466 (by decide +kernel) (by decide +kernel)
theorem xw1468 : Cond.instanceMethod yX8_bills ∈ xBW := xbw 1468 (by decide +kernel) (by decide +kernel)
theorem xw43 : Cond.selects RX8 yX8_bills yX8_bills ∈ xBW := xbw 43 (by decide +kernel) (by decide +kernel)
theorem xw1469 : Cond.code yX8_bills cX8_bills 7 none ∈ xBW := xbw 1469 (by decide +kernel) (by decide +kernel)
theorem xw1447 : Cond.methodLink RX8 192 yX8_sharesHeat ∈ xBW := xbw 1447 (by decide +kernel) (by decide +kernel)
theorem xw1449 : Cond.instanceMethod yX8_sharesHeat ∈ xBW := xbw 1449 (by decide +kernel) (by decide +kernel)
theorem xw39 : Cond.selects RX8 yX8_sharesHeat yX8_sharesHeat ∈ xBW := xbw 39 (by decide +kernel) (by decide +kernel)
theorem xw1450 : Cond.code yX8_sharesHeat cX8_sharesHeat 7 none ∈ xBW := xbw 1450 (by decide +kernel) (by decide +kernel)
theorem xw1443 : Cond.methodLink RX8 188 yX8_findsUse ∈ xBW := xbw 1443 (by decide +kernel) (by decide +kernel)
theorem xw1445 : Cond.instanceMethod yX8_findsUse ∈ xBW := xbw 1445 (by decide +kernel) (by decide +kernel)
theorem xw38 : Cond.selects RX8 yX8_findsUse yX8_findsUse ∈ xBW := xbw 38 (by decide +kernel) (by decide +kernel)
theorem xw1446 : Cond.code yX8_findsUse cX8_findsUse 7 none ∈ xBW := xbw 1446 (by decide +kernel) (by decide +kernel)
theorem xw1435 : Cond.methodLink RX8 205 yX8_wears ∈ xBW := xbw 1435 (by decide +kernel) (by decide +kernel)
theorem xw1437 : Cond.instanceMethod yX8_wears ∈ xBW := xbw 1437 (by decide +kernel) (by decide +kernel)
theorem xw36 : Cond.selects RX8 yX8_wears yX8_wears ∈ xBW := xbw 36 (by decide +kernel) (by decide +kernel)
theorem xw1438 : Cond.code yX8_wears cX8_wears 3 none ∈ xBW := xbw 1438 (by decide +kernel) (by decide +kernel)
theorem xw1439 : Cond.methodLink RX8 208 yX8_ends ∈ xBW := xbw 1439 (by decide +kernel) (by decide +kernel)
theorem xw1441 : Cond.instanceMethod yX8_ends ∈ xBW := xbw 1441 (by decide +kernel) (by decide +kernel)
theorem xw37 : Cond.selects RX8 yX8_ends yX8_ends ∈ xBW := xbw 37 (by decide +kernel) (by decide +kernel)
theorem xw1442 : Cond.code yX8_ends cX8_ends 3 none ∈ xBW := xbw 1442 (by decide +kernel) (by decide +kernel)
theorem xw1475 : Cond.methodLink RX8 211 yX8_begins ∈ xBW := xbw 1475 (by decide +kernel) (by decide +kernel)
theorem xw1477 : Cond.instanceMethod yX8_begins ∈ xBW := xbw 1477 (by decide +kernel) (by decide +kernel)
theorem xw45 : Cond.selects RX8 yX8_begins yX8_begins ∈ xBW := xbw 45 (by decide +kernel) (by decide +kernel)
theorem xw1478 : Cond.code yX8_begins cX8_begins 5 none ∈ xBW := xbw 1478 (by decide +kernel) (by decide +kernel)
theorem xin0 : ∀ w ∈ u_ws RX0 TX0 4, w ∈ xBW := fun w h => List.mem_filter.mpr ⟨(goodIn_r (big := xtb) (u_ws RX0 TX0 4) [178, 180, 182, 184] (by decide +kernel) (by decide +kernel) w h).1, List.all_eq_true.mp (show (u_ws RX0 TX0 4).all goodWord = true by decide +kernel) w h⟩
theorem xin1 : ∀ w ∈ u_ws RX1 TX1 6, w ∈ xBW := fun w h => List.mem_filter.mpr ⟨(goodIn_r (big := xtb) (u_ws RX1 TX1 6) [340, 342, 344, 346, 348, 350] (by decide +kernel) (by decide +kernel) w h).1, List.all_eq_true.mp (show (u_ws RX1 TX1 6).all goodWord = true by decide +kernel) w h⟩
theorem xin2 : ∀ w ∈ u_ws RX2 TX2 3, w ∈ xBW := fun w h => List.mem_filter.mpr ⟨(goodIn_r (big := xtb) (u_ws RX2 TX2 3) [509, 511, 513] (by decide +kernel) (by decide +kernel) w h).1, List.all_eq_true.mp (show (u_ws RX2 TX2 3).all goodWord = true by decide +kernel) w h⟩
theorem xin3 : ∀ w ∈ u_ws RX3 TX3 11, w ∈ xBW := fun w h => List.mem_filter.mpr ⟨(goodIn_r (big := xtb) (u_ws RX3 TX3 11) [537, 539, 541, 543, 545, 547, 549, 551, 553, 555, 557] (by decide +kernel) (by decide +kernel) w h).1, List.all_eq_true.mp (show (u_ws RX3 TX3 11).all goodWord = true by decide +kernel) w h⟩
theorem xin4 : ∀ w ∈ u_ws RX4 TX4 1, w ∈ xBW := fun w h => List.mem_filter.mpr ⟨(goodIn_r (big := xtb) (u_ws RX4 TX4 1) [124] (by decide +kernel) (by decide +kernel) w h).1, List.all_eq_true.mp (show (u_ws RX4 TX4 1).all goodWord = true by decide +kernel) w h⟩
theorem xin5 : ∀ w ∈ u_ws RX5 TX5 4, w ∈ xBW := fun w h => List.mem_filter.mpr ⟨(goodIn_r (big := xtb) (u_ws RX5 TX5 4) [489, 491, 493, 495] (by decide +kernel) (by decide +kernel) w h).1, List.all_eq_true.mp (show (u_ws RX5 TX5 4).all goodWord = true by decide +kernel) w h⟩
theorem xin6 : ∀ w ∈ u_ws RX6 TX6 5, w ∈ xBW := fun w h => List.mem_filter.mpr ⟨(goodIn_r (big := xtb) (u_ws RX6 TX6 5) [634, 636, 638, 640, 642] (by decide +kernel) (by decide +kernel) w h).1, List.all_eq_true.mp (show (u_ws RX6 TX6 5).all goodWord = true by decide +kernel) w h⟩
theorem xin7 : ∀ w ∈ u_ws RX7 TX7 10, w ∈ xBW := fun w h => List.mem_filter.mpr ⟨(goodIn_r (big := xtb) (u_ws RX7 TX7 10) [197, 199, 201, 203, 205, 207, 209, 211, 213, 215] (by decide +kernel) (by decide +kernel) w h).1, List.all_eq_true.mp (show (u_ws RX7 TX7 10).all goodWord = true by decide +kernel) w h⟩
theorem xin8 : ∀ w ∈ u_ws RX8 TX8 40, w ∈ xBW := fun w h => List.mem_filter.mpr ⟨(goodIn_r (big := xtb) (u_ws RX8 TX8 40) [1255, 1257, 1259, 1261, 1263, 1265, 1267, 1269, 1271, 1273, 1275, 1277, 1279, 1281, 1283, 1285, 1287, 1289, 1291, 1293, 1295, 1297, 1299, 1301, 1303, 1305, 1307, 1309, 1311, 1313, 1315, 1317, 1319, 1321, 1323, 1325, 1327, 1329, 1331, 1333] (by decide +kernel) (by decide +kernel) w h).1, List.all_eq_true.mp (show (u_ws RX8 TX8 40).all goodWord = true by decide +kernel) w h⟩
theorem xin9 : ∀ w ∈ u_ws RJ4 TJ4 4, w ∈ xBW := fun w h => List.mem_filter.mpr ⟨(goodIn_r (big := xtb) (u_ws RJ4 TJ4 4) [151, 153, 155, 157] (by decide +kernel) (by decide +kernel) w h).1, List.all_eq_true.mp (show (u_ws RJ4 TJ4 4).all goodWord = true by decide +kernel) w h⟩
theorem xin10 : ∀ w ∈ u_ws RJx4a65c TJx4a65c 3, w ∈ xBW := fun w h => List.mem_filter.mpr ⟨(goodIn_r (big := xtb) (u_ws RJx4a65c TJx4a65c 3) [114, 110, 112] (by decide +kernel) (by decide +kernel) w h).1, List.all_eq_true.mp (show (u_ws RJx4a65c TJx4a65c 3).all goodWord = true by decide +kernel) w h⟩
abbrev k_X0_init : xκ := (RX0, cX0_init, 1, 1, 20)
abbrev k_X4_init : xκ := (RX4, cX4_init, 3, 1, 20)
abbrev k_J5_init_d00df : xκ := (RJ5, cJ5_init_d00df, 2, 1, 20)
abbrev k_J4_init_da8c8 : xκ := (RJ4, cJ4_init_da8c8, 1, 2, 41)
abbrev k_Jxa1e45_init_da8c8 : xκ := (RJxa1e45, cJxa1e45_init_da8c8, 1, 1, 20)
abbrev k_Jxc12de_init_da8c8 : xκ := (RJxc12de, cJxc12de_init_da8c8, 1, 2, 40)
abbrev k_Jx4a65c_init_da8c8 : xκ := (RJx4a65c, cJx4a65c_init_da8c8, 1, 3, 60)
abbrev k_X7_init : xκ := (RX7, cX7_init, 1, 4, 80)
abbrev k_X7_benefitFor : xκ := (RX7, cX7_benefitFor, 4, 1, 60)
abbrev k_X7_postToDesk : xκ := (RX7, cX7_postToDesk, 4, 0, 0)
abbrev k_X4_in : xκ := (RX4, cX4_in, 2, 0, 0)
abbrev k_X3_incomeIn : xκ := (RX3, cX3_incomeIn, 3, 1, 21)
abbrev k_X3_rentAt : xκ := (RX3, cX3_rentAt, 2, 0, 0)
abbrev k_X7_payAhead : xκ := (RX7, cX7_payAhead, 6, 2, 83)
abbrev k_X3_runsIn : xκ := (RX3, cX3_runsIn, 2, 0, 0)
abbrev k_X4_put : xκ := (RX4, cX4_put, 3, 0, 0)
abbrev k_Jx4a65c_elementData_915e3 : xκ := (RJx4a65c, cJx4a65c_elementData_915e3, 2, 0, 0)
abbrev k_J3_checkIndex_8e157 : xκ := (RJ3, cJ3_checkIndex_8e157, 3, 0, 0)
abbrev k_J15_checkIndex_7cf53 : xκ := (RJ15, cJ15_checkIndex_7cf53, 2, 1, 22)
abbrev k_Jx4a65c_get_915e3 : xκ := (RJx4a65c, cJx4a65c_get_915e3, 2, 2, 43)
abbrev k_Jx4a65c_size_8abf5 : xκ := (RJx4a65c, cJx4a65c_size_8abf5, 1, 0, 0)
abbrev k_X7_beginMonth : xκ := (RX7, cX7_beginMonth, 4, 3, 108)
abbrev k_X7_leaseAt : xκ := (RX7, cX7_leaseAt, 2, 6, 92)
abbrev k_X7_monthNow : xκ := (RX7, cX7_monthNow, 1, 0, 0)
abbrev k_X7_needMonth : xκ := (RX7, cX7_needMonth, 2, 6, 92)
abbrev k_X0_amount : xκ := (RX0, cX0_amount, 2, 0, 0)
abbrev k_X3_billOf : xκ := (RX3, cX3_billOf, 2, 0, 0)
abbrev k_X7_bill : xκ := (RX7, cX7_bill, 6, 7, 113)
abbrev k_X7_desk : xκ := (RX7, cX7_desk, 2, 7, 113)
abbrev k_X7_end : xκ := (RX7, cX7_end, 3, 7, 113)
abbrev k_X7_postToTenant : xκ := (RX7, cX7_postToTenant, 4, 0, 0)
abbrev k_X7_loweredBy : xκ := (RX7, cX7_loweredBy, 4, 1, 60)
abbrev k_X7_settle : xκ := (RX7, cX7_settle, 4, 2, 83)
abbrev k_X0_ofTenant : xκ := (RX0, cX0_ofTenant, 1, 0, 0)
abbrev k_X3_putBill : xκ := (RX3, cX3_putBill, 3, 0, 0)
abbrev k_X7_makeBill : xκ := (RX7, cX7_makeBill, 4, 3, 106)
abbrev k_X2_isAheadOf : xκ := (RX2, cX2_isAheadOf, 2, 0, 0)
abbrev k_X2_takeOneMore : xκ := (RX2, cX2_takeOneMore, 1, 0, 0)
abbrev k_Jx4a65c_isEmpty_aae02 : xκ := (RJx4a65c, cJx4a65c_isEmpty_aae02, 1, 0, 0)
abbrev k_X7_giveOneMore : xκ := (RX7, cX7_giveOneMore, 4, 3, 64)
abbrev k_X2_takeWhole : xκ := (RX2, cX2_takeWhole, 7, 0, 0)
abbrev k_X7_shareByWeights : xκ := (RX7, cX7_shareByWeights, 6, 4, 87)
abbrev k_X3_useIn : xκ := (RX3, cX3_useIn, 2, 1, 21)
abbrev k_X7_usesOfAll : xκ := (RX7, cX7_usesOfAll, 5, 3, 64)
abbrev k_X7_shareHeat : xκ := (RX7, cX7_shareHeat, 6, 5, 112)
abbrev k_X1_guessedUse : xκ := (RX1, cX1_guessedUse, 6, 1, 21)
abbrev k_X1_findUse : xκ := (RX1, cX1_findUse, 3, 2, 60)
abbrev k_X5_endMonth : xκ := (RX5, cX5_endMonth, 5, 1, 60)
abbrev k_X7_endMonth : xκ := (RX7, cX7_endMonth, 4, 6, 137)
abbrev k_X6_clock : xκ := (RX6, cX6_clock, 1, 0, 0)
abbrev k_X6_pointsADay : xκ := (RX6, cX6_pointsADay, 1, 0, 0)
abbrev k_X6_takePoints : xκ := (RX6, cX6_takePoints, 3, 1, 22)
abbrev k_X7_endDay : xκ := (RX7, cX7_endDay, 3, 7, 160)
abbrev k_X1_init : xκ := (RX1, cX1_init, 2, 2, 42)
abbrev k_J7_copyOf_6403c : xκ := (RJ7, cJ7_copyOf_6403c, 4, 1, 60)
abbrev k_J7_copyOf_1904c : xκ := (RJ7, cJ7_copyOf_1904c, 2, 2, 83)
abbrev k_J8_newLength_cabcc : xκ := (RJ8, cJ8_newLength_cabcc, 4, 1, 60)
abbrev k_Jx4a65c_grow_92f84 : xκ := (RJx4a65c, cJx4a65c_grow_92f84, 4, 3, 104)
abbrev k_Jx4a65c_grow_d5877 : xκ := (RJx4a65c, cJx4a65c_grow_d5877, 1, 4, 127)
abbrev k_Jx4a65c_add_72be8 : xκ := (RJx4a65c, cJx4a65c_add_72be8, 4, 5, 147)
abbrev k_Jx4a65c_add_9ea2d : xκ := (RJx4a65c, cJx4a65c_add_9ea2d, 2, 6, 170)
abbrev k_X7_flat : xκ := (RX7, cX7_flat, 2, 7, 191)
abbrev k_X7_flatAt : xκ := (RX7, cX7_flatAt, 2, 6, 92)
abbrev k_X7_heat : xκ := (RX7, cX7_heat, 4, 6, 92)
abbrev k_X3_benefitsAnew : xκ := (RX3, cX3_benefitsAnew, 8, 2, 83)
abbrev k_X7_income : xκ := (RX7, cX7_income, 7, 7, 113)
abbrev k_X7_index : xκ := (RX7, cX7_index, 2, 6, 92)
abbrev k_X7_isLetOn : xκ := (RX7, cX7_isLetOn, 4, 3, 64)
abbrev k_X2_init : xκ := (RX2, cX2_init, 1, 1, 20)
abbrev k_X5_init : xκ := (RX5, cX5_init, 1, 1, 20)
abbrev k_X3_init : xκ := (RX3, cX3_init, 4, 2, 42)
abbrev k_X7_lease : xκ := (RX7, cX7_lease, 4, 7, 191)
abbrev k_J5_newCapacity_0f7a4 : xκ := (RJ5, cJ5_newCapacity_0f7a4, 6, 2, 83)
abbrev k_J7_copyOf_9075b : xκ := (RJ7, cJ7_copyOf_9075b, 3, 1, 60)
abbrev k_J5_ensureCapacityInternal_d00df : xκ := (RJ5, cJ5_ensureCapacityInternal_d00df, 3, 3, 108)
abbrev k_J5_isLatin1_aae02 : xκ := (RJ5, cJ5_isLatin1_aae02, 1, 0, 0)
abbrev k_J1_canEncode_fc78d : xκ := (RJ1, cJ1_canEncode_fc78d, 1, 0, 0)
abbrev k_J5_append_3fe6f : xκ := (RJ5, cJ5_append_3fe6f, 2, 4, 130)
abbrev k_J4_append_cf468 : xκ := (RJ4, cJ4_append_cf468, 2, 5, 151)
abbrev k_X7_writeDigits : xκ := (RX7, cX7_writeDigits, 4, 6, 172)
abbrev k_J6_getChars_ba4f3 : xκ := (RJ6, cJ6_getChars_ba4f3, 7, 0, 0)
abbrev k_J6_stringSize_0f7a4 : xκ := (RJ6, cJ6_stringSize_0f7a4, 4, 0, 0)
abbrev k_J5_append_c97b9 : xκ := (RJ5, cJ5_append_c97b9, 4, 4, 130)
abbrev k_J4_append_bf812 : xκ := (RJ4, cJ4_append_bf812, 2, 5, 153)
abbrev k_X7_writeWhole : xκ := (RX7, cX7_writeWhole, 5, 7, 195)
abbrev k_X7_writeAmount : xκ := (RX7, cX7_writeAmount, 3, 8, 219)
abbrev k_J0_coder_7d493 : xκ := (RJ0, cJ0_coder_7d493, 1, 0, 0)
abbrev k_J5_inflateIfNeededFor_a7421 : xκ := (RJ5, cJ5_inflateIfNeededFor_a7421, 2, 1, 20)
abbrev k_J0_getBytes_840e7 : xκ := (RJ0, cJ0_getBytes_840e7, 4, 1, 60)
abbrev k_J5_putStringAt_47b60 : xκ := (RJ5, cJ5_putStringAt_47b60, 3, 2, 83)
abbrev k_J0_length_8abf5 : xκ := (RJ0, cJ0_length_8abf5, 1, 1, 20)
abbrev k_J5_append_cf1ce : xκ := (RJ5, cJ5_append_cf1ce, 3, 4, 130)
abbrev k_J4_append_15ec4 : xκ := (RJ4, cJ4_append_15ec4, 2, 5, 152)
abbrev k_X7_writeLine : xκ := (RX7, cX7_writeLine, 4, 9, 241)
abbrev k_J0_checkIndex_df160 : xκ := (RJ0, cJ0_checkIndex_df160, 2, 1, 22)
abbrev k_J5_charAt_5068e : xκ := (RJ5, cJ5_charAt_5068e, 5, 2, 60)
abbrev k_J4_charAt_5068e : xκ := (RJ4, cJ4_charAt_5068e, 2, 3, 84)
abbrev k_J5_length_8abf5 : xκ := (RJ5, cJ5_length_8abf5, 1, 0, 0)
abbrev k_J4_length_8abf5 : xκ := (RJ4, cJ4_length_8abf5, 1, 1, 20)
abbrev k_J5_setLength_d00df : xκ := (RJ5, cJ5_setLength_d00df, 2, 4, 130)
abbrev k_J4_setLength_d00df : xκ := (RJ4, cJ4_setLength_d00df, 2, 5, 151)
abbrev k_X7_line : xκ := (RX7, cX7_line, 6, 10, 264)
abbrev k_X7_mend : xκ := (RX7, cX7_mend, 3, 6, 92)
abbrev k_X7_owes : xκ := (RX7, cX7_owes, 2, 7, 113)
abbrev k_X7_owesAnew : xκ := (RX7, cX7_owesAnew, 7, 7, 137)
abbrev k_X7_owner : xκ := (RX7, cX7_owner, 1, 0, 0)
abbrev k_X7_pass : xκ := (RX7, cX7_pass, 3, 8, 182)
abbrev k_X7_pay : xκ := (RX7, cX7_pay, 4, 7, 113)
abbrev k_X5_begin : xκ := (RX5, cX5_begin, 5, 0, 0)
abbrev k_X7_plan : xκ := (RX7, cX7_plan, 6, 7, 113)
abbrev k_X7_planOf : xκ := (RX7, cX7_planOf, 2, 7, 113)
abbrev k_X7_points : xκ := (RX7, cX7_points, 2, 7, 113)
abbrev k_X1_readMeter : xκ := (RX1, cX1_readMeter, 4, 0, 0)
abbrev k_X7_read : xκ := (RX7, cX7_read, 4, 7, 113)
abbrev k_X6_init : xκ := (RX6, cX6_init, 4, 1, 20)
abbrev k_X7_report : xκ := (RX7, cX7_report, 4, 7, 191)
abbrev k_X7_use : xκ := (RX7, cX7_use, 4, 7, 113)
abbrev k_X8_init : xκ := (RX8, cX8_init, 2, 1, 20)
abbrev k_X8_at : xκ := (RX8, cX8_at, 2, 0, 0)
abbrev k_X8_holds : xκ := (RX8, cX8_holds, 2, 0, 0)
abbrev k_X8_in : xκ := (RX8, cX8_in, 3, 0, 0)
abbrev k_X8_isLease : xκ := (RX8, cX8_isLease, 2, 1, 22)
abbrev k_X8_month : xκ := (RX8, cX8_month, 1, 0, 0)
abbrev k_X8_isMonth : xκ := (RX8, cX8_isMonth, 2, 1, 22)
abbrev k_X8_bill : xκ := (RX8, cX8_bill, 6, 2, 43)
abbrev k_X8_desk : xκ := (RX8, cX8_desk, 2, 2, 43)
abbrev k_X8_end : xκ := (RX8, cX8_end, 3, 2, 43)
abbrev k_X8_flat : xκ := (RX8, cX8_flat, 2, 1, 22)
abbrev k_X8_heat : xκ := (RX8, cX8_heat, 2, 1, 22)
abbrev k_X8_benefitFor : xκ := (RX8, cX8_benefitFor, 4, 0, 0)
abbrev k_X8_incomeIn : xκ := (RX8, cX8_incomeIn, 5, 1, 21)
abbrev k_X8_income : xκ := (RX8, cX8_income, 10, 2, 45)
abbrev k_X8_index : xκ := (RX8, cX8_index, 2, 1, 22)
abbrev k_X8_isFlat : xκ := (RX8, cX8_isFlat, 2, 1, 22)
abbrev k_X8_runs : xκ := (RX8, cX8_runs, 3, 0, 0)
abbrev k_X8_isLet : xκ := (RX8, cX8_isLet, 4, 1, 22)
abbrev k_X8_lease : xκ := (RX8, cX8_lease, 4, 2, 45)
abbrev k_X8_adds : xκ := (RX8, cX8_adds, 2, 0, 0)
abbrev k_X8_powerOf : xκ := (RX8, cX8_powerOf, 3, 0, 0)
abbrev k_X8_addsAmount : xκ := (RX8, cX8_addsAmount, 6, 1, 22)
abbrev k_X8_addsNumber : xκ := (RX8, cX8_addsNumber, 4, 1, 22)
abbrev k_X8_line : xκ := (RX8, cX8_line, 6, 2, 47)
abbrev k_X8_mend : xκ := (RX8, cX8_mend, 3, 1, 22)
abbrev k_X8_owes : xκ := (RX8, cX8_owes, 2, 2, 43)
abbrev k_X8_owesAnew : xκ := (RX8, cX8_owesAnew, 2, 3, 64)
abbrev k_X8_owner : xκ := (RX8, cX8_owner, 4, 0, 0)
abbrev k_X8_rentIn : xκ := (RX8, cX8_rentIn, 3, 0, 0)
abbrev k_X8_begins : xκ := (RX8, cX8_begins, 5, 2, 45)
abbrev k_X8_bills : xκ := (RX8, cX8_bills, 7, 2, 45)
abbrev k_X8_findsUse : xκ := (RX8, cX8_findsUse, 7, 0, 0)
abbrev k_X8_looksAtPlan : xκ := (RX8, cX8_looksAtPlan, 4, 0, 0)
abbrev k_X8_sharesBy : xκ := (RX8, cX8_sharesBy, 10, 0, 0)
abbrev k_X8_weighs : xκ := (RX8, cX8_weighs, 7, 1, 22)
abbrev k_X8_sharesHeat : xκ := (RX8, cX8_sharesHeat, 7, 2, 48)
abbrev k_X8_ends : xκ := (RX8, cX8_ends, 3, 3, 74)
abbrev k_X8_wears : xκ := (RX8, cX8_wears, 3, 0, 0)
abbrev k_X8_pass : xκ := (RX8, cX8_pass, 3, 4, 96)
abbrev k_X8_pay : xκ := (RX8, cX8_pay, 3, 2, 43)
abbrev k_X8_plan : xκ := (RX8, cX8_plan, 4, 2, 43)
abbrev k_X8_planOf : xκ := (RX8, cX8_planOf, 2, 2, 43)
abbrev k_X8_points : xκ := (RX8, cX8_points, 2, 2, 43)
abbrev k_X8_read : xκ := (RX8, cX8_read, 5, 2, 43)
abbrev k_X8_report : xκ := (RX8, cX8_report, 4, 2, 43)
abbrev k_X8_thrown : xκ := (RX8, cX8_thrown, 1, 0, 0)
abbrev k_X8_use : xκ := (RX8, cX8_use, 4, 2, 43)
theorem xp_X0_9 : xFP RX0 9 0 0 .int false := ⟨RX0, TX0, 4, "RentStream$Bill", tyX0, rfl, xin0, by decide, xw167, Or.inl rfl, tyX0_ok, nmX0, rfl, by decide +kernel, fun h => nomatch h⟩
theorem xp_X0_15 : xFP RX0 15 0 1 .int false := ⟨RX0, TX0, 4, "RentStream$Bill", tyX0, rfl, xin0, by decide, xw170, Or.inl rfl, tyX0_ok, nmX0, rfl, by decide +kernel, fun h => nomatch h⟩
theorem xp_X0_18 : xFP RX0 18 0 2 .int false := ⟨RX0, TX0, 4, "RentStream$Bill", tyX0, rfl, xin0, by decide, xw173, Or.inl rfl, tyX0_ok, nmX0, rfl, by decide +kernel, fun h => nomatch h⟩
theorem xp_X0_21 : xFP RX0 21 0 3 .int false := ⟨RX0, TX0, 4, "RentStream$Bill", tyX0, rfl, xin0, by decide, xw176, Or.inl rfl, tyX0_ok, nmX0, rfl, by decide +kernel, fun h => nomatch h⟩
theorem xf_X4_9 : xFL RX4 9 4 0 := ⟨RX4, TX4, 1, "RentStream$Months", rfl, xin4, by decide, xw123, Or.inl rfl⟩
theorem xp_X4_9 : xFP RX4 9 4 0 (.array .int) true := ⟨RX4, TX4, 1, "RentStream$Months", tyX4, rfl, xin4, by decide, xw123, Or.inl rfl, tyX4_ok, nmX4, rfl, by decide +kernel, fun _ => rfl⟩
theorem xp_J5_15 : xFP RJ5 15 9 0 (.array .byte) false := ⟨RJ4, TJ4, 4, "java/lang/AbstractStringBuilder", tyJ4, rfl, xin9, by decide, xw146, Or.inl rfl, tyJ4_ok, nmJ4, rfl, by decide +kernel, fun h => nomatch h⟩
theorem xp_J5_22 : xFP RJ5 22 9 1 .byte false := ⟨RJ4, TJ4, 4, "java/lang/AbstractStringBuilder", tyJ4, rfl, xin9, by decide, xw147, Or.inl rfl, tyJ4_ok, nmJ4, rfl, by decide +kernel, fun h => nomatch h⟩
theorem xc_J4_init_da8c8_1 : xLI k_J4_init_da8c8 k_J5_init_d00df 1 yJ5_init_d00df 1 := ⟨List.forall_mem_cons.mpr ⟨xw133, List.forall_mem_cons.mpr ⟨xw134, List.forall_mem_cons.mpr ⟨xw55, fun _ h => absurd h List.not_mem_nil⟩⟩⟩, xw135, rfl, ⟨⟨by decide +kernel, by decide +kernel, by decide +kernel⟩, by decide, by decide⟩⟩
theorem xc_Jxc12de_init_da8c8_1 : xLI k_Jxc12de_init_da8c8 k_Jxa1e45_init_da8c8 1 yJxa1e45_init_da8c8 0 := ⟨List.forall_mem_cons.mpr ⟨xw99, List.forall_mem_cons.mpr ⟨xw100, List.forall_mem_cons.mpr ⟨xw51, fun _ h => absurd h List.not_mem_nil⟩⟩⟩, xw101, rfl, ⟨⟨by decide +kernel, by decide +kernel, by decide +kernel⟩, by decide, by decide⟩⟩
theorem xp_Jxc12de_7 : xFP RJxc12de 7 10 0 .int false := ⟨RJx4a65c, TJx4a65c, 3, "java/util/AbstractList", tyJx4a65c, rfl, xin10, by decide, xw107, Or.inl rfl, tyJx4a65c_ok, nmJx4a65c, rfl, by decide +kernel, fun h => nomatch h⟩
theorem xc_Jx4a65c_init_da8c8_1 : xLI k_Jx4a65c_init_da8c8 k_Jxc12de_init_da8c8 1 yJxc12de_init_da8c8 0 := ⟨List.forall_mem_cons.mpr ⟨xw96, List.forall_mem_cons.mpr ⟨xw97, List.forall_mem_cons.mpr ⟨xw52, fun _ h => absurd h List.not_mem_nil⟩⟩⟩, xw98, rfl, ⟨⟨by decide +kernel, by decide +kernel, by decide +kernel⟩, by decide, by decide⟩⟩
theorem xp_Jx4a65c_9 : xFP RJx4a65c 9 10 1 (.array (.object "java/lang/Object")) false := ⟨RJx4a65c, TJx4a65c, 3, "java/util/ArrayList", tyJx4a65c, rfl, xin10, by decide, xw105, Or.inl rfl, tyJx4a65c_ok, nmJx4a65c, rfl, by decide +kernel, fun h => nomatch h⟩
theorem xn_X7_7 : xNL RX7 7 10 [.int 0, .null, .int 0] := ⟨RJx4a65c, TJx4a65c, 3, tyJx4a65c, rfl, xin10, xw91, xw92, xw53, tyJx4a65c_ok, by decide +kernel, rfl⟩
theorem xc_X7_init_9 : xLI k_X7_init k_Jx4a65c_init_da8c8 9 yJx4a65c_init_da8c8 0 := ⟨List.forall_mem_cons.mpr ⟨xw93, List.forall_mem_cons.mpr ⟨xw94, List.forall_mem_cons.mpr ⟨xw53, fun _ h => absurd h List.not_mem_nil⟩⟩⟩, xw95, rfl, ⟨⟨by decide +kernel, by decide +kernel, by decide +kernel⟩, by decide, by decide⟩⟩
theorem xp_X7_10 : xFP RX7 10 7 0 (.object "java/util/ArrayList") true := ⟨RX7, TX7, 10, "RentStream", tyX7, rfl, xin7, by decide, xw187, Or.inl rfl, tyX7_ok, nmX7, rfl, by decide +kernel, fun _ => rfl⟩
theorem xp_X7_16 : xFP RX7 16 7 1 (.object "java/util/ArrayList") true := ⟨RX7, TX7, 10, "RentStream", tyX7, rfl, xin7, by decide, xw188, Or.inl rfl, tyX7_ok, nmX7, rfl, by decide +kernel, fun _ => rfl⟩
theorem xp_X7_19 : xFP RX7 19 7 2 (.object "java/util/ArrayList") true := ⟨RX7, TX7, 10, "RentStream", tyX7, rfl, xin7, by decide, xw189, Or.inl rfl, tyX7_ok, nmX7, rfl, by decide +kernel, fun _ => rfl⟩
theorem xn_X7_22 : xNL RX7 22 4 [.null] := ⟨RX4, TX4, 1, tyX4, rfl, xin4, xw117, xw118, xw54, tyX4_ok, by decide +kernel, rfl⟩
theorem xc_X7_init_24 : xLI k_X7_init k_X4_init 24 yX4_init 1 := ⟨List.forall_mem_cons.mpr ⟨xw119, List.forall_mem_cons.mpr ⟨xw120, List.forall_mem_cons.mpr ⟨xw54, fun _ h => absurd h List.not_mem_nil⟩⟩⟩, xw121, rfl, ⟨⟨by decide +kernel, by decide +kernel, by decide +kernel⟩, by decide, by decide⟩⟩
theorem xp_X7_27 : xFP RX7 27 7 3 (.object "RentStream$Months") true := ⟨RX7, TX7, 10, "RentStream", tyX7, rfl, xin7, by decide, xw190, Or.inl rfl, tyX7_ok, nmX7, rfl, by decide +kernel, fun _ => rfl⟩
theorem xp_X7_31 : xFP RX7 31 7 4 (.object "RentStream$Months") true := ⟨RX7, TX7, 10, "RentStream", tyX7, rfl, xin7, by decide, xw191, Or.inl rfl, tyX7_ok, nmX7, rfl, by decide +kernel, fun _ => rfl⟩
theorem xn_X7_34 : xNL RX7 34 9 [.null, .int 0, .int 0, .int 0] := ⟨RJ4, TJ4, 4, tyJ4, rfl, xin9, xw128, xw129, xw56, tyJ4_ok, by decide +kernel, rfl⟩
theorem xc_X7_init_36 : xLI k_X7_init k_J4_init_da8c8 36 yJ4_init_da8c8 0 := ⟨List.forall_mem_cons.mpr ⟨xw130, List.forall_mem_cons.mpr ⟨xw131, List.forall_mem_cons.mpr ⟨xw56, fun _ h => absurd h List.not_mem_nil⟩⟩⟩, xw132, rfl, ⟨⟨by decide +kernel, by decide +kernel, by decide +kernel⟩, by decide, by decide⟩⟩
theorem xp_X7_37 : xFP RX7 37 7 5 (.object "java/lang/StringBuilder") true := ⟨RX7, TX7, 10, "RentStream", tyX7, rfl, xin7, by decide, xw192, Or.inl rfl, tyX7_ok, nmX7, rfl, by decide +kernel, fun _ => rfl⟩
theorem xn_X7_41 : xNL RX7 41 0 [.int 0, .int 0, .int 0, .int 0] := ⟨RX0, TX0, 4, tyX0, rfl, xin0, xw161, xw162, xw59, tyX0_ok, by decide +kernel, rfl⟩
theorem xc_X7_init_43 : xLIN k_X7_init k_X0_init 43 yX0_init 0 := ⟨List.mem_of_getElem? (i := 0) rfl, List.forall_mem_cons.mpr ⟨xw164, List.forall_mem_cons.mpr ⟨xw59, fun _ h => absurd h List.not_mem_nil⟩⟩, xw165, rfl, ⟨⟨by decide +kernel, by decide +kernel, by decide +kernel⟩, by decide, by decide⟩⟩
theorem xp_X7_44 : xFP RX7 44 7 6 (.object "RentStream$Bill") true := ⟨RX7, TX7, 10, "RentStream", tyX7, rfl, xin7, by decide, xw193, Or.inl rfl, tyX7_ok, nmX7, rfl, by decide +kernel, fun _ => rfl⟩
theorem xp_X7_48 : xFP RX7 48 7 7 .int false := ⟨RX7, TX7, 10, "RentStream", tyX7, rfl, xin7, by decide, xw194, Or.inl rfl, tyX7_ok, nmX7, rfl, by decide +kernel, fun h => nomatch h⟩
theorem xp_X7_52 : xFP RX7 52 7 8 .int false := ⟨RX7, TX7, 10, "RentStream", tyX7, rfl, xin7, by decide, xw195, Or.inl rfl, tyX7_ok, nmX7, rfl, by decide +kernel, fun h => nomatch h⟩
theorem xp_X7_55 : xFP RX7 55 7 9 .long false := ⟨RX7, TX7, 10, "RentStream", tyX7, rfl, xin7, by decide, xw196, Or.inl rfl, tyX7_ok, nmX7, rfl, by decide +kernel, fun h => nomatch h⟩
theorem xlm_X7_370 : xLM RX7 370 Lib.Math.min.name Lib.Math.min.code 2 .int := ⟨xw682, xw410, xw68, xw411⟩
theorem xlm_X7_372 : xLM RX7 372 Lib.Math.max.name Lib.Math.max.code 2 .int := ⟨xw683, xw373, xw68, xw374⟩
theorem xf_X7_223 : xFL RX7 223 3 6 := ⟨RX3, TX3, 11, "RentStream$Lease", rfl, xin3, by decide, xw531, Or.inl rfl⟩
theorem xp_X7_223 : xFP RX7 223 3 6 .long false := ⟨RX3, TX3, 11, "RentStream$Lease", tyX3, rfl, xin3, by decide, xw531, Or.inl rfl, tyX3_ok, nmX3, rfl, by decide +kernel, fun h => nomatch h⟩
theorem xf_X7_55 : xFL RX7 55 7 9 := ⟨RX7, TX7, 10, "RentStream", rfl, xin7, by decide, xw196, Or.inl rfl⟩
theorem xf_X3_20 : xFL RX3 20 3 2 := ⟨RX3, TX3, 11, "RentStream$Lease", rfl, xin3, by decide, xw522, Or.inl rfl⟩
theorem xc_X3_incomeIn_73 : xLV k_X3_incomeIn k_X4_in 73 RX4 yX4_in (some .int) 1 := ⟨List.forall_mem_cons.mpr ⟨xw678, List.forall_mem_cons.mpr ⟨xw582, List.forall_mem_cons.mpr ⟨xw583, List.forall_mem_cons.mpr ⟨xw54, fun _ h => absurd h List.not_mem_nil⟩⟩⟩⟩, xw584, ⟨⟨by decide +kernel, by decide +kernel, by decide +kernel⟩, by decide, by decide⟩⟩
theorem xf_X3_58 : xFL RX3 58 3 8 := ⟨RX3, TX3, 11, "RentStream$Lease", rfl, xin3, by decide, xw534, Or.inl rfl⟩
theorem xf_X7_27 : xFL RX7 27 7 3 := ⟨RX7, TX7, 10, "RentStream", rfl, xin7, by decide, xw190, Or.inl rfl⟩
theorem xc_X7_payAhead_114 : xLV k_X7_payAhead k_X4_in 114 RX4 yX4_in (some .int) 1 := ⟨List.forall_mem_cons.mpr ⟨xw581, List.forall_mem_cons.mpr ⟨xw582, List.forall_mem_cons.mpr ⟨xw583, List.forall_mem_cons.mpr ⟨xw54, fun _ h => absurd h List.not_mem_nil⟩⟩⟩⟩, xw584, ⟨⟨by decide +kernel, by decide +kernel, by decide +kernel⟩, by decide, by decide⟩⟩
theorem xc_X7_payAhead_298 : xLV k_X7_payAhead k_X3_rentAt 298 RX3 yX3_rentAt (some .int) 1 := ⟨List.forall_mem_cons.mpr ⟨xw810, List.forall_mem_cons.mpr ⟨xw811, List.forall_mem_cons.mpr ⟨xw812, List.forall_mem_cons.mpr ⟨xw74, fun _ h => absurd h List.not_mem_nil⟩⟩⟩⟩, xw813, ⟨⟨by decide +kernel, by decide +kernel, by decide +kernel⟩, by decide, by decide⟩⟩
theorem xc_X7_payAhead_301 : xLV k_X7_payAhead k_X3_incomeIn 301 RX3 yX3_incomeIn (some .int) 1 := ⟨List.forall_mem_cons.mpr ⟨xw821, List.forall_mem_cons.mpr ⟨xw675, List.forall_mem_cons.mpr ⟨xw676, List.forall_mem_cons.mpr ⟨xw74, fun _ h => absurd h List.not_mem_nil⟩⟩⟩⟩, xw677, ⟨⟨by decide +kernel, by decide +kernel, by decide +kernel⟩, by decide, by decide⟩⟩
theorem xc_X7_payAhead_304 : xLS k_X7_payAhead k_X7_benefitFor 304 yX7_benefitFor (some .int) 2 := ⟨List.forall_mem_cons.mpr ⟨xw822, List.forall_mem_cons.mpr ⟨xw680, List.forall_mem_cons.mpr ⟨xw50, fun _ h => absurd h List.not_mem_nil⟩⟩⟩, xw681, ⟨⟨by decide +kernel, by decide +kernel, by decide +kernel⟩, by decide, by decide⟩⟩
theorem xc_X7_payAhead_176 : xLV k_X7_payAhead k_X7_postToDesk 176 RX7 yX7_postToDesk none 2 := ⟨List.forall_mem_cons.mpr ⟨xw688, List.forall_mem_cons.mpr ⟨xw690, List.forall_mem_cons.mpr ⟨xw14, List.forall_mem_cons.mpr ⟨xw50, fun _ h => absurd h List.not_mem_nil⟩⟩⟩⟩, xw691, ⟨⟨by decide +kernel, by decide +kernel, by decide +kernel⟩, by decide, by decide⟩⟩
theorem xf_X3_61 : xFL RX3 61 3 9 := ⟨RX3, TX3, 11, "RentStream$Lease", rfl, xin3, by decide, xw535, Or.inl rfl⟩
theorem xf_X3_9 : xFL RX3 9 3 1 := ⟨RX3, TX3, 11, "RentStream$Lease", rfl, xin3, by decide, xw520, Or.inl rfl⟩
theorem xf_Jx4a65c_9 : xFL RJx4a65c 9 10 1 := ⟨RJx4a65c, TJx4a65c, 3, "java/util/ArrayList", rfl, xin10, by decide, xw105, Or.inl rfl⟩
theorem xc_J15_checkIndex_7cf53_105 : xLS k_J15_checkIndex_7cf53 k_J3_checkIndex_8e157 105 yJ3_checkIndex_8e157 (some .int) 3 := ⟨List.forall_mem_cons.mpr ⟨xw452, List.forall_mem_cons.mpr ⟨xw453, List.forall_mem_cons.mpr ⟨xw73, fun _ h => absurd h List.not_mem_nil⟩⟩⟩, xw454, ⟨⟨by decide +kernel, by decide +kernel, by decide +kernel⟩, by decide, by decide⟩⟩
theorem xf_Jx4a65c_48 : xFL RJx4a65c 48 10 2 := ⟨RJx4a65c, TJx4a65c, 3, "java/util/ArrayList", rfl, xin10, by decide, xw106, Or.inl rfl⟩
theorem xc_Jx4a65c_get_915e3_118 : xLS k_Jx4a65c_get_915e3 k_J15_checkIndex_7cf53 118 yJ15_checkIndex_7cf53 (some .int) 2 := ⟨List.forall_mem_cons.mpr ⟨xw449, List.forall_mem_cons.mpr ⟨xw450, List.forall_mem_cons.mpr ⟨xw72, fun _ h => absurd h List.not_mem_nil⟩⟩⟩, xw451, ⟨⟨by decide +kernel, by decide +kernel, by decide +kernel⟩, by decide, by decide⟩⟩
theorem xc_Jx4a65c_get_915e3_123 : xLV k_Jx4a65c_get_915e3 k_Jx4a65c_elementData_915e3 123 RJx4a65c yJx4a65c_elementData_915e3 (some (.object "java/lang/Object")) 1 := ⟨List.forall_mem_cons.mpr ⟨xw455, List.forall_mem_cons.mpr ⟨xw456, List.forall_mem_cons.mpr ⟨xw457, List.forall_mem_cons.mpr ⟨xw53, fun _ h => absurd h List.not_mem_nil⟩⟩⟩⟩, xw458, ⟨⟨by decide +kernel, by decide +kernel, by decide +kernel⟩, by decide, by decide⟩⟩
theorem xf_X7_16 : xFL RX7 16 7 1 := ⟨RX7, TX7, 10, "RentStream", rfl, xin7, by decide, xw188, Or.inl rfl⟩
theorem xc_X7_beginMonth_66 : xLV k_X7_beginMonth k_Jx4a65c_size_8abf5 66 RJx4a65c yJx4a65c_size_8abf5 (some .int) 0 := ⟨List.forall_mem_cons.mpr ⟨xw300, List.forall_mem_cons.mpr ⟨xw301, List.forall_mem_cons.mpr ⟨xw302, List.forall_mem_cons.mpr ⟨xw53, fun _ h => absurd h List.not_mem_nil⟩⟩⟩⟩, xw303, ⟨⟨by decide +kernel, by decide +kernel, by decide +kernel⟩, by decide, by decide⟩⟩
theorem xc_X7_beginMonth_149 : xLV k_X7_beginMonth k_Jx4a65c_get_915e3 149 RJx4a65c yJx4a65c_get_915e3 (some (.object "java/lang/Object")) 1 := ⟨List.forall_mem_cons.mpr ⟨xw445, List.forall_mem_cons.mpr ⟨xw446, List.forall_mem_cons.mpr ⟨xw447, List.forall_mem_cons.mpr ⟨xw53, fun _ h => absurd h List.not_mem_nil⟩⟩⟩⟩, xw448, ⟨⟨by decide +kernel, by decide +kernel, by decide +kernel⟩, by decide, by decide⟩⟩
theorem xc_X7_beginMonth_209 : xLV k_X7_beginMonth k_X3_runsIn 209 RX3 yX3_runsIn (some .boolean) 1 := ⟨List.forall_mem_cons.mpr ⟨xw770, List.forall_mem_cons.mpr ⟨xw767, List.forall_mem_cons.mpr ⟨xw768, List.forall_mem_cons.mpr ⟨xw74, fun _ h => absurd h List.not_mem_nil⟩⟩⟩⟩, xw769, ⟨⟨by decide +kernel, by decide +kernel, by decide +kernel⟩, by decide, by decide⟩⟩
theorem xc_X7_beginMonth_295 : xLV k_X7_beginMonth k_X7_payAhead 295 RX7 yX7_payAhead none 2 := ⟨List.forall_mem_cons.mpr ⟨xw835, List.forall_mem_cons.mpr ⟨xw837, List.forall_mem_cons.mpr ⟨xw27, List.forall_mem_cons.mpr ⟨xw50, fun _ h => absurd h List.not_mem_nil⟩⟩⟩⟩, xw838, ⟨⟨by decide +kernel, by decide +kernel, by decide +kernel⟩, by decide, by decide⟩⟩
theorem xf_X7_48 : xFL RX7 48 7 7 := ⟨RX7, TX7, 10, "RentStream", rfl, xin7, by decide, xw194, Or.inl rfl⟩
theorem xc_X7_beginMonth_133 : xLV k_X7_beginMonth k_X4_put 133 RX4 yX4_put none 2 := ⟨List.forall_mem_cons.mpr ⟨xw608, List.forall_mem_cons.mpr ⟨xw609, List.forall_mem_cons.mpr ⟨xw610, List.forall_mem_cons.mpr ⟨xw54, fun _ h => absurd h List.not_mem_nil⟩⟩⟩⟩, xw611, ⟨⟨by decide +kernel, by decide +kernel, by decide +kernel⟩, by decide, by decide⟩⟩
theorem xtw_144 : xTW RX7 144 148 "java/lang/IndexOutOfBoundsException" ["java/lang/RuntimeException", "java/lang/Exception"] := ⟨by decide +kernel, by decide +kernel, xw429, xw71, by decide +kernel, by decide +kernel, by decide +kernel⟩
theorem xc_X7_leaseAt_66 : xLV k_X7_leaseAt k_Jx4a65c_size_8abf5 66 RJx4a65c yJx4a65c_size_8abf5 (some .int) 0 := ⟨List.forall_mem_cons.mpr ⟨xw300, List.forall_mem_cons.mpr ⟨xw301, List.forall_mem_cons.mpr ⟨xw302, List.forall_mem_cons.mpr ⟨xw53, fun _ h => absurd h List.not_mem_nil⟩⟩⟩⟩, xw303, ⟨⟨by decide +kernel, by decide +kernel, by decide +kernel⟩, by decide, by decide⟩⟩
theorem xc_X7_leaseAt_149 : xLV k_X7_leaseAt k_Jx4a65c_get_915e3 149 RJx4a65c yJx4a65c_get_915e3 (some (.object "java/lang/Object")) 1 := ⟨List.forall_mem_cons.mpr ⟨xw445, List.forall_mem_cons.mpr ⟨xw446, List.forall_mem_cons.mpr ⟨xw447, List.forall_mem_cons.mpr ⟨xw53, fun _ h => absurd h List.not_mem_nil⟩⟩⟩⟩, xw448, ⟨⟨by decide +kernel, by decide +kernel, by decide +kernel⟩, by decide, by decide⟩⟩
theorem xf_X7_52 : xFL RX7 52 7 8 := ⟨RX7, TX7, 10, "RentStream", rfl, xin7, by decide, xw195, Or.inl rfl⟩
theorem xc_X7_needMonth_97 : xLV k_X7_needMonth k_X7_monthNow 97 RX7 yX7_monthNow (some .int) 0 := ⟨List.forall_mem_cons.mpr ⟨xw468, List.forall_mem_cons.mpr ⟨xw470, List.forall_mem_cons.mpr ⟨xw10, List.forall_mem_cons.mpr ⟨xw50, fun _ h => absurd h List.not_mem_nil⟩⟩⟩⟩, xw471, ⟨⟨by decide +kernel, by decide +kernel, by decide +kernel⟩, by decide, by decide⟩⟩
theorem xf_X0_21 : xFL RX0 21 0 3 := ⟨RX0, TX0, 4, "RentStream$Bill", rfl, xin0, by decide, xw176, Or.inl rfl⟩
theorem xf_X0_9 : xFL RX0 9 0 0 := ⟨RX0, TX0, 4, "RentStream$Bill", rfl, xin0, by decide, xw167, Or.inl rfl⟩
theorem xf_X0_15 : xFL RX0 15 0 1 := ⟨RX0, TX0, 4, "RentStream$Bill", rfl, xin0, by decide, xw170, Or.inl rfl⟩
theorem xf_X0_18 : xFL RX0 18 0 2 := ⟨RX0, TX0, 4, "RentStream$Bill", rfl, xin0, by decide, xw173, Or.inl rfl⟩
theorem xf_X3_50 : xFL RX3 50 3 10 := ⟨RX3, TX3, 11, "RentStream$Lease", rfl, xin3, by decide, xw536, Or.inl rfl⟩
theorem xc_X7_bill_103 : xLV k_X7_bill k_X7_leaseAt 103 RX7 yX7_leaseAt (some (.object "RentStream$Lease")) 1 := ⟨List.forall_mem_cons.mpr ⟨xw567, List.forall_mem_cons.mpr ⟨xw569, List.forall_mem_cons.mpr ⟨xw11, List.forall_mem_cons.mpr ⟨xw50, fun _ h => absurd h List.not_mem_nil⟩⟩⟩⟩, xw570, ⟨⟨by decide +kernel, by decide +kernel, by decide +kernel⟩, by decide, by decide⟩⟩
theorem xc_X7_bill_162 : xLV k_X7_bill k_X7_needMonth 162 RX7 yX7_needMonth none 1 := ⟨List.forall_mem_cons.mpr ⟨xw661, List.forall_mem_cons.mpr ⟨xw663, List.forall_mem_cons.mpr ⟨xw12, List.forall_mem_cons.mpr ⟨xw50, fun _ h => absurd h List.not_mem_nil⟩⟩⟩⟩, xw664, ⟨⟨by decide +kernel, by decide +kernel, by decide +kernel⟩, by decide, by decide⟩⟩
theorem xtw_59 : xTW RX7 59 63 "java/lang/IllegalArgumentException" ["java/lang/RuntimeException", "java/lang/Exception"] := ⟨by decide +kernel, by decide +kernel, xw231, xw64, by decide +kernel, by decide +kernel, by decide +kernel⟩
theorem xc_X7_bill_228 : xLV k_X7_bill k_X3_billOf 228 RX3 yX3_billOf (some (.object "RentStream$Bill")) 1 := ⟨List.forall_mem_cons.mpr ⟨xw868, List.forall_mem_cons.mpr ⟨xw671, List.forall_mem_cons.mpr ⟨xw672, List.forall_mem_cons.mpr ⟨xw74, fun _ h => absurd h List.not_mem_nil⟩⟩⟩⟩, xw673, ⟨⟨by decide +kernel, by decide +kernel, by decide +kernel⟩, by decide, by decide⟩⟩
theorem xc_X7_bill_234 : xLV k_X7_bill k_X0_amount 234 RX0 yX0_amount (some .int) 1 := ⟨List.forall_mem_cons.mpr ⟨xw870, List.forall_mem_cons.mpr ⟨xw871, List.forall_mem_cons.mpr ⟨xw872, List.forall_mem_cons.mpr ⟨xw59, fun _ h => absurd h List.not_mem_nil⟩⟩⟩⟩, xw873, ⟨⟨by decide +kernel, by decide +kernel, by decide +kernel⟩, by decide, by decide⟩⟩
theorem xc_X7_desk_103 : xLV k_X7_desk k_X7_leaseAt 103 RX7 yX7_leaseAt (some (.object "RentStream$Lease")) 1 := ⟨List.forall_mem_cons.mpr ⟨xw567, List.forall_mem_cons.mpr ⟨xw569, List.forall_mem_cons.mpr ⟨xw11, List.forall_mem_cons.mpr ⟨xw50, fun _ h => absurd h List.not_mem_nil⟩⟩⟩⟩, xw570, ⟨⟨by decide +kernel, by decide +kernel, by decide +kernel⟩, by decide, by decide⟩⟩
theorem xc_X7_end_103 : xLV k_X7_end k_X7_leaseAt 103 RX7 yX7_leaseAt (some (.object "RentStream$Lease")) 1 := ⟨List.forall_mem_cons.mpr ⟨xw567, List.forall_mem_cons.mpr ⟨xw569, List.forall_mem_cons.mpr ⟨xw11, List.forall_mem_cons.mpr ⟨xw50, fun _ h => absurd h List.not_mem_nil⟩⟩⟩⟩, xw570, ⟨⟨by decide +kernel, by decide +kernel, by decide +kernel⟩, by decide, by decide⟩⟩
theorem xf_X7_107 : xFL RX7 107 3 1 := ⟨RX3, TX3, 11, "RentStream$Lease", rfl, xin3, by decide, xw521, Or.inl rfl⟩
theorem xc_X7_end_97 : xLV k_X7_end k_X7_monthNow 97 RX7 yX7_monthNow (some .int) 0 := ⟨List.forall_mem_cons.mpr ⟨xw468, List.forall_mem_cons.mpr ⟨xw470, List.forall_mem_cons.mpr ⟨xw10, List.forall_mem_cons.mpr ⟨xw50, fun _ h => absurd h List.not_mem_nil⟩⟩⟩⟩, xw471, ⟨⟨by decide +kernel, by decide +kernel, by decide +kernel⟩, by decide, by decide⟩⟩
theorem xp_X7_107 : xFP RX7 107 3 1 .int false := ⟨RX3, TX3, 11, "RentStream$Lease", tyX3, rfl, xin3, by decide, xw521, Or.inl rfl, tyX3_ok, nmX3, rfl, by decide +kernel, fun h => nomatch h⟩
theorem xtw_70 : xTW RX7 70 74 "java/lang/IllegalStateException" ["java/lang/RuntimeException", "java/lang/Exception"] := ⟨by decide +kernel, by decide +kernel, xw304, xw65, by decide +kernel, by decide +kernel, by decide +kernel⟩
theorem xf_X7_182 : xFL RX7 182 3 5 := ⟨RX3, TX3, 11, "RentStream$Lease", rfl, xin3, by decide, xw529, Or.inl rfl⟩
theorem xp_X7_182 : xFP RX7 182 3 5 .long false := ⟨RX3, TX3, 11, "RentStream$Lease", tyX3, rfl, xin3, by decide, xw529, Or.inl rfl, tyX3_ok, nmX3, rfl, by decide +kernel, fun h => nomatch h⟩
theorem xlm_X7_364 : xLM RX7 364 Lib.MathLoose.min_long.x Lib.MathLoose.min_long.code 4 .long := ⟨xw818, xw819, xw68, xw820⟩
theorem xc_X7_settle_114 : xLV k_X7_settle k_X4_in 114 RX4 yX4_in (some .int) 1 := ⟨List.forall_mem_cons.mpr ⟨xw581, List.forall_mem_cons.mpr ⟨xw582, List.forall_mem_cons.mpr ⟨xw583, List.forall_mem_cons.mpr ⟨xw54, fun _ h => absurd h List.not_mem_nil⟩⟩⟩⟩, xw584, ⟨⟨by decide +kernel, by decide +kernel, by decide +kernel⟩, by decide, by decide⟩⟩
theorem xc_X7_settle_298 : xLV k_X7_settle k_X3_rentAt 298 RX3 yX3_rentAt (some .int) 1 := ⟨List.forall_mem_cons.mpr ⟨xw810, List.forall_mem_cons.mpr ⟨xw811, List.forall_mem_cons.mpr ⟨xw812, List.forall_mem_cons.mpr ⟨xw74, fun _ h => absurd h List.not_mem_nil⟩⟩⟩⟩, xw813, ⟨⟨by decide +kernel, by decide +kernel, by decide +kernel⟩, by decide, by decide⟩⟩
theorem xp_X7_350 : xFP RX7 350 0 0 .int false := ⟨RX0, TX0, 4, "RentStream$Bill", tyX0, rfl, xin0, by decide, xw169, Or.inl rfl, tyX0_ok, nmX0, rfl, by decide +kernel, fun h => nomatch h⟩
theorem xf_X7_350 : xFL RX7 350 0 0 := ⟨RX0, TX0, 4, "RentStream$Bill", rfl, xin0, by decide, xw169, Or.inl rfl⟩
theorem xf_X7_265 : xFL RX7 265 3 0 := ⟨RX3, TX3, 11, "RentStream$Lease", rfl, xin3, by decide, xw519, Or.inl rfl⟩
theorem xf_X7_256 : xFL RX7 256 1 2 := ⟨RX1, TX1, 6, "RentStream$Flat", rfl, xin1, by decide, xw335, Or.inl rfl⟩
theorem xc_X7_settle_353 : xLS k_X7_settle k_X7_loweredBy 353 yX7_loweredBy (some .int) 2 := ⟨List.forall_mem_cons.mpr ⟨xw814, List.forall_mem_cons.mpr ⟨xw815, List.forall_mem_cons.mpr ⟨xw50, fun _ h => absurd h List.not_mem_nil⟩⟩⟩, xw816, ⟨⟨by decide +kernel, by decide +kernel, by decide +kernel⟩, by decide, by decide⟩⟩
theorem xp_X7_356 : xFP RX7 356 0 1 .int false := ⟨RX0, TX0, 4, "RentStream$Bill", tyX0, rfl, xin0, by decide, xw172, Or.inl rfl, tyX0_ok, nmX0, rfl, by decide +kernel, fun h => nomatch h⟩
theorem xf_X7_356 : xFL RX7 356 0 1 := ⟨RX0, TX0, 4, "RentStream$Bill", rfl, xin0, by decide, xw172, Or.inl rfl⟩
theorem xc_X7_settle_301 : xLV k_X7_settle k_X3_incomeIn 301 RX3 yX3_incomeIn (some .int) 1 := ⟨List.forall_mem_cons.mpr ⟨xw821, List.forall_mem_cons.mpr ⟨xw675, List.forall_mem_cons.mpr ⟨xw676, List.forall_mem_cons.mpr ⟨xw74, fun _ h => absurd h List.not_mem_nil⟩⟩⟩⟩, xw677, ⟨⟨by decide +kernel, by decide +kernel, by decide +kernel⟩, by decide, by decide⟩⟩
theorem xc_X7_settle_304 : xLS k_X7_settle k_X7_benefitFor 304 yX7_benefitFor (some .int) 2 := ⟨List.forall_mem_cons.mpr ⟨xw822, List.forall_mem_cons.mpr ⟨xw680, List.forall_mem_cons.mpr ⟨xw50, fun _ h => absurd h List.not_mem_nil⟩⟩⟩, xw681, ⟨⟨by decide +kernel, by decide +kernel, by decide +kernel⟩, by decide, by decide⟩⟩
theorem xp_X7_292 : xFP RX7 292 0 2 .int false := ⟨RX0, TX0, 4, "RentStream$Bill", tyX0, rfl, xin0, by decide, xw175, Or.inl rfl, tyX0_ok, nmX0, rfl, by decide +kernel, fun h => nomatch h⟩
theorem xf_X7_311 : xFL RX7 311 3 4 := ⟨RX3, TX3, 11, "RentStream$Lease", rfl, xin3, by decide, xw527, Or.inl rfl⟩
theorem xf_X7_315 : xFL RX7 315 2 0 := ⟨RX2, TX2, 3, "RentStream$HeatShare", rfl, xin2, by decide, xw505, Or.inl rfl⟩
theorem xp_X7_359 : xFP RX7 359 0 3 .int false := ⟨RX0, TX0, 4, "RentStream$Bill", tyX0, rfl, xin0, by decide, xw177, Or.inl rfl, tyX0_ok, nmX0, rfl, by decide +kernel, fun h => nomatch h⟩
theorem xc_X7_makeBill_43 : xLIN k_X7_makeBill k_X0_init 43 yX0_init 0 := ⟨List.mem_of_getElem? (i := 0) rfl, List.forall_mem_cons.mpr ⟨xw164, List.forall_mem_cons.mpr ⟨xw59, fun _ h => absurd h List.not_mem_nil⟩⟩, xw165, rfl, ⟨⟨by decide +kernel, by decide +kernel, by decide +kernel⟩, by decide, by decide⟩⟩
theorem xc_X7_makeBill_216 : xLV k_X7_makeBill k_X7_settle 216 RX7 yX7_settle none 3 := ⟨List.forall_mem_cons.mpr ⟨xw806, List.forall_mem_cons.mpr ⟨xw808, List.forall_mem_cons.mpr ⟨xw25, List.forall_mem_cons.mpr ⟨xw50, fun _ h => absurd h List.not_mem_nil⟩⟩⟩⟩, xw809, ⟨⟨by decide +kernel, by decide +kernel, by decide +kernel⟩, by decide, by decide⟩⟩
theorem xc_X7_makeBill_288 : xLV k_X7_makeBill k_X3_putBill 288 RX3 yX3_putBill none 2 := ⟨List.forall_mem_cons.mpr ⟨xw823, List.forall_mem_cons.mpr ⟨xw824, List.forall_mem_cons.mpr ⟨xw825, List.forall_mem_cons.mpr ⟨xw74, fun _ h => absurd h List.not_mem_nil⟩⟩⟩⟩, xw826, ⟨⟨by decide +kernel, by decide +kernel, by decide +kernel⟩, by decide, by decide⟩⟩
theorem xc_X7_makeBill_220 : xLV k_X7_makeBill k_X0_ofTenant 220 RX0 yX0_ofTenant (some .int) 0 := ⟨List.forall_mem_cons.mpr ⟨xw827, List.forall_mem_cons.mpr ⟨xw828, List.forall_mem_cons.mpr ⟨xw829, List.forall_mem_cons.mpr ⟨xw59, fun _ h => absurd h List.not_mem_nil⟩⟩⟩⟩, xw830, ⟨⟨by decide +kernel, by decide +kernel, by decide +kernel⟩, by decide, by decide⟩⟩
theorem xc_X7_makeBill_172 : xLV k_X7_makeBill k_X7_postToTenant 172 RX7 yX7_postToTenant none 2 := ⟨List.forall_mem_cons.mpr ⟨xw684, List.forall_mem_cons.mpr ⟨xw686, List.forall_mem_cons.mpr ⟨xw13, List.forall_mem_cons.mpr ⟨xw50, fun _ h => absurd h List.not_mem_nil⟩⟩⟩⟩, xw687, ⟨⟨by decide +kernel, by decide +kernel, by decide +kernel⟩, by decide, by decide⟩⟩
theorem xf_X7_292 : xFL RX7 292 0 2 := ⟨RX0, TX0, 4, "RentStream$Bill", rfl, xin0, by decide, xw175, Or.inl rfl⟩
theorem xc_X7_makeBill_176 : xLV k_X7_makeBill k_X7_postToDesk 176 RX7 yX7_postToDesk none 2 := ⟨List.forall_mem_cons.mpr ⟨xw688, List.forall_mem_cons.mpr ⟨xw690, List.forall_mem_cons.mpr ⟨xw14, List.forall_mem_cons.mpr ⟨xw50, fun _ h => absurd h List.not_mem_nil⟩⟩⟩⟩, xw691, ⟨⟨by decide +kernel, by decide +kernel, by decide +kernel⟩, by decide, by decide⟩⟩
theorem xf_X2_16 : xFL RX2 16 2 2 := ⟨RX2, TX2, 3, "RentStream$HeatShare", rfl, xin2, by decide, xw508, Or.inl rfl⟩
theorem xf_X2_7 : xFL RX2 7 2 0 := ⟨RX2, TX2, 3, "RentStream$HeatShare", rfl, xin2, by decide, xw504, Or.inl rfl⟩
theorem xp_X2_7 : xFP RX2 7 2 0 .int false := ⟨RX2, TX2, 3, "RentStream$HeatShare", tyX2, rfl, xin2, by decide, xw504, Or.inl rfl, tyX2_ok, nmX2, rfl, by decide +kernel, fun h => nomatch h⟩
theorem xp_X2_16 : xFP RX2 16 2 2 .long false := ⟨RX2, TX2, 3, "RentStream$HeatShare", tyX2, rfl, xin2, by decide, xw508, Or.inl rfl, tyX2_ok, nmX2, rfl, by decide +kernel, fun h => nomatch h⟩
theorem xc_X7_giveOneMore_66 : xLV k_X7_giveOneMore k_Jx4a65c_size_8abf5 66 RJx4a65c yJx4a65c_size_8abf5 (some .int) 0 := ⟨List.forall_mem_cons.mpr ⟨xw300, List.forall_mem_cons.mpr ⟨xw301, List.forall_mem_cons.mpr ⟨xw302, List.forall_mem_cons.mpr ⟨xw53, fun _ h => absurd h List.not_mem_nil⟩⟩⟩⟩, xw303, ⟨⟨by decide +kernel, by decide +kernel, by decide +kernel⟩, by decide, by decide⟩⟩
theorem xc_X7_giveOneMore_347 : xLV k_X7_giveOneMore k_X2_takeOneMore 347 RX2 yX2_takeOneMore none 0 := ⟨List.forall_mem_cons.mpr ⟨xw791, List.forall_mem_cons.mpr ⟨xw792, List.forall_mem_cons.mpr ⟨xw793, List.forall_mem_cons.mpr ⟨xw76, fun _ h => absurd h List.not_mem_nil⟩⟩⟩⟩, xw794, ⟨⟨by decide +kernel, by decide +kernel, by decide +kernel⟩, by decide, by decide⟩⟩
theorem xc_X7_giveOneMore_149 : xLV k_X7_giveOneMore k_Jx4a65c_get_915e3 149 RJx4a65c yJx4a65c_get_915e3 (some (.object "java/lang/Object")) 1 := ⟨List.forall_mem_cons.mpr ⟨xw445, List.forall_mem_cons.mpr ⟨xw446, List.forall_mem_cons.mpr ⟨xw447, List.forall_mem_cons.mpr ⟨xw53, fun _ h => absurd h List.not_mem_nil⟩⟩⟩⟩, xw448, ⟨⟨by decide +kernel, by decide +kernel, by decide +kernel⟩, by decide, by decide⟩⟩
theorem xc_X7_giveOneMore_343 : xLV k_X7_giveOneMore k_X2_isAheadOf 343 RX2 yX2_isAheadOf (some .boolean) 1 := ⟨List.forall_mem_cons.mpr ⟨xw787, List.forall_mem_cons.mpr ⟨xw788, List.forall_mem_cons.mpr ⟨xw789, List.forall_mem_cons.mpr ⟨xw76, fun _ h => absurd h List.not_mem_nil⟩⟩⟩⟩, xw790, ⟨⟨by decide +kernel, by decide +kernel, by decide +kernel⟩, by decide, by decide⟩⟩
theorem xc_X7_giveOneMore_339 : xLV k_X7_giveOneMore k_Jx4a65c_isEmpty_aae02 339 RJx4a65c yJx4a65c_isEmpty_aae02 (some .boolean) 0 := ⟨List.forall_mem_cons.mpr ⟨xw783, List.forall_mem_cons.mpr ⟨xw784, List.forall_mem_cons.mpr ⟨xw785, List.forall_mem_cons.mpr ⟨xw53, fun _ h => absurd h List.not_mem_nil⟩⟩⟩⟩, xw786, ⟨⟨by decide +kernel, by decide +kernel, by decide +kernel⟩, by decide, by decide⟩⟩
theorem xf_X2_13 : xFL RX2 13 2 1 := ⟨RX2, TX2, 3, "RentStream$HeatShare", rfl, xin2, by decide, xw506, Or.inl rfl⟩
theorem xc_X7_shareByWeights_336 : xLV k_X7_shareByWeights k_X7_giveOneMore 336 RX7 yX7_giveOneMore none 0 := ⟨List.forall_mem_cons.mpr ⟨xw779, List.forall_mem_cons.mpr ⟨xw781, List.forall_mem_cons.mpr ⟨xw23, List.forall_mem_cons.mpr ⟨xw50, fun _ h => absurd h List.not_mem_nil⟩⟩⟩⟩, xw782, ⟨⟨by decide +kernel, by decide +kernel, by decide +kernel⟩, by decide, by decide⟩⟩
theorem xc_X7_shareByWeights_66 : xLV k_X7_shareByWeights k_Jx4a65c_size_8abf5 66 RJx4a65c yJx4a65c_size_8abf5 (some .int) 0 := ⟨List.forall_mem_cons.mpr ⟨xw300, List.forall_mem_cons.mpr ⟨xw301, List.forall_mem_cons.mpr ⟨xw302, List.forall_mem_cons.mpr ⟨xw53, fun _ h => absurd h List.not_mem_nil⟩⟩⟩⟩, xw303, ⟨⟨by decide +kernel, by decide +kernel, by decide +kernel⟩, by decide, by decide⟩⟩
theorem xc_X7_shareByWeights_149 : xLV k_X7_shareByWeights k_Jx4a65c_get_915e3 149 RJx4a65c yJx4a65c_get_915e3 (some (.object "java/lang/Object")) 1 := ⟨List.forall_mem_cons.mpr ⟨xw445, List.forall_mem_cons.mpr ⟨xw446, List.forall_mem_cons.mpr ⟨xw447, List.forall_mem_cons.mpr ⟨xw53, fun _ h => absurd h List.not_mem_nil⟩⟩⟩⟩, xw448, ⟨⟨by decide +kernel, by decide +kernel, by decide +kernel⟩, by decide, by decide⟩⟩
theorem xc_X7_shareByWeights_332 : xLV k_X7_shareByWeights k_X2_takeWhole 332 RX2 yX2_takeWhole (some .int) 2 := ⟨List.forall_mem_cons.mpr ⟨xw775, List.forall_mem_cons.mpr ⟨xw776, List.forall_mem_cons.mpr ⟨xw777, List.forall_mem_cons.mpr ⟨xw76, fun _ h => absurd h List.not_mem_nil⟩⟩⟩⟩, xw778, ⟨⟨by decide +kernel, by decide +kernel, by decide +kernel⟩, by decide, by decide⟩⟩
theorem xf_X7_323 : xFL RX7 323 2 1 := ⟨RX2, TX2, 3, "RentStream$HeatShare", rfl, xin2, by decide, xw507, Or.inl rfl⟩
theorem xc_X3_useIn_64 : xLV k_X3_useIn k_X3_runsIn 64 RX3 yX3_runsIn (some .boolean) 1 := ⟨List.forall_mem_cons.mpr ⟨xw766, List.forall_mem_cons.mpr ⟨xw767, List.forall_mem_cons.mpr ⟨xw768, List.forall_mem_cons.mpr ⟨xw74, fun _ h => absurd h List.not_mem_nil⟩⟩⟩⟩, xw769, ⟨⟨by decide +kernel, by decide +kernel, by decide +kernel⟩, by decide, by decide⟩⟩
theorem xf_X3_54 : xFL RX3 54 3 0 := ⟨RX3, TX3, 11, "RentStream$Lease", rfl, xin3, by decide, xw518, Or.inl rfl⟩
theorem xf_X3_68 : xFL RX3 68 1 1 := ⟨RX1, TX1, 6, "RentStream$Flat", rfl, xin1, by decide, xw331, Or.inl rfl⟩
theorem xc_X3_useIn_73 : xLV k_X3_useIn k_X4_in 73 RX4 yX4_in (some .int) 1 := ⟨List.forall_mem_cons.mpr ⟨xw678, List.forall_mem_cons.mpr ⟨xw582, List.forall_mem_cons.mpr ⟨xw583, List.forall_mem_cons.mpr ⟨xw54, fun _ h => absurd h List.not_mem_nil⟩⟩⟩⟩, xw584, ⟨⟨by decide +kernel, by decide +kernel, by decide +kernel⟩, by decide, by decide⟩⟩
theorem xc_X7_usesOfAll_66 : xLV k_X7_usesOfAll k_Jx4a65c_size_8abf5 66 RJx4a65c yJx4a65c_size_8abf5 (some .int) 0 := ⟨List.forall_mem_cons.mpr ⟨xw300, List.forall_mem_cons.mpr ⟨xw301, List.forall_mem_cons.mpr ⟨xw302, List.forall_mem_cons.mpr ⟨xw53, fun _ h => absurd h List.not_mem_nil⟩⟩⟩⟩, xw303, ⟨⟨by decide +kernel, by decide +kernel, by decide +kernel⟩, by decide, by decide⟩⟩
theorem xc_X7_usesOfAll_149 : xLV k_X7_usesOfAll k_Jx4a65c_get_915e3 149 RJx4a65c yJx4a65c_get_915e3 (some (.object "java/lang/Object")) 1 := ⟨List.forall_mem_cons.mpr ⟨xw445, List.forall_mem_cons.mpr ⟨xw446, List.forall_mem_cons.mpr ⟨xw447, List.forall_mem_cons.mpr ⟨xw53, fun _ h => absurd h List.not_mem_nil⟩⟩⟩⟩, xw448, ⟨⟨by decide +kernel, by decide +kernel, by decide +kernel⟩, by decide, by decide⟩⟩
theorem xc_X7_usesOfAll_329 : xLV k_X7_usesOfAll k_X3_useIn 329 RX3 yX3_useIn (some .int) 1 := ⟨List.forall_mem_cons.mpr ⟨xw762, List.forall_mem_cons.mpr ⟨xw763, List.forall_mem_cons.mpr ⟨xw764, List.forall_mem_cons.mpr ⟨xw74, fun _ h => absurd h List.not_mem_nil⟩⟩⟩⟩, xw765, ⟨⟨by decide +kernel, by decide +kernel, by decide +kernel⟩, by decide, by decide⟩⟩
theorem xc_X7_shareHeat_66 : xLV k_X7_shareHeat k_Jx4a65c_size_8abf5 66 RJx4a65c yJx4a65c_size_8abf5 (some .int) 0 := ⟨List.forall_mem_cons.mpr ⟨xw300, List.forall_mem_cons.mpr ⟨xw301, List.forall_mem_cons.mpr ⟨xw302, List.forall_mem_cons.mpr ⟨xw53, fun _ h => absurd h List.not_mem_nil⟩⟩⟩⟩, xw303, ⟨⟨by decide +kernel, by decide +kernel, by decide +kernel⟩, by decide, by decide⟩⟩
theorem xc_X7_shareHeat_326 : xLV k_X7_shareHeat k_X7_shareByWeights 326 RX7 yX7_shareByWeights none 1 := ⟨List.forall_mem_cons.mpr ⟨xw771, List.forall_mem_cons.mpr ⟨xw773, List.forall_mem_cons.mpr ⟨xw22, List.forall_mem_cons.mpr ⟨xw50, fun _ h => absurd h List.not_mem_nil⟩⟩⟩⟩, xw774, ⟨⟨by decide +kernel, by decide +kernel, by decide +kernel⟩, by decide, by decide⟩⟩
theorem xc_X7_shareHeat_149 : xLV k_X7_shareHeat k_Jx4a65c_get_915e3 149 RJx4a65c yJx4a65c_get_915e3 (some (.object "java/lang/Object")) 1 := ⟨List.forall_mem_cons.mpr ⟨xw445, List.forall_mem_cons.mpr ⟨xw446, List.forall_mem_cons.mpr ⟨xw447, List.forall_mem_cons.mpr ⟨xw53, fun _ h => absurd h List.not_mem_nil⟩⟩⟩⟩, xw448, ⟨⟨by decide +kernel, by decide +kernel, by decide +kernel⟩, by decide, by decide⟩⟩
theorem xc_X7_shareHeat_329 : xLV k_X7_shareHeat k_X3_useIn 329 RX3 yX3_useIn (some .int) 1 := ⟨List.forall_mem_cons.mpr ⟨xw762, List.forall_mem_cons.mpr ⟨xw763, List.forall_mem_cons.mpr ⟨xw764, List.forall_mem_cons.mpr ⟨xw74, fun _ h => absurd h List.not_mem_nil⟩⟩⟩⟩, xw765, ⟨⟨by decide +kernel, by decide +kernel, by decide +kernel⟩, by decide, by decide⟩⟩
theorem xp_X7_323 : xFP RX7 323 2 1 .int false := ⟨RX2, TX2, 3, "RentStream$HeatShare", tyX2, rfl, xin2, by decide, xw507, Or.inl rfl, tyX2_ok, nmX2, rfl, by decide +kernel, fun h => nomatch h⟩
theorem xp_X7_315 : xFP RX7 315 2 0 .int false := ⟨RX2, TX2, 3, "RentStream$HeatShare", tyX2, rfl, xin2, by decide, xw505, Or.inl rfl, tyX2_ok, nmX2, rfl, by decide +kernel, fun h => nomatch h⟩
theorem xc_X7_shareHeat_209 : xLV k_X7_shareHeat k_X3_runsIn 209 RX3 yX3_runsIn (some .boolean) 1 := ⟨List.forall_mem_cons.mpr ⟨xw770, List.forall_mem_cons.mpr ⟨xw767, List.forall_mem_cons.mpr ⟨xw768, List.forall_mem_cons.mpr ⟨xw74, fun _ h => absurd h List.not_mem_nil⟩⟩⟩⟩, xw769, ⟨⟨by decide +kernel, by decide +kernel, by decide +kernel⟩, by decide, by decide⟩⟩
theorem xf_X7_320 : xFL RX7 320 1 0 := ⟨RX1, TX1, 6, "RentStream$Flat", rfl, xin1, by decide, xw329, Or.inl rfl⟩
theorem xf_X7_31 : xFL RX7 31 7 4 := ⟨RX7, TX7, 10, "RentStream", rfl, xin7, by decide, xw191, Or.inl rfl⟩
theorem xc_X7_shareHeat_114 : xLV k_X7_shareHeat k_X4_in 114 RX4 yX4_in (some .int) 1 := ⟨List.forall_mem_cons.mpr ⟨xw581, List.forall_mem_cons.mpr ⟨xw582, List.forall_mem_cons.mpr ⟨xw583, List.forall_mem_cons.mpr ⟨xw54, fun _ h => absurd h List.not_mem_nil⟩⟩⟩⟩, xw584, ⟨⟨by decide +kernel, by decide +kernel, by decide +kernel⟩, by decide, by decide⟩⟩
theorem xc_X7_shareHeat_307 : xLV k_X7_shareHeat k_X7_usesOfAll 307 RX7 yX7_usesOfAll (some .long) 1 := ⟨List.forall_mem_cons.mpr ⟨xw758, List.forall_mem_cons.mpr ⟨xw760, List.forall_mem_cons.mpr ⟨xw21, List.forall_mem_cons.mpr ⟨xw50, fun _ h => absurd h List.not_mem_nil⟩⟩⟩⟩, xw761, ⟨⟨by decide +kernel, by decide +kernel, by decide +kernel⟩, by decide, by decide⟩⟩
theorem xf_X1_14 : xFL RX1 14 1 1 := ⟨RX1, TX1, 6, "RentStream$Flat", rfl, xin1, by decide, xw330, Or.inl rfl⟩
theorem xc_X1_guessedUse_50 : xLV k_X1_guessedUse k_X4_in 50 RX4 yX4_in (some .int) 1 := ⟨List.forall_mem_cons.mpr ⟨xw752, List.forall_mem_cons.mpr ⟨xw582, List.forall_mem_cons.mpr ⟨xw583, List.forall_mem_cons.mpr ⟨xw54, fun _ h => absurd h List.not_mem_nil⟩⟩⟩⟩, xw584, ⟨⟨by decide +kernel, by decide +kernel, by decide +kernel⟩, by decide, by decide⟩⟩
theorem xf_X1_30 : xFL RX1 30 1 5 := ⟨RX1, TX1, 6, "RentStream$Flat", rfl, xin1, by decide, xw339, Or.inl rfl⟩
theorem xc_X1_findUse_42 : xLV k_X1_findUse k_X1_guessedUse 42 RX1 yX1_guessedUse (some .int) 1 := ⟨List.forall_mem_cons.mpr ⟨xw748, List.forall_mem_cons.mpr ⟨xw750, List.forall_mem_cons.mpr ⟨xw19, List.forall_mem_cons.mpr ⟨xw66, fun _ h => absurd h List.not_mem_nil⟩⟩⟩⟩, xw751, ⟨⟨by decide +kernel, by decide +kernel, by decide +kernel⟩, by decide, by decide⟩⟩
theorem xc_X1_findUse_46 : xLV k_X1_findUse k_X4_put 46 RX4 yX4_put none 2 := ⟨List.forall_mem_cons.mpr ⟨xw753, List.forall_mem_cons.mpr ⟨xw609, List.forall_mem_cons.mpr ⟨xw610, List.forall_mem_cons.mpr ⟨xw54, fun _ h => absurd h List.not_mem_nil⟩⟩⟩⟩, xw611, ⟨⟨by decide +kernel, by decide +kernel, by decide +kernel⟩, by decide, by decide⟩⟩
theorem xf_X1_27 : xFL RX1 27 1 4 := ⟨RX1, TX1, 6, "RentStream$Flat", rfl, xin1, by decide, xw338, Or.inl rfl⟩
theorem xp_X1_27 : xFP RX1 27 1 4 .int false := ⟨RX1, TX1, 6, "RentStream$Flat", tyX1, rfl, xin1, by decide, xw338, Or.inl rfl, tyX1_ok, nmX1, rfl, by decide +kernel, fun h => nomatch h⟩
theorem xf_X1_23 : xFL RX1 23 1 3 := ⟨RX1, TX1, 6, "RentStream$Flat", rfl, xin1, by decide, xw336, Or.inl rfl⟩
theorem xlm_X1_36 : xLM RX1 36 Lib.Math.max.name Lib.Math.max.code 2 .int := ⟨xw747, xw373, xw68, xw374⟩
theorem xf_X5_9 : xFL RX5 9 5 0 := ⟨RX5, TX5, 4, "RentStream$Plan", rfl, xin5, by decide, xw484, Or.inl rfl⟩
theorem xf_X5_22 : xFL RX5 22 5 3 := ⟨RX5, TX5, 4, "RentStream$Plan", rfl, xin5, by decide, xw488, Or.inl rfl⟩
theorem xp_X5_22 : xFP RX5 22 5 3 .int false := ⟨RX5, TX5, 4, "RentStream$Plan", tyX5, rfl, xin5, by decide, xw488, Or.inl rfl, tyX5_ok, nmX5, rfl, by decide +kernel, fun h => nomatch h⟩
theorem xf_X5_15 : xFL RX5 15 5 1 := ⟨RX5, TX5, 4, "RentStream$Plan", rfl, xin5, by decide, xw486, Or.inl rfl⟩
theorem xf_X5_19 : xFL RX5 19 5 2 := ⟨RX5, TX5, 4, "RentStream$Plan", rfl, xin5, by decide, xw487, Or.inl rfl⟩
theorem xlm_X5_25 : xLM RX5 25 Lib.MathLoose.max_long.x Lib.MathLoose.max_long.code 4 .long := ⟨xw799, xw800, xw68, xw801⟩
theorem xp_X5_9 : xFP RX5 9 5 0 .int false := ⟨RX5, TX5, 4, "RentStream$Plan", tyX5, rfl, xin5, by decide, xw484, Or.inl rfl, tyX5_ok, nmX5, rfl, by decide +kernel, fun h => nomatch h⟩
theorem xc_X7_endMonth_66 : xLV k_X7_endMonth k_Jx4a65c_size_8abf5 66 RJx4a65c yJx4a65c_size_8abf5 (some .int) 0 := ⟨List.forall_mem_cons.mpr ⟨xw300, List.forall_mem_cons.mpr ⟨xw301, List.forall_mem_cons.mpr ⟨xw302, List.forall_mem_cons.mpr ⟨xw53, fun _ h => absurd h List.not_mem_nil⟩⟩⟩⟩, xw303, ⟨⟨by decide +kernel, by decide +kernel, by decide +kernel⟩, by decide, by decide⟩⟩
theorem xc_X7_endMonth_149 : xLV k_X7_endMonth k_Jx4a65c_get_915e3 149 RJx4a65c yJx4a65c_get_915e3 (some (.object "java/lang/Object")) 1 := ⟨List.forall_mem_cons.mpr ⟨xw445, List.forall_mem_cons.mpr ⟨xw446, List.forall_mem_cons.mpr ⟨xw447, List.forall_mem_cons.mpr ⟨xw53, fun _ h => absurd h List.not_mem_nil⟩⟩⟩⟩, xw448, ⟨⟨by decide +kernel, by decide +kernel, by decide +kernel⟩, by decide, by decide⟩⟩
theorem xf_X7_187 : xFL RX7 187 3 3 := ⟨RX3, TX3, 11, "RentStream$Lease", rfl, xin3, by decide, xw525, Or.inl rfl⟩
theorem xc_X7_endMonth_281 : xLV k_X7_endMonth k_X5_endMonth 281 RX5 yX5_endMonth none 1 := ⟨List.forall_mem_cons.mpr ⟨xw795, List.forall_mem_cons.mpr ⟨xw796, List.forall_mem_cons.mpr ⟨xw797, List.forall_mem_cons.mpr ⟨xw75, fun _ h => absurd h List.not_mem_nil⟩⟩⟩⟩, xw798, ⟨⟨by decide +kernel, by decide +kernel, by decide +kernel⟩, by decide, by decide⟩⟩
theorem xc_X7_endMonth_209 : xLV k_X7_endMonth k_X3_runsIn 209 RX3 yX3_runsIn (some .boolean) 1 := ⟨List.forall_mem_cons.mpr ⟨xw770, List.forall_mem_cons.mpr ⟨xw767, List.forall_mem_cons.mpr ⟨xw768, List.forall_mem_cons.mpr ⟨xw74, fun _ h => absurd h List.not_mem_nil⟩⟩⟩⟩, xw769, ⟨⟨by decide +kernel, by decide +kernel, by decide +kernel⟩, by decide, by decide⟩⟩
theorem xc_X7_endMonth_284 : xLV k_X7_endMonth k_X7_makeBill 284 RX7 yX7_makeBill none 2 := ⟨List.forall_mem_cons.mpr ⟨xw802, List.forall_mem_cons.mpr ⟨xw804, List.forall_mem_cons.mpr ⟨xw24, List.forall_mem_cons.mpr ⟨xw50, fun _ h => absurd h List.not_mem_nil⟩⟩⟩⟩, xw805, ⟨⟨by decide +kernel, by decide +kernel, by decide +kernel⟩, by decide, by decide⟩⟩
theorem xf_X7_10 : xFL RX7 10 7 0 := ⟨RX7, TX7, 10, "RentStream", rfl, xin7, by decide, xw187, Or.inl rfl⟩
theorem xc_X7_endMonth_213 : xLV k_X7_endMonth k_X7_shareHeat 213 RX7 yX7_shareHeat none 1 := ⟨List.forall_mem_cons.mpr ⟨xw754, List.forall_mem_cons.mpr ⟨xw756, List.forall_mem_cons.mpr ⟨xw20, List.forall_mem_cons.mpr ⟨xw50, fun _ h => absurd h List.not_mem_nil⟩⟩⟩⟩, xw757, ⟨⟨by decide +kernel, by decide +kernel, by decide +kernel⟩, by decide, by decide⟩⟩
theorem xc_X7_endMonth_278 : xLV k_X7_endMonth k_X1_findUse 278 RX1 yX1_findUse none 1 := ⟨List.forall_mem_cons.mpr ⟨xw743, List.forall_mem_cons.mpr ⟨xw744, List.forall_mem_cons.mpr ⟨xw745, List.forall_mem_cons.mpr ⟨xw66, fun _ h => absurd h List.not_mem_nil⟩⟩⟩⟩, xw746, ⟨⟨by decide +kernel, by decide +kernel, by decide +kernel⟩, by decide, by decide⟩⟩
theorem xf_X6_23 : xFL RX6 23 6 3 := ⟨RX6, TX6, 5, "RentStream$Repair", rfl, xin6, by decide, xw632, Or.inl rfl⟩
theorem xf_X6_9 : xFL RX6 9 6 0 := ⟨RX6, TX6, 5, "RentStream$Repair", rfl, xin6, by decide, xw627, Or.inl rfl⟩
theorem xf_X6_26 : xFL RX6 26 6 4 := ⟨RX6, TX6, 5, "RentStream$Repair", rfl, xin6, by decide, xw633, Or.inl rfl⟩
theorem xc_X6_takePoints_29 : xLV k_X6_takePoints k_X6_clock 29 RX6 yX6_clock (some .int) 0 := ⟨List.forall_mem_cons.mpr ⟨xw729, List.forall_mem_cons.mpr ⟨xw731, List.forall_mem_cons.mpr ⟨xw16, List.forall_mem_cons.mpr ⟨xw77, fun _ h => absurd h List.not_mem_nil⟩⟩⟩⟩, xw732, ⟨⟨by decide +kernel, by decide +kernel, by decide +kernel⟩, by decide, by decide⟩⟩
theorem xf_X6_19 : xFL RX6 19 6 2 := ⟨RX6, TX6, 5, "RentStream$Repair", rfl, xin6, by decide, xw631, Or.inl rfl⟩
theorem xf_X6_33 : xFL RX6 33 1 2 := ⟨RX1, TX1, 6, "RentStream$Flat", rfl, xin1, by decide, xw334, Or.inl rfl⟩
theorem xc_X6_takePoints_39 : xLV k_X6_takePoints k_X4_in 39 RX4 yX4_in (some .int) 1 := ⟨List.forall_mem_cons.mpr ⟨xw733, List.forall_mem_cons.mpr ⟨xw582, List.forall_mem_cons.mpr ⟨xw583, List.forall_mem_cons.mpr ⟨xw54, fun _ h => absurd h List.not_mem_nil⟩⟩⟩⟩, xw584, ⟨⟨by decide +kernel, by decide +kernel, by decide +kernel⟩, by decide, by decide⟩⟩
theorem xc_X6_takePoints_45 : xLV k_X6_takePoints k_X6_pointsADay 45 RX6 yX6_pointsADay (some .int) 0 := ⟨List.forall_mem_cons.mpr ⟨xw734, List.forall_mem_cons.mpr ⟨xw736, List.forall_mem_cons.mpr ⟨xw17, List.forall_mem_cons.mpr ⟨xw77, fun _ h => absurd h List.not_mem_nil⟩⟩⟩⟩, xw737, ⟨⟨by decide +kernel, by decide +kernel, by decide +kernel⟩, by decide, by decide⟩⟩
theorem xc_X6_takePoints_48 : xLV k_X6_takePoints k_X4_put 48 RX4 yX4_put none 2 := ⟨List.forall_mem_cons.mpr ⟨xw738, List.forall_mem_cons.mpr ⟨xw609, List.forall_mem_cons.mpr ⟨xw610, List.forall_mem_cons.mpr ⟨xw54, fun _ h => absurd h List.not_mem_nil⟩⟩⟩⟩, xw611, ⟨⟨by decide +kernel, by decide +kernel, by decide +kernel⟩, by decide, by decide⟩⟩
theorem xf_X6_15 : xFL RX6 15 6 1 := ⟨RX6, TX6, 5, "RentStream$Repair", rfl, xin6, by decide, xw629, Or.inl rfl⟩
theorem xp_X6_15 : xFP RX6 15 6 1 .int false := ⟨RX6, TX6, 5, "RentStream$Repair", tyX6, rfl, xin6, by decide, xw629, Or.inl rfl, tyX6_ok, nmX6, rfl, by decide +kernel, fun h => nomatch h⟩
theorem xf_X7_19 : xFL RX7 19 7 2 := ⟨RX7, TX7, 10, "RentStream", rfl, xin7, by decide, xw189, Or.inl rfl⟩
theorem xc_X7_endDay_66 : xLV k_X7_endDay k_Jx4a65c_size_8abf5 66 RJx4a65c yJx4a65c_size_8abf5 (some .int) 0 := ⟨List.forall_mem_cons.mpr ⟨xw300, List.forall_mem_cons.mpr ⟨xw301, List.forall_mem_cons.mpr ⟨xw302, List.forall_mem_cons.mpr ⟨xw53, fun _ h => absurd h List.not_mem_nil⟩⟩⟩⟩, xw303, ⟨⟨by decide +kernel, by decide +kernel, by decide +kernel⟩, by decide, by decide⟩⟩
theorem xc_X7_endDay_97 : xLV k_X7_endDay k_X7_monthNow 97 RX7 yX7_monthNow (some .int) 0 := ⟨List.forall_mem_cons.mpr ⟨xw468, List.forall_mem_cons.mpr ⟨xw470, List.forall_mem_cons.mpr ⟨xw10, List.forall_mem_cons.mpr ⟨xw50, fun _ h => absurd h List.not_mem_nil⟩⟩⟩⟩, xw471, ⟨⟨by decide +kernel, by decide +kernel, by decide +kernel⟩, by decide, by decide⟩⟩
theorem xc_X7_endDay_272 : xLV k_X7_endDay k_X7_endMonth 272 RX7 yX7_endMonth none 1 := ⟨List.forall_mem_cons.mpr ⟨xw739, List.forall_mem_cons.mpr ⟨xw741, List.forall_mem_cons.mpr ⟨xw18, List.forall_mem_cons.mpr ⟨xw50, fun _ h => absurd h List.not_mem_nil⟩⟩⟩⟩, xw742, ⟨⟨by decide +kernel, by decide +kernel, by decide +kernel⟩, by decide, by decide⟩⟩
theorem xc_X7_endDay_275 : xLV k_X7_endDay k_X7_beginMonth 275 RX7 yX7_beginMonth none 1 := ⟨List.forall_mem_cons.mpr ⟨xw831, List.forall_mem_cons.mpr ⟨xw833, List.forall_mem_cons.mpr ⟨xw26, List.forall_mem_cons.mpr ⟨xw50, fun _ h => absurd h List.not_mem_nil⟩⟩⟩⟩, xw834, ⟨⟨by decide +kernel, by decide +kernel, by decide +kernel⟩, by decide, by decide⟩⟩
theorem xc_X7_endDay_149 : xLV k_X7_endDay k_Jx4a65c_get_915e3 149 RJx4a65c yJx4a65c_get_915e3 (some (.object "java/lang/Object")) 1 := ⟨List.forall_mem_cons.mpr ⟨xw445, List.forall_mem_cons.mpr ⟨xw446, List.forall_mem_cons.mpr ⟨xw447, List.forall_mem_cons.mpr ⟨xw53, fun _ h => absurd h List.not_mem_nil⟩⟩⟩⟩, xw448, ⟨⟨by decide +kernel, by decide +kernel, by decide +kernel⟩, by decide, by decide⟩⟩
theorem xc_X7_endDay_269 : xLV k_X7_endDay k_X6_takePoints 269 RX6 yX6_takePoints none 2 := ⟨List.forall_mem_cons.mpr ⟨xw725, List.forall_mem_cons.mpr ⟨xw726, List.forall_mem_cons.mpr ⟨xw727, List.forall_mem_cons.mpr ⟨xw77, fun _ h => absurd h List.not_mem_nil⟩⟩⟩⟩, xw728, ⟨⟨by decide +kernel, by decide +kernel, by decide +kernel⟩, by decide, by decide⟩⟩
theorem xn_X1_9 : xNL RX1 9 4 [.null] := ⟨RX4, TX4, 1, tyX4, rfl, xin4, xw326, xw118, xw54, tyX4_ok, by decide +kernel, rfl⟩
theorem xc_X1_init_11 : xLI k_X1_init k_X4_init 11 yX4_init 1 := ⟨List.forall_mem_cons.mpr ⟨xw327, List.forall_mem_cons.mpr ⟨xw120, List.forall_mem_cons.mpr ⟨xw54, fun _ h => absurd h List.not_mem_nil⟩⟩⟩, xw121, rfl, ⟨⟨by decide +kernel, by decide +kernel, by decide +kernel⟩, by decide, by decide⟩⟩
theorem xp_X1_14 : xFP RX1 14 1 1 (.object "RentStream$Months") true := ⟨RX1, TX1, 6, "RentStream$Flat", tyX1, rfl, xin1, by decide, xw330, Or.inl rfl, tyX1_ok, nmX1, rfl, by decide +kernel, fun _ => rfl⟩
theorem xp_X1_20 : xFP RX1 20 1 2 (.object "RentStream$Months") true := ⟨RX1, TX1, 6, "RentStream$Flat", tyX1, rfl, xin1, by decide, xw333, Or.inl rfl, tyX1_ok, nmX1, rfl, by decide +kernel, fun _ => rfl⟩
theorem xp_X1_23 : xFP RX1 23 1 3 .int false := ⟨RX1, TX1, 6, "RentStream$Flat", tyX1, rfl, xin1, by decide, xw336, Or.inl rfl, tyX1_ok, nmX1, rfl, by decide +kernel, fun h => nomatch h⟩
theorem xp_X1_30 : xFP RX1 30 1 5 .int false := ⟨RX1, TX1, 6, "RentStream$Flat", tyX1, rfl, xin1, by decide, xw339, Or.inl rfl, tyX1_ok, nmX1, rfl, by decide +kernel, fun h => nomatch h⟩
theorem xp_X1_33 : xFP RX1 33 1 0 .int true := ⟨RX1, TX1, 6, "RentStream$Flat", tyX1, rfl, xin1, by decide, xw328, Or.inl rfl, tyX1_ok, nmX1, rfl, by decide +kernel, fun _ => rfl⟩
theorem xlm_J7_304 : xLM RJ7 304 Lib.Math.min.name Lib.Math.min.code 2 .int := ⟨xw409, xw410, xw68, xw411⟩
theorem xlc_J7_150 : xLC RJ7 150 := ⟨xw412, xw414, xw413, xw70⟩
theorem xc_J7_copyOf_1904c_300 : xLS k_J7_copyOf_1904c k_J7_copyOf_6403c 300 yJ7_copyOf_6403c (some (.array (.object "java/lang/Object"))) 3 := ⟨List.forall_mem_cons.mpr ⟨xw403, List.forall_mem_cons.mpr ⟨xw404, List.forall_mem_cons.mpr ⟨xw69, fun _ h => absurd h List.not_mem_nil⟩⟩⟩, xw405, ⟨⟨by decide +kernel, by decide +kernel, by decide +kernel⟩, by decide, by decide⟩⟩
theorem xlm_J8_194 : xLM RJ8 194 Lib.Math.max.name Lib.Math.max.code 2 .int := ⟨xw372, xw373, xw68, xw374⟩
theorem xc_Jx4a65c_grow_92f84_73 : xLS k_Jx4a65c_grow_92f84 k_J8_newLength_cabcc 73 yJ8_newLength_cabcc (some .int) 3 := ⟨List.forall_mem_cons.mpr ⟨xw369, List.forall_mem_cons.mpr ⟨xw370, List.forall_mem_cons.mpr ⟨xw67, fun _ h => absurd h List.not_mem_nil⟩⟩⟩, xw371, ⟨⟨by decide +kernel, by decide +kernel, by decide +kernel⟩, by decide, by decide⟩⟩
theorem xc_Jx4a65c_grow_92f84_66 : xLS k_Jx4a65c_grow_92f84 k_J7_copyOf_1904c 66 yJ7_copyOf_1904c (some (.array (.object "java/lang/Object"))) 2 := ⟨List.forall_mem_cons.mpr ⟨xw379, List.forall_mem_cons.mpr ⟨xw380, List.forall_mem_cons.mpr ⟨xw69, fun _ h => absurd h List.not_mem_nil⟩⟩⟩, xw381, ⟨⟨by decide +kernel, by decide +kernel, by decide +kernel⟩, by decide, by decide⟩⟩
theorem xlm_Jx4a65c_79 : xLM RJx4a65c 79 Lib.Math.max.name Lib.Math.max.code 2 .int := ⟨xw415, xw373, xw68, xw374⟩
theorem xc_Jx4a65c_grow_d5877_69 : xLV k_Jx4a65c_grow_d5877 k_Jx4a65c_grow_92f84 69 RJx4a65c yJx4a65c_grow_92f84 (some (.array (.object "java/lang/Object"))) 1 := ⟨List.forall_mem_cons.mpr ⟨xw365, List.forall_mem_cons.mpr ⟨xw367, List.forall_mem_cons.mpr ⟨xw7, List.forall_mem_cons.mpr ⟨xw53, fun _ h => absurd h List.not_mem_nil⟩⟩⟩⟩, xw368, ⟨⟨by decide +kernel, by decide +kernel, by decide +kernel⟩, by decide, by decide⟩⟩
theorem xp_Jx4a65c_48 : xFP RJx4a65c 48 10 2 .int false := ⟨RJx4a65c, TJx4a65c, 3, "java/util/ArrayList", tyJx4a65c, rfl, xin10, by decide, xw106, Or.inl rfl, tyJx4a65c_ok, nmJx4a65c, rfl, by decide +kernel, fun h => nomatch h⟩
theorem xc_Jx4a65c_add_72be8_129 : xLV k_Jx4a65c_add_72be8 k_Jx4a65c_grow_d5877 129 RJx4a65c yJx4a65c_grow_d5877 (some (.array (.object "java/lang/Object"))) 0 := ⟨List.forall_mem_cons.mpr ⟨xw361, List.forall_mem_cons.mpr ⟨xw363, List.forall_mem_cons.mpr ⟨xw6, List.forall_mem_cons.mpr ⟨xw53, fun _ h => absurd h List.not_mem_nil⟩⟩⟩⟩, xw364, ⟨⟨by decide +kernel, by decide +kernel, by decide +kernel⟩, by decide, by decide⟩⟩
theorem xf_Jx4a65c_63 : xFL RJx4a65c 63 10 0 := ⟨RJx4a65c, TJx4a65c, 3, "java/util/ArrayList", rfl, xin10, by decide, xw108, Or.inr xw109⟩
theorem xp_Jx4a65c_63 : xFP RJx4a65c 63 10 0 .int false := ⟨RJx4a65c, TJx4a65c, 3, "java/util/ArrayList", tyJx4a65c, rfl, xin10, by decide, xw108, Or.inr xw109, tyJx4a65c_ok, nmJx4a65c, rfl, by decide +kernel, fun h => nomatch h⟩
theorem xc_Jx4a65c_add_9ea2d_131 : xLV k_Jx4a65c_add_9ea2d k_Jx4a65c_add_72be8 131 RJx4a65c yJx4a65c_add_72be8 none 3 := ⟨List.forall_mem_cons.mpr ⟨xw357, List.forall_mem_cons.mpr ⟨xw359, List.forall_mem_cons.mpr ⟨xw5, List.forall_mem_cons.mpr ⟨xw53, fun _ h => absurd h List.not_mem_nil⟩⟩⟩⟩, xw360, ⟨⟨by decide +kernel, by decide +kernel, by decide +kernel⟩, by decide, by decide⟩⟩
theorem xc_X7_flat_66 : xLV k_X7_flat k_Jx4a65c_size_8abf5 66 RJx4a65c yJx4a65c_size_8abf5 (some .int) 0 := ⟨List.forall_mem_cons.mpr ⟨xw300, List.forall_mem_cons.mpr ⟨xw301, List.forall_mem_cons.mpr ⟨xw302, List.forall_mem_cons.mpr ⟨xw53, fun _ h => absurd h List.not_mem_nil⟩⟩⟩⟩, xw303, ⟨⟨by decide +kernel, by decide +kernel, by decide +kernel⟩, by decide, by decide⟩⟩
theorem xn_X7_75 : xNL RX7 75 1 [.int 0, .null, .null, .int 0, .int 0, .int 0] := ⟨RX1, TX1, 6, tyX1, rfl, xin1, xw320, xw321, xw66, tyX1_ok, by decide +kernel, rfl⟩
theorem xc_X7_flat_77 : xLI k_X7_flat k_X1_init 77 yX1_init 1 := ⟨List.forall_mem_cons.mpr ⟨xw322, List.forall_mem_cons.mpr ⟨xw323, List.forall_mem_cons.mpr ⟨xw66, fun _ h => absurd h List.not_mem_nil⟩⟩⟩, xw324, rfl, ⟨⟨by decide +kernel, by decide +kernel, by decide +kernel⟩, by decide, by decide⟩⟩
theorem xc_X7_flat_78 : xLV k_X7_flat k_Jx4a65c_add_9ea2d 78 RJx4a65c yJx4a65c_add_9ea2d (some .boolean) 1 := ⟨List.forall_mem_cons.mpr ⟨xw353, List.forall_mem_cons.mpr ⟨xw354, List.forall_mem_cons.mpr ⟨xw355, List.forall_mem_cons.mpr ⟨xw53, fun _ h => absurd h List.not_mem_nil⟩⟩⟩⟩, xw356, ⟨⟨by decide +kernel, by decide +kernel, by decide +kernel⟩, by decide, by decide⟩⟩
theorem xc_X7_flatAt_66 : xLV k_X7_flatAt k_Jx4a65c_size_8abf5 66 RJx4a65c yJx4a65c_size_8abf5 (some .int) 0 := ⟨List.forall_mem_cons.mpr ⟨xw300, List.forall_mem_cons.mpr ⟨xw301, List.forall_mem_cons.mpr ⟨xw302, List.forall_mem_cons.mpr ⟨xw53, fun _ h => absurd h List.not_mem_nil⟩⟩⟩⟩, xw303, ⟨⟨by decide +kernel, by decide +kernel, by decide +kernel⟩, by decide, by decide⟩⟩
theorem xc_X7_flatAt_149 : xLV k_X7_flatAt k_Jx4a65c_get_915e3 149 RJx4a65c yJx4a65c_get_915e3 (some (.object "java/lang/Object")) 1 := ⟨List.forall_mem_cons.mpr ⟨xw445, List.forall_mem_cons.mpr ⟨xw446, List.forall_mem_cons.mpr ⟨xw447, List.forall_mem_cons.mpr ⟨xw53, fun _ h => absurd h List.not_mem_nil⟩⟩⟩⟩, xw448, ⟨⟨by decide +kernel, by decide +kernel, by decide +kernel⟩, by decide, by decide⟩⟩
theorem xc_X7_heat_97 : xLV k_X7_heat k_X7_monthNow 97 RX7 yX7_monthNow (some .int) 0 := ⟨List.forall_mem_cons.mpr ⟨xw468, List.forall_mem_cons.mpr ⟨xw470, List.forall_mem_cons.mpr ⟨xw10, List.forall_mem_cons.mpr ⟨xw50, fun _ h => absurd h List.not_mem_nil⟩⟩⟩⟩, xw471, ⟨⟨by decide +kernel, by decide +kernel, by decide +kernel⟩, by decide, by decide⟩⟩
theorem xc_X7_heat_114 : xLV k_X7_heat k_X4_in 114 RX4 yX4_in (some .int) 1 := ⟨List.forall_mem_cons.mpr ⟨xw581, List.forall_mem_cons.mpr ⟨xw582, List.forall_mem_cons.mpr ⟨xw583, List.forall_mem_cons.mpr ⟨xw54, fun _ h => absurd h List.not_mem_nil⟩⟩⟩⟩, xw584, ⟨⟨by decide +kernel, by decide +kernel, by decide +kernel⟩, by decide, by decide⟩⟩
theorem xc_X7_heat_133 : xLV k_X7_heat k_X4_put 133 RX4 yX4_put none 2 := ⟨List.forall_mem_cons.mpr ⟨xw608, List.forall_mem_cons.mpr ⟨xw609, List.forall_mem_cons.mpr ⟨xw610, List.forall_mem_cons.mpr ⟨xw54, fun _ h => absurd h List.not_mem_nil⟩⟩⟩⟩, xw611, ⟨⟨by decide +kernel, by decide +kernel, by decide +kernel⟩, by decide, by decide⟩⟩
theorem xc_X3_benefitsAnew_77 : xLV k_X3_benefitsAnew k_X3_billOf 77 RX3 yX3_billOf (some (.object "RentStream$Bill")) 1 := ⟨List.forall_mem_cons.mpr ⟨xw670, List.forall_mem_cons.mpr ⟨xw671, List.forall_mem_cons.mpr ⟨xw672, List.forall_mem_cons.mpr ⟨xw74, fun _ h => absurd h List.not_mem_nil⟩⟩⟩⟩, xw673, ⟨⟨by decide +kernel, by decide +kernel, by decide +kernel⟩, by decide, by decide⟩⟩
theorem xf_X3_81 : xFL RX3 81 0 0 := ⟨RX0, TX0, 4, "RentStream$Bill", rfl, xin0, by decide, xw168, Or.inl rfl⟩
theorem xf_X3_82 : xFL RX3 82 0 1 := ⟨RX0, TX0, 4, "RentStream$Bill", rfl, xin0, by decide, xw171, Or.inl rfl⟩
theorem xc_X3_benefitsAnew_85 : xLV k_X3_benefitsAnew k_X3_incomeIn 85 RX3 yX3_incomeIn (some .int) 1 := ⟨List.forall_mem_cons.mpr ⟨xw674, List.forall_mem_cons.mpr ⟨xw675, List.forall_mem_cons.mpr ⟨xw676, List.forall_mem_cons.mpr ⟨xw74, fun _ h => absurd h List.not_mem_nil⟩⟩⟩⟩, xw677, ⟨⟨by decide +kernel, by decide +kernel, by decide +kernel⟩, by decide, by decide⟩⟩
theorem xc_X3_benefitsAnew_88 : xLSN k_X3_benefitsAnew k_X7_benefitFor 88 yX7_benefitFor (some .int) 2 := ⟨List.mem_of_getElem? (i := 3) rfl, List.forall_mem_cons.mpr ⟨xw680, List.forall_mem_cons.mpr ⟨xw50, fun _ h => absurd h List.not_mem_nil⟩⟩, xw681, ⟨⟨by decide +kernel, by decide +kernel, by decide +kernel⟩, by decide, by decide⟩⟩
theorem xf_X3_92 : xFL RX3 92 0 2 := ⟨RX0, TX0, 4, "RentStream$Bill", rfl, xin0, by decide, xw174, Or.inl rfl⟩
theorem xp_X3_92 : xFP RX3 92 0 2 .int false := ⟨RX0, TX0, 4, "RentStream$Bill", tyX0, rfl, xin0, by decide, xw174, Or.inl rfl, tyX0_ok, nmX0, rfl, by decide +kernel, fun h => nomatch h⟩
theorem xc_X7_income_103 : xLV k_X7_income k_X7_leaseAt 103 RX7 yX7_leaseAt (some (.object "RentStream$Lease")) 1 := ⟨List.forall_mem_cons.mpr ⟨xw567, List.forall_mem_cons.mpr ⟨xw569, List.forall_mem_cons.mpr ⟨xw11, List.forall_mem_cons.mpr ⟨xw50, fun _ h => absurd h List.not_mem_nil⟩⟩⟩⟩, xw570, ⟨⟨by decide +kernel, by decide +kernel, by decide +kernel⟩, by decide, by decide⟩⟩
theorem xc_X7_income_162 : xLV k_X7_income k_X7_needMonth 162 RX7 yX7_needMonth none 1 := ⟨List.forall_mem_cons.mpr ⟨xw661, List.forall_mem_cons.mpr ⟨xw663, List.forall_mem_cons.mpr ⟨xw12, List.forall_mem_cons.mpr ⟨xw50, fun _ h => absurd h List.not_mem_nil⟩⟩⟩⟩, xw664, ⟨⟨by decide +kernel, by decide +kernel, by decide +kernel⟩, by decide, by decide⟩⟩
theorem xf_X7_165 : xFL RX7 165 3 2 := ⟨RX3, TX3, 11, "RentStream$Lease", rfl, xin3, by decide, xw523, Or.inl rfl⟩
theorem xc_X7_income_133 : xLV k_X7_income k_X4_put 133 RX4 yX4_put none 2 := ⟨List.forall_mem_cons.mpr ⟨xw608, List.forall_mem_cons.mpr ⟨xw609, List.forall_mem_cons.mpr ⟨xw610, List.forall_mem_cons.mpr ⟨xw54, fun _ h => absurd h List.not_mem_nil⟩⟩⟩⟩, xw611, ⟨⟨by decide +kernel, by decide +kernel, by decide +kernel⟩, by decide, by decide⟩⟩
theorem xc_X7_income_97 : xLV k_X7_income k_X7_monthNow 97 RX7 yX7_monthNow (some .int) 0 := ⟨List.forall_mem_cons.mpr ⟨xw468, List.forall_mem_cons.mpr ⟨xw470, List.forall_mem_cons.mpr ⟨xw10, List.forall_mem_cons.mpr ⟨xw50, fun _ h => absurd h List.not_mem_nil⟩⟩⟩⟩, xw471, ⟨⟨by decide +kernel, by decide +kernel, by decide +kernel⟩, by decide, by decide⟩⟩
theorem xc_X7_income_168 : xLV k_X7_income k_X3_benefitsAnew 168 RX3 yX3_benefitsAnew (some .long) 2 := ⟨List.forall_mem_cons.mpr ⟨xw666, List.forall_mem_cons.mpr ⟨xw667, List.forall_mem_cons.mpr ⟨xw668, List.forall_mem_cons.mpr ⟨xw74, fun _ h => absurd h List.not_mem_nil⟩⟩⟩⟩, xw669, ⟨⟨by decide +kernel, by decide +kernel, by decide +kernel⟩, by decide, by decide⟩⟩
theorem xc_X7_income_172 : xLV k_X7_income k_X7_postToTenant 172 RX7 yX7_postToTenant none 2 := ⟨List.forall_mem_cons.mpr ⟨xw684, List.forall_mem_cons.mpr ⟨xw686, List.forall_mem_cons.mpr ⟨xw13, List.forall_mem_cons.mpr ⟨xw50, fun _ h => absurd h List.not_mem_nil⟩⟩⟩⟩, xw687, ⟨⟨by decide +kernel, by decide +kernel, by decide +kernel⟩, by decide, by decide⟩⟩
theorem xc_X7_income_176 : xLV k_X7_income k_X7_postToDesk 176 RX7 yX7_postToDesk none 2 := ⟨List.forall_mem_cons.mpr ⟨xw688, List.forall_mem_cons.mpr ⟨xw690, List.forall_mem_cons.mpr ⟨xw14, List.forall_mem_cons.mpr ⟨xw50, fun _ h => absurd h List.not_mem_nil⟩⟩⟩⟩, xw691, ⟨⟨by decide +kernel, by decide +kernel, by decide +kernel⟩, by decide, by decide⟩⟩
theorem xc_X7_index_97 : xLV k_X7_index k_X7_monthNow 97 RX7 yX7_monthNow (some .int) 0 := ⟨List.forall_mem_cons.mpr ⟨xw468, List.forall_mem_cons.mpr ⟨xw470, List.forall_mem_cons.mpr ⟨xw10, List.forall_mem_cons.mpr ⟨xw50, fun _ h => absurd h List.not_mem_nil⟩⟩⟩⟩, xw471, ⟨⟨by decide +kernel, by decide +kernel, by decide +kernel⟩, by decide, by decide⟩⟩
theorem xc_X7_index_114 : xLV k_X7_index k_X4_in 114 RX4 yX4_in (some .int) 1 := ⟨List.forall_mem_cons.mpr ⟨xw581, List.forall_mem_cons.mpr ⟨xw582, List.forall_mem_cons.mpr ⟨xw583, List.forall_mem_cons.mpr ⟨xw54, fun _ h => absurd h List.not_mem_nil⟩⟩⟩⟩, xw584, ⟨⟨by decide +kernel, by decide +kernel, by decide +kernel⟩, by decide, by decide⟩⟩
theorem xc_X7_isLetOn_66 : xLV k_X7_isLetOn k_Jx4a65c_size_8abf5 66 RJx4a65c yJx4a65c_size_8abf5 (some .int) 0 := ⟨List.forall_mem_cons.mpr ⟨xw300, List.forall_mem_cons.mpr ⟨xw301, List.forall_mem_cons.mpr ⟨xw302, List.forall_mem_cons.mpr ⟨xw53, fun _ h => absurd h List.not_mem_nil⟩⟩⟩⟩, xw303, ⟨⟨by decide +kernel, by decide +kernel, by decide +kernel⟩, by decide, by decide⟩⟩
theorem xc_X7_isLetOn_149 : xLV k_X7_isLetOn k_Jx4a65c_get_915e3 149 RJx4a65c yJx4a65c_get_915e3 (some (.object "java/lang/Object")) 1 := ⟨List.forall_mem_cons.mpr ⟨xw445, List.forall_mem_cons.mpr ⟨xw446, List.forall_mem_cons.mpr ⟨xw447, List.forall_mem_cons.mpr ⟨xw53, fun _ h => absurd h List.not_mem_nil⟩⟩⟩⟩, xw448, ⟨⟨by decide +kernel, by decide +kernel, by decide +kernel⟩, by decide, by decide⟩⟩
theorem xp_X2_13 : xFP RX2 13 2 1 .int false := ⟨RX2, TX2, 3, "RentStream$HeatShare", tyX2, rfl, xin2, by decide, xw506, Or.inl rfl, tyX2_ok, nmX2, rfl, by decide +kernel, fun h => nomatch h⟩
theorem xp_X5_15 : xFP RX5 15 5 1 .long false := ⟨RX5, TX5, 4, "RentStream$Plan", tyX5, rfl, xin5, by decide, xw486, Or.inl rfl, tyX5_ok, nmX5, rfl, by decide +kernel, fun h => nomatch h⟩
theorem xp_X5_19 : xFP RX5 19 5 2 .long false := ⟨RX5, TX5, 4, "RentStream$Plan", tyX5, rfl, xin5, by decide, xw487, Or.inl rfl, tyX5_ok, nmX5, rfl, by decide +kernel, fun h => nomatch h⟩
theorem xp_X3_9 : xFP RX3 9 3 1 .int false := ⟨RX3, TX3, 11, "RentStream$Lease", tyX3, rfl, xin3, by decide, xw520, Or.inl rfl, tyX3_ok, nmX3, rfl, by decide +kernel, fun h => nomatch h⟩
theorem xn_X3_15 : xNL RX3 15 4 [.null] := ⟨RX4, TX4, 1, tyX4, rfl, xin4, xw476, xw118, xw54, tyX4_ok, by decide +kernel, rfl⟩
theorem xc_X3_init_17 : xLI k_X3_init k_X4_init 17 yX4_init 1 := ⟨List.forall_mem_cons.mpr ⟨xw477, List.forall_mem_cons.mpr ⟨xw120, List.forall_mem_cons.mpr ⟨xw54, fun _ h => absurd h List.not_mem_nil⟩⟩⟩, xw121, rfl, ⟨⟨by decide +kernel, by decide +kernel, by decide +kernel⟩, by decide, by decide⟩⟩
theorem xp_X3_20 : xFP RX3 20 3 2 (.object "RentStream$Months") true := ⟨RX3, TX3, 11, "RentStream$Lease", tyX3, rfl, xin3, by decide, xw522, Or.inl rfl, tyX3_ok, nmX3, rfl, by decide +kernel, fun _ => rfl⟩
theorem xn_X3_24 : xNL RX3 24 5 [.int 0, .long 0, .long 0, .int 0] := ⟨RX5, TX5, 4, tyX5, rfl, xin5, xw478, xw479, xw75, tyX5_ok, by decide +kernel, rfl⟩
theorem xc_X3_init_26 : xLIN k_X3_init k_X5_init 26 yX5_init 0 := ⟨List.mem_of_getElem? (i := 1) rfl, List.forall_mem_cons.mpr ⟨xw481, List.forall_mem_cons.mpr ⟨xw75, fun _ h => absurd h List.not_mem_nil⟩⟩, xw482, rfl, ⟨⟨by decide +kernel, by decide +kernel, by decide +kernel⟩, by decide, by decide⟩⟩
theorem xp_X3_27 : xFP RX3 27 3 3 (.object "RentStream$Plan") true := ⟨RX3, TX3, 11, "RentStream$Lease", tyX3, rfl, xin3, by decide, xw524, Or.inl rfl, tyX3_ok, nmX3, rfl, by decide +kernel, fun _ => rfl⟩
theorem xn_X3_31 : xNL RX3 31 2 [.int 0, .int 0, .long 0] := ⟨RX2, TX2, 3, tyX2, rfl, xin2, xw498, xw499, xw76, tyX2_ok, by decide +kernel, rfl⟩
theorem xc_X3_init_33 : xLIN k_X3_init k_X2_init 33 yX2_init 0 := ⟨List.mem_of_getElem? (i := 2) rfl, List.forall_mem_cons.mpr ⟨xw501, List.forall_mem_cons.mpr ⟨xw76, fun _ h => absurd h List.not_mem_nil⟩⟩, xw502, rfl, ⟨⟨by decide +kernel, by decide +kernel, by decide +kernel⟩, by decide, by decide⟩⟩
theorem xp_X3_34 : xFP RX3 34 3 4 (.object "RentStream$HeatShare") true := ⟨RX3, TX3, 11, "RentStream$Lease", tyX3, rfl, xin3, by decide, xw526, Or.inl rfl, tyX3_ok, nmX3, rfl, by decide +kernel, fun _ => rfl⟩
theorem xp_X3_38 : xFP RX3 38 3 5 .long false := ⟨RX3, TX3, 11, "RentStream$Lease", tyX3, rfl, xin3, by decide, xw528, Or.inl rfl, tyX3_ok, nmX3, rfl, by decide +kernel, fun h => nomatch h⟩
theorem xp_X3_42 : xFP RX3 42 3 6 .long false := ⟨RX3, TX3, 11, "RentStream$Lease", tyX3, rfl, xin3, by decide, xw530, Or.inl rfl, tyX3_ok, nmX3, rfl, by decide +kernel, fun h => nomatch h⟩
theorem xp_X3_45 : xFP RX3 45 3 7 .long false := ⟨RX3, TX3, 11, "RentStream$Lease", tyX3, rfl, xin3, by decide, xw532, Or.inl rfl, tyX3_ok, nmX3, rfl, by decide +kernel, fun h => nomatch h⟩
theorem xp_X3_50 : xFP RX3 50 3 10 (.array (.object "RentStream$Bill")) true := ⟨RX3, TX3, 11, "RentStream$Lease", tyX3, rfl, xin3, by decide, xw536, Or.inl rfl, tyX3_ok, nmX3, rfl, by decide +kernel, fun _ => rfl⟩
theorem xp_X3_54 : xFP RX3 54 3 0 (.object "RentStream$Flat") true := ⟨RX3, TX3, 11, "RentStream$Lease", tyX3, rfl, xin3, by decide, xw518, Or.inl rfl, tyX3_ok, nmX3, rfl, by decide +kernel, fun _ => rfl⟩
theorem xp_X3_58 : xFP RX3 58 3 8 .int true := ⟨RX3, TX3, 11, "RentStream$Lease", tyX3, rfl, xin3, by decide, xw534, Or.inl rfl, tyX3_ok, nmX3, rfl, by decide +kernel, fun _ => rfl⟩
theorem xp_X3_61 : xFP RX3 61 3 9 .int true := ⟨RX3, TX3, 11, "RentStream$Lease", tyX3, rfl, xin3, by decide, xw535, Or.inl rfl, tyX3_ok, nmX3, rfl, by decide +kernel, fun _ => rfl⟩
theorem xc_X7_lease_82 : xLV k_X7_lease k_X7_flatAt 82 RX7 yX7_flatAt (some (.object "RentStream$Flat")) 1 := ⟨List.forall_mem_cons.mpr ⟨xw425, List.forall_mem_cons.mpr ⟨xw427, List.forall_mem_cons.mpr ⟨xw8, List.forall_mem_cons.mpr ⟨xw50, fun _ h => absurd h List.not_mem_nil⟩⟩⟩⟩, xw428, ⟨⟨by decide +kernel, by decide +kernel, by decide +kernel⟩, by decide, by decide⟩⟩
theorem xc_X7_lease_66 : xLV k_X7_lease k_Jx4a65c_size_8abf5 66 RJx4a65c yJx4a65c_size_8abf5 (some .int) 0 := ⟨List.forall_mem_cons.mpr ⟨xw300, List.forall_mem_cons.mpr ⟨xw301, List.forall_mem_cons.mpr ⟨xw302, List.forall_mem_cons.mpr ⟨xw53, fun _ h => absurd h List.not_mem_nil⟩⟩⟩⟩, xw303, ⟨⟨by decide +kernel, by decide +kernel, by decide +kernel⟩, by decide, by decide⟩⟩
theorem xc_X7_lease_89 : xLV k_X7_lease k_X7_isLetOn 89 RX7 yX7_isLetOn (some .boolean) 1 := ⟨List.forall_mem_cons.mpr ⟨xw461, List.forall_mem_cons.mpr ⟨xw463, List.forall_mem_cons.mpr ⟨xw9, List.forall_mem_cons.mpr ⟨xw50, fun _ h => absurd h List.not_mem_nil⟩⟩⟩⟩, xw464, ⟨⟨by decide +kernel, by decide +kernel, by decide +kernel⟩, by decide, by decide⟩⟩
theorem xn_X7_95 : xNL RX7 95 3 [.null, .int 0, .null, .null, .null, .long 0, .long 0, .long 0, .int 0, .int 0, .null] := ⟨RX3, TX3, 11, tyX3, rfl, xin3, xw465, xw467, xw74, tyX3_ok, by decide +kernel, rfl⟩
theorem xc_X7_lease_97 : xLV k_X7_lease k_X7_monthNow 97 RX7 yX7_monthNow (some .int) 0 := ⟨List.forall_mem_cons.mpr ⟨xw468, List.forall_mem_cons.mpr ⟨xw470, List.forall_mem_cons.mpr ⟨xw10, List.forall_mem_cons.mpr ⟨xw50, fun _ h => absurd h List.not_mem_nil⟩⟩⟩⟩, xw471, ⟨⟨by decide +kernel, by decide +kernel, by decide +kernel⟩, by decide, by decide⟩⟩
theorem xc_X7_lease_100 : xLI k_X7_lease k_X3_init 100 yX3_init 3 := ⟨List.forall_mem_cons.mpr ⟨xw472, List.forall_mem_cons.mpr ⟨xw473, List.forall_mem_cons.mpr ⟨xw74, fun _ h => absurd h List.not_mem_nil⟩⟩⟩, xw474, rfl, ⟨⟨by decide +kernel, by decide +kernel, by decide +kernel⟩, by decide, by decide⟩⟩
theorem xc_X7_lease_78 : xLV k_X7_lease k_Jx4a65c_add_9ea2d 78 RJx4a65c yJx4a65c_add_9ea2d (some .boolean) 1 := ⟨List.forall_mem_cons.mpr ⟨xw353, List.forall_mem_cons.mpr ⟨xw354, List.forall_mem_cons.mpr ⟨xw355, List.forall_mem_cons.mpr ⟨xw53, fun _ h => absurd h List.not_mem_nil⟩⟩⟩⟩, xw356, ⟨⟨by decide +kernel, by decide +kernel, by decide +kernel⟩, by decide, by decide⟩⟩
theorem xf_J5_15 : xFL RJ5 15 9 0 := ⟨RJ4, TJ4, 4, "java/lang/AbstractStringBuilder", rfl, xin9, by decide, xw146, Or.inl rfl⟩
theorem xf_J5_22 : xFL RJ5 22 9 1 := ⟨RJ4, TJ4, 4, "java/lang/AbstractStringBuilder", rfl, xin9, by decide, xw147, Or.inl rfl⟩
theorem xc_J5_newCapacity_0f7a4_114 : xLS k_J5_newCapacity_0f7a4 k_J8_newLength_cabcc 114 yJ8_newLength_cabcc (some .int) 3 := ⟨List.forall_mem_cons.mpr ⟨xw916, List.forall_mem_cons.mpr ⟨xw370, List.forall_mem_cons.mpr ⟨xw67, fun _ h => absurd h List.not_mem_nil⟩⟩⟩, xw371, ⟨⟨by decide +kernel, by decide +kernel, by decide +kernel⟩, by decide, by decide⟩⟩
theorem xc_J5_ensureCapacityInternal_d00df_104 : xLV k_J5_ensureCapacityInternal_d00df k_J5_newCapacity_0f7a4 104 RJ4 yJ5_newCapacity_0f7a4 (some .int) 1 := ⟨List.forall_mem_cons.mpr ⟨xw912, List.forall_mem_cons.mpr ⟨xw914, List.forall_mem_cons.mpr ⟨xw1, List.forall_mem_cons.mpr ⟨xw55, fun _ h => absurd h List.not_mem_nil⟩⟩⟩⟩, xw915, ⟨⟨by decide +kernel, by decide +kernel, by decide +kernel⟩, by decide, by decide⟩⟩
theorem xc_J5_ensureCapacityInternal_d00df_108 : xLS k_J5_ensureCapacityInternal_d00df k_J7_copyOf_9075b 108 yJ7_copyOf_9075b (some (.array .byte)) 2 := ⟨List.forall_mem_cons.mpr ⟨xw918, List.forall_mem_cons.mpr ⟨xw919, List.forall_mem_cons.mpr ⟨xw69, fun _ h => absurd h List.not_mem_nil⟩⟩⟩, xw920, ⟨⟨by decide +kernel, by decide +kernel, by decide +kernel⟩, by decide, by decide⟩⟩
theorem xc_J5_append_3fe6f_83 : xLV k_J5_append_3fe6f k_J5_isLatin1_aae02 83 RJ4 yJ5_isLatin1_aae02 (some .boolean) 0 := ⟨List.forall_mem_cons.mpr ⟨xw928, List.forall_mem_cons.mpr ⟨xw929, List.forall_mem_cons.mpr ⟨xw931, List.forall_mem_cons.mpr ⟨xw55, fun _ h => absurd h List.not_mem_nil⟩⟩⟩⟩, xw932, ⟨⟨by decide +kernel, by decide +kernel, by decide +kernel⟩, by decide, by decide⟩⟩
theorem xf_J5_79 : xFL RJ5 79 9 3 := ⟨RJ4, TJ4, 4, "java/lang/AbstractStringBuilder", rfl, xin9, by decide, xw150, Or.inl rfl⟩
theorem xp_J5_79 : xFP RJ5 79 9 3 .int false := ⟨RJ4, TJ4, 4, "java/lang/AbstractStringBuilder", tyJ4, rfl, xin9, by decide, xw150, Or.inl rfl, tyJ4_ok, nmJ4, rfl, by decide +kernel, fun h => nomatch h⟩
theorem xc_J5_append_3fe6f_100 : xLV k_J5_append_3fe6f k_J5_ensureCapacityInternal_d00df 100 RJ4 yJ5_ensureCapacityInternal_d00df none 1 := ⟨List.forall_mem_cons.mpr ⟨xw908, List.forall_mem_cons.mpr ⟨xw910, List.forall_mem_cons.mpr ⟨xw0, List.forall_mem_cons.mpr ⟨xw55, fun _ h => absurd h List.not_mem_nil⟩⟩⟩⟩, xw911, ⟨⟨by decide +kernel, by decide +kernel, by decide +kernel⟩, by decide, by decide⟩⟩
theorem xc_J5_append_3fe6f_191 : xLS k_J5_append_3fe6f k_J1_canEncode_fc78d 191 yJ1_canEncode_fc78d (some .boolean) 1 := ⟨List.forall_mem_cons.mpr ⟨xw1152, List.forall_mem_cons.mpr ⟨xw1153, List.forall_mem_cons.mpr ⟨xw79, fun _ h => absurd h List.not_mem_nil⟩⟩⟩, xw1154, ⟨⟨by decide +kernel, by decide +kernel, by decide +kernel⟩, by decide, by decide⟩⟩
theorem xc_J4_append_cf468_50 : xLSU k_J4_append_cf468 k_J5_append_3fe6f 50 yJ5_append_3fe6f (some (.object "java/lang/AbstractStringBuilder")) 1 := ⟨List.forall_mem_cons.mpr ⟨xw1149, List.forall_mem_cons.mpr ⟨xw1541, List.forall_mem_cons.mpr ⟨xw159, List.forall_mem_cons.mpr ⟨xw1150, List.forall_mem_cons.mpr ⟨xw55, fun _ h => absurd h List.not_mem_nil⟩⟩⟩⟩⟩, xw1151, by decide +kernel, ⟨⟨by decide +kernel, by decide +kernel, by decide +kernel⟩, by decide, by decide⟩⟩
theorem xc_X7_writeDigits_375 : xLV k_X7_writeDigits k_J4_append_cf468 375 RJ4 yJ4_append_cf468 (some (.object "java/lang/StringBuilder")) 1 := ⟨List.forall_mem_cons.mpr ⟨xw1145, List.forall_mem_cons.mpr ⟨xw1146, List.forall_mem_cons.mpr ⟨xw1147, List.forall_mem_cons.mpr ⟨xw56, fun _ h => absurd h List.not_mem_nil⟩⟩⟩⟩, xw1148, ⟨⟨by decide +kernel, by decide +kernel, by decide +kernel⟩, by decide, by decide⟩⟩
theorem xc_J5_append_c97b9_245 : xLS k_J5_append_c97b9 k_J6_stringSize_0f7a4 245 yJ6_stringSize_0f7a4 (some .int) 1 := ⟨List.forall_mem_cons.mpr ⟨xw1009, List.forall_mem_cons.mpr ⟨xw1010, List.forall_mem_cons.mpr ⟨xw81, fun _ h => absurd h List.not_mem_nil⟩⟩⟩, xw1011, ⟨⟨by decide +kernel, by decide +kernel, by decide +kernel⟩, by decide, by decide⟩⟩
theorem xc_J5_append_c97b9_100 : xLV k_J5_append_c97b9 k_J5_ensureCapacityInternal_d00df 100 RJ4 yJ5_ensureCapacityInternal_d00df none 1 := ⟨List.forall_mem_cons.mpr ⟨xw908, List.forall_mem_cons.mpr ⟨xw910, List.forall_mem_cons.mpr ⟨xw0, List.forall_mem_cons.mpr ⟨xw55, fun _ h => absurd h List.not_mem_nil⟩⟩⟩⟩, xw911, ⟨⟨by decide +kernel, by decide +kernel, by decide +kernel⟩, by decide, by decide⟩⟩
theorem xc_J5_append_c97b9_83 : xLV k_J5_append_c97b9 k_J5_isLatin1_aae02 83 RJ4 yJ5_isLatin1_aae02 (some .boolean) 0 := ⟨List.forall_mem_cons.mpr ⟨xw928, List.forall_mem_cons.mpr ⟨xw929, List.forall_mem_cons.mpr ⟨xw931, List.forall_mem_cons.mpr ⟨xw55, fun _ h => absurd h List.not_mem_nil⟩⟩⟩⟩, xw932, ⟨⟨by decide +kernel, by decide +kernel, by decide +kernel⟩, by decide, by decide⟩⟩
theorem xc_J5_append_c97b9_248 : xLS k_J5_append_c97b9 k_J6_getChars_ba4f3 248 yJ6_getChars_ba4f3 (some .int) 3 := ⟨List.forall_mem_cons.mpr ⟨xw1012, List.forall_mem_cons.mpr ⟨xw1013, List.forall_mem_cons.mpr ⟨xw81, fun _ h => absurd h List.not_mem_nil⟩⟩⟩, xw1014, ⟨⟨by decide +kernel, by decide +kernel, by decide +kernel⟩, by decide, by decide⟩⟩
theorem xc_J4_append_bf812_53 : xLSU k_J4_append_bf812 k_J5_append_c97b9 53 yJ5_append_c97b9 (some (.object "java/lang/AbstractStringBuilder")) 1 := ⟨List.forall_mem_cons.mpr ⟨xw1006, List.forall_mem_cons.mpr ⟨xw1540, List.forall_mem_cons.mpr ⟨xw159, List.forall_mem_cons.mpr ⟨xw1007, List.forall_mem_cons.mpr ⟨xw55, fun _ h => absurd h List.not_mem_nil⟩⟩⟩⟩⟩, xw1008, by decide +kernel, ⟨⟨by decide +kernel, by decide +kernel, by decide +kernel⟩, by decide, by decide⟩⟩
theorem xc_X7_writeWhole_379 : xLV k_X7_writeWhole k_J4_append_bf812 379 RJ4 yJ4_append_bf812 (some (.object "java/lang/StringBuilder")) 1 := ⟨List.forall_mem_cons.mpr ⟨xw1165, List.forall_mem_cons.mpr ⟨xw1003, List.forall_mem_cons.mpr ⟨xw1004, List.forall_mem_cons.mpr ⟨xw56, fun _ h => absurd h List.not_mem_nil⟩⟩⟩⟩, xw1005, ⟨⟨by decide +kernel, by decide +kernel, by decide +kernel⟩, by decide, by decide⟩⟩
theorem xc_X7_writeWhole_375 : xLV k_X7_writeWhole k_J4_append_cf468 375 RJ4 yJ4_append_cf468 (some (.object "java/lang/StringBuilder")) 1 := ⟨List.forall_mem_cons.mpr ⟨xw1145, List.forall_mem_cons.mpr ⟨xw1146, List.forall_mem_cons.mpr ⟨xw1147, List.forall_mem_cons.mpr ⟨xw56, fun _ h => absurd h List.not_mem_nil⟩⟩⟩⟩, xw1148, ⟨⟨by decide +kernel, by decide +kernel, by decide +kernel⟩, by decide, by decide⟩⟩
theorem xc_X7_writeWhole_395 : xLS k_X7_writeWhole k_X7_writeDigits 395 yX7_writeDigits none 3 := ⟨List.forall_mem_cons.mpr ⟨xw1174, List.forall_mem_cons.mpr ⟨xw1175, List.forall_mem_cons.mpr ⟨xw50, fun _ h => absurd h List.not_mem_nil⟩⟩⟩, xw1176, ⟨⟨by decide +kernel, by decide +kernel, by decide +kernel⟩, by decide, by decide⟩⟩
theorem xc_X7_writeAmount_375 : xLV k_X7_writeAmount k_J4_append_cf468 375 RJ4 yJ4_append_cf468 (some (.object "java/lang/StringBuilder")) 1 := ⟨List.forall_mem_cons.mpr ⟨xw1145, List.forall_mem_cons.mpr ⟨xw1146, List.forall_mem_cons.mpr ⟨xw1147, List.forall_mem_cons.mpr ⟨xw56, fun _ h => absurd h List.not_mem_nil⟩⟩⟩⟩, xw1148, ⟨⟨by decide +kernel, by decide +kernel, by decide +kernel⟩, by decide, by decide⟩⟩
theorem xc_X7_writeAmount_391 : xLS k_X7_writeAmount k_X7_writeWhole 391 yX7_writeWhole none 2 := ⟨List.forall_mem_cons.mpr ⟨xw1171, List.forall_mem_cons.mpr ⟨xw1172, List.forall_mem_cons.mpr ⟨xw50, fun _ h => absurd h List.not_mem_nil⟩⟩⟩, xw1173, ⟨⟨by decide +kernel, by decide +kernel, by decide +kernel⟩, by decide, by decide⟩⟩
theorem xc_X7_writeAmount_395 : xLS k_X7_writeAmount k_X7_writeDigits 395 yX7_writeDigits none 3 := ⟨List.forall_mem_cons.mpr ⟨xw1174, List.forall_mem_cons.mpr ⟨xw1175, List.forall_mem_cons.mpr ⟨xw50, fun _ h => absurd h List.not_mem_nil⟩⟩⟩, xw1176, ⟨⟨by decide +kernel, by decide +kernel, by decide +kernel⟩, by decide, by decide⟩⟩
theorem xc_J5_inflateIfNeededFor_a7421_40 : xLV k_J5_inflateIfNeededFor_a7421 k_J0_coder_7d493 40 RJ0 yJ0_coder_7d493 (some .byte) 0 := ⟨List.forall_mem_cons.mpr ⟨xw976, List.forall_mem_cons.mpr ⟨xw964, List.forall_mem_cons.mpr ⟨xw965, List.forall_mem_cons.mpr ⟨xw57, fun _ h => absurd h List.not_mem_nil⟩⟩⟩⟩, xw966, ⟨⟨by decide +kernel, by decide +kernel, by decide +kernel⟩, by decide, by decide⟩⟩
theorem xc_J0_getBytes_840e7_335 : xLV k_J0_getBytes_840e7 k_J0_coder_7d493 335 RJ0 yJ0_coder_7d493 (some .byte) 0 := ⟨List.forall_mem_cons.mpr ⟨xw963, List.forall_mem_cons.mpr ⟨xw964, List.forall_mem_cons.mpr ⟨xw965, List.forall_mem_cons.mpr ⟨xw57, fun _ h => absurd h List.not_mem_nil⟩⟩⟩⟩, xw966, ⟨⟨by decide +kernel, by decide +kernel, by decide +kernel⟩, by decide, by decide⟩⟩
theorem xlc_J0_212 : xLC RJ0 212 := ⟨xw1000, xw414, xw413, xw70⟩
theorem xc_J5_putStringAt_47b60_397 : xLV k_J5_putStringAt_47b60 k_J5_inflateIfNeededFor_a7421 397 RJ4 yJ5_inflateIfNeededFor_a7421 none 1 := ⟨List.forall_mem_cons.mpr ⟨xw972, List.forall_mem_cons.mpr ⟨xw974, List.forall_mem_cons.mpr ⟨xw3, List.forall_mem_cons.mpr ⟨xw55, fun _ h => absurd h List.not_mem_nil⟩⟩⟩⟩, xw975, ⟨⟨by decide +kernel, by decide +kernel, by decide +kernel⟩, by decide, by decide⟩⟩
theorem xc_J5_putStringAt_47b60_399 : xLV k_J5_putStringAt_47b60 k_J0_getBytes_840e7 399 RJ0 yJ0_getBytes_840e7 none 3 := ⟨List.forall_mem_cons.mpr ⟨xw996, List.forall_mem_cons.mpr ⟨xw997, List.forall_mem_cons.mpr ⟨xw998, List.forall_mem_cons.mpr ⟨xw57, fun _ h => absurd h List.not_mem_nil⟩⟩⟩⟩, xw999, ⟨⟨by decide +kernel, by decide +kernel, by decide +kernel⟩, by decide, by decide⟩⟩
theorem xc_J0_length_8abf5_335 : xLV k_J0_length_8abf5 k_J0_coder_7d493 335 RJ0 yJ0_coder_7d493 (some .byte) 0 := ⟨List.forall_mem_cons.mpr ⟨xw963, List.forall_mem_cons.mpr ⟨xw964, List.forall_mem_cons.mpr ⟨xw965, List.forall_mem_cons.mpr ⟨xw57, fun _ h => absurd h List.not_mem_nil⟩⟩⟩⟩, xw966, ⟨⟨by decide +kernel, by decide +kernel, by decide +kernel⟩, by decide, by decide⟩⟩
theorem xc_J5_append_cf1ce_32 : xLV k_J5_append_cf1ce k_J0_length_8abf5 32 RJ0 yJ0_length_8abf5 (some .int) 0 := ⟨List.forall_mem_cons.mpr ⟨xw959, List.forall_mem_cons.mpr ⟨xw960, List.forall_mem_cons.mpr ⟨xw961, List.forall_mem_cons.mpr ⟨xw57, fun _ h => absurd h List.not_mem_nil⟩⟩⟩⟩, xw962, ⟨⟨by decide +kernel, by decide +kernel, by decide +kernel⟩, by decide, by decide⟩⟩
theorem xc_J5_append_cf1ce_100 : xLV k_J5_append_cf1ce k_J5_ensureCapacityInternal_d00df 100 RJ4 yJ5_ensureCapacityInternal_d00df none 1 := ⟨List.forall_mem_cons.mpr ⟨xw908, List.forall_mem_cons.mpr ⟨xw910, List.forall_mem_cons.mpr ⟨xw0, List.forall_mem_cons.mpr ⟨xw55, fun _ h => absurd h List.not_mem_nil⟩⟩⟩⟩, xw911, ⟨⟨by decide +kernel, by decide +kernel, by decide +kernel⟩, by decide, by decide⟩⟩
theorem xc_J5_append_cf1ce_208 : xLV k_J5_append_cf1ce k_J5_putStringAt_47b60 208 RJ4 yJ5_putStringAt_47b60 none 2 := ⟨List.forall_mem_cons.mpr ⟨xw968, List.forall_mem_cons.mpr ⟨xw970, List.forall_mem_cons.mpr ⟨xw2, List.forall_mem_cons.mpr ⟨xw55, fun _ h => absurd h List.not_mem_nil⟩⟩⟩⟩, xw971, ⟨⟨by decide +kernel, by decide +kernel, by decide +kernel⟩, by decide, by decide⟩⟩
theorem xc_J4_append_15ec4_29 : xLSU k_J4_append_15ec4 k_J5_append_cf1ce 29 yJ5_append_cf1ce (some (.object "java/lang/AbstractStringBuilder")) 1 := ⟨List.forall_mem_cons.mpr ⟨xw901, List.forall_mem_cons.mpr ⟨xw1533, List.forall_mem_cons.mpr ⟨xw159, List.forall_mem_cons.mpr ⟨xw902, List.forall_mem_cons.mpr ⟨xw55, fun _ h => absurd h List.not_mem_nil⟩⟩⟩⟩⟩, xw903, by decide +kernel, ⟨⟨by decide +kernel, by decide +kernel, by decide +kernel⟩, by decide, by decide⟩⟩
theorem xc_X7_writeLine_375 : xLV k_X7_writeLine k_J4_append_cf468 375 RJ4 yJ4_append_cf468 (some (.object "java/lang/StringBuilder")) 1 := ⟨List.forall_mem_cons.mpr ⟨xw1145, List.forall_mem_cons.mpr ⟨xw1146, List.forall_mem_cons.mpr ⟨xw1147, List.forall_mem_cons.mpr ⟨xw56, fun _ h => absurd h List.not_mem_nil⟩⟩⟩⟩, xw1148, ⟨⟨by decide +kernel, by decide +kernel, by decide +kernel⟩, by decide, by decide⟩⟩
theorem xc_X7_writeLine_379 : xLV k_X7_writeLine k_J4_append_bf812 379 RJ4 yJ4_append_bf812 (some (.object "java/lang/StringBuilder")) 1 := ⟨List.forall_mem_cons.mpr ⟨xw1165, List.forall_mem_cons.mpr ⟨xw1003, List.forall_mem_cons.mpr ⟨xw1004, List.forall_mem_cons.mpr ⟨xw56, fun _ h => absurd h List.not_mem_nil⟩⟩⟩⟩, xw1005, ⟨⟨by decide +kernel, by decide +kernel, by decide +kernel⟩, by decide, by decide⟩⟩
theorem xc_X7_writeLine_384 : xLV k_X7_writeLine k_J4_append_15ec4 384 RJ4 yJ4_append_15ec4 (some (.object "java/lang/StringBuilder")) 1 := ⟨List.forall_mem_cons.mpr ⟨xw1167, List.forall_mem_cons.mpr ⟨xw898, List.forall_mem_cons.mpr ⟨xw899, List.forall_mem_cons.mpr ⟨xw56, fun _ h => absurd h List.not_mem_nil⟩⟩⟩⟩, xw900, ⟨⟨by decide +kernel, by decide +kernel, by decide +kernel⟩, by decide, by decide⟩⟩
theorem xc_X7_writeLine_387 : xLS k_X7_writeLine k_X7_writeAmount 387 yX7_writeAmount none 3 := ⟨List.forall_mem_cons.mpr ⟨xw1168, List.forall_mem_cons.mpr ⟨xw1169, List.forall_mem_cons.mpr ⟨xw50, fun _ h => absurd h List.not_mem_nil⟩⟩⟩, xw1170, ⟨⟨by decide +kernel, by decide +kernel, by decide +kernel⟩, by decide, by decide⟩⟩
theorem xf_X7_359 : xFL RX7 359 0 3 := ⟨RX0, TX0, 4, "RentStream$Bill", rfl, xin0, by decide, xw177, Or.inl rfl⟩
theorem xc_X7_writeLine_220 : xLV k_X7_writeLine k_X0_ofTenant 220 RX0 yX0_ofTenant (some .int) 0 := ⟨List.forall_mem_cons.mpr ⟨xw827, List.forall_mem_cons.mpr ⟨xw828, List.forall_mem_cons.mpr ⟨xw829, List.forall_mem_cons.mpr ⟨xw59, fun _ h => absurd h List.not_mem_nil⟩⟩⟩⟩, xw830, ⟨⟨by decide +kernel, by decide +kernel, by decide +kernel⟩, by decide, by decide⟩⟩
theorem xc_J0_checkIndex_df160_1059 : xLS k_J0_checkIndex_df160 k_J3_checkIndex_8e157 1059 yJ3_checkIndex_8e157 (some .int) 3 := ⟨List.forall_mem_cons.mpr ⟨xw1164, List.forall_mem_cons.mpr ⟨xw453, List.forall_mem_cons.mpr ⟨xw73, fun _ h => absurd h List.not_mem_nil⟩⟩⟩, xw454, ⟨⟨by decide +kernel, by decide +kernel, by decide +kernel⟩, by decide, by decide⟩⟩
theorem xlm_J5_138 : xLM RJ5 138 Lib.Math.min.name Lib.Math.min.code 2 .int := ⟨xw1185, xw410, xw68, xw411⟩
theorem xc_J5_charAt_5068e_144 : xLS k_J5_charAt_5068e k_J0_checkIndex_df160 144 yJ0_checkIndex_df160 none 2 := ⟨List.forall_mem_cons.mpr ⟨xw1186, List.forall_mem_cons.mpr ⟨xw1162, List.forall_mem_cons.mpr ⟨xw57, fun _ h => absurd h List.not_mem_nil⟩⟩⟩, xw1163, ⟨⟨by decide +kernel, by decide +kernel, by decide +kernel⟩, by decide, by decide⟩⟩
theorem xc_J4_charAt_5068e_329 : xLSU k_J4_charAt_5068e k_J5_charAt_5068e 329 yJ5_charAt_5068e (some .char) 1 := ⟨List.forall_mem_cons.mpr ⟨xw1182, List.forall_mem_cons.mpr ⟨xw1543, List.forall_mem_cons.mpr ⟨xw159, List.forall_mem_cons.mpr ⟨xw1183, List.forall_mem_cons.mpr ⟨xw55, fun _ h => absurd h List.not_mem_nil⟩⟩⟩⟩⟩, xw1184, by decide +kernel, ⟨⟨by decide +kernel, by decide +kernel, by decide +kernel⟩, by decide, by decide⟩⟩
theorem xc_J4_length_8abf5_343 : xLSU k_J4_length_8abf5 k_J5_length_8abf5 343 yJ5_length_8abf5 (some .int) 0 := ⟨List.forall_mem_cons.mpr ⟨xw1051, List.forall_mem_cons.mpr ⟨xw1047, List.forall_mem_cons.mpr ⟨xw159, List.forall_mem_cons.mpr ⟨xw1046, List.forall_mem_cons.mpr ⟨xw55, fun _ h => absurd h List.not_mem_nil⟩⟩⟩⟩⟩, xw1052, by decide +kernel, ⟨⟨by decide +kernel, by decide +kernel, by decide +kernel⟩, by decide, by decide⟩⟩
theorem xc_J5_setLength_d00df_100 : xLV k_J5_setLength_d00df k_J5_ensureCapacityInternal_d00df 100 RJ4 yJ5_ensureCapacityInternal_d00df none 1 := ⟨List.forall_mem_cons.mpr ⟨xw908, List.forall_mem_cons.mpr ⟨xw910, List.forall_mem_cons.mpr ⟨xw0, List.forall_mem_cons.mpr ⟨xw55, fun _ h => absurd h List.not_mem_nil⟩⟩⟩⟩, xw911, ⟨⟨by decide +kernel, by decide +kernel, by decide +kernel⟩, by decide, by decide⟩⟩
theorem xp_J5_73 : xFP RJ5 73 9 2 .boolean false := ⟨RJ4, TJ4, 4, "java/lang/AbstractStringBuilder", tyJ4, rfl, xin9, by decide, xw148, Or.inl rfl, tyJ4_ok, nmJ4, rfl, by decide +kernel, fun h => nomatch h⟩
theorem xc_J5_setLength_d00df_83 : xLV k_J5_setLength_d00df k_J5_isLatin1_aae02 83 RJ4 yJ5_isLatin1_aae02 (some .boolean) 0 := ⟨List.forall_mem_cons.mpr ⟨xw928, List.forall_mem_cons.mpr ⟨xw929, List.forall_mem_cons.mpr ⟨xw931, List.forall_mem_cons.mpr ⟨xw55, fun _ h => absurd h List.not_mem_nil⟩⟩⟩⟩, xw932, ⟨⟨by decide +kernel, by decide +kernel, by decide +kernel⟩, by decide, by decide⟩⟩
theorem xc_J4_setLength_d00df_333 : xLSU k_J4_setLength_d00df k_J5_setLength_d00df 333 yJ5_setLength_d00df none 1 := ⟨List.forall_mem_cons.mpr ⟨xw886, List.forall_mem_cons.mpr ⟨xw1532, List.forall_mem_cons.mpr ⟨xw159, List.forall_mem_cons.mpr ⟨xw887, List.forall_mem_cons.mpr ⟨xw55, fun _ h => absurd h List.not_mem_nil⟩⟩⟩⟩⟩, xw888, by decide +kernel, ⟨⟨by decide +kernel, by decide +kernel, by decide +kernel⟩, by decide, by decide⟩⟩
theorem xc_X7_line_103 : xLV k_X7_line k_X7_leaseAt 103 RX7 yX7_leaseAt (some (.object "RentStream$Lease")) 1 := ⟨List.forall_mem_cons.mpr ⟨xw567, List.forall_mem_cons.mpr ⟨xw569, List.forall_mem_cons.mpr ⟨xw11, List.forall_mem_cons.mpr ⟨xw50, fun _ h => absurd h List.not_mem_nil⟩⟩⟩⟩, xw570, ⟨⟨by decide +kernel, by decide +kernel, by decide +kernel⟩, by decide, by decide⟩⟩
theorem xc_X7_line_162 : xLV k_X7_line k_X7_needMonth 162 RX7 yX7_needMonth none 1 := ⟨List.forall_mem_cons.mpr ⟨xw661, List.forall_mem_cons.mpr ⟨xw663, List.forall_mem_cons.mpr ⟨xw12, List.forall_mem_cons.mpr ⟨xw50, fun _ h => absurd h List.not_mem_nil⟩⟩⟩⟩, xw664, ⟨⟨by decide +kernel, by decide +kernel, by decide +kernel⟩, by decide, by decide⟩⟩
theorem xc_X7_line_228 : xLV k_X7_line k_X3_billOf 228 RX3 yX3_billOf (some (.object "RentStream$Bill")) 1 := ⟨List.forall_mem_cons.mpr ⟨xw868, List.forall_mem_cons.mpr ⟨xw671, List.forall_mem_cons.mpr ⟨xw672, List.forall_mem_cons.mpr ⟨xw74, fun _ h => absurd h List.not_mem_nil⟩⟩⟩⟩, xw673, ⟨⟨by decide +kernel, by decide +kernel, by decide +kernel⟩, by decide, by decide⟩⟩
theorem xf_X7_37 : xFL RX7 37 7 5 := ⟨RX7, TX7, 10, "RentStream", rfl, xin7, by decide, xw192, Or.inl rfl⟩
theorem xc_X7_line_239 : xLV k_X7_line k_J4_setLength_d00df 239 RJ4 yJ4_setLength_d00df none 1 := ⟨List.forall_mem_cons.mpr ⟨xw882, List.forall_mem_cons.mpr ⟨xw883, List.forall_mem_cons.mpr ⟨xw884, List.forall_mem_cons.mpr ⟨xw56, fun _ h => absurd h List.not_mem_nil⟩⟩⟩⟩, xw885, ⟨⟨by decide +kernel, by decide +kernel, by decide +kernel⟩, by decide, by decide⟩⟩
theorem xc_X7_line_242 : xLS k_X7_line k_X7_writeLine 242 yX7_writeLine none 4 := ⟨List.forall_mem_cons.mpr ⟨xw1142, List.forall_mem_cons.mpr ⟨xw1143, List.forall_mem_cons.mpr ⟨xw50, fun _ h => absurd h List.not_mem_nil⟩⟩⟩, xw1144, ⟨⟨by decide +kernel, by decide +kernel, by decide +kernel⟩, by decide, by decide⟩⟩
theorem xc_X7_line_246 : xLV k_X7_line k_J4_length_8abf5 246 RJ4 yJ4_length_8abf5 (some .int) 0 := ⟨List.forall_mem_cons.mpr ⟨xw1177, List.forall_mem_cons.mpr ⟨xw1049, List.forall_mem_cons.mpr ⟨xw1542, List.forall_mem_cons.mpr ⟨xw56, fun _ h => absurd h List.not_mem_nil⟩⟩⟩⟩, xw1050, ⟨⟨by decide +kernel, by decide +kernel, by decide +kernel⟩, by decide, by decide⟩⟩
theorem xc_X7_line_249 : xLV k_X7_line k_J4_charAt_5068e 249 RJ4 yJ4_charAt_5068e (some .char) 1 := ⟨List.forall_mem_cons.mpr ⟨xw1178, List.forall_mem_cons.mpr ⟨xw1179, List.forall_mem_cons.mpr ⟨xw1180, List.forall_mem_cons.mpr ⟨xw56, fun _ h => absurd h List.not_mem_nil⟩⟩⟩⟩, xw1181, ⟨⟨by decide +kernel, by decide +kernel, by decide +kernel⟩, by decide, by decide⟩⟩
theorem xc_X7_mend_66 : xLV k_X7_mend k_Jx4a65c_size_8abf5 66 RJx4a65c yJx4a65c_size_8abf5 (some .int) 0 := ⟨List.forall_mem_cons.mpr ⟨xw300, List.forall_mem_cons.mpr ⟨xw301, List.forall_mem_cons.mpr ⟨xw302, List.forall_mem_cons.mpr ⟨xw53, fun _ h => absurd h List.not_mem_nil⟩⟩⟩⟩, xw303, ⟨⟨by decide +kernel, by decide +kernel, by decide +kernel⟩, by decide, by decide⟩⟩
theorem xc_X7_mend_149 : xLV k_X7_mend k_Jx4a65c_get_915e3 149 RJx4a65c yJx4a65c_get_915e3 (some (.object "java/lang/Object")) 1 := ⟨List.forall_mem_cons.mpr ⟨xw445, List.forall_mem_cons.mpr ⟨xw446, List.forall_mem_cons.mpr ⟨xw447, List.forall_mem_cons.mpr ⟨xw53, fun _ h => absurd h List.not_mem_nil⟩⟩⟩⟩, xw448, ⟨⟨by decide +kernel, by decide +kernel, by decide +kernel⟩, by decide, by decide⟩⟩
theorem xf_X7_153 : xFL RX7 153 6 0 := ⟨RX6, TX6, 5, "RentStream$Repair", rfl, xin6, by decide, xw628, Or.inl rfl⟩
theorem xp_X7_153 : xFP RX7 153 6 0 .boolean false := ⟨RX6, TX6, 5, "RentStream$Repair", tyX6, rfl, xin6, by decide, xw628, Or.inl rfl, tyX6_ok, nmX6, rfl, by decide +kernel, fun h => nomatch h⟩
theorem xf_X7_159 : xFL RX7 159 6 1 := ⟨RX6, TX6, 5, "RentStream$Repair", rfl, xin6, by decide, xw630, Or.inl rfl⟩
theorem xc_X7_owes_103 : xLV k_X7_owes k_X7_leaseAt 103 RX7 yX7_leaseAt (some (.object "RentStream$Lease")) 1 := ⟨List.forall_mem_cons.mpr ⟨xw567, List.forall_mem_cons.mpr ⟨xw569, List.forall_mem_cons.mpr ⟨xw11, List.forall_mem_cons.mpr ⟨xw50, fun _ h => absurd h List.not_mem_nil⟩⟩⟩⟩, xw570, ⟨⟨by decide +kernel, by decide +kernel, by decide +kernel⟩, by decide, by decide⟩⟩
theorem xc_X7_owesAnew_209 : xLV k_X7_owesAnew k_X3_runsIn 209 RX3 yX3_runsIn (some .boolean) 1 := ⟨List.forall_mem_cons.mpr ⟨xw770, List.forall_mem_cons.mpr ⟨xw767, List.forall_mem_cons.mpr ⟨xw768, List.forall_mem_cons.mpr ⟨xw74, fun _ h => absurd h List.not_mem_nil⟩⟩⟩⟩, xw769, ⟨⟨by decide +kernel, by decide +kernel, by decide +kernel⟩, by decide, by decide⟩⟩
theorem xc_X7_owesAnew_213 : xLV k_X7_owesAnew k_X7_shareHeat 213 RX7 yX7_shareHeat none 1 := ⟨List.forall_mem_cons.mpr ⟨xw754, List.forall_mem_cons.mpr ⟨xw756, List.forall_mem_cons.mpr ⟨xw20, List.forall_mem_cons.mpr ⟨xw50, fun _ h => absurd h List.not_mem_nil⟩⟩⟩⟩, xw757, ⟨⟨by decide +kernel, by decide +kernel, by decide +kernel⟩, by decide, by decide⟩⟩
theorem xf_X7_44 : xFL RX7 44 7 6 := ⟨RX7, TX7, 10, "RentStream", rfl, xin7, by decide, xw193, Or.inl rfl⟩
theorem xc_X7_owesAnew_216 : xLV k_X7_owesAnew k_X7_settle 216 RX7 yX7_settle none 3 := ⟨List.forall_mem_cons.mpr ⟨xw806, List.forall_mem_cons.mpr ⟨xw808, List.forall_mem_cons.mpr ⟨xw25, List.forall_mem_cons.mpr ⟨xw50, fun _ h => absurd h List.not_mem_nil⟩⟩⟩⟩, xw809, ⟨⟨by decide +kernel, by decide +kernel, by decide +kernel⟩, by decide, by decide⟩⟩
theorem xc_X7_owesAnew_220 : xLV k_X7_owesAnew k_X0_ofTenant 220 RX0 yX0_ofTenant (some .int) 0 := ⟨List.forall_mem_cons.mpr ⟨xw827, List.forall_mem_cons.mpr ⟨xw828, List.forall_mem_cons.mpr ⟨xw829, List.forall_mem_cons.mpr ⟨xw59, fun _ h => absurd h List.not_mem_nil⟩⟩⟩⟩, xw830, ⟨⟨by decide +kernel, by decide +kernel, by decide +kernel⟩, by decide, by decide⟩⟩
theorem xc_X7_owesAnew_103 : xLV k_X7_owesAnew k_X7_leaseAt 103 RX7 yX7_leaseAt (some (.object "RentStream$Lease")) 1 := ⟨List.forall_mem_cons.mpr ⟨xw567, List.forall_mem_cons.mpr ⟨xw569, List.forall_mem_cons.mpr ⟨xw11, List.forall_mem_cons.mpr ⟨xw50, fun _ h => absurd h List.not_mem_nil⟩⟩⟩⟩, xw570, ⟨⟨by decide +kernel, by decide +kernel, by decide +kernel⟩, by decide, by decide⟩⟩
theorem xf_X7_179 : xFL RX7 179 3 7 := ⟨RX3, TX3, 11, "RentStream$Lease", rfl, xin3, by decide, xw533, Or.inl rfl⟩
theorem xc_X7_owesAnew_97 : xLV k_X7_owesAnew k_X7_monthNow 97 RX7 yX7_monthNow (some .int) 0 := ⟨List.forall_mem_cons.mpr ⟨xw468, List.forall_mem_cons.mpr ⟨xw470, List.forall_mem_cons.mpr ⟨xw10, List.forall_mem_cons.mpr ⟨xw50, fun _ h => absurd h List.not_mem_nil⟩⟩⟩⟩, xw471, ⟨⟨by decide +kernel, by decide +kernel, by decide +kernel⟩, by decide, by decide⟩⟩
theorem xc_X7_pass_206 : xLV k_X7_pass k_X7_endDay 206 RX7 yX7_endDay none 0 := ⟨List.forall_mem_cons.mpr ⟨xw721, List.forall_mem_cons.mpr ⟨xw723, List.forall_mem_cons.mpr ⟨xw15, List.forall_mem_cons.mpr ⟨xw50, fun _ h => absurd h List.not_mem_nil⟩⟩⟩⟩, xw724, ⟨⟨by decide +kernel, by decide +kernel, by decide +kernel⟩, by decide, by decide⟩⟩
theorem xc_X7_pay_103 : xLV k_X7_pay k_X7_leaseAt 103 RX7 yX7_leaseAt (some (.object "RentStream$Lease")) 1 := ⟨List.forall_mem_cons.mpr ⟨xw567, List.forall_mem_cons.mpr ⟨xw569, List.forall_mem_cons.mpr ⟨xw11, List.forall_mem_cons.mpr ⟨xw50, fun _ h => absurd h List.not_mem_nil⟩⟩⟩⟩, xw570, ⟨⟨by decide +kernel, by decide +kernel, by decide +kernel⟩, by decide, by decide⟩⟩
theorem xp_X7_179 : xFP RX7 179 3 7 .long false := ⟨RX3, TX3, 11, "RentStream$Lease", tyX3, rfl, xin3, by decide, xw533, Or.inl rfl, tyX3_ok, nmX3, rfl, by decide +kernel, fun h => nomatch h⟩
theorem xc_X7_pay_172 : xLV k_X7_pay k_X7_postToTenant 172 RX7 yX7_postToTenant none 2 := ⟨List.forall_mem_cons.mpr ⟨xw684, List.forall_mem_cons.mpr ⟨xw686, List.forall_mem_cons.mpr ⟨xw13, List.forall_mem_cons.mpr ⟨xw50, fun _ h => absurd h List.not_mem_nil⟩⟩⟩⟩, xw687, ⟨⟨by decide +kernel, by decide +kernel, by decide +kernel⟩, by decide, by decide⟩⟩
theorem xc_X7_plan_103 : xLV k_X7_plan k_X7_leaseAt 103 RX7 yX7_leaseAt (some (.object "RentStream$Lease")) 1 := ⟨List.forall_mem_cons.mpr ⟨xw567, List.forall_mem_cons.mpr ⟨xw569, List.forall_mem_cons.mpr ⟨xw11, List.forall_mem_cons.mpr ⟨xw50, fun _ h => absurd h List.not_mem_nil⟩⟩⟩⟩, xw570, ⟨⟨by decide +kernel, by decide +kernel, by decide +kernel⟩, by decide, by decide⟩⟩
theorem xf_X7_191 : xFL RX7 191 5 0 := ⟨RX5, TX5, 4, "RentStream$Plan", rfl, xin5, by decide, xw485, Or.inl rfl⟩
theorem xc_X7_plan_198 : xLV k_X7_plan k_X5_begin 198 RX5 yX5_begin none 2 := ⟨List.forall_mem_cons.mpr ⟨xw708, List.forall_mem_cons.mpr ⟨xw709, List.forall_mem_cons.mpr ⟨xw710, List.forall_mem_cons.mpr ⟨xw75, fun _ h => absurd h List.not_mem_nil⟩⟩⟩⟩, xw711, ⟨⟨by decide +kernel, by decide +kernel, by decide +kernel⟩, by decide, by decide⟩⟩
theorem xc_X7_planOf_103 : xLV k_X7_planOf k_X7_leaseAt 103 RX7 yX7_leaseAt (some (.object "RentStream$Lease")) 1 := ⟨List.forall_mem_cons.mpr ⟨xw567, List.forall_mem_cons.mpr ⟨xw569, List.forall_mem_cons.mpr ⟨xw11, List.forall_mem_cons.mpr ⟨xw50, fun _ h => absurd h List.not_mem_nil⟩⟩⟩⟩, xw570, ⟨⟨by decide +kernel, by decide +kernel, by decide +kernel⟩, by decide, by decide⟩⟩
theorem xc_X7_points_82 : xLV k_X7_points k_X7_flatAt 82 RX7 yX7_flatAt (some (.object "RentStream$Flat")) 1 := ⟨List.forall_mem_cons.mpr ⟨xw425, List.forall_mem_cons.mpr ⟨xw427, List.forall_mem_cons.mpr ⟨xw8, List.forall_mem_cons.mpr ⟨xw50, fun _ h => absurd h List.not_mem_nil⟩⟩⟩⟩, xw428, ⟨⟨by decide +kernel, by decide +kernel, by decide +kernel⟩, by decide, by decide⟩⟩
theorem xc_X7_points_97 : xLV k_X7_points k_X7_monthNow 97 RX7 yX7_monthNow (some .int) 0 := ⟨List.forall_mem_cons.mpr ⟨xw468, List.forall_mem_cons.mpr ⟨xw470, List.forall_mem_cons.mpr ⟨xw10, List.forall_mem_cons.mpr ⟨xw50, fun _ h => absurd h List.not_mem_nil⟩⟩⟩⟩, xw471, ⟨⟨by decide +kernel, by decide +kernel, by decide +kernel⟩, by decide, by decide⟩⟩
theorem xc_X7_points_114 : xLV k_X7_points k_X4_in 114 RX4 yX4_in (some .int) 1 := ⟨List.forall_mem_cons.mpr ⟨xw581, List.forall_mem_cons.mpr ⟨xw582, List.forall_mem_cons.mpr ⟨xw583, List.forall_mem_cons.mpr ⟨xw54, fun _ h => absurd h List.not_mem_nil⟩⟩⟩⟩, xw584, ⟨⟨by decide +kernel, by decide +kernel, by decide +kernel⟩, by decide, by decide⟩⟩
theorem xc_X7_read_82 : xLV k_X7_read k_X7_flatAt 82 RX7 yX7_flatAt (some (.object "RentStream$Flat")) 1 := ⟨List.forall_mem_cons.mpr ⟨xw425, List.forall_mem_cons.mpr ⟨xw427, List.forall_mem_cons.mpr ⟨xw8, List.forall_mem_cons.mpr ⟨xw50, fun _ h => absurd h List.not_mem_nil⟩⟩⟩⟩, xw428, ⟨⟨by decide +kernel, by decide +kernel, by decide +kernel⟩, by decide, by decide⟩⟩
theorem xf_X7_118 : xFL RX7 118 1 3 := ⟨RX1, TX1, 6, "RentStream$Flat", rfl, xin1, by decide, xw337, Or.inl rfl⟩
theorem xc_X7_read_97 : xLV k_X7_read k_X7_monthNow 97 RX7 yX7_monthNow (some .int) 0 := ⟨List.forall_mem_cons.mpr ⟨xw468, List.forall_mem_cons.mpr ⟨xw470, List.forall_mem_cons.mpr ⟨xw10, List.forall_mem_cons.mpr ⟨xw50, fun _ h => absurd h List.not_mem_nil⟩⟩⟩⟩, xw471, ⟨⟨by decide +kernel, by decide +kernel, by decide +kernel⟩, by decide, by decide⟩⟩
theorem xc_X7_read_124 : xLV k_X7_read k_X1_readMeter 124 RX1 yX1_readMeter (some .int) 2 := ⟨List.forall_mem_cons.mpr ⟨xw594, List.forall_mem_cons.mpr ⟨xw595, List.forall_mem_cons.mpr ⟨xw596, List.forall_mem_cons.mpr ⟨xw66, fun _ h => absurd h List.not_mem_nil⟩⟩⟩⟩, xw597, ⟨⟨by decide +kernel, by decide +kernel, by decide +kernel⟩, by decide, by decide⟩⟩
theorem xp_X6_9 : xFP RX6 9 6 0 .boolean false := ⟨RX6, TX6, 5, "RentStream$Repair", tyX6, rfl, xin6, by decide, xw627, Or.inl rfl, tyX6_ok, nmX6, rfl, by decide +kernel, fun h => nomatch h⟩
theorem xp_X6_19 : xFP RX6 19 6 2 (.object "RentStream$Flat") true := ⟨RX6, TX6, 5, "RentStream$Repair", tyX6, rfl, xin6, by decide, xw631, Or.inl rfl, tyX6_ok, nmX6, rfl, by decide +kernel, fun _ => rfl⟩
theorem xp_X6_23 : xFP RX6 23 6 3 .int true := ⟨RX6, TX6, 5, "RentStream$Repair", tyX6, rfl, xin6, by decide, xw632, Or.inl rfl, tyX6_ok, nmX6, rfl, by decide +kernel, fun _ => rfl⟩
theorem xp_X6_26 : xFP RX6 26 6 4 .int true := ⟨RX6, TX6, 5, "RentStream$Repair", tyX6, rfl, xin6, by decide, xw633, Or.inl rfl, tyX6_ok, nmX6, rfl, by decide +kernel, fun _ => rfl⟩
theorem xc_X7_report_82 : xLV k_X7_report k_X7_flatAt 82 RX7 yX7_flatAt (some (.object "RentStream$Flat")) 1 := ⟨List.forall_mem_cons.mpr ⟨xw425, List.forall_mem_cons.mpr ⟨xw427, List.forall_mem_cons.mpr ⟨xw8, List.forall_mem_cons.mpr ⟨xw50, fun _ h => absurd h List.not_mem_nil⟩⟩⟩⟩, xw428, ⟨⟨by decide +kernel, by decide +kernel, by decide +kernel⟩, by decide, by decide⟩⟩
theorem xc_X7_report_66 : xLV k_X7_report k_Jx4a65c_size_8abf5 66 RJx4a65c yJx4a65c_size_8abf5 (some .int) 0 := ⟨List.forall_mem_cons.mpr ⟨xw300, List.forall_mem_cons.mpr ⟨xw301, List.forall_mem_cons.mpr ⟨xw302, List.forall_mem_cons.mpr ⟨xw53, fun _ h => absurd h List.not_mem_nil⟩⟩⟩⟩, xw303, ⟨⟨by decide +kernel, by decide +kernel, by decide +kernel⟩, by decide, by decide⟩⟩
theorem xn_X7_141 : xNL RX7 141 6 [.int 0, .int 0, .null, .int 0, .int 0] := ⟨RX6, TX6, 5, tyX6, rfl, xin6, xw621, xw622, xw77, tyX6_ok, by decide +kernel, rfl⟩
theorem xc_X7_report_143 : xLI k_X7_report k_X6_init 143 yX6_init 3 := ⟨List.forall_mem_cons.mpr ⟨xw623, List.forall_mem_cons.mpr ⟨xw624, List.forall_mem_cons.mpr ⟨xw77, fun _ h => absurd h List.not_mem_nil⟩⟩⟩, xw625, rfl, ⟨⟨by decide +kernel, by decide +kernel, by decide +kernel⟩, by decide, by decide⟩⟩
theorem xc_X7_report_78 : xLV k_X7_report k_Jx4a65c_add_9ea2d 78 RJx4a65c yJx4a65c_add_9ea2d (some .boolean) 1 := ⟨List.forall_mem_cons.mpr ⟨xw353, List.forall_mem_cons.mpr ⟨xw354, List.forall_mem_cons.mpr ⟨xw355, List.forall_mem_cons.mpr ⟨xw53, fun _ h => absurd h List.not_mem_nil⟩⟩⟩⟩, xw356, ⟨⟨by decide +kernel, by decide +kernel, by decide +kernel⟩, by decide, by decide⟩⟩
theorem xc_X7_use_82 : xLV k_X7_use k_X7_flatAt 82 RX7 yX7_flatAt (some (.object "RentStream$Flat")) 1 := ⟨List.forall_mem_cons.mpr ⟨xw425, List.forall_mem_cons.mpr ⟨xw427, List.forall_mem_cons.mpr ⟨xw8, List.forall_mem_cons.mpr ⟨xw50, fun _ h => absurd h List.not_mem_nil⟩⟩⟩⟩, xw428, ⟨⟨by decide +kernel, by decide +kernel, by decide +kernel⟩, by decide, by decide⟩⟩
theorem xc_X7_use_162 : xLV k_X7_use k_X7_needMonth 162 RX7 yX7_needMonth none 1 := ⟨List.forall_mem_cons.mpr ⟨xw661, List.forall_mem_cons.mpr ⟨xw663, List.forall_mem_cons.mpr ⟨xw12, List.forall_mem_cons.mpr ⟨xw50, fun _ h => absurd h List.not_mem_nil⟩⟩⟩⟩, xw664, ⟨⟨by decide +kernel, by decide +kernel, by decide +kernel⟩, by decide, by decide⟩⟩
theorem xf_X7_253 : xFL RX7 253 1 1 := ⟨RX1, TX1, 6, "RentStream$Flat", rfl, xin1, by decide, xw332, Or.inl rfl⟩
theorem xc_X7_use_114 : xLV k_X7_use k_X4_in 114 RX4 yX4_in (some .int) 1 := ⟨List.forall_mem_cons.mpr ⟨xw581, List.forall_mem_cons.mpr ⟨xw582, List.forall_mem_cons.mpr ⟨xw583, List.forall_mem_cons.mpr ⟨xw54, fun _ h => absurd h List.not_mem_nil⟩⟩⟩⟩, xw584, ⟨⟨by decide +kernel, by decide +kernel, by decide +kernel⟩, by decide, by decide⟩⟩
theorem xf_X8_28 : xFL RX8 28 8 9 := ⟨RX8, TX8, 40, "RentStreamModel", rfl, xin8, by decide, xw1224, Or.inl rfl⟩
theorem xf_X8_69 : xFL RX8 69 8 25 := ⟨RX8, TX8, 40, "RentStreamModel", rfl, xin8, by decide, xw1240, Or.inl rfl⟩
theorem xp_X8_7 : xFP RX8 7 8 3 (.array .int) true := ⟨RX8, TX8, 40, "RentStreamModel", tyX8, rfl, xin8, by decide, xw1218, Or.inl rfl, tyX8_ok, nmX8, rfl, by decide +kernel, fun _ => rfl⟩
theorem xp_X8_13 : xFP RX8 13 8 4 (.array .int) true := ⟨RX8, TX8, 40, "RentStreamModel", tyX8, rfl, xin8, by decide, xw1219, Or.inl rfl, tyX8_ok, nmX8, rfl, by decide +kernel, fun _ => rfl⟩
theorem xp_X8_16 : xFP RX8 16 8 5 (.array .int) true := ⟨RX8, TX8, 40, "RentStreamModel", tyX8, rfl, xin8, by decide, xw1220, Or.inl rfl, tyX8_ok, nmX8, rfl, by decide +kernel, fun _ => rfl⟩
theorem xp_X8_19 : xFP RX8 19 8 6 (.array .int) true := ⟨RX8, TX8, 40, "RentStreamModel", tyX8, rfl, xin8, by decide, xw1221, Or.inl rfl, tyX8_ok, nmX8, rfl, by decide +kernel, fun _ => rfl⟩
theorem xp_X8_22 : xFP RX8 22 8 7 (.array .int) true := ⟨RX8, TX8, 40, "RentStreamModel", tyX8, rfl, xin8, by decide, xw1222, Or.inl rfl, tyX8_ok, nmX8, rfl, by decide +kernel, fun _ => rfl⟩
theorem xp_X8_25 : xFP RX8 25 8 8 (.array .int) true := ⟨RX8, TX8, 40, "RentStreamModel", tyX8, rfl, xin8, by decide, xw1223, Or.inl rfl, tyX8_ok, nmX8, rfl, by decide +kernel, fun _ => rfl⟩
theorem xp_X8_28 : xFP RX8 28 8 9 (.array .int) true := ⟨RX8, TX8, 40, "RentStreamModel", tyX8, rfl, xin8, by decide, xw1224, Or.inl rfl, tyX8_ok, nmX8, rfl, by decide +kernel, fun _ => rfl⟩
theorem xp_X8_31 : xFP RX8 31 8 10 (.array .int) true := ⟨RX8, TX8, 40, "RentStreamModel", tyX8, rfl, xin8, by decide, xw1225, Or.inl rfl, tyX8_ok, nmX8, rfl, by decide +kernel, fun _ => rfl⟩
theorem xp_X8_34 : xFP RX8 34 8 13 (.array .int) true := ⟨RX8, TX8, 40, "RentStreamModel", tyX8, rfl, xin8, by decide, xw1228, Or.inl rfl, tyX8_ok, nmX8, rfl, by decide +kernel, fun _ => rfl⟩
theorem xp_X8_37 : xFP RX8 37 8 14 (.array .int) true := ⟨RX8, TX8, 40, "RentStreamModel", tyX8, rfl, xin8, by decide, xw1229, Or.inl rfl, tyX8_ok, nmX8, rfl, by decide +kernel, fun _ => rfl⟩
theorem xp_X8_40 : xFP RX8 40 8 15 (.array .int) true := ⟨RX8, TX8, 40, "RentStreamModel", tyX8, rfl, xin8, by decide, xw1230, Or.inl rfl, tyX8_ok, nmX8, rfl, by decide +kernel, fun _ => rfl⟩
theorem xp_X8_43 : xFP RX8 43 8 16 (.array .int) true := ⟨RX8, TX8, 40, "RentStreamModel", tyX8, rfl, xin8, by decide, xw1231, Or.inl rfl, tyX8_ok, nmX8, rfl, by decide +kernel, fun _ => rfl⟩
theorem xp_X8_46 : xFP RX8 46 8 17 (.array .boolean) true := ⟨RX8, TX8, 40, "RentStreamModel", tyX8, rfl, xin8, by decide, xw1232, Or.inl rfl, tyX8_ok, nmX8, rfl, by decide +kernel, fun _ => rfl⟩
theorem xp_X8_50 : xFP RX8 50 8 19 (.array .int) true := ⟨RX8, TX8, 40, "RentStreamModel", tyX8, rfl, xin8, by decide, xw1234, Or.inl rfl, tyX8_ok, nmX8, rfl, by decide +kernel, fun _ => rfl⟩
theorem xp_X8_53 : xFP RX8 53 8 20 (.array .int) true := ⟨RX8, TX8, 40, "RentStreamModel", tyX8, rfl, xin8, by decide, xw1235, Or.inl rfl, tyX8_ok, nmX8, rfl, by decide +kernel, fun _ => rfl⟩
theorem xp_X8_56 : xFP RX8 56 8 21 (.array .int) true := ⟨RX8, TX8, 40, "RentStreamModel", tyX8, rfl, xin8, by decide, xw1236, Or.inl rfl, tyX8_ok, nmX8, rfl, by decide +kernel, fun _ => rfl⟩
theorem xp_X8_59 : xFP RX8 59 8 22 (.array .int) true := ⟨RX8, TX8, 40, "RentStreamModel", tyX8, rfl, xin8, by decide, xw1237, Or.inl rfl, tyX8_ok, nmX8, rfl, by decide +kernel, fun _ => rfl⟩
theorem xp_X8_62 : xFP RX8 62 8 23 (.array .long) true := ⟨RX8, TX8, 40, "RentStreamModel", tyX8, rfl, xin8, by decide, xw1238, Or.inl rfl, tyX8_ok, nmX8, rfl, by decide +kernel, fun _ => rfl⟩
theorem xp_X8_66 : xFP RX8 66 8 24 (.array .long) true := ⟨RX8, TX8, 40, "RentStreamModel", tyX8, rfl, xin8, by decide, xw1239, Or.inl rfl, tyX8_ok, nmX8, rfl, by decide +kernel, fun _ => rfl⟩
theorem xp_X8_69 : xFP RX8 69 8 25 (.array .int) true := ⟨RX8, TX8, 40, "RentStreamModel", tyX8, rfl, xin8, by decide, xw1240, Or.inl rfl, tyX8_ok, nmX8, rfl, by decide +kernel, fun _ => rfl⟩
theorem xp_X8_72 : xFP RX8 72 8 26 (.array .boolean) true := ⟨RX8, TX8, 40, "RentStreamModel", tyX8, rfl, xin8, by decide, xw1241, Or.inl rfl, tyX8_ok, nmX8, rfl, by decide +kernel, fun _ => rfl⟩
theorem xp_X8_75 : xFP RX8 75 8 27 (.array .int) true := ⟨RX8, TX8, 40, "RentStreamModel", tyX8, rfl, xin8, by decide, xw1242, Or.inl rfl, tyX8_ok, nmX8, rfl, by decide +kernel, fun _ => rfl⟩
theorem xp_X8_78 : xFP RX8 78 8 28 (.array .int) true := ⟨RX8, TX8, 40, "RentStreamModel", tyX8, rfl, xin8, by decide, xw1243, Or.inl rfl, tyX8_ok, nmX8, rfl, by decide +kernel, fun _ => rfl⟩
theorem xp_X8_81 : xFP RX8 81 8 29 (.array .int) true := ⟨RX8, TX8, 40, "RentStreamModel", tyX8, rfl, xin8, by decide, xw1244, Or.inl rfl, tyX8_ok, nmX8, rfl, by decide +kernel, fun _ => rfl⟩
theorem xp_X8_84 : xFP RX8 84 8 30 (.array .int) true := ⟨RX8, TX8, 40, "RentStreamModel", tyX8, rfl, xin8, by decide, xw1245, Or.inl rfl, tyX8_ok, nmX8, rfl, by decide +kernel, fun _ => rfl⟩
theorem xp_X8_87 : xFP RX8 87 8 31 (.array .int) true := ⟨RX8, TX8, 40, "RentStreamModel", tyX8, rfl, xin8, by decide, xw1246, Or.inl rfl, tyX8_ok, nmX8, rfl, by decide +kernel, fun _ => rfl⟩
theorem xp_X8_90 : xFP RX8 90 8 32 (.array .long) true := ⟨RX8, TX8, 40, "RentStreamModel", tyX8, rfl, xin8, by decide, xw1247, Or.inl rfl, tyX8_ok, nmX8, rfl, by decide +kernel, fun _ => rfl⟩
theorem xp_X8_93 : xFP RX8 93 8 33 (.array .long) true := ⟨RX8, TX8, 40, "RentStreamModel", tyX8, rfl, xin8, by decide, xw1248, Or.inl rfl, tyX8_ok, nmX8, rfl, by decide +kernel, fun _ => rfl⟩
theorem xp_X8_96 : xFP RX8 96 8 34 (.array .int) true := ⟨RX8, TX8, 40, "RentStreamModel", tyX8, rfl, xin8, by decide, xw1249, Or.inl rfl, tyX8_ok, nmX8, rfl, by decide +kernel, fun _ => rfl⟩
theorem xp_X8_99 : xFP RX8 99 8 35 (.array .long) true := ⟨RX8, TX8, 40, "RentStreamModel", tyX8, rfl, xin8, by decide, xw1250, Or.inl rfl, tyX8_ok, nmX8, rfl, by decide +kernel, fun _ => rfl⟩
theorem xp_X8_102 : xFP RX8 102 8 36 (.array .long) true := ⟨RX8, TX8, 40, "RentStreamModel", tyX8, rfl, xin8, by decide, xw1251, Or.inl rfl, tyX8_ok, nmX8, rfl, by decide +kernel, fun _ => rfl⟩
theorem xp_X8_105 : xFP RX8 105 8 37 (.array .long) true := ⟨RX8, TX8, 40, "RentStreamModel", tyX8, rfl, xin8, by decide, xw1252, Or.inl rfl, tyX8_ok, nmX8, rfl, by decide +kernel, fun _ => rfl⟩
theorem xp_X8_108 : xFP RX8 108 8 38 (.array .char) true := ⟨RX8, TX8, 40, "RentStreamModel", tyX8, rfl, xin8, by decide, xw1253, Or.inl rfl, tyX8_ok, nmX8, rfl, by decide +kernel, fun _ => rfl⟩
theorem xf_X8_31 : xFL RX8 31 8 10 := ⟨RX8, TX8, 40, "RentStreamModel", rfl, xin8, by decide, xw1225, Or.inl rfl⟩
theorem xp_X8_112 : xFP RX8 112 8 0 .int false := ⟨RX8, TX8, 40, "RentStreamModel", tyX8, rfl, xin8, by decide, xw1215, Or.inl rfl, tyX8_ok, nmX8, rfl, by decide +kernel, fun h => nomatch h⟩
theorem xf_X8_123 : xFL RX8 123 8 18 := ⟨RX8, TX8, 40, "RentStreamModel", rfl, xin8, by decide, xw1233, Or.inl rfl⟩
theorem xc_X8_isLease_119 : xLS k_X8_isLease k_X8_in 119 yX8_in (some .boolean) 3 := ⟨List.forall_mem_cons.mpr ⟨xw1347, List.forall_mem_cons.mpr ⟨xw1348, List.forall_mem_cons.mpr ⟨xw60, fun _ h => absurd h List.not_mem_nil⟩⟩⟩, xw1349, ⟨⟨by decide +kernel, by decide +kernel, by decide +kernel⟩, by decide, by decide⟩⟩
theorem xf_X8_126 : xFL RX8 126 8 1 := ⟨RX8, TX8, 40, "RentStreamModel", rfl, xin8, by decide, xw1216, Or.inl rfl⟩
theorem xc_X8_isMonth_129 : xLV k_X8_isMonth k_X8_month 129 RX8 yX8_month (some .int) 0 := ⟨List.forall_mem_cons.mpr ⟨xw1354, List.forall_mem_cons.mpr ⟨xw1356, List.forall_mem_cons.mpr ⟨xw29, List.forall_mem_cons.mpr ⟨xw60, fun _ h => absurd h List.not_mem_nil⟩⟩⟩⟩, xw1357, ⟨⟨by decide +kernel, by decide +kernel, by decide +kernel⟩, by decide, by decide⟩⟩
theorem xc_X8_isMonth_119 : xLS k_X8_isMonth k_X8_in 119 yX8_in (some .boolean) 3 := ⟨List.forall_mem_cons.mpr ⟨xw1347, List.forall_mem_cons.mpr ⟨xw1348, List.forall_mem_cons.mpr ⟨xw60, fun _ h => absurd h List.not_mem_nil⟩⟩⟩, xw1349, ⟨⟨by decide +kernel, by decide +kernel, by decide +kernel⟩, by decide, by decide⟩⟩
theorem xc_X8_bill_133 : xLV k_X8_bill k_X8_holds 133 RX8 yX8_holds (some .boolean) 1 := ⟨List.forall_mem_cons.mpr ⟨xw1350, List.forall_mem_cons.mpr ⟨xw1352, List.forall_mem_cons.mpr ⟨xw28, List.forall_mem_cons.mpr ⟨xw60, fun _ h => absurd h List.not_mem_nil⟩⟩⟩⟩, xw1353, ⟨⟨by decide +kernel, by decide +kernel, by decide +kernel⟩, by decide, by decide⟩⟩
theorem xc_X8_bill_173 : xLS k_X8_bill k_X8_at 173 yX8_at (some .int) 2 := ⟨List.forall_mem_cons.mpr ⟨xw1413, List.forall_mem_cons.mpr ⟨xw1414, List.forall_mem_cons.mpr ⟨xw60, fun _ h => absurd h List.not_mem_nil⟩⟩⟩, xw1415, ⟨⟨by decide +kernel, by decide +kernel, by decide +kernel⟩, by decide, by decide⟩⟩
theorem xf_X8_72 : xFL RX8 72 8 26 := ⟨RX8, TX8, 40, "RentStreamModel", rfl, xin8, by decide, xw1241, Or.inl rfl⟩
theorem xf_X8_84 : xFL RX8 84 8 30 := ⟨RX8, TX8, 40, "RentStreamModel", rfl, xin8, by decide, xw1245, Or.inl rfl⟩
theorem xf_X8_81 : xFL RX8 81 8 29 := ⟨RX8, TX8, 40, "RentStreamModel", rfl, xin8, by decide, xw1244, Or.inl rfl⟩
theorem xf_X8_78 : xFL RX8 78 8 28 := ⟨RX8, TX8, 40, "RentStreamModel", rfl, xin8, by decide, xw1243, Or.inl rfl⟩
theorem xf_X8_75 : xFL RX8 75 8 27 := ⟨RX8, TX8, 40, "RentStreamModel", rfl, xin8, by decide, xw1242, Or.inl rfl⟩
theorem xc_X8_bill_119 : xLS k_X8_bill k_X8_in 119 yX8_in (some .boolean) 3 := ⟨List.forall_mem_cons.mpr ⟨xw1347, List.forall_mem_cons.mpr ⟨xw1348, List.forall_mem_cons.mpr ⟨xw60, fun _ h => absurd h List.not_mem_nil⟩⟩⟩, xw1349, ⟨⟨by decide +kernel, by decide +kernel, by decide +kernel⟩, by decide, by decide⟩⟩
theorem xc_X8_bill_148 : xLV k_X8_bill k_X8_isLease 148 RX8 yX8_isLease (some .boolean) 1 := ⟨List.forall_mem_cons.mpr ⟨xw1379, List.forall_mem_cons.mpr ⟨xw1381, List.forall_mem_cons.mpr ⟨xw33, List.forall_mem_cons.mpr ⟨xw60, fun _ h => absurd h List.not_mem_nil⟩⟩⟩⟩, xw1382, ⟨⟨by decide +kernel, by decide +kernel, by decide +kernel⟩, by decide, by decide⟩⟩
theorem xc_X8_bill_202 : xLV k_X8_bill k_X8_isMonth 202 RX8 yX8_isMonth (some .boolean) 1 := ⟨List.forall_mem_cons.mpr ⟨xw1409, List.forall_mem_cons.mpr ⟨xw1411, List.forall_mem_cons.mpr ⟨xw34, List.forall_mem_cons.mpr ⟨xw60, fun _ h => absurd h List.not_mem_nil⟩⟩⟩⟩, xw1412, ⟨⟨by decide +kernel, by decide +kernel, by decide +kernel⟩, by decide, by decide⟩⟩
theorem xc_X8_desk_148 : xLV k_X8_desk k_X8_isLease 148 RX8 yX8_isLease (some .boolean) 1 := ⟨List.forall_mem_cons.mpr ⟨xw1379, List.forall_mem_cons.mpr ⟨xw1381, List.forall_mem_cons.mpr ⟨xw33, List.forall_mem_cons.mpr ⟨xw60, fun _ h => absurd h List.not_mem_nil⟩⟩⟩⟩, xw1382, ⟨⟨by decide +kernel, by decide +kernel, by decide +kernel⟩, by decide, by decide⟩⟩
theorem xc_X8_desk_133 : xLV k_X8_desk k_X8_holds 133 RX8 yX8_holds (some .boolean) 1 := ⟨List.forall_mem_cons.mpr ⟨xw1350, List.forall_mem_cons.mpr ⟨xw1352, List.forall_mem_cons.mpr ⟨xw28, List.forall_mem_cons.mpr ⟨xw60, fun _ h => absurd h List.not_mem_nil⟩⟩⟩⟩, xw1353, ⟨⟨by decide +kernel, by decide +kernel, by decide +kernel⟩, by decide, by decide⟩⟩
theorem xf_X8_66 : xFL RX8 66 8 24 := ⟨RX8, TX8, 40, "RentStreamModel", rfl, xin8, by decide, xw1239, Or.inl rfl⟩
theorem xc_X8_end_148 : xLV k_X8_end k_X8_isLease 148 RX8 yX8_isLease (some .boolean) 1 := ⟨List.forall_mem_cons.mpr ⟨xw1379, List.forall_mem_cons.mpr ⟨xw1381, List.forall_mem_cons.mpr ⟨xw33, List.forall_mem_cons.mpr ⟨xw60, fun _ h => absurd h List.not_mem_nil⟩⟩⟩⟩, xw1382, ⟨⟨by decide +kernel, by decide +kernel, by decide +kernel⟩, by decide, by decide⟩⟩
theorem xf_X8_59 : xFL RX8 59 8 22 := ⟨RX8, TX8, 40, "RentStreamModel", rfl, xin8, by decide, xw1237, Or.inl rfl⟩
theorem xc_X8_end_133 : xLV k_X8_end k_X8_holds 133 RX8 yX8_holds (some .boolean) 1 := ⟨List.forall_mem_cons.mpr ⟨xw1350, List.forall_mem_cons.mpr ⟨xw1352, List.forall_mem_cons.mpr ⟨xw28, List.forall_mem_cons.mpr ⟨xw60, fun _ h => absurd h List.not_mem_nil⟩⟩⟩⟩, xw1353, ⟨⟨by decide +kernel, by decide +kernel, by decide +kernel⟩, by decide, by decide⟩⟩
theorem xc_X8_end_129 : xLV k_X8_end k_X8_month 129 RX8 yX8_month (some .int) 0 := ⟨List.forall_mem_cons.mpr ⟨xw1354, List.forall_mem_cons.mpr ⟨xw1356, List.forall_mem_cons.mpr ⟨xw29, List.forall_mem_cons.mpr ⟨xw60, fun _ h => absurd h List.not_mem_nil⟩⟩⟩⟩, xw1357, ⟨⟨by decide +kernel, by decide +kernel, by decide +kernel⟩, by decide, by decide⟩⟩
theorem xc_X8_flat_133 : xLV k_X8_flat k_X8_holds 133 RX8 yX8_holds (some .boolean) 1 := ⟨List.forall_mem_cons.mpr ⟨xw1350, List.forall_mem_cons.mpr ⟨xw1352, List.forall_mem_cons.mpr ⟨xw28, List.forall_mem_cons.mpr ⟨xw60, fun _ h => absurd h List.not_mem_nil⟩⟩⟩⟩, xw1353, ⟨⟨by decide +kernel, by decide +kernel, by decide +kernel⟩, by decide, by decide⟩⟩
theorem xf_X8_7 : xFL RX8 7 8 3 := ⟨RX8, TX8, 40, "RentStreamModel", rfl, xin8, by decide, xw1218, Or.inl rfl⟩
theorem xf_X8_116 : xFL RX8 116 8 2 := ⟨RX8, TX8, 40, "RentStreamModel", rfl, xin8, by decide, xw1217, Or.inl rfl⟩
theorem xf_X8_13 : xFL RX8 13 8 4 := ⟨RX8, TX8, 40, "RentStreamModel", rfl, xin8, by decide, xw1219, Or.inl rfl⟩
theorem xc_X8_flat_129 : xLV k_X8_flat k_X8_month 129 RX8 yX8_month (some .int) 0 := ⟨List.forall_mem_cons.mpr ⟨xw1354, List.forall_mem_cons.mpr ⟨xw1356, List.forall_mem_cons.mpr ⟨xw29, List.forall_mem_cons.mpr ⟨xw60, fun _ h => absurd h List.not_mem_nil⟩⟩⟩⟩, xw1357, ⟨⟨by decide +kernel, by decide +kernel, by decide +kernel⟩, by decide, by decide⟩⟩
theorem xf_X8_19 : xFL RX8 19 8 6 := ⟨RX8, TX8, 40, "RentStreamModel", rfl, xin8, by decide, xw1221, Or.inl rfl⟩
theorem xp_X8_116 : xFP RX8 116 8 2 .int false := ⟨RX8, TX8, 40, "RentStreamModel", tyX8, rfl, xin8, by decide, xw1217, Or.inl rfl, tyX8_ok, nmX8, rfl, by decide +kernel, fun h => nomatch h⟩
theorem xc_X8_flat_119 : xLS k_X8_flat k_X8_in 119 yX8_in (some .boolean) 3 := ⟨List.forall_mem_cons.mpr ⟨xw1347, List.forall_mem_cons.mpr ⟨xw1348, List.forall_mem_cons.mpr ⟨xw60, fun _ h => absurd h List.not_mem_nil⟩⟩⟩, xw1349, ⟨⟨by decide +kernel, by decide +kernel, by decide +kernel⟩, by decide, by decide⟩⟩
theorem xc_X8_heat_119 : xLS k_X8_heat k_X8_in 119 yX8_in (some .boolean) 3 := ⟨List.forall_mem_cons.mpr ⟨xw1347, List.forall_mem_cons.mpr ⟨xw1348, List.forall_mem_cons.mpr ⟨xw60, fun _ h => absurd h List.not_mem_nil⟩⟩⟩, xw1349, ⟨⟨by decide +kernel, by decide +kernel, by decide +kernel⟩, by decide, by decide⟩⟩
theorem xf_X8_152 : xFL RX8 152 8 11 := ⟨RX8, TX8, 40, "RentStreamModel", rfl, xin8, by decide, xw1226, Or.inl rfl⟩
theorem xc_X8_heat_133 : xLV k_X8_heat k_X8_holds 133 RX8 yX8_holds (some .boolean) 1 := ⟨List.forall_mem_cons.mpr ⟨xw1350, List.forall_mem_cons.mpr ⟨xw1352, List.forall_mem_cons.mpr ⟨xw28, List.forall_mem_cons.mpr ⟨xw60, fun _ h => absurd h List.not_mem_nil⟩⟩⟩⟩, xw1353, ⟨⟨by decide +kernel, by decide +kernel, by decide +kernel⟩, by decide, by decide⟩⟩
theorem xp_X8_152 : xFP RX8 152 8 11 .int false := ⟨RX8, TX8, 40, "RentStreamModel", tyX8, rfl, xin8, by decide, xw1226, Or.inl rfl, tyX8_ok, nmX8, rfl, by decide +kernel, fun h => nomatch h⟩
theorem xc_X8_incomeIn_173 : xLS k_X8_incomeIn k_X8_at 173 yX8_at (some .int) 2 := ⟨List.forall_mem_cons.mpr ⟨xw1413, List.forall_mem_cons.mpr ⟨xw1414, List.forall_mem_cons.mpr ⟨xw60, fun _ h => absurd h List.not_mem_nil⟩⟩⟩, xw1415, ⟨⟨by decide +kernel, by decide +kernel, by decide +kernel⟩, by decide, by decide⟩⟩
theorem xc_X8_income_129 : xLV k_X8_income k_X8_month 129 RX8 yX8_month (some .int) 0 := ⟨List.forall_mem_cons.mpr ⟨xw1354, List.forall_mem_cons.mpr ⟨xw1356, List.forall_mem_cons.mpr ⟨xw29, List.forall_mem_cons.mpr ⟨xw60, fun _ h => absurd h List.not_mem_nil⟩⟩⟩⟩, xw1357, ⟨⟨by decide +kernel, by decide +kernel, by decide +kernel⟩, by decide, by decide⟩⟩
theorem xf_X8_62 : xFL RX8 62 8 23 := ⟨RX8, TX8, 40, "RentStreamModel", rfl, xin8, by decide, xw1238, Or.inl rfl⟩
theorem xc_X8_income_173 : xLS k_X8_income k_X8_at 173 yX8_at (some .int) 2 := ⟨List.forall_mem_cons.mpr ⟨xw1413, List.forall_mem_cons.mpr ⟨xw1414, List.forall_mem_cons.mpr ⟨xw60, fun _ h => absurd h List.not_mem_nil⟩⟩⟩, xw1415, ⟨⟨by decide +kernel, by decide +kernel, by decide +kernel⟩, by decide, by decide⟩⟩
theorem xc_X8_income_182 : xLV k_X8_income k_X8_incomeIn 182 RX8 yX8_incomeIn (some .int) 2 := ⟨List.forall_mem_cons.mpr ⟨xw1416, List.forall_mem_cons.mpr ⟨xw1418, List.forall_mem_cons.mpr ⟨xw35, List.forall_mem_cons.mpr ⟨xw60, fun _ h => absurd h List.not_mem_nil⟩⟩⟩⟩, xw1419, ⟨⟨by decide +kernel, by decide +kernel, by decide +kernel⟩, by decide, by decide⟩⟩
theorem xc_X8_income_185 : xLS k_X8_income k_X8_benefitFor 185 yX8_benefitFor (some .int) 2 := ⟨List.forall_mem_cons.mpr ⟨xw1420, List.forall_mem_cons.mpr ⟨xw1421, List.forall_mem_cons.mpr ⟨xw60, fun _ h => absurd h List.not_mem_nil⟩⟩⟩, xw1422, ⟨⟨by decide +kernel, by decide +kernel, by decide +kernel⟩, by decide, by decide⟩⟩
theorem xc_X8_income_133 : xLV k_X8_income k_X8_holds 133 RX8 yX8_holds (some .boolean) 1 := ⟨List.forall_mem_cons.mpr ⟨xw1350, List.forall_mem_cons.mpr ⟨xw1352, List.forall_mem_cons.mpr ⟨xw28, List.forall_mem_cons.mpr ⟨xw60, fun _ h => absurd h List.not_mem_nil⟩⟩⟩⟩, xw1353, ⟨⟨by decide +kernel, by decide +kernel, by decide +kernel⟩, by decide, by decide⟩⟩
theorem xc_X8_income_119 : xLS k_X8_income k_X8_in 119 yX8_in (some .boolean) 3 := ⟨List.forall_mem_cons.mpr ⟨xw1347, List.forall_mem_cons.mpr ⟨xw1348, List.forall_mem_cons.mpr ⟨xw60, fun _ h => absurd h List.not_mem_nil⟩⟩⟩, xw1349, ⟨⟨by decide +kernel, by decide +kernel, by decide +kernel⟩, by decide, by decide⟩⟩
theorem xc_X8_income_148 : xLV k_X8_income k_X8_isLease 148 RX8 yX8_isLease (some .boolean) 1 := ⟨List.forall_mem_cons.mpr ⟨xw1379, List.forall_mem_cons.mpr ⟨xw1381, List.forall_mem_cons.mpr ⟨xw33, List.forall_mem_cons.mpr ⟨xw60, fun _ h => absurd h List.not_mem_nil⟩⟩⟩⟩, xw1382, ⟨⟨by decide +kernel, by decide +kernel, by decide +kernel⟩, by decide, by decide⟩⟩
theorem xc_X8_income_202 : xLV k_X8_income k_X8_isMonth 202 RX8 yX8_isMonth (some .boolean) 1 := ⟨List.forall_mem_cons.mpr ⟨xw1409, List.forall_mem_cons.mpr ⟨xw1411, List.forall_mem_cons.mpr ⟨xw34, List.forall_mem_cons.mpr ⟨xw60, fun _ h => absurd h List.not_mem_nil⟩⟩⟩⟩, xw1412, ⟨⟨by decide +kernel, by decide +kernel, by decide +kernel⟩, by decide, by decide⟩⟩
theorem xc_X8_index_133 : xLV k_X8_index k_X8_holds 133 RX8 yX8_holds (some .boolean) 1 := ⟨List.forall_mem_cons.mpr ⟨xw1350, List.forall_mem_cons.mpr ⟨xw1352, List.forall_mem_cons.mpr ⟨xw28, List.forall_mem_cons.mpr ⟨xw60, fun _ h => absurd h List.not_mem_nil⟩⟩⟩⟩, xw1353, ⟨⟨by decide +kernel, by decide +kernel, by decide +kernel⟩, by decide, by decide⟩⟩
theorem xc_X8_index_129 : xLV k_X8_index k_X8_month 129 RX8 yX8_month (some .int) 0 := ⟨List.forall_mem_cons.mpr ⟨xw1354, List.forall_mem_cons.mpr ⟨xw1356, List.forall_mem_cons.mpr ⟨xw29, List.forall_mem_cons.mpr ⟨xw60, fun _ h => absurd h List.not_mem_nil⟩⟩⟩⟩, xw1357, ⟨⟨by decide +kernel, by decide +kernel, by decide +kernel⟩, by decide, by decide⟩⟩
theorem xc_X8_index_119 : xLS k_X8_index k_X8_in 119 yX8_in (some .boolean) 3 := ⟨List.forall_mem_cons.mpr ⟨xw1347, List.forall_mem_cons.mpr ⟨xw1348, List.forall_mem_cons.mpr ⟨xw60, fun _ h => absurd h List.not_mem_nil⟩⟩⟩, xw1349, ⟨⟨by decide +kernel, by decide +kernel, by decide +kernel⟩, by decide, by decide⟩⟩
theorem xc_X8_isFlat_119 : xLS k_X8_isFlat k_X8_in 119 yX8_in (some .boolean) 3 := ⟨List.forall_mem_cons.mpr ⟨xw1347, List.forall_mem_cons.mpr ⟨xw1348, List.forall_mem_cons.mpr ⟨xw60, fun _ h => absurd h List.not_mem_nil⟩⟩⟩, xw1349, ⟨⟨by decide +kernel, by decide +kernel, by decide +kernel⟩, by decide, by decide⟩⟩
theorem xf_X8_56 : xFL RX8 56 8 21 := ⟨RX8, TX8, 40, "RentStreamModel", rfl, xin8, by decide, xw1236, Or.inl rfl⟩
theorem xf_X8_50 : xFL RX8 50 8 19 := ⟨RX8, TX8, 40, "RentStreamModel", rfl, xin8, by decide, xw1234, Or.inl rfl⟩
theorem xc_X8_isLet_129 : xLV k_X8_isLet k_X8_month 129 RX8 yX8_month (some .int) 0 := ⟨List.forall_mem_cons.mpr ⟨xw1354, List.forall_mem_cons.mpr ⟨xw1356, List.forall_mem_cons.mpr ⟨xw29, List.forall_mem_cons.mpr ⟨xw60, fun _ h => absurd h List.not_mem_nil⟩⟩⟩⟩, xw1357, ⟨⟨by decide +kernel, by decide +kernel, by decide +kernel⟩, by decide, by decide⟩⟩
theorem xc_X8_isLet_137 : xLV k_X8_isLet k_X8_runs 137 RX8 yX8_runs (some .boolean) 2 := ⟨List.forall_mem_cons.mpr ⟨xw1371, List.forall_mem_cons.mpr ⟨xw1373, List.forall_mem_cons.mpr ⟨xw32, List.forall_mem_cons.mpr ⟨xw60, fun _ h => absurd h List.not_mem_nil⟩⟩⟩⟩, xw1374, ⟨⟨by decide +kernel, by decide +kernel, by decide +kernel⟩, by decide, by decide⟩⟩
theorem xc_X8_lease_133 : xLV k_X8_lease k_X8_holds 133 RX8 yX8_holds (some .boolean) 1 := ⟨List.forall_mem_cons.mpr ⟨xw1350, List.forall_mem_cons.mpr ⟨xw1352, List.forall_mem_cons.mpr ⟨xw28, List.forall_mem_cons.mpr ⟨xw60, fun _ h => absurd h List.not_mem_nil⟩⟩⟩⟩, xw1353, ⟨⟨by decide +kernel, by decide +kernel, by decide +kernel⟩, by decide, by decide⟩⟩
theorem xf_X8_53 : xFL RX8 53 8 20 := ⟨RX8, TX8, 40, "RentStreamModel", rfl, xin8, by decide, xw1235, Or.inl rfl⟩
theorem xc_X8_lease_129 : xLV k_X8_lease k_X8_month 129 RX8 yX8_month (some .int) 0 := ⟨List.forall_mem_cons.mpr ⟨xw1354, List.forall_mem_cons.mpr ⟨xw1356, List.forall_mem_cons.mpr ⟨xw29, List.forall_mem_cons.mpr ⟨xw60, fun _ h => absurd h List.not_mem_nil⟩⟩⟩⟩, xw1357, ⟨⟨by decide +kernel, by decide +kernel, by decide +kernel⟩, by decide, by decide⟩⟩
theorem xp_X8_123 : xFP RX8 123 8 18 .int false := ⟨RX8, TX8, 40, "RentStreamModel", tyX8, rfl, xin8, by decide, xw1233, Or.inl rfl, tyX8_ok, nmX8, rfl, by decide +kernel, fun h => nomatch h⟩
theorem xc_X8_lease_141 : xLV k_X8_lease k_X8_isFlat 141 RX8 yX8_isFlat (some .boolean) 1 := ⟨List.forall_mem_cons.mpr ⟨xw1362, List.forall_mem_cons.mpr ⟨xw1364, List.forall_mem_cons.mpr ⟨xw30, List.forall_mem_cons.mpr ⟨xw60, fun _ h => absurd h List.not_mem_nil⟩⟩⟩⟩, xw1365, ⟨⟨by decide +kernel, by decide +kernel, by decide +kernel⟩, by decide, by decide⟩⟩
theorem xc_X8_lease_119 : xLS k_X8_lease k_X8_in 119 yX8_in (some .boolean) 3 := ⟨List.forall_mem_cons.mpr ⟨xw1347, List.forall_mem_cons.mpr ⟨xw1348, List.forall_mem_cons.mpr ⟨xw60, fun _ h => absurd h List.not_mem_nil⟩⟩⟩, xw1349, ⟨⟨by decide +kernel, by decide +kernel, by decide +kernel⟩, by decide, by decide⟩⟩
theorem xc_X8_lease_145 : xLV k_X8_lease k_X8_isLet 145 RX8 yX8_isLet (some .boolean) 1 := ⟨List.forall_mem_cons.mpr ⟨xw1367, List.forall_mem_cons.mpr ⟨xw1369, List.forall_mem_cons.mpr ⟨xw31, List.forall_mem_cons.mpr ⟨xw60, fun _ h => absurd h List.not_mem_nil⟩⟩⟩⟩, xw1370, ⟨⟨by decide +kernel, by decide +kernel, by decide +kernel⟩, by decide, by decide⟩⟩
theorem xf_X8_108 : xFL RX8 108 8 38 := ⟨RX8, TX8, 40, "RentStreamModel", rfl, xin8, by decide, xw1253, Or.inl rfl⟩
theorem xf_X8_218 : xFL RX8 218 8 39 := ⟨RX8, TX8, 40, "RentStreamModel", rfl, xin8, by decide, xw1254, Or.inl rfl⟩
theorem xp_X8_218 : xFP RX8 218 8 39 .int false := ⟨RX8, TX8, 40, "RentStreamModel", tyX8, rfl, xin8, by decide, xw1254, Or.inl rfl, tyX8_ok, nmX8, rfl, by decide +kernel, fun h => nomatch h⟩
theorem xc_X8_addsAmount_225 : xLV k_X8_addsAmount k_X8_adds 225 RX8 yX8_adds none 1 := ⟨List.forall_mem_cons.mpr ⟨xw1504, List.forall_mem_cons.mpr ⟨xw1506, List.forall_mem_cons.mpr ⟨xw46, List.forall_mem_cons.mpr ⟨xw60, fun _ h => absurd h List.not_mem_nil⟩⟩⟩⟩, xw1507, ⟨⟨by decide +kernel, by decide +kernel, by decide +kernel⟩, by decide, by decide⟩⟩
theorem xc_X8_addsAmount_221 : xLS k_X8_addsAmount k_X8_powerOf 221 yX8_powerOf (some .int) 1 := ⟨List.forall_mem_cons.mpr ⟨xw1512, List.forall_mem_cons.mpr ⟨xw1513, List.forall_mem_cons.mpr ⟨xw60, fun _ h => absurd h List.not_mem_nil⟩⟩⟩, xw1514, ⟨⟨by decide +kernel, by decide +kernel, by decide +kernel⟩, by decide, by decide⟩⟩
theorem xc_X8_addsNumber_221 : xLS k_X8_addsNumber k_X8_powerOf 221 yX8_powerOf (some .int) 1 := ⟨List.forall_mem_cons.mpr ⟨xw1512, List.forall_mem_cons.mpr ⟨xw1513, List.forall_mem_cons.mpr ⟨xw60, fun _ h => absurd h List.not_mem_nil⟩⟩⟩, xw1514, ⟨⟨by decide +kernel, by decide +kernel, by decide +kernel⟩, by decide, by decide⟩⟩
theorem xc_X8_addsNumber_225 : xLV k_X8_addsNumber k_X8_adds 225 RX8 yX8_adds none 1 := ⟨List.forall_mem_cons.mpr ⟨xw1504, List.forall_mem_cons.mpr ⟨xw1506, List.forall_mem_cons.mpr ⟨xw46, List.forall_mem_cons.mpr ⟨xw60, fun _ h => absurd h List.not_mem_nil⟩⟩⟩⟩, xw1507, ⟨⟨by decide +kernel, by decide +kernel, by decide +kernel⟩, by decide, by decide⟩⟩
theorem xc_X8_line_133 : xLV k_X8_line k_X8_holds 133 RX8 yX8_holds (some .boolean) 1 := ⟨List.forall_mem_cons.mpr ⟨xw1350, List.forall_mem_cons.mpr ⟨xw1352, List.forall_mem_cons.mpr ⟨xw28, List.forall_mem_cons.mpr ⟨xw60, fun _ h => absurd h List.not_mem_nil⟩⟩⟩⟩, xw1353, ⟨⟨by decide +kernel, by decide +kernel, by decide +kernel⟩, by decide, by decide⟩⟩
theorem xc_X8_line_173 : xLS k_X8_line k_X8_at 173 yX8_at (some .int) 2 := ⟨List.forall_mem_cons.mpr ⟨xw1413, List.forall_mem_cons.mpr ⟨xw1414, List.forall_mem_cons.mpr ⟨xw60, fun _ h => absurd h List.not_mem_nil⟩⟩⟩, xw1415, ⟨⟨by decide +kernel, by decide +kernel, by decide +kernel⟩, by decide, by decide⟩⟩
theorem xc_X8_line_225 : xLV k_X8_line k_X8_adds 225 RX8 yX8_adds none 1 := ⟨List.forall_mem_cons.mpr ⟨xw1504, List.forall_mem_cons.mpr ⟨xw1506, List.forall_mem_cons.mpr ⟨xw46, List.forall_mem_cons.mpr ⟨xw60, fun _ h => absurd h List.not_mem_nil⟩⟩⟩⟩, xw1507, ⟨⟨by decide +kernel, by decide +kernel, by decide +kernel⟩, by decide, by decide⟩⟩
theorem xc_X8_line_228 : xLV k_X8_line k_X8_addsNumber 228 RX8 yX8_addsNumber none 1 := ⟨List.forall_mem_cons.mpr ⟨xw1508, List.forall_mem_cons.mpr ⟨xw1510, List.forall_mem_cons.mpr ⟨xw47, List.forall_mem_cons.mpr ⟨xw60, fun _ h => absurd h List.not_mem_nil⟩⟩⟩⟩, xw1511, ⟨⟨by decide +kernel, by decide +kernel, by decide +kernel⟩, by decide, by decide⟩⟩
theorem xc_X8_line_231 : xLV k_X8_line k_X8_addsAmount 231 RX8 yX8_addsAmount none 2 := ⟨List.forall_mem_cons.mpr ⟨xw1515, List.forall_mem_cons.mpr ⟨xw1517, List.forall_mem_cons.mpr ⟨xw48, List.forall_mem_cons.mpr ⟨xw60, fun _ h => absurd h List.not_mem_nil⟩⟩⟩⟩, xw1518, ⟨⟨by decide +kernel, by decide +kernel, by decide +kernel⟩, by decide, by decide⟩⟩
theorem xc_X8_line_148 : xLV k_X8_line k_X8_isLease 148 RX8 yX8_isLease (some .boolean) 1 := ⟨List.forall_mem_cons.mpr ⟨xw1379, List.forall_mem_cons.mpr ⟨xw1381, List.forall_mem_cons.mpr ⟨xw33, List.forall_mem_cons.mpr ⟨xw60, fun _ h => absurd h List.not_mem_nil⟩⟩⟩⟩, xw1382, ⟨⟨by decide +kernel, by decide +kernel, by decide +kernel⟩, by decide, by decide⟩⟩
theorem xc_X8_line_202 : xLV k_X8_line k_X8_isMonth 202 RX8 yX8_isMonth (some .boolean) 1 := ⟨List.forall_mem_cons.mpr ⟨xw1409, List.forall_mem_cons.mpr ⟨xw1411, List.forall_mem_cons.mpr ⟨xw34, List.forall_mem_cons.mpr ⟨xw60, fun _ h => absurd h List.not_mem_nil⟩⟩⟩⟩, xw1412, ⟨⟨by decide +kernel, by decide +kernel, by decide +kernel⟩, by decide, by decide⟩⟩
theorem xf_X8_156 : xFL RX8 156 8 12 := ⟨RX8, TX8, 40, "RentStreamModel", rfl, xin8, by decide, xw1227, Or.inl rfl⟩
theorem xc_X8_mend_119 : xLS k_X8_mend k_X8_in 119 yX8_in (some .boolean) 3 := ⟨List.forall_mem_cons.mpr ⟨xw1347, List.forall_mem_cons.mpr ⟨xw1348, List.forall_mem_cons.mpr ⟨xw60, fun _ h => absurd h List.not_mem_nil⟩⟩⟩, xw1349, ⟨⟨by decide +kernel, by decide +kernel, by decide +kernel⟩, by decide, by decide⟩⟩
theorem xf_X8_46 : xFL RX8 46 8 17 := ⟨RX8, TX8, 40, "RentStreamModel", rfl, xin8, by decide, xw1232, Or.inl rfl⟩
theorem xc_X8_mend_133 : xLV k_X8_mend k_X8_holds 133 RX8 yX8_holds (some .boolean) 1 := ⟨List.forall_mem_cons.mpr ⟨xw1350, List.forall_mem_cons.mpr ⟨xw1352, List.forall_mem_cons.mpr ⟨xw28, List.forall_mem_cons.mpr ⟨xw60, fun _ h => absurd h List.not_mem_nil⟩⟩⟩⟩, xw1353, ⟨⟨by decide +kernel, by decide +kernel, by decide +kernel⟩, by decide, by decide⟩⟩
theorem xf_X8_43 : xFL RX8 43 8 16 := ⟨RX8, TX8, 40, "RentStreamModel", rfl, xin8, by decide, xw1231, Or.inl rfl⟩
theorem xc_X8_owes_148 : xLV k_X8_owes k_X8_isLease 148 RX8 yX8_isLease (some .boolean) 1 := ⟨List.forall_mem_cons.mpr ⟨xw1379, List.forall_mem_cons.mpr ⟨xw1381, List.forall_mem_cons.mpr ⟨xw33, List.forall_mem_cons.mpr ⟨xw60, fun _ h => absurd h List.not_mem_nil⟩⟩⟩⟩, xw1382, ⟨⟨by decide +kernel, by decide +kernel, by decide +kernel⟩, by decide, by decide⟩⟩
theorem xc_X8_owes_133 : xLV k_X8_owes k_X8_holds 133 RX8 yX8_holds (some .boolean) 1 := ⟨List.forall_mem_cons.mpr ⟨xw1350, List.forall_mem_cons.mpr ⟨xw1352, List.forall_mem_cons.mpr ⟨xw28, List.forall_mem_cons.mpr ⟨xw60, fun _ h => absurd h List.not_mem_nil⟩⟩⟩⟩, xw1353, ⟨⟨by decide +kernel, by decide +kernel, by decide +kernel⟩, by decide, by decide⟩⟩
theorem xc_X8_owesAnew_214 : xLV k_X8_owesAnew k_X8_owes 214 RX8 yX8_owes (some .long) 1 := ⟨List.forall_mem_cons.mpr ⟨xw1487, List.forall_mem_cons.mpr ⟨xw1480, List.forall_mem_cons.mpr ⟨xw1481, List.forall_mem_cons.mpr ⟨xw60, fun _ h => absurd h List.not_mem_nil⟩⟩⟩⟩, xw1482, ⟨⟨by decide +kernel, by decide +kernel, by decide +kernel⟩, by decide, by decide⟩⟩
theorem xc_X8_begins_137 : xLV k_X8_begins k_X8_runs 137 RX8 yX8_runs (some .boolean) 2 := ⟨List.forall_mem_cons.mpr ⟨xw1371, List.forall_mem_cons.mpr ⟨xw1373, List.forall_mem_cons.mpr ⟨xw32, List.forall_mem_cons.mpr ⟨xw60, fun _ h => absurd h List.not_mem_nil⟩⟩⟩⟩, xw1374, ⟨⟨by decide +kernel, by decide +kernel, by decide +kernel⟩, by decide, by decide⟩⟩
theorem xc_X8_begins_177 : xLV k_X8_begins k_X8_rentIn 177 RX8 yX8_rentIn (some .int) 2 := ⟨List.forall_mem_cons.mpr ⟨xw1470, List.forall_mem_cons.mpr ⟨xw1472, List.forall_mem_cons.mpr ⟨xw44, List.forall_mem_cons.mpr ⟨xw60, fun _ h => absurd h List.not_mem_nil⟩⟩⟩⟩, xw1473, ⟨⟨by decide +kernel, by decide +kernel, by decide +kernel⟩, by decide, by decide⟩⟩
theorem xc_X8_begins_182 : xLV k_X8_begins k_X8_incomeIn 182 RX8 yX8_incomeIn (some .int) 2 := ⟨List.forall_mem_cons.mpr ⟨xw1416, List.forall_mem_cons.mpr ⟨xw1418, List.forall_mem_cons.mpr ⟨xw35, List.forall_mem_cons.mpr ⟨xw60, fun _ h => absurd h List.not_mem_nil⟩⟩⟩⟩, xw1419, ⟨⟨by decide +kernel, by decide +kernel, by decide +kernel⟩, by decide, by decide⟩⟩
theorem xc_X8_begins_185 : xLS k_X8_begins k_X8_benefitFor 185 yX8_benefitFor (some .int) 2 := ⟨List.forall_mem_cons.mpr ⟨xw1420, List.forall_mem_cons.mpr ⟨xw1421, List.forall_mem_cons.mpr ⟨xw60, fun _ h => absurd h List.not_mem_nil⟩⟩⟩, xw1422, ⟨⟨by decide +kernel, by decide +kernel, by decide +kernel⟩, by decide, by decide⟩⟩
theorem xf_X8_25 : xFL RX8 25 8 8 := ⟨RX8, TX8, 40, "RentStreamModel", rfl, xin8, by decide, xw1223, Or.inl rfl⟩
theorem xf_X8_102 : xFL RX8 102 8 36 := ⟨RX8, TX8, 40, "RentStreamModel", rfl, xin8, by decide, xw1251, Or.inl rfl⟩
theorem xc_X8_bills_182 : xLV k_X8_bills k_X8_incomeIn 182 RX8 yX8_incomeIn (some .int) 2 := ⟨List.forall_mem_cons.mpr ⟨xw1416, List.forall_mem_cons.mpr ⟨xw1418, List.forall_mem_cons.mpr ⟨xw35, List.forall_mem_cons.mpr ⟨xw60, fun _ h => absurd h List.not_mem_nil⟩⟩⟩⟩, xw1419, ⟨⟨by decide +kernel, by decide +kernel, by decide +kernel⟩, by decide, by decide⟩⟩
theorem xc_X8_bills_185 : xLS k_X8_bills k_X8_benefitFor 185 yX8_benefitFor (some .int) 2 := ⟨List.forall_mem_cons.mpr ⟨xw1420, List.forall_mem_cons.mpr ⟨xw1421, List.forall_mem_cons.mpr ⟨xw60, fun _ h => absurd h List.not_mem_nil⟩⟩⟩, xw1422, ⟨⟨by decide +kernel, by decide +kernel, by decide +kernel⟩, by decide, by decide⟩⟩
theorem xc_X8_bills_173 : xLS k_X8_bills k_X8_at 173 yX8_at (some .int) 2 := ⟨List.forall_mem_cons.mpr ⟨xw1413, List.forall_mem_cons.mpr ⟨xw1414, List.forall_mem_cons.mpr ⟨xw60, fun _ h => absurd h List.not_mem_nil⟩⟩⟩, xw1415, ⟨⟨by decide +kernel, by decide +kernel, by decide +kernel⟩, by decide, by decide⟩⟩
theorem xc_X8_bills_177 : xLV k_X8_bills k_X8_rentIn 177 RX8 yX8_rentIn (some .int) 2 := ⟨List.forall_mem_cons.mpr ⟨xw1470, List.forall_mem_cons.mpr ⟨xw1472, List.forall_mem_cons.mpr ⟨xw44, List.forall_mem_cons.mpr ⟨xw60, fun _ h => absurd h List.not_mem_nil⟩⟩⟩⟩, xw1473, ⟨⟨by decide +kernel, by decide +kernel, by decide +kernel⟩, by decide, by decide⟩⟩
theorem xf_X8_22 : xFL RX8 22 8 7 := ⟨RX8, TX8, 40, "RentStreamModel", rfl, xin8, by decide, xw1222, Or.inl rfl⟩
theorem xf_X8_16 : xFL RX8 16 8 5 := ⟨RX8, TX8, 40, "RentStreamModel", rfl, xin8, by decide, xw1220, Or.inl rfl⟩
theorem xf_X8_87 : xFL RX8 87 8 31 := ⟨RX8, TX8, 40, "RentStreamModel", rfl, xin8, by decide, xw1246, Or.inl rfl⟩
theorem xf_X8_96 : xFL RX8 96 8 34 := ⟨RX8, TX8, 40, "RentStreamModel", rfl, xin8, by decide, xw1249, Or.inl rfl⟩
theorem xf_X8_90 : xFL RX8 90 8 32 := ⟨RX8, TX8, 40, "RentStreamModel", rfl, xin8, by decide, xw1247, Or.inl rfl⟩
theorem xf_X8_93 : xFL RX8 93 8 33 := ⟨RX8, TX8, 40, "RentStreamModel", rfl, xin8, by decide, xw1248, Or.inl rfl⟩
theorem xf_X8_105 : xFL RX8 105 8 37 := ⟨RX8, TX8, 40, "RentStreamModel", rfl, xin8, by decide, xw1252, Or.inl rfl⟩
theorem xf_X8_99 : xFL RX8 99 8 35 := ⟨RX8, TX8, 40, "RentStreamModel", rfl, xin8, by decide, xw1250, Or.inl rfl⟩
theorem xc_X8_weighs_137 : xLV k_X8_weighs k_X8_runs 137 RX8 yX8_runs (some .boolean) 2 := ⟨List.forall_mem_cons.mpr ⟨xw1371, List.forall_mem_cons.mpr ⟨xw1373, List.forall_mem_cons.mpr ⟨xw32, List.forall_mem_cons.mpr ⟨xw60, fun _ h => absurd h List.not_mem_nil⟩⟩⟩⟩, xw1374, ⟨⟨by decide +kernel, by decide +kernel, by decide +kernel⟩, by decide, by decide⟩⟩
theorem xc_X8_sharesHeat_161 : xLV k_X8_sharesHeat k_X8_weighs 161 RX8 yX8_weighs (some .long) 2 := ⟨List.forall_mem_cons.mpr ⟨xw1451, List.forall_mem_cons.mpr ⟨xw1453, List.forall_mem_cons.mpr ⟨xw40, List.forall_mem_cons.mpr ⟨xw60, fun _ h => absurd h List.not_mem_nil⟩⟩⟩⟩, xw1454, ⟨⟨by decide +kernel, by decide +kernel, by decide +kernel⟩, by decide, by decide⟩⟩
theorem xc_X8_sharesHeat_169 : xLV k_X8_sharesHeat k_X8_sharesBy 169 RX8 yX8_sharesBy none 1 := ⟨List.forall_mem_cons.mpr ⟨xw1457, List.forall_mem_cons.mpr ⟨xw1459, List.forall_mem_cons.mpr ⟨xw41, List.forall_mem_cons.mpr ⟨xw60, fun _ h => absurd h List.not_mem_nil⟩⟩⟩⟩, xw1460, ⟨⟨by decide +kernel, by decide +kernel, by decide +kernel⟩, by decide, by decide⟩⟩
theorem xc_X8_ends_196 : xLV k_X8_ends k_X8_looksAtPlan 196 RX8 yX8_looksAtPlan none 1 := ⟨List.forall_mem_cons.mpr ⟨xw1462, List.forall_mem_cons.mpr ⟨xw1464, List.forall_mem_cons.mpr ⟨xw42, List.forall_mem_cons.mpr ⟨xw60, fun _ h => absurd h List.not_mem_nil⟩⟩⟩⟩, xw1465, ⟨⟨by decide +kernel, by decide +kernel, by decide +kernel⟩, by decide, by decide⟩⟩
theorem xc_X8_ends_137 : xLV k_X8_ends k_X8_runs 137 RX8 yX8_runs (some .boolean) 2 := ⟨List.forall_mem_cons.mpr ⟨xw1371, List.forall_mem_cons.mpr ⟨xw1373, List.forall_mem_cons.mpr ⟨xw32, List.forall_mem_cons.mpr ⟨xw60, fun _ h => absurd h List.not_mem_nil⟩⟩⟩⟩, xw1374, ⟨⟨by decide +kernel, by decide +kernel, by decide +kernel⟩, by decide, by decide⟩⟩
theorem xc_X8_ends_199 : xLV k_X8_ends k_X8_bills 199 RX8 yX8_bills none 2 := ⟨List.forall_mem_cons.mpr ⟨xw1466, List.forall_mem_cons.mpr ⟨xw1468, List.forall_mem_cons.mpr ⟨xw43, List.forall_mem_cons.mpr ⟨xw60, fun _ h => absurd h List.not_mem_nil⟩⟩⟩⟩, xw1469, ⟨⟨by decide +kernel, by decide +kernel, by decide +kernel⟩, by decide, by decide⟩⟩
theorem xc_X8_ends_192 : xLV k_X8_ends k_X8_sharesHeat 192 RX8 yX8_sharesHeat none 1 := ⟨List.forall_mem_cons.mpr ⟨xw1447, List.forall_mem_cons.mpr ⟨xw1449, List.forall_mem_cons.mpr ⟨xw39, List.forall_mem_cons.mpr ⟨xw60, fun _ h => absurd h List.not_mem_nil⟩⟩⟩⟩, xw1450, ⟨⟨by decide +kernel, by decide +kernel, by decide +kernel⟩, by decide, by decide⟩⟩
theorem xc_X8_ends_188 : xLV k_X8_ends k_X8_findsUse 188 RX8 yX8_findsUse none 2 := ⟨List.forall_mem_cons.mpr ⟨xw1443, List.forall_mem_cons.mpr ⟨xw1445, List.forall_mem_cons.mpr ⟨xw38, List.forall_mem_cons.mpr ⟨xw60, fun _ h => absurd h List.not_mem_nil⟩⟩⟩⟩, xw1446, ⟨⟨by decide +kernel, by decide +kernel, by decide +kernel⟩, by decide, by decide⟩⟩
theorem xf_X8_40 : xFL RX8 40 8 15 := ⟨RX8, TX8, 40, "RentStreamModel", rfl, xin8, by decide, xw1230, Or.inl rfl⟩
theorem xf_X8_34 : xFL RX8 34 8 13 := ⟨RX8, TX8, 40, "RentStreamModel", rfl, xin8, by decide, xw1228, Or.inl rfl⟩
theorem xf_X8_37 : xFL RX8 37 8 14 := ⟨RX8, TX8, 40, "RentStreamModel", rfl, xin8, by decide, xw1229, Or.inl rfl⟩
theorem xc_X8_pass_205 : xLV k_X8_pass k_X8_wears 205 RX8 yX8_wears none 0 := ⟨List.forall_mem_cons.mpr ⟨xw1435, List.forall_mem_cons.mpr ⟨xw1437, List.forall_mem_cons.mpr ⟨xw36, List.forall_mem_cons.mpr ⟨xw60, fun _ h => absurd h List.not_mem_nil⟩⟩⟩⟩, xw1438, ⟨⟨by decide +kernel, by decide +kernel, by decide +kernel⟩, by decide, by decide⟩⟩
theorem xp_X8_126 : xFP RX8 126 8 1 .int false := ⟨RX8, TX8, 40, "RentStreamModel", tyX8, rfl, xin8, by decide, xw1216, Or.inl rfl, tyX8_ok, nmX8, rfl, by decide +kernel, fun h => nomatch h⟩
theorem xc_X8_pass_129 : xLV k_X8_pass k_X8_month 129 RX8 yX8_month (some .int) 0 := ⟨List.forall_mem_cons.mpr ⟨xw1354, List.forall_mem_cons.mpr ⟨xw1356, List.forall_mem_cons.mpr ⟨xw29, List.forall_mem_cons.mpr ⟨xw60, fun _ h => absurd h List.not_mem_nil⟩⟩⟩⟩, xw1357, ⟨⟨by decide +kernel, by decide +kernel, by decide +kernel⟩, by decide, by decide⟩⟩
theorem xc_X8_pass_208 : xLV k_X8_pass k_X8_ends 208 RX8 yX8_ends none 1 := ⟨List.forall_mem_cons.mpr ⟨xw1439, List.forall_mem_cons.mpr ⟨xw1441, List.forall_mem_cons.mpr ⟨xw37, List.forall_mem_cons.mpr ⟨xw60, fun _ h => absurd h List.not_mem_nil⟩⟩⟩⟩, xw1442, ⟨⟨by decide +kernel, by decide +kernel, by decide +kernel⟩, by decide, by decide⟩⟩
theorem xc_X8_pass_211 : xLV k_X8_pass k_X8_begins 211 RX8 yX8_begins none 1 := ⟨List.forall_mem_cons.mpr ⟨xw1475, List.forall_mem_cons.mpr ⟨xw1477, List.forall_mem_cons.mpr ⟨xw45, List.forall_mem_cons.mpr ⟨xw60, fun _ h => absurd h List.not_mem_nil⟩⟩⟩⟩, xw1478, ⟨⟨by decide +kernel, by decide +kernel, by decide +kernel⟩, by decide, by decide⟩⟩
theorem xc_X8_pass_119 : xLS k_X8_pass k_X8_in 119 yX8_in (some .boolean) 3 := ⟨List.forall_mem_cons.mpr ⟨xw1347, List.forall_mem_cons.mpr ⟨xw1348, List.forall_mem_cons.mpr ⟨xw60, fun _ h => absurd h List.not_mem_nil⟩⟩⟩, xw1349, ⟨⟨by decide +kernel, by decide +kernel, by decide +kernel⟩, by decide, by decide⟩⟩
theorem xc_X8_pass_133 : xLV k_X8_pass k_X8_holds 133 RX8 yX8_holds (some .boolean) 1 := ⟨List.forall_mem_cons.mpr ⟨xw1350, List.forall_mem_cons.mpr ⟨xw1352, List.forall_mem_cons.mpr ⟨xw28, List.forall_mem_cons.mpr ⟨xw60, fun _ h => absurd h List.not_mem_nil⟩⟩⟩⟩, xw1353, ⟨⟨by decide +kernel, by decide +kernel, by decide +kernel⟩, by decide, by decide⟩⟩
theorem xc_X8_pay_133 : xLV k_X8_pay k_X8_holds 133 RX8 yX8_holds (some .boolean) 1 := ⟨List.forall_mem_cons.mpr ⟨xw1350, List.forall_mem_cons.mpr ⟨xw1352, List.forall_mem_cons.mpr ⟨xw28, List.forall_mem_cons.mpr ⟨xw60, fun _ h => absurd h List.not_mem_nil⟩⟩⟩⟩, xw1353, ⟨⟨by decide +kernel, by decide +kernel, by decide +kernel⟩, by decide, by decide⟩⟩
theorem xc_X8_pay_148 : xLV k_X8_pay k_X8_isLease 148 RX8 yX8_isLease (some .boolean) 1 := ⟨List.forall_mem_cons.mpr ⟨xw1379, List.forall_mem_cons.mpr ⟨xw1381, List.forall_mem_cons.mpr ⟨xw33, List.forall_mem_cons.mpr ⟨xw60, fun _ h => absurd h List.not_mem_nil⟩⟩⟩⟩, xw1382, ⟨⟨by decide +kernel, by decide +kernel, by decide +kernel⟩, by decide, by decide⟩⟩
theorem xc_X8_pay_119 : xLS k_X8_pay k_X8_in 119 yX8_in (some .boolean) 3 := ⟨List.forall_mem_cons.mpr ⟨xw1347, List.forall_mem_cons.mpr ⟨xw1348, List.forall_mem_cons.mpr ⟨xw60, fun _ h => absurd h List.not_mem_nil⟩⟩⟩, xw1349, ⟨⟨by decide +kernel, by decide +kernel, by decide +kernel⟩, by decide, by decide⟩⟩
theorem xc_X8_plan_133 : xLV k_X8_plan k_X8_holds 133 RX8 yX8_holds (some .boolean) 1 := ⟨List.forall_mem_cons.mpr ⟨xw1350, List.forall_mem_cons.mpr ⟨xw1352, List.forall_mem_cons.mpr ⟨xw28, List.forall_mem_cons.mpr ⟨xw60, fun _ h => absurd h List.not_mem_nil⟩⟩⟩⟩, xw1353, ⟨⟨by decide +kernel, by decide +kernel, by decide +kernel⟩, by decide, by decide⟩⟩
theorem xc_X8_plan_148 : xLV k_X8_plan k_X8_isLease 148 RX8 yX8_isLease (some .boolean) 1 := ⟨List.forall_mem_cons.mpr ⟨xw1379, List.forall_mem_cons.mpr ⟨xw1381, List.forall_mem_cons.mpr ⟨xw33, List.forall_mem_cons.mpr ⟨xw60, fun _ h => absurd h List.not_mem_nil⟩⟩⟩⟩, xw1382, ⟨⟨by decide +kernel, by decide +kernel, by decide +kernel⟩, by decide, by decide⟩⟩
theorem xc_X8_plan_119 : xLS k_X8_plan k_X8_in 119 yX8_in (some .boolean) 3 := ⟨List.forall_mem_cons.mpr ⟨xw1347, List.forall_mem_cons.mpr ⟨xw1348, List.forall_mem_cons.mpr ⟨xw60, fun _ h => absurd h List.not_mem_nil⟩⟩⟩, xw1349, ⟨⟨by decide +kernel, by decide +kernel, by decide +kernel⟩, by decide, by decide⟩⟩
theorem xc_X8_planOf_148 : xLV k_X8_planOf k_X8_isLease 148 RX8 yX8_isLease (some .boolean) 1 := ⟨List.forall_mem_cons.mpr ⟨xw1379, List.forall_mem_cons.mpr ⟨xw1381, List.forall_mem_cons.mpr ⟨xw33, List.forall_mem_cons.mpr ⟨xw60, fun _ h => absurd h List.not_mem_nil⟩⟩⟩⟩, xw1382, ⟨⟨by decide +kernel, by decide +kernel, by decide +kernel⟩, by decide, by decide⟩⟩
theorem xc_X8_planOf_133 : xLV k_X8_planOf k_X8_holds 133 RX8 yX8_holds (some .boolean) 1 := ⟨List.forall_mem_cons.mpr ⟨xw1350, List.forall_mem_cons.mpr ⟨xw1352, List.forall_mem_cons.mpr ⟨xw28, List.forall_mem_cons.mpr ⟨xw60, fun _ h => absurd h List.not_mem_nil⟩⟩⟩⟩, xw1353, ⟨⟨by decide +kernel, by decide +kernel, by decide +kernel⟩, by decide, by decide⟩⟩
theorem xc_X8_points_141 : xLV k_X8_points k_X8_isFlat 141 RX8 yX8_isFlat (some .boolean) 1 := ⟨List.forall_mem_cons.mpr ⟨xw1362, List.forall_mem_cons.mpr ⟨xw1364, List.forall_mem_cons.mpr ⟨xw30, List.forall_mem_cons.mpr ⟨xw60, fun _ h => absurd h List.not_mem_nil⟩⟩⟩⟩, xw1365, ⟨⟨by decide +kernel, by decide +kernel, by decide +kernel⟩, by decide, by decide⟩⟩
theorem xc_X8_points_133 : xLV k_X8_points k_X8_holds 133 RX8 yX8_holds (some .boolean) 1 := ⟨List.forall_mem_cons.mpr ⟨xw1350, List.forall_mem_cons.mpr ⟨xw1352, List.forall_mem_cons.mpr ⟨xw28, List.forall_mem_cons.mpr ⟨xw60, fun _ h => absurd h List.not_mem_nil⟩⟩⟩⟩, xw1353, ⟨⟨by decide +kernel, by decide +kernel, by decide +kernel⟩, by decide, by decide⟩⟩
theorem xc_X8_read_133 : xLV k_X8_read k_X8_holds 133 RX8 yX8_holds (some .boolean) 1 := ⟨List.forall_mem_cons.mpr ⟨xw1350, List.forall_mem_cons.mpr ⟨xw1352, List.forall_mem_cons.mpr ⟨xw28, List.forall_mem_cons.mpr ⟨xw60, fun _ h => absurd h List.not_mem_nil⟩⟩⟩⟩, xw1353, ⟨⟨by decide +kernel, by decide +kernel, by decide +kernel⟩, by decide, by decide⟩⟩
theorem xc_X8_read_129 : xLV k_X8_read k_X8_month 129 RX8 yX8_month (some .int) 0 := ⟨List.forall_mem_cons.mpr ⟨xw1354, List.forall_mem_cons.mpr ⟨xw1356, List.forall_mem_cons.mpr ⟨xw29, List.forall_mem_cons.mpr ⟨xw60, fun _ h => absurd h List.not_mem_nil⟩⟩⟩⟩, xw1357, ⟨⟨by decide +kernel, by decide +kernel, by decide +kernel⟩, by decide, by decide⟩⟩
theorem xc_X8_read_141 : xLV k_X8_read k_X8_isFlat 141 RX8 yX8_isFlat (some .boolean) 1 := ⟨List.forall_mem_cons.mpr ⟨xw1362, List.forall_mem_cons.mpr ⟨xw1364, List.forall_mem_cons.mpr ⟨xw30, List.forall_mem_cons.mpr ⟨xw60, fun _ h => absurd h List.not_mem_nil⟩⟩⟩⟩, xw1365, ⟨⟨by decide +kernel, by decide +kernel, by decide +kernel⟩, by decide, by decide⟩⟩
theorem xc_X8_read_119 : xLS k_X8_read k_X8_in 119 yX8_in (some .boolean) 3 := ⟨List.forall_mem_cons.mpr ⟨xw1347, List.forall_mem_cons.mpr ⟨xw1348, List.forall_mem_cons.mpr ⟨xw60, fun _ h => absurd h List.not_mem_nil⟩⟩⟩, xw1349, ⟨⟨by decide +kernel, by decide +kernel, by decide +kernel⟩, by decide, by decide⟩⟩
theorem xc_X8_report_133 : xLV k_X8_report k_X8_holds 133 RX8 yX8_holds (some .boolean) 1 := ⟨List.forall_mem_cons.mpr ⟨xw1350, List.forall_mem_cons.mpr ⟨xw1352, List.forall_mem_cons.mpr ⟨xw28, List.forall_mem_cons.mpr ⟨xw60, fun _ h => absurd h List.not_mem_nil⟩⟩⟩⟩, xw1353, ⟨⟨by decide +kernel, by decide +kernel, by decide +kernel⟩, by decide, by decide⟩⟩
theorem xp_X8_156 : xFP RX8 156 8 12 .int false := ⟨RX8, TX8, 40, "RentStreamModel", tyX8, rfl, xin8, by decide, xw1227, Or.inl rfl, tyX8_ok, nmX8, rfl, by decide +kernel, fun h => nomatch h⟩
theorem xc_X8_report_141 : xLV k_X8_report k_X8_isFlat 141 RX8 yX8_isFlat (some .boolean) 1 := ⟨List.forall_mem_cons.mpr ⟨xw1362, List.forall_mem_cons.mpr ⟨xw1364, List.forall_mem_cons.mpr ⟨xw30, List.forall_mem_cons.mpr ⟨xw60, fun _ h => absurd h List.not_mem_nil⟩⟩⟩⟩, xw1365, ⟨⟨by decide +kernel, by decide +kernel, by decide +kernel⟩, by decide, by decide⟩⟩
theorem xc_X8_report_119 : xLS k_X8_report k_X8_in 119 yX8_in (some .boolean) 3 := ⟨List.forall_mem_cons.mpr ⟨xw1347, List.forall_mem_cons.mpr ⟨xw1348, List.forall_mem_cons.mpr ⟨xw60, fun _ h => absurd h List.not_mem_nil⟩⟩⟩, xw1349, ⟨⟨by decide +kernel, by decide +kernel, by decide +kernel⟩, by decide, by decide⟩⟩
theorem xf_X8_112 : xFL RX8 112 8 0 := ⟨RX8, TX8, 40, "RentStreamModel", rfl, xin8, by decide, xw1215, Or.inl rfl⟩
theorem xc_X8_use_133 : xLV k_X8_use k_X8_holds 133 RX8 yX8_holds (some .boolean) 1 := ⟨List.forall_mem_cons.mpr ⟨xw1350, List.forall_mem_cons.mpr ⟨xw1352, List.forall_mem_cons.mpr ⟨xw28, List.forall_mem_cons.mpr ⟨xw60, fun _ h => absurd h List.not_mem_nil⟩⟩⟩⟩, xw1353, ⟨⟨by decide +kernel, by decide +kernel, by decide +kernel⟩, by decide, by decide⟩⟩
theorem xc_X8_use_141 : xLV k_X8_use k_X8_isFlat 141 RX8 yX8_isFlat (some .boolean) 1 := ⟨List.forall_mem_cons.mpr ⟨xw1362, List.forall_mem_cons.mpr ⟨xw1364, List.forall_mem_cons.mpr ⟨xw30, List.forall_mem_cons.mpr ⟨xw60, fun _ h => absurd h List.not_mem_nil⟩⟩⟩⟩, xw1365, ⟨⟨by decide +kernel, by decide +kernel, by decide +kernel⟩, by decide, by decide⟩⟩
theorem xc_X8_use_202 : xLV k_X8_use k_X8_isMonth 202 RX8 yX8_isMonth (some .boolean) 1 := ⟨List.forall_mem_cons.mpr ⟨xw1409, List.forall_mem_cons.mpr ⟨xw1411, List.forall_mem_cons.mpr ⟨xw34, List.forall_mem_cons.mpr ⟨xw60, fun _ h => absurd h List.not_mem_nil⟩⟩⟩⟩, xw1412, ⟨⟨by decide +kernel, by decide +kernel, by decide +kernel⟩, by decide, by decide⟩⟩
