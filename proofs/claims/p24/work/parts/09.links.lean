set_option maxRecDepth 20000
theorem xw144 : Cond.methodLink RX0 3 objectInit ∈ xBW := xbw 144 (by decide +kernel) (by decide +kernel)
theorem xw67 : Cond.instanceMethod objectInit ∈ xBW := xbw 67 (by decide +kernel) (by decide +kernel)
theorem xw68 : Cond.code objectInit ⟨#[0xb1]⟩ 1 none ∈ xBW := xbw 68 (by decide +kernel) (by decide +kernel)
theorem xw145 : Cond.fieldLink RX0 9 "RentStream$Bill" "rent" "I" ∈ xBW := xbw 145 (by decide +kernel) (by decide +kernel)
theorem xw148 : Cond.fieldLink RX0 15 "RentStream$Bill" "lowered" "I" ∈ xBW := xbw 148 (by decide +kernel) (by decide +kernel)
theorem xw151 : Cond.fieldLink RX0 18 "RentStream$Bill" "benefit" "I" ∈ xBW := xbw 151 (by decide +kernel) (by decide +kernel)
theorem xw154 : Cond.fieldLink RX0 21 "RentStream$Bill" "heat" "I" ∈ xBW := xbw 154 (by decide +kernel) (by decide +kernel)
theorem xw101 : Cond.fieldLink RX4 9 "RentStream$Months" "numbers" "[I" ∈ xBW := xbw 101 (by decide +kernel) (by decide +kernel)
theorem xw100 : Cond.methodLink RX4 3 objectInit ∈ xBW := xbw 100 (by decide +kernel) (by decide +kernel)
theorem xw105 : Cond.arrayClass .int ∈ xBW := xbw 105 (by decide +kernel) (by decide +kernel)
theorem xw114 : Cond.methodLink RJ5 3 objectInit ∈ xBW := xbw 114 (by decide +kernel) (by decide +kernel)
theorem xw115 : Cond.fieldLink RJ5 18 "java/lang/String" "COMPACT_STRINGS" "Z" ∈ xBW := xbw 115 (by decide +kernel) (by decide +kernel)
theorem xw138 : Cond.arrayClass .byte ∈ xBW := xbw 138 (by decide +kernel) (by decide +kernel)
theorem xw124 : Cond.fieldLink RJ5 15 "java/lang/AbstractStringBuilder" "value" "[B" ∈ xBW := xbw 124 (by decide +kernel) (by decide +kernel)
theorem xw125 : Cond.fieldLink RJ5 22 "java/lang/AbstractStringBuilder" "coder" "B" ∈ xBW := xbw 125 (by decide +kernel) (by decide +kernel)
theorem xw111 : Cond.methodLink RJ4 1 yJ5_init_d00df ∈ xBW := xbw 111 (by decide +kernel) (by decide +kernel)
theorem xw112 : Cond.instanceMethod yJ5_init_d00df ∈ xBW := xbw 112 (by decide +kernel) (by decide +kernel)
theorem xw34 : Cond.initialized RJ5 ∈ xBW := xbw 34 (by decide +kernel) (by decide +kernel)
theorem xw113 : Cond.code yJ5_init_d00df cJ5_init_d00df 2 none ∈ xBW := xbw 113 (by decide +kernel) (by decide +kernel)
theorem xw80 : Cond.methodLink RJxa1e45 1 objectInit ∈ xBW := xbw 80 (by decide +kernel) (by decide +kernel)
theorem xw77 : Cond.methodLink RJxc12de 1 yJxa1e45_init_da8c8 ∈ xBW := xbw 77 (by decide +kernel) (by decide +kernel)
theorem xw78 : Cond.instanceMethod yJxa1e45_init_da8c8 ∈ xBW := xbw 78 (by decide +kernel) (by decide +kernel)
theorem xw30 : Cond.initialized RJxa1e45 ∈ xBW := xbw 30 (by decide +kernel) (by decide +kernel)
theorem xw79 : Cond.code yJxa1e45_init_da8c8 cJxa1e45_init_da8c8 1 none ∈ xBW := xbw 79 (by decide +kernel) (by decide +kernel)
theorem xw85 : Cond.fieldLink RJxc12de 7 "java/util/AbstractList" "modCount" "I" ∈ xBW := xbw 85 (by decide +kernel) (by decide +kernel)
theorem xw74 : Cond.methodLink RJx4a65c 1 yJxc12de_init_da8c8 ∈ xBW := xbw 74 (by decide +kernel) (by decide +kernel)
theorem xw75 : Cond.instanceMethod yJxc12de_init_da8c8 ∈ xBW := xbw 75 (by decide +kernel) (by decide +kernel)
theorem xw31 : Cond.initialized RJxc12de ∈ xBW := xbw 31 (by decide +kernel) (by decide +kernel)
theorem xw76 : Cond.code yJxc12de_init_da8c8 cJxc12de_init_da8c8 1 none ∈ xBW := xbw 76 (by decide +kernel) (by decide +kernel)
theorem xw81 : Cond.fieldLink RJx4a65c 39 "java/util/ArrayList" "DEFAULTCAPACITY_EMPTY_ELEMENTDATA" "[Ljava/lang/Object;" ∈ xBW := xbw 81 (by decide +kernel) (by decide +kernel)
theorem xw83 : Cond.fieldLink RJx4a65c 9 "java/util/ArrayList" "elementData" "[Ljava/lang/Object;" ∈ xBW := xbw 83 (by decide +kernel) (by decide +kernel)
theorem xw66 : Cond.methodLink RX7 1 objectInit ∈ xBW := xbw 66 (by decide +kernel) (by decide +kernel)
theorem xw69 : Cond.classLink RX7 7 "java/util/ArrayList" ∈ xBW := xbw 69 (by decide +kernel) (by decide +kernel)
theorem xw70 : Cond.instantiable RJx4a65c 3 ∈ xBW := xbw 70 (by decide +kernel) (by decide +kernel)
theorem xw32 : Cond.initialized RJx4a65c ∈ xBW := xbw 32 (by decide +kernel) (by decide +kernel)
theorem xw71 : Cond.methodLink RX7 9 yJx4a65c_init_da8c8 ∈ xBW := xbw 71 (by decide +kernel) (by decide +kernel)
theorem xw72 : Cond.instanceMethod yJx4a65c_init_da8c8 ∈ xBW := xbw 72 (by decide +kernel) (by decide +kernel)
theorem xw73 : Cond.code yJx4a65c_init_da8c8 cJx4a65c_init_da8c8 1 none ∈ xBW := xbw 73 (by decide +kernel) (by decide +kernel)
theorem xw165 : Cond.fieldLink RX7 10 "RentStream" "flats" "Ljava/util/ArrayList;" ∈ xBW := xbw 165 (by decide +kernel) (by decide +kernel)
theorem xw166 : Cond.fieldLink RX7 16 "RentStream" "leases" "Ljava/util/ArrayList;" ∈ xBW := xbw 166 (by decide +kernel) (by decide +kernel)
theorem xw167 : Cond.fieldLink RX7 19 "RentStream" "repairs" "Ljava/util/ArrayList;" ∈ xBW := xbw 167 (by decide +kernel) (by decide +kernel)
theorem xw95 : Cond.classLink RX7 22 "RentStream$Months" ∈ xBW := xbw 95 (by decide +kernel) (by decide +kernel)
theorem xw96 : Cond.instantiable RX4 1 ∈ xBW := xbw 96 (by decide +kernel) (by decide +kernel)
theorem xw33 : Cond.initialized RX4 ∈ xBW := xbw 33 (by decide +kernel) (by decide +kernel)
theorem xw97 : Cond.methodLink RX7 24 yX4_init ∈ xBW := xbw 97 (by decide +kernel) (by decide +kernel)
theorem xw98 : Cond.instanceMethod yX4_init ∈ xBW := xbw 98 (by decide +kernel) (by decide +kernel)
theorem xw99 : Cond.code yX4_init cX4_init 3 none ∈ xBW := xbw 99 (by decide +kernel) (by decide +kernel)
theorem xw168 : Cond.fieldLink RX7 27 "RentStream" "indexes" "LRentStream$Months;" ∈ xBW := xbw 168 (by decide +kernel) (by decide +kernel)
theorem xw169 : Cond.fieldLink RX7 31 "RentStream" "heatCosts" "LRentStream$Months;" ∈ xBW := xbw 169 (by decide +kernel) (by decide +kernel)
theorem xw106 : Cond.classLink RX7 34 "java/lang/StringBuilder" ∈ xBW := xbw 106 (by decide +kernel) (by decide +kernel)
theorem xw107 : Cond.instantiable RJ4 4 ∈ xBW := xbw 107 (by decide +kernel) (by decide +kernel)
theorem xw35 : Cond.initialized RJ4 ∈ xBW := xbw 35 (by decide +kernel) (by decide +kernel)
theorem xw108 : Cond.methodLink RX7 36 yJ4_init_da8c8 ∈ xBW := xbw 108 (by decide +kernel) (by decide +kernel)
theorem xw109 : Cond.instanceMethod yJ4_init_da8c8 ∈ xBW := xbw 109 (by decide +kernel) (by decide +kernel)
theorem xw110 : Cond.code yJ4_init_da8c8 cJ4_init_da8c8 1 none ∈ xBW := xbw 110 (by decide +kernel) (by decide +kernel)
theorem xw170 : Cond.fieldLink RX7 37 "RentStream" "lineText" "Ljava/lang/StringBuilder;" ∈ xBW := xbw 170 (by decide +kernel) (by decide +kernel)
theorem xw139 : Cond.classLink RX7 41 "RentStream$Bill" ∈ xBW := xbw 139 (by decide +kernel) (by decide +kernel)
theorem xw140 : Cond.instantiable RX0 4 ∈ xBW := xbw 140 (by decide +kernel) (by decide +kernel)
theorem xw38 : Cond.initialized RX0 ∈ xBW := xbw 38 (by decide +kernel) (by decide +kernel)
theorem xw142 : Cond.instanceMethod yX0_init ∈ xBW := xbw 142 (by decide +kernel) (by decide +kernel)
theorem xw143 : Cond.code yX0_init cX0_init 1 none ∈ xBW := xbw 143 (by decide +kernel) (by decide +kernel)
theorem xw171 : Cond.fieldLink RX7 44 "RentStream" "settledAnew" "LRentStream$Bill;" ∈ xBW := xbw 171 (by decide +kernel) (by decide +kernel)
theorem xw172 : Cond.fieldLink RX7 48 "RentStream" "nextIndex" "I" ∈ xBW := xbw 172 (by decide +kernel) (by decide +kernel)
theorem xw173 : Cond.fieldLink RX7 52 "RentStream" "day" "I" ∈ xBW := xbw 173 (by decide +kernel) (by decide +kernel)
theorem xw174 : Cond.fieldLink RX7 55 "RentStream" "ownerAccount" "J" ∈ xBW := xbw 174 (by decide +kernel) (by decide +kernel)
theorem xw638 : Cond.methodLink RX7 370 Lib.Math.min.name ∈ xBW := xbw 638 (by decide +kernel) (by decide +kernel)
theorem xw378 : Cond.static Lib.Math.min.name ∈ xBW := xbw 378 (by decide +kernel) (by decide +kernel)
theorem xw46 : Cond.initialized RJ9 ∈ xBW := xbw 46 (by decide +kernel) (by decide +kernel)
theorem xw379 : Cond.code Lib.Math.min.name Lib.Math.min.code 2 (some .int) ∈ xBW := xbw 379 (by decide +kernel) (by decide +kernel)
theorem xw639 : Cond.methodLink RX7 372 Lib.Math.max.name ∈ xBW := xbw 639 (by decide +kernel) (by decide +kernel)
theorem xw342 : Cond.static Lib.Math.max.name ∈ xBW := xbw 342 (by decide +kernel) (by decide +kernel)
theorem xw343 : Cond.code Lib.Math.max.name Lib.Math.max.code 2 (some .int) ∈ xBW := xbw 343 (by decide +kernel) (by decide +kernel)
theorem xw495 : Cond.fieldLink RX7 223 "RentStream$Lease" "deskAccount" "J" ∈ xBW := xbw 495 (by decide +kernel) (by decide +kernel)
theorem xw486 : Cond.fieldLink RX3 20 "RentStream$Lease" "told" "LRentStream$Months;" ∈ xBW := xbw 486 (by decide +kernel) (by decide +kernel)
theorem xw634 : Cond.methodLink RX3 73 yX4_in ∈ xBW := xbw 634 (by decide +kernel) (by decide +kernel)
theorem xw553 : Cond.instanceMethod yX4_in ∈ xBW := xbw 553 (by decide +kernel) (by decide +kernel)
theorem xw554 : Cond.selects RX4 yX4_in yX4_in ∈ xBW := xbw 554 (by decide +kernel) (by decide +kernel)
theorem xw555 : Cond.code yX4_in cX4_in 2 (some .int) ∈ xBW := xbw 555 (by decide +kernel) (by decide +kernel)
theorem xw498 : Cond.fieldLink RX3 58 "RentStream$Lease" "rent" "I" ∈ xBW := xbw 498 (by decide +kernel) (by decide +kernel)
theorem xw552 : Cond.methodLink RX7 114 yX4_in ∈ xBW := xbw 552 (by decide +kernel) (by decide +kernel)
theorem xw757 : Cond.methodLink RX7 298 yX3_rentAt ∈ xBW := xbw 757 (by decide +kernel) (by decide +kernel)
theorem xw758 : Cond.instanceMethod yX3_rentAt ∈ xBW := xbw 758 (by decide +kernel) (by decide +kernel)
theorem xw759 : Cond.selects RX3 yX3_rentAt yX3_rentAt ∈ xBW := xbw 759 (by decide +kernel) (by decide +kernel)
theorem xw52 : Cond.initialized RX3 ∈ xBW := xbw 52 (by decide +kernel) (by decide +kernel)
theorem xw760 : Cond.code yX3_rentAt cX3_rentAt 2 (some .int) ∈ xBW := xbw 760 (by decide +kernel) (by decide +kernel)
theorem xw768 : Cond.methodLink RX7 301 yX3_incomeIn ∈ xBW := xbw 768 (by decide +kernel) (by decide +kernel)
theorem xw631 : Cond.instanceMethod yX3_incomeIn ∈ xBW := xbw 631 (by decide +kernel) (by decide +kernel)
theorem xw632 : Cond.selects RX3 yX3_incomeIn yX3_incomeIn ∈ xBW := xbw 632 (by decide +kernel) (by decide +kernel)
theorem xw633 : Cond.code yX3_incomeIn cX3_incomeIn 3 (some .int) ∈ xBW := xbw 633 (by decide +kernel) (by decide +kernel)
theorem xw769 : Cond.methodLink RX7 304 yX7_benefitFor ∈ xBW := xbw 769 (by decide +kernel) (by decide +kernel)
theorem xw636 : Cond.static yX7_benefitFor ∈ xBW := xbw 636 (by decide +kernel) (by decide +kernel)
theorem xw29 : Cond.initialized RX7 ∈ xBW := xbw 29 (by decide +kernel) (by decide +kernel)
theorem xw637 : Cond.code yX7_benefitFor cX7_benefitFor 4 (some .int) ∈ xBW := xbw 637 (by decide +kernel) (by decide +kernel)
theorem xw644 : Cond.methodLink RX7 176 yX7_postToDesk ∈ xBW := xbw 644 (by decide +kernel) (by decide +kernel)
theorem xw646 : Cond.instanceMethod yX7_postToDesk ∈ xBW := xbw 646 (by decide +kernel) (by decide +kernel)
theorem xw14 : Cond.selects RX7 yX7_postToDesk yX7_postToDesk ∈ xBW := xbw 14 (by decide +kernel) (by decide +kernel)
theorem xw647 : Cond.code yX7_postToDesk cX7_postToDesk 4 none ∈ xBW := xbw 647 (by decide +kernel) (by decide +kernel)
theorem xw499 : Cond.fieldLink RX3 61 "RentStream$Lease" "first" "I" ∈ xBW := xbw 499 (by decide +kernel) (by decide +kernel)
theorem xw484 : Cond.fieldLink RX3 9 "RentStream$Lease" "last" "I" ∈ xBW := xbw 484 (by decide +kernel) (by decide +kernel)
theorem xw416 : Cond.methodLink RJ15 105 yJ3_checkIndex_8e157 ∈ xBW := xbw 416 (by decide +kernel) (by decide +kernel)
theorem xw417 : Cond.static yJ3_checkIndex_8e157 ∈ xBW := xbw 417 (by decide +kernel) (by decide +kernel)
theorem xw51 : Cond.initialized RJ3 ∈ xBW := xbw 51 (by decide +kernel) (by decide +kernel)
theorem xw418 : Cond.code yJ3_checkIndex_8e157 cJ3_checkIndex_8e157 3 (some .int) ∈ xBW := xbw 418 (by decide +kernel) (by decide +kernel)
theorem xw84 : Cond.fieldLink RJx4a65c 48 "java/util/ArrayList" "size" "I" ∈ xBW := xbw 84 (by decide +kernel) (by decide +kernel)
theorem xw413 : Cond.methodLink RJx4a65c 118 yJ15_checkIndex_7cf53 ∈ xBW := xbw 413 (by decide +kernel) (by decide +kernel)
theorem xw414 : Cond.static yJ15_checkIndex_7cf53 ∈ xBW := xbw 414 (by decide +kernel) (by decide +kernel)
theorem xw50 : Cond.initialized RJ15 ∈ xBW := xbw 50 (by decide +kernel) (by decide +kernel)
theorem xw415 : Cond.code yJ15_checkIndex_7cf53 cJ15_checkIndex_7cf53 2 (some .int) ∈ xBW := xbw 415 (by decide +kernel) (by decide +kernel)
theorem xw419 : Cond.methodLink RJx4a65c 123 yJx4a65c_elementData_915e3 ∈ xBW := xbw 419 (by decide +kernel) (by decide +kernel)
theorem xw420 : Cond.instanceMethod yJx4a65c_elementData_915e3 ∈ xBW := xbw 420 (by decide +kernel) (by decide +kernel)
theorem xw421 : Cond.selects RJx4a65c yJx4a65c_elementData_915e3 yJx4a65c_elementData_915e3 ∈ xBW := xbw 421 (by decide +kernel) (by decide +kernel)
theorem xw422 : Cond.code yJx4a65c_elementData_915e3 cJx4a65c_elementData_915e3 2 (some (.object "java/lang/Object")) ∈ xBW := xbw 422 (by decide +kernel) (by decide +kernel)
theorem xw269 : Cond.methodLink RX7 66 yJx4a65c_size_8abf5 ∈ xBW := xbw 269 (by decide +kernel) (by decide +kernel)
theorem xw270 : Cond.instanceMethod yJx4a65c_size_8abf5 ∈ xBW := xbw 270 (by decide +kernel) (by decide +kernel)
theorem xw271 : Cond.selects RJx4a65c yJx4a65c_size_8abf5 yJx4a65c_size_8abf5 ∈ xBW := xbw 271 (by decide +kernel) (by decide +kernel)
theorem xw272 : Cond.code yJx4a65c_size_8abf5 cJx4a65c_size_8abf5 1 (some .int) ∈ xBW := xbw 272 (by decide +kernel) (by decide +kernel)
theorem xw409 : Cond.methodLink RX7 149 yJx4a65c_get_915e3 ∈ xBW := xbw 409 (by decide +kernel) (by decide +kernel)
theorem xw410 : Cond.instanceMethod yJx4a65c_get_915e3 ∈ xBW := xbw 410 (by decide +kernel) (by decide +kernel)
theorem xw411 : Cond.selects RJx4a65c yJx4a65c_get_915e3 yJx4a65c_get_915e3 ∈ xBW := xbw 411 (by decide +kernel) (by decide +kernel)
theorem xw412 : Cond.code yJx4a65c_get_915e3 cJx4a65c_get_915e3 2 (some (.object "java/lang/Object")) ∈ xBW := xbw 412 (by decide +kernel) (by decide +kernel)
theorem xw429 : Cond.classLink RX7 95 "RentStream$Lease" ∈ xBW := xbw 429 (by decide +kernel) (by decide +kernel)
theorem xw717 : Cond.methodLink RX7 209 yX3_runsIn ∈ xBW := xbw 717 (by decide +kernel) (by decide +kernel)
theorem xw714 : Cond.instanceMethod yX3_runsIn ∈ xBW := xbw 714 (by decide +kernel) (by decide +kernel)
theorem xw715 : Cond.selects RX3 yX3_runsIn yX3_runsIn ∈ xBW := xbw 715 (by decide +kernel) (by decide +kernel)
theorem xw716 : Cond.code yX3_runsIn cX3_runsIn 2 (some .boolean) ∈ xBW := xbw 716 (by decide +kernel) (by decide +kernel)
theorem xw782 : Cond.methodLink RX7 295 yX7_payAhead ∈ xBW := xbw 782 (by decide +kernel) (by decide +kernel)
theorem xw784 : Cond.instanceMethod yX7_payAhead ∈ xBW := xbw 784 (by decide +kernel) (by decide +kernel)
theorem xw27 : Cond.selects RX7 yX7_payAhead yX7_payAhead ∈ xBW := xbw 27 (by decide +kernel) (by decide +kernel)
theorem xw785 : Cond.code yX7_payAhead cX7_payAhead 6 none ∈ xBW := xbw 785 (by decide +kernel) (by decide +kernel)
theorem xw573 : Cond.methodLink RX7 133 yX4_put ∈ xBW := xbw 573 (by decide +kernel) (by decide +kernel)
theorem xw574 : Cond.instanceMethod yX4_put ∈ xBW := xbw 574 (by decide +kernel) (by decide +kernel)
theorem xw575 : Cond.selects RX4 yX4_put yX4_put ∈ xBW := xbw 575 (by decide +kernel) (by decide +kernel)
theorem xw576 : Cond.code yX4_put cX4_put 3 none ∈ xBW := xbw 576 (by decide +kernel) (by decide +kernel)
theorem xw393 : Cond.classLink RX7 144 "java/lang/IndexOutOfBoundsException" ∈ xBW := xbw 393 (by decide +kernel) (by decide +kernel)
theorem xw49 : Cond.initialized "java/lang/IndexOutOfBoundsException" ∈ xBW := xbw 49 (by decide +kernel) (by decide +kernel)
theorem xw432 : Cond.methodLink RX7 97 yX7_monthNow ∈ xBW := xbw 432 (by decide +kernel) (by decide +kernel)
theorem xw434 : Cond.instanceMethod yX7_monthNow ∈ xBW := xbw 434 (by decide +kernel) (by decide +kernel)
theorem xw10 : Cond.selects RX7 yX7_monthNow yX7_monthNow ∈ xBW := xbw 10 (by decide +kernel) (by decide +kernel)
theorem xw435 : Cond.code yX7_monthNow cX7_monthNow 1 (some .int) ∈ xBW := xbw 435 (by decide +kernel) (by decide +kernel)
theorem xw500 : Cond.fieldLink RX3 50 "RentStream$Lease" "bills" "[LRentStream$Bill;" ∈ xBW := xbw 500 (by decide +kernel) (by decide +kernel)
theorem xw541 : Cond.methodLink RX7 103 yX7_leaseAt ∈ xBW := xbw 541 (by decide +kernel) (by decide +kernel)
theorem xw543 : Cond.instanceMethod yX7_leaseAt ∈ xBW := xbw 543 (by decide +kernel) (by decide +kernel)
theorem xw11 : Cond.selects RX7 yX7_leaseAt yX7_leaseAt ∈ xBW := xbw 11 (by decide +kernel) (by decide +kernel)
theorem xw544 : Cond.code yX7_leaseAt cX7_leaseAt 2 (some (.object "RentStream$Lease")) ∈ xBW := xbw 544 (by decide +kernel) (by decide +kernel)
theorem xw617 : Cond.methodLink RX7 162 yX7_needMonth ∈ xBW := xbw 617 (by decide +kernel) (by decide +kernel)
theorem xw619 : Cond.instanceMethod yX7_needMonth ∈ xBW := xbw 619 (by decide +kernel) (by decide +kernel)
theorem xw12 : Cond.selects RX7 yX7_needMonth yX7_needMonth ∈ xBW := xbw 12 (by decide +kernel) (by decide +kernel)
theorem xw620 : Cond.code yX7_needMonth cX7_needMonth 2 none ∈ xBW := xbw 620 (by decide +kernel) (by decide +kernel)
theorem xw200 : Cond.classLink RX7 59 "java/lang/IllegalArgumentException" ∈ xBW := xbw 200 (by decide +kernel) (by decide +kernel)
theorem xw42 : Cond.initialized "java/lang/IllegalArgumentException" ∈ xBW := xbw 42 (by decide +kernel) (by decide +kernel)
theorem xw803 : Cond.methodLink RX7 228 yX3_billOf ∈ xBW := xbw 803 (by decide +kernel) (by decide +kernel)
theorem xw627 : Cond.instanceMethod yX3_billOf ∈ xBW := xbw 627 (by decide +kernel) (by decide +kernel)
theorem xw628 : Cond.selects RX3 yX3_billOf yX3_billOf ∈ xBW := xbw 628 (by decide +kernel) (by decide +kernel)
theorem xw629 : Cond.code yX3_billOf cX3_billOf 2 (some (.object "RentStream$Bill")) ∈ xBW := xbw 629 (by decide +kernel) (by decide +kernel)
theorem xw805 : Cond.methodLink RX7 234 yX0_amount ∈ xBW := xbw 805 (by decide +kernel) (by decide +kernel)
theorem xw806 : Cond.instanceMethod yX0_amount ∈ xBW := xbw 806 (by decide +kernel) (by decide +kernel)
theorem xw807 : Cond.selects RX0 yX0_amount yX0_amount ∈ xBW := xbw 807 (by decide +kernel) (by decide +kernel)
theorem xw808 : Cond.code yX0_amount cX0_amount 2 (some .int) ∈ xBW := xbw 808 (by decide +kernel) (by decide +kernel)
theorem xw804 : Cond.constantLong RX7 232 (-1 : Int64) ∈ xBW := xbw 804 (by decide +kernel) (by decide +kernel)
theorem xw485 : Cond.fieldLink RX7 107 "RentStream$Lease" "last" "I" ∈ xBW := xbw 485 (by decide +kernel) (by decide +kernel)
theorem xw273 : Cond.classLink RX7 70 "java/lang/IllegalStateException" ∈ xBW := xbw 273 (by decide +kernel) (by decide +kernel)
theorem xw43 : Cond.initialized "java/lang/IllegalStateException" ∈ xBW := xbw 43 (by decide +kernel) (by decide +kernel)
theorem xw493 : Cond.fieldLink RX7 182 "RentStream$Lease" "tenantAccount" "J" ∈ xBW := xbw 493 (by decide +kernel) (by decide +kernel)
theorem xw764 : Cond.constantLong RX7 362 (3000 : Int64) ∈ xBW := xbw 764 (by decide +kernel) (by decide +kernel)
theorem xw765 : Cond.methodLink RX7 364 Lib.MathLoose.min_long.x ∈ xBW := xbw 765 (by decide +kernel) (by decide +kernel)
theorem xw766 : Cond.static Lib.MathLoose.min_long.x ∈ xBW := xbw 766 (by decide +kernel) (by decide +kernel)
theorem xw767 : Cond.code Lib.MathLoose.min_long.x Lib.MathLoose.min_long.code 4 (some .long) ∈ xBW := xbw 767 (by decide +kernel) (by decide +kernel)
theorem xw147 : Cond.fieldLink RX7 350 "RentStream$Bill" "rent" "I" ∈ xBW := xbw 147 (by decide +kernel) (by decide +kernel)
theorem xw483 : Cond.fieldLink RX7 265 "RentStream$Lease" "home" "LRentStream$Flat;" ∈ xBW := xbw 483 (by decide +kernel) (by decide +kernel)
theorem xw304 : Cond.fieldLink RX7 256 "RentStream$Flat" "pointsOff" "LRentStream$Months;" ∈ xBW := xbw 304 (by decide +kernel) (by decide +kernel)
theorem xw761 : Cond.methodLink RX7 353 yX7_loweredBy ∈ xBW := xbw 761 (by decide +kernel) (by decide +kernel)
theorem xw762 : Cond.static yX7_loweredBy ∈ xBW := xbw 762 (by decide +kernel) (by decide +kernel)
theorem xw763 : Cond.code yX7_loweredBy cX7_loweredBy 4 (some .int) ∈ xBW := xbw 763 (by decide +kernel) (by decide +kernel)
theorem xw150 : Cond.fieldLink RX7 356 "RentStream$Bill" "lowered" "I" ∈ xBW := xbw 150 (by decide +kernel) (by decide +kernel)
theorem xw153 : Cond.fieldLink RX7 292 "RentStream$Bill" "benefit" "I" ∈ xBW := xbw 153 (by decide +kernel) (by decide +kernel)
theorem xw491 : Cond.fieldLink RX7 311 "RentStream$Lease" "heatShare" "LRentStream$HeatShare;" ∈ xBW := xbw 491 (by decide +kernel) (by decide +kernel)
theorem xw469 : Cond.fieldLink RX7 315 "RentStream$HeatShare" "cents" "I" ∈ xBW := xbw 469 (by decide +kernel) (by decide +kernel)
theorem xw155 : Cond.fieldLink RX7 359 "RentStream$Bill" "heat" "I" ∈ xBW := xbw 155 (by decide +kernel) (by decide +kernel)
theorem xw753 : Cond.methodLink RX7 216 yX7_settle ∈ xBW := xbw 753 (by decide +kernel) (by decide +kernel)
theorem xw755 : Cond.instanceMethod yX7_settle ∈ xBW := xbw 755 (by decide +kernel) (by decide +kernel)
theorem xw25 : Cond.selects RX7 yX7_settle yX7_settle ∈ xBW := xbw 25 (by decide +kernel) (by decide +kernel)
theorem xw756 : Cond.code yX7_settle cX7_settle 4 none ∈ xBW := xbw 756 (by decide +kernel) (by decide +kernel)
theorem xw770 : Cond.methodLink RX7 288 yX3_putBill ∈ xBW := xbw 770 (by decide +kernel) (by decide +kernel)
theorem xw771 : Cond.instanceMethod yX3_putBill ∈ xBW := xbw 771 (by decide +kernel) (by decide +kernel)
theorem xw772 : Cond.selects RX3 yX3_putBill yX3_putBill ∈ xBW := xbw 772 (by decide +kernel) (by decide +kernel)
theorem xw773 : Cond.code yX3_putBill cX3_putBill 3 none ∈ xBW := xbw 773 (by decide +kernel) (by decide +kernel)
theorem xw774 : Cond.methodLink RX7 220 yX0_ofTenant ∈ xBW := xbw 774 (by decide +kernel) (by decide +kernel)
theorem xw775 : Cond.instanceMethod yX0_ofTenant ∈ xBW := xbw 775 (by decide +kernel) (by decide +kernel)
theorem xw776 : Cond.selects RX0 yX0_ofTenant yX0_ofTenant ∈ xBW := xbw 776 (by decide +kernel) (by decide +kernel)
theorem xw777 : Cond.code yX0_ofTenant cX0_ofTenant 1 (some .int) ∈ xBW := xbw 777 (by decide +kernel) (by decide +kernel)
theorem xw640 : Cond.methodLink RX7 172 yX7_postToTenant ∈ xBW := xbw 640 (by decide +kernel) (by decide +kernel)
theorem xw642 : Cond.instanceMethod yX7_postToTenant ∈ xBW := xbw 642 (by decide +kernel) (by decide +kernel)
theorem xw13 : Cond.selects RX7 yX7_postToTenant yX7_postToTenant ∈ xBW := xbw 13 (by decide +kernel) (by decide +kernel)
theorem xw643 : Cond.code yX7_postToTenant cX7_postToTenant 4 none ∈ xBW := xbw 643 (by decide +kernel) (by decide +kernel)
theorem xw472 : Cond.fieldLink RX2 16 "RentStream$HeatShare" "remainder" "J" ∈ xBW := xbw 472 (by decide +kernel) (by decide +kernel)
theorem xw468 : Cond.fieldLink RX2 7 "RentStream$HeatShare" "cents" "I" ∈ xBW := xbw 468 (by decide +kernel) (by decide +kernel)
theorem xw738 : Cond.methodLink RX7 347 yX2_takeOneMore ∈ xBW := xbw 738 (by decide +kernel) (by decide +kernel)
theorem xw739 : Cond.instanceMethod yX2_takeOneMore ∈ xBW := xbw 739 (by decide +kernel) (by decide +kernel)
theorem xw740 : Cond.selects RX2 yX2_takeOneMore yX2_takeOneMore ∈ xBW := xbw 740 (by decide +kernel) (by decide +kernel)
theorem xw54 : Cond.initialized RX2 ∈ xBW := xbw 54 (by decide +kernel) (by decide +kernel)
theorem xw741 : Cond.code yX2_takeOneMore cX2_takeOneMore 1 none ∈ xBW := xbw 741 (by decide +kernel) (by decide +kernel)
theorem xw734 : Cond.methodLink RX7 343 yX2_isAheadOf ∈ xBW := xbw 734 (by decide +kernel) (by decide +kernel)
theorem xw735 : Cond.instanceMethod yX2_isAheadOf ∈ xBW := xbw 735 (by decide +kernel) (by decide +kernel)
theorem xw736 : Cond.selects RX2 yX2_isAheadOf yX2_isAheadOf ∈ xBW := xbw 736 (by decide +kernel) (by decide +kernel)
theorem xw737 : Cond.code yX2_isAheadOf cX2_isAheadOf 2 (some .boolean) ∈ xBW := xbw 737 (by decide +kernel) (by decide +kernel)
theorem xw730 : Cond.methodLink RX7 339 yJx4a65c_isEmpty_aae02 ∈ xBW := xbw 730 (by decide +kernel) (by decide +kernel)
theorem xw731 : Cond.instanceMethod yJx4a65c_isEmpty_aae02 ∈ xBW := xbw 731 (by decide +kernel) (by decide +kernel)
theorem xw732 : Cond.selects RJx4a65c yJx4a65c_isEmpty_aae02 yJx4a65c_isEmpty_aae02 ∈ xBW := xbw 732 (by decide +kernel) (by decide +kernel)
theorem xw733 : Cond.code yJx4a65c_isEmpty_aae02 cJx4a65c_isEmpty_aae02 1 (some .boolean) ∈ xBW := xbw 733 (by decide +kernel) (by decide +kernel)
theorem xw470 : Cond.fieldLink RX2 13 "RentStream$HeatShare" "weight" "I" ∈ xBW := xbw 470 (by decide +kernel) (by decide +kernel)
theorem xw726 : Cond.methodLink RX7 336 yX7_giveOneMore ∈ xBW := xbw 726 (by decide +kernel) (by decide +kernel)
theorem xw728 : Cond.instanceMethod yX7_giveOneMore ∈ xBW := xbw 728 (by decide +kernel) (by decide +kernel)
theorem xw23 : Cond.selects RX7 yX7_giveOneMore yX7_giveOneMore ∈ xBW := xbw 23 (by decide +kernel) (by decide +kernel)
theorem xw729 : Cond.code yX7_giveOneMore cX7_giveOneMore 4 none ∈ xBW := xbw 729 (by decide +kernel) (by decide +kernel)
theorem xw722 : Cond.methodLink RX7 332 yX2_takeWhole ∈ xBW := xbw 722 (by decide +kernel) (by decide +kernel)
theorem xw723 : Cond.instanceMethod yX2_takeWhole ∈ xBW := xbw 723 (by decide +kernel) (by decide +kernel)
theorem xw724 : Cond.selects RX2 yX2_takeWhole yX2_takeWhole ∈ xBW := xbw 724 (by decide +kernel) (by decide +kernel)
theorem xw725 : Cond.code yX2_takeWhole cX2_takeWhole 7 (some .int) ∈ xBW := xbw 725 (by decide +kernel) (by decide +kernel)
theorem xw471 : Cond.fieldLink RX7 323 "RentStream$HeatShare" "weight" "I" ∈ xBW := xbw 471 (by decide +kernel) (by decide +kernel)
theorem xw713 : Cond.methodLink RX3 64 yX3_runsIn ∈ xBW := xbw 713 (by decide +kernel) (by decide +kernel)
theorem xw482 : Cond.fieldLink RX3 54 "RentStream$Lease" "home" "LRentStream$Flat;" ∈ xBW := xbw 482 (by decide +kernel) (by decide +kernel)
theorem xw300 : Cond.fieldLink RX3 68 "RentStream$Flat" "uses" "LRentStream$Months;" ∈ xBW := xbw 300 (by decide +kernel) (by decide +kernel)
theorem xw709 : Cond.methodLink RX7 329 yX3_useIn ∈ xBW := xbw 709 (by decide +kernel) (by decide +kernel)
theorem xw710 : Cond.instanceMethod yX3_useIn ∈ xBW := xbw 710 (by decide +kernel) (by decide +kernel)
theorem xw711 : Cond.selects RX3 yX3_useIn yX3_useIn ∈ xBW := xbw 711 (by decide +kernel) (by decide +kernel)
theorem xw712 : Cond.code yX3_useIn cX3_useIn 2 (some .int) ∈ xBW := xbw 712 (by decide +kernel) (by decide +kernel)
theorem xw718 : Cond.methodLink RX7 326 yX7_shareByWeights ∈ xBW := xbw 718 (by decide +kernel) (by decide +kernel)
theorem xw720 : Cond.instanceMethod yX7_shareByWeights ∈ xBW := xbw 720 (by decide +kernel) (by decide +kernel)
theorem xw22 : Cond.selects RX7 yX7_shareByWeights yX7_shareByWeights ∈ xBW := xbw 22 (by decide +kernel) (by decide +kernel)
theorem xw721 : Cond.code yX7_shareByWeights cX7_shareByWeights 6 none ∈ xBW := xbw 721 (by decide +kernel) (by decide +kernel)
theorem xw298 : Cond.fieldLink RX7 320 "RentStream$Flat" "rooms" "I" ∈ xBW := xbw 298 (by decide +kernel) (by decide +kernel)
theorem xw705 : Cond.methodLink RX7 307 yX7_usesOfAll ∈ xBW := xbw 705 (by decide +kernel) (by decide +kernel)
theorem xw707 : Cond.instanceMethod yX7_usesOfAll ∈ xBW := xbw 707 (by decide +kernel) (by decide +kernel)
theorem xw21 : Cond.selects RX7 yX7_usesOfAll yX7_usesOfAll ∈ xBW := xbw 21 (by decide +kernel) (by decide +kernel)
theorem xw708 : Cond.code yX7_usesOfAll cX7_usesOfAll 5 (some .long) ∈ xBW := xbw 708 (by decide +kernel) (by decide +kernel)
theorem xw299 : Cond.fieldLink RX1 14 "RentStream$Flat" "uses" "LRentStream$Months;" ∈ xBW := xbw 299 (by decide +kernel) (by decide +kernel)
theorem xw699 : Cond.methodLink RX1 50 yX4_in ∈ xBW := xbw 699 (by decide +kernel) (by decide +kernel)
theorem xw308 : Cond.fieldLink RX1 30 "RentStream$Flat" "lastReadIn" "I" ∈ xBW := xbw 308 (by decide +kernel) (by decide +kernel)
theorem xw695 : Cond.methodLink RX1 42 yX1_guessedUse ∈ xBW := xbw 695 (by decide +kernel) (by decide +kernel)
theorem xw697 : Cond.instanceMethod yX1_guessedUse ∈ xBW := xbw 697 (by decide +kernel) (by decide +kernel)
theorem xw19 : Cond.selects RX1 yX1_guessedUse yX1_guessedUse ∈ xBW := xbw 19 (by decide +kernel) (by decide +kernel)
theorem xw44 : Cond.initialized RX1 ∈ xBW := xbw 44 (by decide +kernel) (by decide +kernel)
theorem xw698 : Cond.code yX1_guessedUse cX1_guessedUse 6 (some .int) ∈ xBW := xbw 698 (by decide +kernel) (by decide +kernel)
theorem xw700 : Cond.methodLink RX1 46 yX4_put ∈ xBW := xbw 700 (by decide +kernel) (by decide +kernel)
theorem xw307 : Cond.fieldLink RX1 27 "RentStream$Flat" "counted" "I" ∈ xBW := xbw 307 (by decide +kernel) (by decide +kernel)
theorem xw305 : Cond.fieldLink RX1 23 "RentStream$Flat" "shown" "I" ∈ xBW := xbw 305 (by decide +kernel) (by decide +kernel)
theorem xw694 : Cond.methodLink RX1 36 Lib.Math.max.name ∈ xBW := xbw 694 (by decide +kernel) (by decide +kernel)
theorem xw448 : Cond.fieldLink RX5 9 "RentStream$Plan" "state" "I" ∈ xBW := xbw 448 (by decide +kernel) (by decide +kernel)
theorem xw452 : Cond.fieldLink RX5 22 "RentStream$Plan" "monthsEnded" "I" ∈ xBW := xbw 452 (by decide +kernel) (by decide +kernel)
theorem xw450 : Cond.fieldLink RX5 15 "RentStream$Plan" "owedAtFirst" "J" ∈ xBW := xbw 450 (by decide +kernel) (by decide +kernel)
theorem xw451 : Cond.fieldLink RX5 19 "RentStream$Plan" "part" "J" ∈ xBW := xbw 451 (by decide +kernel) (by decide +kernel)
theorem xw746 : Cond.methodLink RX5 25 Lib.MathLoose.max_long.x ∈ xBW := xbw 746 (by decide +kernel) (by decide +kernel)
theorem xw747 : Cond.static Lib.MathLoose.max_long.x ∈ xBW := xbw 747 (by decide +kernel) (by decide +kernel)
theorem xw748 : Cond.code Lib.MathLoose.max_long.x Lib.MathLoose.max_long.code 4 (some .long) ∈ xBW := xbw 748 (by decide +kernel) (by decide +kernel)
theorem xw489 : Cond.fieldLink RX7 187 "RentStream$Lease" "plan" "LRentStream$Plan;" ∈ xBW := xbw 489 (by decide +kernel) (by decide +kernel)
theorem xw742 : Cond.methodLink RX7 281 yX5_endMonth ∈ xBW := xbw 742 (by decide +kernel) (by decide +kernel)
theorem xw743 : Cond.instanceMethod yX5_endMonth ∈ xBW := xbw 743 (by decide +kernel) (by decide +kernel)
theorem xw744 : Cond.selects RX5 yX5_endMonth yX5_endMonth ∈ xBW := xbw 744 (by decide +kernel) (by decide +kernel)
theorem xw53 : Cond.initialized RX5 ∈ xBW := xbw 53 (by decide +kernel) (by decide +kernel)
theorem xw745 : Cond.code yX5_endMonth cX5_endMonth 5 none ∈ xBW := xbw 745 (by decide +kernel) (by decide +kernel)
theorem xw749 : Cond.methodLink RX7 284 yX7_makeBill ∈ xBW := xbw 749 (by decide +kernel) (by decide +kernel)
theorem xw751 : Cond.instanceMethod yX7_makeBill ∈ xBW := xbw 751 (by decide +kernel) (by decide +kernel)
theorem xw24 : Cond.selects RX7 yX7_makeBill yX7_makeBill ∈ xBW := xbw 24 (by decide +kernel) (by decide +kernel)
theorem xw752 : Cond.code yX7_makeBill cX7_makeBill 4 none ∈ xBW := xbw 752 (by decide +kernel) (by decide +kernel)
theorem xw701 : Cond.methodLink RX7 213 yX7_shareHeat ∈ xBW := xbw 701 (by decide +kernel) (by decide +kernel)
theorem xw703 : Cond.instanceMethod yX7_shareHeat ∈ xBW := xbw 703 (by decide +kernel) (by decide +kernel)
theorem xw20 : Cond.selects RX7 yX7_shareHeat yX7_shareHeat ∈ xBW := xbw 20 (by decide +kernel) (by decide +kernel)
theorem xw704 : Cond.code yX7_shareHeat cX7_shareHeat 6 none ∈ xBW := xbw 704 (by decide +kernel) (by decide +kernel)
theorem xw289 : Cond.classLink RX7 75 "RentStream$Flat" ∈ xBW := xbw 289 (by decide +kernel) (by decide +kernel)
theorem xw690 : Cond.methodLink RX7 278 yX1_findUse ∈ xBW := xbw 690 (by decide +kernel) (by decide +kernel)
theorem xw691 : Cond.instanceMethod yX1_findUse ∈ xBW := xbw 691 (by decide +kernel) (by decide +kernel)
theorem xw692 : Cond.selects RX1 yX1_findUse yX1_findUse ∈ xBW := xbw 692 (by decide +kernel) (by decide +kernel)
theorem xw693 : Cond.code yX1_findUse cX1_findUse 3 none ∈ xBW := xbw 693 (by decide +kernel) (by decide +kernel)
theorem xw594 : Cond.fieldLink RX6 23 "RentStream$Repair" "grade" "I" ∈ xBW := xbw 594 (by decide +kernel) (by decide +kernel)
theorem xw589 : Cond.fieldLink RX6 9 "RentStream$Repair" "isMended" "Z" ∈ xBW := xbw 589 (by decide +kernel) (by decide +kernel)
theorem xw595 : Cond.fieldLink RX6 26 "RentStream$Repair" "reportedOn" "I" ∈ xBW := xbw 595 (by decide +kernel) (by decide +kernel)
theorem xw676 : Cond.methodLink RX6 29 yX6_clock ∈ xBW := xbw 676 (by decide +kernel) (by decide +kernel)
theorem xw678 : Cond.instanceMethod yX6_clock ∈ xBW := xbw 678 (by decide +kernel) (by decide +kernel)
theorem xw16 : Cond.selects RX6 yX6_clock yX6_clock ∈ xBW := xbw 16 (by decide +kernel) (by decide +kernel)
theorem xw55 : Cond.initialized RX6 ∈ xBW := xbw 55 (by decide +kernel) (by decide +kernel)
theorem xw679 : Cond.code yX6_clock cX6_clock 1 (some .int) ∈ xBW := xbw 679 (by decide +kernel) (by decide +kernel)
theorem xw593 : Cond.fieldLink RX6 19 "RentStream$Repair" "home" "LRentStream$Flat;" ∈ xBW := xbw 593 (by decide +kernel) (by decide +kernel)
theorem xw303 : Cond.fieldLink RX6 33 "RentStream$Flat" "pointsOff" "LRentStream$Months;" ∈ xBW := xbw 303 (by decide +kernel) (by decide +kernel)
theorem xw680 : Cond.methodLink RX6 39 yX4_in ∈ xBW := xbw 680 (by decide +kernel) (by decide +kernel)
theorem xw681 : Cond.methodLink RX6 45 yX6_pointsADay ∈ xBW := xbw 681 (by decide +kernel) (by decide +kernel)
theorem xw683 : Cond.instanceMethod yX6_pointsADay ∈ xBW := xbw 683 (by decide +kernel) (by decide +kernel)
theorem xw17 : Cond.selects RX6 yX6_pointsADay yX6_pointsADay ∈ xBW := xbw 17 (by decide +kernel) (by decide +kernel)
theorem xw684 : Cond.code yX6_pointsADay cX6_pointsADay 1 (some .int) ∈ xBW := xbw 684 (by decide +kernel) (by decide +kernel)
theorem xw685 : Cond.methodLink RX6 48 yX4_put ∈ xBW := xbw 685 (by decide +kernel) (by decide +kernel)
theorem xw591 : Cond.fieldLink RX6 15 "RentStream$Repair" "daysTaken" "I" ∈ xBW := xbw 591 (by decide +kernel) (by decide +kernel)
theorem xw686 : Cond.methodLink RX7 272 yX7_endMonth ∈ xBW := xbw 686 (by decide +kernel) (by decide +kernel)
theorem xw688 : Cond.instanceMethod yX7_endMonth ∈ xBW := xbw 688 (by decide +kernel) (by decide +kernel)
theorem xw18 : Cond.selects RX7 yX7_endMonth yX7_endMonth ∈ xBW := xbw 18 (by decide +kernel) (by decide +kernel)
theorem xw689 : Cond.code yX7_endMonth cX7_endMonth 4 none ∈ xBW := xbw 689 (by decide +kernel) (by decide +kernel)
theorem xw778 : Cond.methodLink RX7 275 yX7_beginMonth ∈ xBW := xbw 778 (by decide +kernel) (by decide +kernel)
theorem xw780 : Cond.instanceMethod yX7_beginMonth ∈ xBW := xbw 780 (by decide +kernel) (by decide +kernel)
theorem xw26 : Cond.selects RX7 yX7_beginMonth yX7_beginMonth ∈ xBW := xbw 26 (by decide +kernel) (by decide +kernel)
theorem xw781 : Cond.code yX7_beginMonth cX7_beginMonth 4 none ∈ xBW := xbw 781 (by decide +kernel) (by decide +kernel)
theorem xw583 : Cond.classLink RX7 141 "RentStream$Repair" ∈ xBW := xbw 583 (by decide +kernel) (by decide +kernel)
theorem xw672 : Cond.methodLink RX7 269 yX6_takePoints ∈ xBW := xbw 672 (by decide +kernel) (by decide +kernel)
theorem xw673 : Cond.instanceMethod yX6_takePoints ∈ xBW := xbw 673 (by decide +kernel) (by decide +kernel)
theorem xw674 : Cond.selects RX6 yX6_takePoints yX6_takePoints ∈ xBW := xbw 674 (by decide +kernel) (by decide +kernel)
theorem xw675 : Cond.code yX6_takePoints cX6_takePoints 3 none ∈ xBW := xbw 675 (by decide +kernel) (by decide +kernel)
theorem xw294 : Cond.methodLink RX1 3 objectInit ∈ xBW := xbw 294 (by decide +kernel) (by decide +kernel)
theorem xw295 : Cond.classLink RX1 9 "RentStream$Months" ∈ xBW := xbw 295 (by decide +kernel) (by decide +kernel)
theorem xw296 : Cond.methodLink RX1 11 yX4_init ∈ xBW := xbw 296 (by decide +kernel) (by decide +kernel)
theorem xw302 : Cond.fieldLink RX1 20 "RentStream$Flat" "pointsOff" "LRentStream$Months;" ∈ xBW := xbw 302 (by decide +kernel) (by decide +kernel)
theorem xw297 : Cond.fieldLink RX1 33 "RentStream$Flat" "rooms" "I" ∈ xBW := xbw 297 (by decide +kernel) (by decide +kernel)
theorem xw374 : Cond.classLink RJ7 110 "[Ljava/lang/Object;" ∈ xBW := xbw 374 (by decide +kernel) (by decide +kernel)
theorem xw376 : Cond.classLink RJ7 2 "java/lang/Object" ∈ xBW := xbw 376 (by decide +kernel) (by decide +kernel)
theorem xw377 : Cond.methodLink RJ7 304 Lib.Math.min.name ∈ xBW := xbw 377 (by decide +kernel) (by decide +kernel)
theorem xw380 : Cond.methodLink RJ7 150 arraycopyName ∈ xBW := xbw 380 (by decide +kernel) (by decide +kernel)
theorem xw382 : Cond.native arraycopyName ∈ xBW := xbw 382 (by decide +kernel) (by decide +kernel)
theorem xw381 : Cond.static arraycopyName ∈ xBW := xbw 381 (by decide +kernel) (by decide +kernel)
theorem xw48 : Cond.initialized "java/lang/System" ∈ xBW := xbw 48 (by decide +kernel) (by decide +kernel)
theorem xw351 : Cond.methodLink RJ7 86 xGetC ∈ xBW := xbw 351 (by decide +kernel) (by decide +kernel)
theorem xw1194 : Cond.selects "[Ljava/lang/Object;" xGetC xGetC ∈ xBW := xbw 1194 (by decide +kernel) (by decide +kernel)
theorem xw352 : Cond.instanceMethod xGetC ∈ xBW := xbw 352 (by decide +kernel) (by decide +kernel)
theorem xw370 : Cond.native xGetC ∈ xBW := xbw 370 (by decide +kernel) (by decide +kernel)
theorem xw371 : Cond.methodLink RJ7 300 yJ7_copyOf_6403c ∈ xBW := xbw 371 (by decide +kernel) (by decide +kernel)
theorem xw372 : Cond.static yJ7_copyOf_6403c ∈ xBW := xbw 372 (by decide +kernel) (by decide +kernel)
theorem xw47 : Cond.initialized RJ7 ∈ xBW := xbw 47 (by decide +kernel) (by decide +kernel)
theorem xw373 : Cond.code yJ7_copyOf_6403c cJ7_copyOf_6403c 4 (some (.array (.object "java/lang/Object"))) ∈ xBW := xbw 373 (by decide +kernel) (by decide +kernel)
theorem xw341 : Cond.methodLink RJ8 194 Lib.Math.max.name ∈ xBW := xbw 341 (by decide +kernel) (by decide +kernel)
theorem xw344 : Cond.constant RJ8 200 (2147483639 : Int32) ∈ xBW := xbw 344 (by decide +kernel) (by decide +kernel)
theorem xw338 : Cond.methodLink RJx4a65c 73 yJ8_newLength_cabcc ∈ xBW := xbw 338 (by decide +kernel) (by decide +kernel)
theorem xw339 : Cond.static yJ8_newLength_cabcc ∈ xBW := xbw 339 (by decide +kernel) (by decide +kernel)
theorem xw45 : Cond.initialized RJ8 ∈ xBW := xbw 45 (by decide +kernel) (by decide +kernel)
theorem xw340 : Cond.code yJ8_newLength_cabcc cJ8_newLength_cabcc 4 (some .int) ∈ xBW := xbw 340 (by decide +kernel) (by decide +kernel)
theorem xw348 : Cond.methodLink RJx4a65c 66 yJ7_copyOf_1904c ∈ xBW := xbw 348 (by decide +kernel) (by decide +kernel)
theorem xw349 : Cond.static yJ7_copyOf_1904c ∈ xBW := xbw 349 (by decide +kernel) (by decide +kernel)
theorem xw350 : Cond.code yJ7_copyOf_1904c cJ7_copyOf_1904c 2 (some (.array (.object "java/lang/Object"))) ∈ xBW := xbw 350 (by decide +kernel) (by decide +kernel)
theorem xw383 : Cond.methodLink RJx4a65c 79 Lib.Math.max.name ∈ xBW := xbw 383 (by decide +kernel) (by decide +kernel)
theorem xw384 : Cond.classLink RJx4a65c 7 "java/lang/Object" ∈ xBW := xbw 384 (by decide +kernel) (by decide +kernel)
theorem xw334 : Cond.methodLink RJx4a65c 69 yJx4a65c_grow_92f84 ∈ xBW := xbw 334 (by decide +kernel) (by decide +kernel)
theorem xw336 : Cond.instanceMethod yJx4a65c_grow_92f84 ∈ xBW := xbw 336 (by decide +kernel) (by decide +kernel)
theorem xw7 : Cond.selects RJx4a65c yJx4a65c_grow_92f84 yJx4a65c_grow_92f84 ∈ xBW := xbw 7 (by decide +kernel) (by decide +kernel)
theorem xw337 : Cond.code yJx4a65c_grow_92f84 cJx4a65c_grow_92f84 4 (some (.array (.object "java/lang/Object"))) ∈ xBW := xbw 337 (by decide +kernel) (by decide +kernel)
theorem xw330 : Cond.methodLink RJx4a65c 129 yJx4a65c_grow_d5877 ∈ xBW := xbw 330 (by decide +kernel) (by decide +kernel)
theorem xw332 : Cond.instanceMethod yJx4a65c_grow_d5877 ∈ xBW := xbw 332 (by decide +kernel) (by decide +kernel)
theorem xw6 : Cond.selects RJx4a65c yJx4a65c_grow_d5877 yJx4a65c_grow_d5877 ∈ xBW := xbw 6 (by decide +kernel) (by decide +kernel)
theorem xw333 : Cond.code yJx4a65c_grow_d5877 cJx4a65c_grow_d5877 1 (some (.array (.object "java/lang/Object"))) ∈ xBW := xbw 333 (by decide +kernel) (by decide +kernel)
theorem xw86 : Cond.fieldLink RJx4a65c 63 "java/util/ArrayList" "modCount" "I" ∈ xBW := xbw 86 (by decide +kernel) (by decide +kernel)
theorem xw87 : Cond.sameField "java/util/ArrayList" "java/util/AbstractList" "modCount" "I" ∈ xBW := xbw 87 (by decide +kernel) (by decide +kernel)
theorem xw326 : Cond.methodLink RJx4a65c 131 yJx4a65c_add_72be8 ∈ xBW := xbw 326 (by decide +kernel) (by decide +kernel)
theorem xw328 : Cond.instanceMethod yJx4a65c_add_72be8 ∈ xBW := xbw 328 (by decide +kernel) (by decide +kernel)
theorem xw5 : Cond.selects RJx4a65c yJx4a65c_add_72be8 yJx4a65c_add_72be8 ∈ xBW := xbw 5 (by decide +kernel) (by decide +kernel)
theorem xw329 : Cond.code yJx4a65c_add_72be8 cJx4a65c_add_72be8 4 none ∈ xBW := xbw 329 (by decide +kernel) (by decide +kernel)
theorem xw290 : Cond.instantiable RX1 6 ∈ xBW := xbw 290 (by decide +kernel) (by decide +kernel)
theorem xw291 : Cond.methodLink RX7 77 yX1_init ∈ xBW := xbw 291 (by decide +kernel) (by decide +kernel)
theorem xw292 : Cond.instanceMethod yX1_init ∈ xBW := xbw 292 (by decide +kernel) (by decide +kernel)
theorem xw293 : Cond.code yX1_init cX1_init 2 none ∈ xBW := xbw 293 (by decide +kernel) (by decide +kernel)
theorem xw322 : Cond.methodLink RX7 78 yJx4a65c_add_9ea2d ∈ xBW := xbw 322 (by decide +kernel) (by decide +kernel)
theorem xw323 : Cond.instanceMethod yJx4a65c_add_9ea2d ∈ xBW := xbw 323 (by decide +kernel) (by decide +kernel)
theorem xw324 : Cond.selects RJx4a65c yJx4a65c_add_9ea2d yJx4a65c_add_9ea2d ∈ xBW := xbw 324 (by decide +kernel) (by decide +kernel)
theorem xw325 : Cond.code yJx4a65c_add_9ea2d cJx4a65c_add_9ea2d 2 (some .boolean) ∈ xBW := xbw 325 (by decide +kernel) (by decide +kernel)
theorem xw560 : Cond.constant RX7 121 (1000000 : Int32) ∈ xBW := xbw 560 (by decide +kernel) (by decide +kernel)
theorem xw571 : Cond.constant RX7 130 (10000000 : Int32) ∈ xBW := xbw 571 (by decide +kernel) (by decide +kernel)
theorem xw626 : Cond.methodLink RX3 77 yX3_billOf ∈ xBW := xbw 626 (by decide +kernel) (by decide +kernel)
theorem xw146 : Cond.fieldLink RX3 81 "RentStream$Bill" "rent" "I" ∈ xBW := xbw 146 (by decide +kernel) (by decide +kernel)
theorem xw149 : Cond.fieldLink RX3 82 "RentStream$Bill" "lowered" "I" ∈ xBW := xbw 149 (by decide +kernel) (by decide +kernel)
theorem xw630 : Cond.methodLink RX3 85 yX3_incomeIn ∈ xBW := xbw 630 (by decide +kernel) (by decide +kernel)
theorem xw152 : Cond.fieldLink RX3 92 "RentStream$Bill" "benefit" "I" ∈ xBW := xbw 152 (by decide +kernel) (by decide +kernel)
theorem xw487 : Cond.fieldLink RX7 165 "RentStream$Lease" "told" "LRentStream$Months;" ∈ xBW := xbw 487 (by decide +kernel) (by decide +kernel)
theorem xw622 : Cond.methodLink RX7 168 yX3_benefitsAnew ∈ xBW := xbw 622 (by decide +kernel) (by decide +kernel)
theorem xw623 : Cond.instanceMethod yX3_benefitsAnew ∈ xBW := xbw 623 (by decide +kernel) (by decide +kernel)
theorem xw624 : Cond.selects RX3 yX3_benefitsAnew yX3_benefitsAnew ∈ xBW := xbw 624 (by decide +kernel) (by decide +kernel)
theorem xw625 : Cond.code yX3_benefitsAnew cX3_benefitsAnew 8 (some .long) ∈ xBW := xbw 625 (by decide +kernel) (by decide +kernel)
theorem xw467 : Cond.methodLink RX2 1 objectInit ∈ xBW := xbw 467 (by decide +kernel) (by decide +kernel)
theorem xw447 : Cond.methodLink RX5 3 objectInit ∈ xBW := xbw 447 (by decide +kernel) (by decide +kernel)
theorem xw439 : Cond.methodLink RX3 3 objectInit ∈ xBW := xbw 439 (by decide +kernel) (by decide +kernel)
theorem xw440 : Cond.classLink RX3 15 "RentStream$Months" ∈ xBW := xbw 440 (by decide +kernel) (by decide +kernel)
theorem xw441 : Cond.methodLink RX3 17 yX4_init ∈ xBW := xbw 441 (by decide +kernel) (by decide +kernel)
theorem xw442 : Cond.classLink RX3 24 "RentStream$Plan" ∈ xBW := xbw 442 (by decide +kernel) (by decide +kernel)
theorem xw443 : Cond.instantiable RX5 4 ∈ xBW := xbw 443 (by decide +kernel) (by decide +kernel)
theorem xw445 : Cond.instanceMethod yX5_init ∈ xBW := xbw 445 (by decide +kernel) (by decide +kernel)
theorem xw446 : Cond.code yX5_init cX5_init 1 none ∈ xBW := xbw 446 (by decide +kernel) (by decide +kernel)
theorem xw488 : Cond.fieldLink RX3 27 "RentStream$Lease" "plan" "LRentStream$Plan;" ∈ xBW := xbw 488 (by decide +kernel) (by decide +kernel)
theorem xw462 : Cond.classLink RX3 31 "RentStream$HeatShare" ∈ xBW := xbw 462 (by decide +kernel) (by decide +kernel)
theorem xw463 : Cond.instantiable RX2 3 ∈ xBW := xbw 463 (by decide +kernel) (by decide +kernel)
theorem xw465 : Cond.instanceMethod yX2_init ∈ xBW := xbw 465 (by decide +kernel) (by decide +kernel)
theorem xw466 : Cond.code yX2_init cX2_init 1 none ∈ xBW := xbw 466 (by decide +kernel) (by decide +kernel)
theorem xw490 : Cond.fieldLink RX3 34 "RentStream$Lease" "heatShare" "LRentStream$HeatShare;" ∈ xBW := xbw 490 (by decide +kernel) (by decide +kernel)
theorem xw492 : Cond.fieldLink RX3 38 "RentStream$Lease" "tenantAccount" "J" ∈ xBW := xbw 492 (by decide +kernel) (by decide +kernel)
theorem xw494 : Cond.fieldLink RX3 42 "RentStream$Lease" "deskAccount" "J" ∈ xBW := xbw 494 (by decide +kernel) (by decide +kernel)
theorem xw496 : Cond.fieldLink RX3 45 "RentStream$Lease" "paid" "J" ∈ xBW := xbw 496 (by decide +kernel) (by decide +kernel)
theorem xw480 : Cond.classLink RX3 48 "RentStream$Bill" ∈ xBW := xbw 480 (by decide +kernel) (by decide +kernel)
theorem xw389 : Cond.methodLink RX7 82 yX7_flatAt ∈ xBW := xbw 389 (by decide +kernel) (by decide +kernel)
theorem xw391 : Cond.instanceMethod yX7_flatAt ∈ xBW := xbw 391 (by decide +kernel) (by decide +kernel)
theorem xw8 : Cond.selects RX7 yX7_flatAt yX7_flatAt ∈ xBW := xbw 8 (by decide +kernel) (by decide +kernel)
theorem xw392 : Cond.code yX7_flatAt cX7_flatAt 2 (some (.object "RentStream$Flat")) ∈ xBW := xbw 392 (by decide +kernel) (by decide +kernel)
theorem xw423 : Cond.constant RX7 86 (500000 : Int32) ∈ xBW := xbw 423 (by decide +kernel) (by decide +kernel)
theorem xw425 : Cond.methodLink RX7 89 yX7_isLetOn ∈ xBW := xbw 425 (by decide +kernel) (by decide +kernel)
theorem xw427 : Cond.instanceMethod yX7_isLetOn ∈ xBW := xbw 427 (by decide +kernel) (by decide +kernel)
theorem xw9 : Cond.selects RX7 yX7_isLetOn yX7_isLetOn ∈ xBW := xbw 9 (by decide +kernel) (by decide +kernel)
theorem xw428 : Cond.code yX7_isLetOn cX7_isLetOn 4 (some .boolean) ∈ xBW := xbw 428 (by decide +kernel) (by decide +kernel)
theorem xw431 : Cond.instantiable RX3 11 ∈ xBW := xbw 431 (by decide +kernel) (by decide +kernel)
theorem xw436 : Cond.methodLink RX7 100 yX3_init ∈ xBW := xbw 436 (by decide +kernel) (by decide +kernel)
theorem xw437 : Cond.instanceMethod yX3_init ∈ xBW := xbw 437 (by decide +kernel) (by decide +kernel)
theorem xw438 : Cond.code yX3_init cX3_init 4 none ∈ xBW := xbw 438 (by decide +kernel) (by decide +kernel)
theorem xw848 : Cond.methodLink RJ5 114 yJ8_newLength_cabcc ∈ xBW := xbw 848 (by decide +kernel) (by decide +kernel)
theorem xw849 : Cond.constant RJ5 39 (2147483647 : Int32) ∈ xBW := xbw 849 (by decide +kernel) (by decide +kernel)
theorem xw844 : Cond.methodLink RJ5 104 yJ5_newCapacity_0f7a4 ∈ xBW := xbw 844 (by decide +kernel) (by decide +kernel)
theorem xw846 : Cond.instanceMethod yJ5_newCapacity_0f7a4 ∈ xBW := xbw 846 (by decide +kernel) (by decide +kernel)
theorem xw1 : Cond.selects RJ4 yJ5_newCapacity_0f7a4 yJ5_newCapacity_0f7a4 ∈ xBW := xbw 1 (by decide +kernel) (by decide +kernel)
theorem xw847 : Cond.code yJ5_newCapacity_0f7a4 cJ5_newCapacity_0f7a4 6 (some .int) ∈ xBW := xbw 847 (by decide +kernel) (by decide +kernel)
theorem xw850 : Cond.methodLink RJ5 108 yJ7_copyOf_9075b ∈ xBW := xbw 850 (by decide +kernel) (by decide +kernel)
theorem xw851 : Cond.static yJ7_copyOf_9075b ∈ xBW := xbw 851 (by decide +kernel) (by decide +kernel)
theorem xw852 : Cond.code yJ7_copyOf_9075b cJ7_copyOf_9075b 3 (some (.array .byte)) ∈ xBW := xbw 852 (by decide +kernel) (by decide +kernel)
theorem xw860 : Cond.methodLink RJ5 83 yJ5_isLatin1_aae02 ∈ xBW := xbw 860 (by decide +kernel) (by decide +kernel)
theorem xw861 : Cond.instanceMethod yJ5_isLatin1_aae02 ∈ xBW := xbw 861 (by decide +kernel) (by decide +kernel)
theorem xw863 : Cond.selects RJ4 yJ5_isLatin1_aae02 yJ5_isLatin1_aae02 ∈ xBW := xbw 863 (by decide +kernel) (by decide +kernel)
theorem xw864 : Cond.code yJ5_isLatin1_aae02 cJ5_isLatin1_aae02 1 (some .boolean) ∈ xBW := xbw 864 (by decide +kernel) (by decide +kernel)
theorem xw128 : Cond.fieldLink RJ5 79 "java/lang/AbstractStringBuilder" "count" "I" ∈ xBW := xbw 128 (by decide +kernel) (by decide +kernel)
theorem xw840 : Cond.methodLink RJ5 100 yJ5_ensureCapacityInternal_d00df ∈ xBW := xbw 840 (by decide +kernel) (by decide +kernel)
theorem xw842 : Cond.instanceMethod yJ5_ensureCapacityInternal_d00df ∈ xBW := xbw 842 (by decide +kernel) (by decide +kernel)
theorem xw0 : Cond.selects RJ4 yJ5_ensureCapacityInternal_d00df yJ5_ensureCapacityInternal_d00df ∈ xBW := xbw 0 (by decide +kernel) (by decide +kernel)
theorem xw843 : Cond.code yJ5_ensureCapacityInternal_d00df cJ5_ensureCapacityInternal_d00df 3 none ∈ xBW := xbw 843 (by decide +kernel) (by decide +kernel)
theorem xw1084 : Cond.methodLink RJ5 191 yJ1_canEncode_fc78d ∈ xBW := xbw 1084 (by decide +kernel) (by decide +kernel)
theorem xw1085 : Cond.static yJ1_canEncode_fc78d ∈ xBW := xbw 1085 (by decide +kernel) (by decide +kernel)
theorem xw57 : Cond.initialized RJ1 ∈ xBW := xbw 57 (by decide +kernel) (by decide +kernel)
theorem xw1086 : Cond.code yJ1_canEncode_fc78d cJ1_canEncode_fc78d 1 (some .boolean) ∈ xBW := xbw 1086 (by decide +kernel) (by decide +kernel)
theorem xw1081 : Cond.methodLink RJ4 50 yJ5_append_3fe6f ∈ xBW := xbw 1081 (by decide +kernel) (by decide +kernel)
theorem xw1171 : Cond.sameMethod yJ5_append_3fe6f.cls yJ5_append_3fe6f.cls yJ5_append_3fe6f.name yJ5_append_3fe6f.desc ∈ xBW := xbw 1171 (by decide +kernel) (by decide +kernel)
theorem xw137 : Cond.superclass RJ4 yJ5_append_3fe6f.cls ∈ xBW := xbw 137 (by decide +kernel) (by decide +kernel)
theorem xw1082 : Cond.instanceMethod yJ5_append_3fe6f ∈ xBW := xbw 1082 (by decide +kernel) (by decide +kernel)
theorem xw1083 : Cond.code yJ5_append_3fe6f cJ5_append_3fe6f 2 (some (.object "java/lang/AbstractStringBuilder")) ∈ xBW := xbw 1083 (by decide +kernel) (by decide +kernel)
theorem xw1077 : Cond.methodLink RX7 375 yJ4_append_cf468 ∈ xBW := xbw 1077 (by decide +kernel) (by decide +kernel)
theorem xw1078 : Cond.instanceMethod yJ4_append_cf468 ∈ xBW := xbw 1078 (by decide +kernel) (by decide +kernel)
theorem xw1079 : Cond.selects RJ4 yJ4_append_cf468 yJ4_append_cf468 ∈ xBW := xbw 1079 (by decide +kernel) (by decide +kernel)
theorem xw1080 : Cond.code yJ4_append_cf468 cJ4_append_cf468 2 (some (.object "java/lang/StringBuilder")) ∈ xBW := xbw 1080 (by decide +kernel) (by decide +kernel)
theorem xw947 : Cond.fieldLink RJ6 83 "java/lang/Integer" "DigitOnes" "[B" ∈ xBW := xbw 947 (by decide +kernel) (by decide +kernel)
theorem xw949 : Cond.fieldLink RJ6 87 "java/lang/Integer" "DigitTens" "[B" ∈ xBW := xbw 949 (by decide +kernel) (by decide +kernel)
theorem xw941 : Cond.methodLink RJ5 245 yJ6_stringSize_0f7a4 ∈ xBW := xbw 941 (by decide +kernel) (by decide +kernel)
theorem xw942 : Cond.static yJ6_stringSize_0f7a4 ∈ xBW := xbw 942 (by decide +kernel) (by decide +kernel)
theorem xw59 : Cond.initialized RJ6 ∈ xBW := xbw 59 (by decide +kernel) (by decide +kernel)
theorem xw943 : Cond.code yJ6_stringSize_0f7a4 cJ6_stringSize_0f7a4 4 (some .int) ∈ xBW := xbw 943 (by decide +kernel) (by decide +kernel)
theorem xw944 : Cond.methodLink RJ5 248 yJ6_getChars_ba4f3 ∈ xBW := xbw 944 (by decide +kernel) (by decide +kernel)
theorem xw945 : Cond.static yJ6_getChars_ba4f3 ∈ xBW := xbw 945 (by decide +kernel) (by decide +kernel)
theorem xw946 : Cond.code yJ6_getChars_ba4f3 cJ6_getChars_ba4f3 7 (some .int) ∈ xBW := xbw 946 (by decide +kernel) (by decide +kernel)
theorem xw938 : Cond.methodLink RJ4 53 yJ5_append_c97b9 ∈ xBW := xbw 938 (by decide +kernel) (by decide +kernel)
theorem xw1170 : Cond.sameMethod yJ5_append_c97b9.cls yJ5_append_c97b9.cls yJ5_append_c97b9.name yJ5_append_c97b9.desc ∈ xBW := xbw 1170 (by decide +kernel) (by decide +kernel)
theorem xw939 : Cond.instanceMethod yJ5_append_c97b9 ∈ xBW := xbw 939 (by decide +kernel) (by decide +kernel)
theorem xw940 : Cond.code yJ5_append_c97b9 cJ5_append_c97b9 4 (some (.object "java/lang/AbstractStringBuilder")) ∈ xBW := xbw 940 (by decide +kernel) (by decide +kernel)
theorem xw1097 : Cond.methodLink RX7 379 yJ4_append_bf812 ∈ xBW := xbw 1097 (by decide +kernel) (by decide +kernel)
theorem xw935 : Cond.instanceMethod yJ4_append_bf812 ∈ xBW := xbw 935 (by decide +kernel) (by decide +kernel)
theorem xw936 : Cond.selects RJ4 yJ4_append_bf812 yJ4_append_bf812 ∈ xBW := xbw 936 (by decide +kernel) (by decide +kernel)
theorem xw937 : Cond.code yJ4_append_bf812 cJ4_append_bf812 2 (some (.object "java/lang/StringBuilder")) ∈ xBW := xbw 937 (by decide +kernel) (by decide +kernel)
theorem xw1106 : Cond.methodLink RX7 395 yX7_writeDigits ∈ xBW := xbw 1106 (by decide +kernel) (by decide +kernel)
theorem xw1107 : Cond.static yX7_writeDigits ∈ xBW := xbw 1107 (by decide +kernel) (by decide +kernel)
theorem xw1108 : Cond.code yX7_writeDigits cX7_writeDigits 4 none ∈ xBW := xbw 1108 (by decide +kernel) (by decide +kernel)
theorem xw1103 : Cond.methodLink RX7 391 yX7_writeWhole ∈ xBW := xbw 1103 (by decide +kernel) (by decide +kernel)
theorem xw1104 : Cond.static yX7_writeWhole ∈ xBW := xbw 1104 (by decide +kernel) (by decide +kernel)
theorem xw1105 : Cond.code yX7_writeWhole cX7_writeWhole 5 none ∈ xBW := xbw 1105 (by decide +kernel) (by decide +kernel)
theorem xw899 : Cond.fieldLink RJ0 38 "java/lang/String" "COMPACT_STRINGS" "Z" ∈ xBW := xbw 899 (by decide +kernel) (by decide +kernel)
theorem xw1017 : Cond.fieldLink RJ0 15 "java/lang/String" "coder" "B" ∈ xBW := xbw 1017 (by decide +kernel) (by decide +kernel)
theorem xw908 : Cond.methodLink RJ5 40 yJ0_coder_7d493 ∈ xBW := xbw 908 (by decide +kernel) (by decide +kernel)
theorem xw896 : Cond.instanceMethod yJ0_coder_7d493 ∈ xBW := xbw 896 (by decide +kernel) (by decide +kernel)
theorem xw897 : Cond.selects RJ0 yJ0_coder_7d493 yJ0_coder_7d493 ∈ xBW := xbw 897 (by decide +kernel) (by decide +kernel)
theorem xw36 : Cond.initialized RJ0 ∈ xBW := xbw 36 (by decide +kernel) (by decide +kernel)
theorem xw898 : Cond.code yJ0_coder_7d493 cJ0_coder_7d493 1 (some .byte) ∈ xBW := xbw 898 (by decide +kernel) (by decide +kernel)
theorem xw895 : Cond.methodLink RJ0 335 yJ0_coder_7d493 ∈ xBW := xbw 895 (by decide +kernel) (by decide +kernel)
theorem xw1016 : Cond.fieldLink RJ0 9 "java/lang/String" "value" "[B" ∈ xBW := xbw 1016 (by decide +kernel) (by decide +kernel)
theorem xw932 : Cond.methodLink RJ0 212 arraycopyName ∈ xBW := xbw 932 (by decide +kernel) (by decide +kernel)
theorem xw904 : Cond.methodLink RJ5 397 yJ5_inflateIfNeededFor_a7421 ∈ xBW := xbw 904 (by decide +kernel) (by decide +kernel)
theorem xw906 : Cond.instanceMethod yJ5_inflateIfNeededFor_a7421 ∈ xBW := xbw 906 (by decide +kernel) (by decide +kernel)
theorem xw3 : Cond.selects RJ4 yJ5_inflateIfNeededFor_a7421 yJ5_inflateIfNeededFor_a7421 ∈ xBW := xbw 3 (by decide +kernel) (by decide +kernel)
theorem xw907 : Cond.code yJ5_inflateIfNeededFor_a7421 cJ5_inflateIfNeededFor_a7421 2 none ∈ xBW := xbw 907 (by decide +kernel) (by decide +kernel)
theorem xw928 : Cond.methodLink RJ5 399 yJ0_getBytes_840e7 ∈ xBW := xbw 928 (by decide +kernel) (by decide +kernel)
theorem xw929 : Cond.instanceMethod yJ0_getBytes_840e7 ∈ xBW := xbw 929 (by decide +kernel) (by decide +kernel)
theorem xw930 : Cond.selects RJ0 yJ0_getBytes_840e7 yJ0_getBytes_840e7 ∈ xBW := xbw 930 (by decide +kernel) (by decide +kernel)
theorem xw931 : Cond.code yJ0_getBytes_840e7 cJ0_getBytes_840e7 4 none ∈ xBW := xbw 931 (by decide +kernel) (by decide +kernel)
theorem xw891 : Cond.methodLink RJ5 32 yJ0_length_8abf5 ∈ xBW := xbw 891 (by decide +kernel) (by decide +kernel)
theorem xw892 : Cond.instanceMethod yJ0_length_8abf5 ∈ xBW := xbw 892 (by decide +kernel) (by decide +kernel)
theorem xw893 : Cond.selects RJ0 yJ0_length_8abf5 yJ0_length_8abf5 ∈ xBW := xbw 893 (by decide +kernel) (by decide +kernel)
theorem xw894 : Cond.code yJ0_length_8abf5 cJ0_length_8abf5 1 (some .int) ∈ xBW := xbw 894 (by decide +kernel) (by decide +kernel)
theorem xw900 : Cond.methodLink RJ5 208 yJ5_putStringAt_47b60 ∈ xBW := xbw 900 (by decide +kernel) (by decide +kernel)
theorem xw902 : Cond.instanceMethod yJ5_putStringAt_47b60 ∈ xBW := xbw 902 (by decide +kernel) (by decide +kernel)
theorem xw2 : Cond.selects RJ4 yJ5_putStringAt_47b60 yJ5_putStringAt_47b60 ∈ xBW := xbw 2 (by decide +kernel) (by decide +kernel)
theorem xw903 : Cond.code yJ5_putStringAt_47b60 cJ5_putStringAt_47b60 3 none ∈ xBW := xbw 903 (by decide +kernel) (by decide +kernel)
theorem xw833 : Cond.methodLink RJ4 29 yJ5_append_cf1ce ∈ xBW := xbw 833 (by decide +kernel) (by decide +kernel)
theorem xw1163 : Cond.sameMethod yJ5_append_cf1ce.cls yJ5_append_cf1ce.cls yJ5_append_cf1ce.name yJ5_append_cf1ce.desc ∈ xBW := xbw 1163 (by decide +kernel) (by decide +kernel)
theorem xw834 : Cond.instanceMethod yJ5_append_cf1ce ∈ xBW := xbw 834 (by decide +kernel) (by decide +kernel)
theorem xw835 : Cond.code yJ5_append_cf1ce cJ5_append_cf1ce 3 (some (.object "java/lang/AbstractStringBuilder")) ∈ xBW := xbw 835 (by decide +kernel) (by decide +kernel)
theorem xw1099 : Cond.methodLink RX7 384 yJ4_append_15ec4 ∈ xBW := xbw 1099 (by decide +kernel) (by decide +kernel)
theorem xw830 : Cond.instanceMethod yJ4_append_15ec4 ∈ xBW := xbw 830 (by decide +kernel) (by decide +kernel)
theorem xw831 : Cond.selects RJ4 yJ4_append_15ec4 yJ4_append_15ec4 ∈ xBW := xbw 831 (by decide +kernel) (by decide +kernel)
theorem xw832 : Cond.code yJ4_append_15ec4 cJ4_append_15ec4 2 (some (.object "java/lang/StringBuilder")) ∈ xBW := xbw 832 (by decide +kernel) (by decide +kernel)
theorem xw1100 : Cond.methodLink RX7 387 yX7_writeAmount ∈ xBW := xbw 1100 (by decide +kernel) (by decide +kernel)
theorem xw1101 : Cond.static yX7_writeAmount ∈ xBW := xbw 1101 (by decide +kernel) (by decide +kernel)
theorem xw1102 : Cond.code yX7_writeAmount cX7_writeAmount 3 none ∈ xBW := xbw 1102 (by decide +kernel) (by decide +kernel)
theorem xw877 : Cond.fieldLink RJ0 1053 "jdk/internal/util/Preconditions" "SIOOBE_FORMATTER" "Ljava/util/function/BiFunction;" ∈ xBW := xbw 877 (by decide +kernel) (by decide +kernel)
theorem xw1096 : Cond.methodLink RJ0 1059 yJ3_checkIndex_8e157 ∈ xBW := xbw 1096 (by decide +kernel) (by decide +kernel)
theorem xw1117 : Cond.methodLink RJ5 138 Lib.Math.min.name ∈ xBW := xbw 1117 (by decide +kernel) (by decide +kernel)
theorem xw1118 : Cond.methodLink RJ5 144 yJ0_checkIndex_df160 ∈ xBW := xbw 1118 (by decide +kernel) (by decide +kernel)
theorem xw1094 : Cond.static yJ0_checkIndex_df160 ∈ xBW := xbw 1094 (by decide +kernel) (by decide +kernel)
theorem xw1095 : Cond.code yJ0_checkIndex_df160 cJ0_checkIndex_df160 2 none ∈ xBW := xbw 1095 (by decide +kernel) (by decide +kernel)
theorem xw1114 : Cond.methodLink RJ4 329 yJ5_charAt_5068e ∈ xBW := xbw 1114 (by decide +kernel) (by decide +kernel)
theorem xw1173 : Cond.sameMethod yJ5_charAt_5068e.cls yJ5_charAt_5068e.cls yJ5_charAt_5068e.name yJ5_charAt_5068e.desc ∈ xBW := xbw 1173 (by decide +kernel) (by decide +kernel)
theorem xw1115 : Cond.instanceMethod yJ5_charAt_5068e ∈ xBW := xbw 1115 (by decide +kernel) (by decide +kernel)
theorem xw1116 : Cond.code yJ5_charAt_5068e cJ5_charAt_5068e 5 (some .char) ∈ xBW := xbw 1116 (by decide +kernel) (by decide +kernel)
theorem xw983 : Cond.methodLink RJ4 343 yJ5_length_8abf5 ∈ xBW := xbw 983 (by decide +kernel) (by decide +kernel)
theorem xw979 : Cond.sameMethod yJ5_length_8abf5.cls yJ5_length_8abf5.cls yJ5_length_8abf5.name yJ5_length_8abf5.desc ∈ xBW := xbw 979 (by decide +kernel) (by decide +kernel)
theorem xw978 : Cond.instanceMethod yJ5_length_8abf5 ∈ xBW := xbw 978 (by decide +kernel) (by decide +kernel)
theorem xw984 : Cond.code yJ5_length_8abf5 cJ5_length_8abf5 1 (some .int) ∈ xBW := xbw 984 (by decide +kernel) (by decide +kernel)
theorem xw126 : Cond.fieldLink RJ5 73 "java/lang/AbstractStringBuilder" "maybeLatin1" "Z" ∈ xBW := xbw 126 (by decide +kernel) (by decide +kernel)
theorem xw818 : Cond.methodLink RJ4 333 yJ5_setLength_d00df ∈ xBW := xbw 818 (by decide +kernel) (by decide +kernel)
theorem xw1162 : Cond.sameMethod yJ5_setLength_d00df.cls yJ5_setLength_d00df.cls yJ5_setLength_d00df.name yJ5_setLength_d00df.desc ∈ xBW := xbw 1162 (by decide +kernel) (by decide +kernel)
theorem xw819 : Cond.instanceMethod yJ5_setLength_d00df ∈ xBW := xbw 819 (by decide +kernel) (by decide +kernel)
theorem xw820 : Cond.code yJ5_setLength_d00df cJ5_setLength_d00df 2 none ∈ xBW := xbw 820 (by decide +kernel) (by decide +kernel)
theorem xw814 : Cond.methodLink RX7 239 yJ4_setLength_d00df ∈ xBW := xbw 814 (by decide +kernel) (by decide +kernel)
theorem xw815 : Cond.instanceMethod yJ4_setLength_d00df ∈ xBW := xbw 815 (by decide +kernel) (by decide +kernel)
theorem xw816 : Cond.selects RJ4 yJ4_setLength_d00df yJ4_setLength_d00df ∈ xBW := xbw 816 (by decide +kernel) (by decide +kernel)
theorem xw817 : Cond.code yJ4_setLength_d00df cJ4_setLength_d00df 2 none ∈ xBW := xbw 817 (by decide +kernel) (by decide +kernel)
theorem xw1074 : Cond.methodLink RX7 242 yX7_writeLine ∈ xBW := xbw 1074 (by decide +kernel) (by decide +kernel)
theorem xw1075 : Cond.static yX7_writeLine ∈ xBW := xbw 1075 (by decide +kernel) (by decide +kernel)
theorem xw1076 : Cond.code yX7_writeLine cX7_writeLine 4 none ∈ xBW := xbw 1076 (by decide +kernel) (by decide +kernel)
theorem xw1109 : Cond.methodLink RX7 246 yJ4_length_8abf5 ∈ xBW := xbw 1109 (by decide +kernel) (by decide +kernel)
theorem xw981 : Cond.instanceMethod yJ4_length_8abf5 ∈ xBW := xbw 981 (by decide +kernel) (by decide +kernel)
theorem xw1172 : Cond.selects RJ4 yJ4_length_8abf5 yJ4_length_8abf5 ∈ xBW := xbw 1172 (by decide +kernel) (by decide +kernel)
theorem xw982 : Cond.code yJ4_length_8abf5 cJ4_length_8abf5 1 (some .int) ∈ xBW := xbw 982 (by decide +kernel) (by decide +kernel)
theorem xw1110 : Cond.methodLink RX7 249 yJ4_charAt_5068e ∈ xBW := xbw 1110 (by decide +kernel) (by decide +kernel)
theorem xw1111 : Cond.instanceMethod yJ4_charAt_5068e ∈ xBW := xbw 1111 (by decide +kernel) (by decide +kernel)
theorem xw1112 : Cond.selects RJ4 yJ4_charAt_5068e yJ4_charAt_5068e ∈ xBW := xbw 1112 (by decide +kernel) (by decide +kernel)
theorem xw1113 : Cond.code yJ4_charAt_5068e cJ4_charAt_5068e 2 (some .char) ∈ xBW := xbw 1113 (by decide +kernel) (by decide +kernel)
theorem xw590 : Cond.fieldLink RX7 153 "RentStream$Repair" "isMended" "Z" ∈ xBW := xbw 590 (by decide +kernel) (by decide +kernel)
theorem xw592 : Cond.fieldLink RX7 159 "RentStream$Repair" "daysTaken" "I" ∈ xBW := xbw 592 (by decide +kernel) (by decide +kernel)
theorem xw497 : Cond.fieldLink RX7 179 "RentStream$Lease" "paid" "J" ∈ xBW := xbw 497 (by decide +kernel) (by decide +kernel)
theorem xw668 : Cond.methodLink RX7 206 yX7_endDay ∈ xBW := xbw 668 (by decide +kernel) (by decide +kernel)
theorem xw670 : Cond.instanceMethod yX7_endDay ∈ xBW := xbw 670 (by decide +kernel) (by decide +kernel)
theorem xw15 : Cond.selects RX7 yX7_endDay yX7_endDay ∈ xBW := xbw 15 (by decide +kernel) (by decide +kernel)
theorem xw671 : Cond.code yX7_endDay cX7_endDay 3 none ∈ xBW := xbw 671 (by decide +kernel) (by decide +kernel)
theorem xw449 : Cond.fieldLink RX7 191 "RentStream$Plan" "state" "I" ∈ xBW := xbw 449 (by decide +kernel) (by decide +kernel)
theorem xw658 : Cond.methodLink RX7 198 yX5_begin ∈ xBW := xbw 658 (by decide +kernel) (by decide +kernel)
theorem xw659 : Cond.instanceMethod yX5_begin ∈ xBW := xbw 659 (by decide +kernel) (by decide +kernel)
theorem xw660 : Cond.selects RX5 yX5_begin yX5_begin ∈ xBW := xbw 660 (by decide +kernel) (by decide +kernel)
theorem xw661 : Cond.code yX5_begin cX5_begin 5 none ∈ xBW := xbw 661 (by decide +kernel) (by decide +kernel)
theorem xw306 : Cond.fieldLink RX7 118 "RentStream$Flat" "shown" "I" ∈ xBW := xbw 306 (by decide +kernel) (by decide +kernel)
theorem xw562 : Cond.methodLink RX7 124 yX1_readMeter ∈ xBW := xbw 562 (by decide +kernel) (by decide +kernel)
theorem xw563 : Cond.instanceMethod yX1_readMeter ∈ xBW := xbw 563 (by decide +kernel) (by decide +kernel)
theorem xw564 : Cond.selects RX1 yX1_readMeter yX1_readMeter ∈ xBW := xbw 564 (by decide +kernel) (by decide +kernel)
theorem xw565 : Cond.code yX1_readMeter cX1_readMeter 4 (some .int) ∈ xBW := xbw 565 (by decide +kernel) (by decide +kernel)
theorem xw588 : Cond.methodLink RX6 3 objectInit ∈ xBW := xbw 588 (by decide +kernel) (by decide +kernel)
theorem xw584 : Cond.instantiable RX6 5 ∈ xBW := xbw 584 (by decide +kernel) (by decide +kernel)
theorem xw585 : Cond.methodLink RX7 143 yX6_init ∈ xBW := xbw 585 (by decide +kernel) (by decide +kernel)
theorem xw586 : Cond.instanceMethod yX6_init ∈ xBW := xbw 586 (by decide +kernel) (by decide +kernel)
theorem xw587 : Cond.code yX6_init cX6_init 4 none ∈ xBW := xbw 587 (by decide +kernel) (by decide +kernel)
theorem xw301 : Cond.fieldLink RX7 253 "RentStream$Flat" "uses" "LRentStream$Months;" ∈ xBW := xbw 301 (by decide +kernel) (by decide +kernel)
theorem xin0 : ∀ w ∈ u_ws RX0 TX0 4, w ∈ xBW := fun w h => List.mem_filter.mpr ⟨(goodIn_r (big := xtb) (u_ws RX0 TX0 4) [156, 158, 160, 162] (by decide +kernel) (by decide +kernel) w h).1, List.all_eq_true.mp (show (u_ws RX0 TX0 4).all goodWord = true by decide +kernel) w h⟩
theorem xin1 : ∀ w ∈ u_ws RX1 TX1 6, w ∈ xBW := fun w h => List.mem_filter.mpr ⟨(goodIn_r (big := xtb) (u_ws RX1 TX1 6) [309, 311, 313, 315, 317, 319] (by decide +kernel) (by decide +kernel) w h).1, List.all_eq_true.mp (show (u_ws RX1 TX1 6).all goodWord = true by decide +kernel) w h⟩
theorem xin2 : ∀ w ∈ u_ws RX2 TX2 3, w ∈ xBW := fun w h => List.mem_filter.mpr ⟨(goodIn_r (big := xtb) (u_ws RX2 TX2 3) [473, 475, 477] (by decide +kernel) (by decide +kernel) w h).1, List.all_eq_true.mp (show (u_ws RX2 TX2 3).all goodWord = true by decide +kernel) w h⟩
theorem xin3 : ∀ w ∈ u_ws RX3 TX3 11, w ∈ xBW := fun w h => List.mem_filter.mpr ⟨(goodIn_r (big := xtb) (u_ws RX3 TX3 11) [501, 503, 505, 507, 509, 511, 513, 515, 517, 519, 521] (by decide +kernel) (by decide +kernel) w h).1, List.all_eq_true.mp (show (u_ws RX3 TX3 11).all goodWord = true by decide +kernel) w h⟩
theorem xin4 : ∀ w ∈ u_ws RX4 TX4 1, w ∈ xBW := fun w h => List.mem_filter.mpr ⟨(goodIn_r (big := xtb) (u_ws RX4 TX4 1) [102] (by decide +kernel) (by decide +kernel) w h).1, List.all_eq_true.mp (show (u_ws RX4 TX4 1).all goodWord = true by decide +kernel) w h⟩
theorem xin5 : ∀ w ∈ u_ws RX5 TX5 4, w ∈ xBW := fun w h => List.mem_filter.mpr ⟨(goodIn_r (big := xtb) (u_ws RX5 TX5 4) [453, 455, 457, 459] (by decide +kernel) (by decide +kernel) w h).1, List.all_eq_true.mp (show (u_ws RX5 TX5 4).all goodWord = true by decide +kernel) w h⟩
theorem xin6 : ∀ w ∈ u_ws RX6 TX6 5, w ∈ xBW := fun w h => List.mem_filter.mpr ⟨(goodIn_r (big := xtb) (u_ws RX6 TX6 5) [596, 598, 600, 602, 604] (by decide +kernel) (by decide +kernel) w h).1, List.all_eq_true.mp (show (u_ws RX6 TX6 5).all goodWord = true by decide +kernel) w h⟩
theorem xin7 : ∀ w ∈ u_ws RX7 TX7 10, w ∈ xBW := fun w h => List.mem_filter.mpr ⟨(goodIn_r (big := xtb) (u_ws RX7 TX7 10) [175, 177, 179, 181, 183, 185, 187, 189, 191, 193] (by decide +kernel) (by decide +kernel) w h).1, List.all_eq_true.mp (show (u_ws RX7 TX7 10).all goodWord = true by decide +kernel) w h⟩
theorem xin8 : ∀ w ∈ u_ws RX0 TX0 4, w ∈ xBW := fun w h => List.mem_filter.mpr ⟨(goodIn_r (big := xtb) (u_ws RX0 TX0 4) [156, 158, 160, 162] (by decide +kernel) (by decide +kernel) w h).1, List.all_eq_true.mp (show (u_ws RX0 TX0 4).all goodWord = true by decide +kernel) w h⟩
theorem xin9 : ∀ w ∈ u_ws RJ4 TJ4 4, w ∈ xBW := fun w h => List.mem_filter.mpr ⟨(goodIn_r (big := xtb) (u_ws RJ4 TJ4 4) [129, 131, 133, 135] (by decide +kernel) (by decide +kernel) w h).1, List.all_eq_true.mp (show (u_ws RJ4 TJ4 4).all goodWord = true by decide +kernel) w h⟩
theorem xin10 : ∀ w ∈ u_ws RJx4a65c TJx4a65c 3, w ∈ xBW := fun w h => List.mem_filter.mpr ⟨(goodIn_r (big := xtb) (u_ws RJx4a65c TJx4a65c 3) [92, 88, 90] (by decide +kernel) (by decide +kernel) w h).1, List.all_eq_true.mp (show (u_ws RJx4a65c TJx4a65c 3).all goodWord = true by decide +kernel) w h⟩
abbrev k_X0_init : xκ := (RX0, cX0_init, 1, 1, 20)
abbrev k_X4_init : xκ := (RX4, cX4_init, 3, 1, 20)
abbrev k_J5_init_d00df : xκ := (RJ5, cJ5_init_d00df, 2, 1, 20)
abbrev k_J4_init_da8c8 : xκ := (RJ4, cJ4_init_da8c8, 1, 2, 41)
abbrev k_Jxa1e45_init_da8c8 : xκ := (RJxa1e45, cJxa1e45_init_da8c8, 1, 1, 20)
abbrev k_Jxc12de_init_da8c8 : xκ := (RJxc12de, cJxc12de_init_da8c8, 1, 2, 40)
abbrev k_Jx4a65c_init_da8c8 : xκ := (RJx4a65c, cJx4a65c_init_da8c8, 1, 3, 60)
abbrev k_X7_init : xκ := (RX7, cX7_init, 1, 4, 80)
abbrev k_X7_benefitFor : xκ := (RX7, cX7_benefitFor, 4, 1, 60)
abbrev k_X7_postToDesk : xκ := (RX7, cX7_postToDesk, 4, 0, 0)
abbrev k_X4_in : xκ := (RX4, cX4_in, 2, 0, 0)
abbrev k_X3_incomeIn : xκ := (RX3, cX3_incomeIn, 3, 1, 21)
abbrev k_X3_rentAt : xκ := (RX3, cX3_rentAt, 2, 0, 0)
abbrev k_X7_payAhead : xκ := (RX7, cX7_payAhead, 6, 2, 83)
abbrev k_X3_runsIn : xκ := (RX3, cX3_runsIn, 2, 0, 0)
abbrev k_X4_put : xκ := (RX4, cX4_put, 3, 0, 0)
abbrev k_Jx4a65c_elementData_915e3 : xκ := (RJx4a65c, cJx4a65c_elementData_915e3, 2, 0, 0)
abbrev k_J3_checkIndex_8e157 : xκ := (RJ3, cJ3_checkIndex_8e157, 3, 0, 0)
abbrev k_J15_checkIndex_7cf53 : xκ := (RJ15, cJ15_checkIndex_7cf53, 2, 1, 22)
abbrev k_Jx4a65c_get_915e3 : xκ := (RJx4a65c, cJx4a65c_get_915e3, 2, 2, 43)
abbrev k_Jx4a65c_size_8abf5 : xκ := (RJx4a65c, cJx4a65c_size_8abf5, 1, 0, 0)
abbrev k_X7_beginMonth : xκ := (RX7, cX7_beginMonth, 4, 3, 108)
abbrev k_X7_leaseAt : xκ := (RX7, cX7_leaseAt, 2, 6, 92)
abbrev k_X7_monthNow : xκ := (RX7, cX7_monthNow, 1, 0, 0)
abbrev k_X7_needMonth : xκ := (RX7, cX7_needMonth, 2, 6, 92)
abbrev k_X0_amount : xκ := (RX0, cX0_amount, 2, 0, 0)
abbrev k_X3_billOf : xκ := (RX3, cX3_billOf, 2, 0, 0)
abbrev k_X7_bill : xκ := (RX7, cX7_bill, 6, 7, 113)
abbrev k_X7_desk : xκ := (RX7, cX7_desk, 2, 7, 113)
abbrev k_X7_end : xκ := (RX7, cX7_end, 3, 7, 113)
abbrev k_X7_postToTenant : xκ := (RX7, cX7_postToTenant, 4, 0, 0)
abbrev k_X7_loweredBy : xκ := (RX7, cX7_loweredBy, 4, 1, 60)
abbrev k_X7_settle : xκ := (RX7, cX7_settle, 4, 2, 83)
abbrev k_X0_ofTenant : xκ := (RX0, cX0_ofTenant, 1, 0, 0)
abbrev k_X3_putBill : xκ := (RX3, cX3_putBill, 3, 0, 0)
abbrev k_X7_makeBill : xκ := (RX7, cX7_makeBill, 4, 3, 106)
abbrev k_X2_isAheadOf : xκ := (RX2, cX2_isAheadOf, 2, 0, 0)
abbrev k_X2_takeOneMore : xκ := (RX2, cX2_takeOneMore, 1, 0, 0)
abbrev k_Jx4a65c_isEmpty_aae02 : xκ := (RJx4a65c, cJx4a65c_isEmpty_aae02, 1, 0, 0)
abbrev k_X7_giveOneMore : xκ := (RX7, cX7_giveOneMore, 4, 3, 64)
abbrev k_X2_takeWhole : xκ := (RX2, cX2_takeWhole, 7, 0, 0)
abbrev k_X7_shareByWeights : xκ := (RX7, cX7_shareByWeights, 6, 4, 87)
abbrev k_X3_useIn : xκ := (RX3, cX3_useIn, 2, 1, 21)
abbrev k_X7_usesOfAll : xκ := (RX7, cX7_usesOfAll, 5, 3, 64)
abbrev k_X7_shareHeat : xκ := (RX7, cX7_shareHeat, 6, 5, 112)
abbrev k_X1_guessedUse : xκ := (RX1, cX1_guessedUse, 6, 1, 21)
abbrev k_X1_findUse : xκ := (RX1, cX1_findUse, 3, 2, 60)
abbrev k_X5_endMonth : xκ := (RX5, cX5_endMonth, 5, 1, 60)
abbrev k_X7_endMonth : xκ := (RX7, cX7_endMonth, 4, 6, 137)
abbrev k_X6_clock : xκ := (RX6, cX6_clock, 1, 0, 0)
abbrev k_X6_pointsADay : xκ := (RX6, cX6_pointsADay, 1, 0, 0)
abbrev k_X6_takePoints : xκ := (RX6, cX6_takePoints, 3, 1, 22)
abbrev k_X7_endDay : xκ := (RX7, cX7_endDay, 3, 7, 160)
abbrev k_X1_init : xκ := (RX1, cX1_init, 2, 2, 42)
abbrev k_J7_copyOf_6403c : xκ := (RJ7, cJ7_copyOf_6403c, 4, 1, 60)
abbrev k_J7_copyOf_1904c : xκ := (RJ7, cJ7_copyOf_1904c, 2, 2, 83)
abbrev k_J8_newLength_cabcc : xκ := (RJ8, cJ8_newLength_cabcc, 4, 1, 60)
abbrev k_Jx4a65c_grow_92f84 : xκ := (RJx4a65c, cJx4a65c_grow_92f84, 4, 3, 104)
abbrev k_Jx4a65c_grow_d5877 : xκ := (RJx4a65c, cJx4a65c_grow_d5877, 1, 4, 127)
abbrev k_Jx4a65c_add_72be8 : xκ := (RJx4a65c, cJx4a65c_add_72be8, 4, 5, 147)
abbrev k_Jx4a65c_add_9ea2d : xκ := (RJx4a65c, cJx4a65c_add_9ea2d, 2, 6, 170)
abbrev k_X7_flat : xκ := (RX7, cX7_flat, 2, 7, 191)
abbrev k_X7_flatAt : xκ := (RX7, cX7_flatAt, 2, 6, 92)
abbrev k_X7_heat : xκ := (RX7, cX7_heat, 4, 6, 92)
abbrev k_X3_benefitsAnew : xκ := (RX3, cX3_benefitsAnew, 8, 2, 83)
abbrev k_X7_income : xκ := (RX7, cX7_income, 7, 7, 113)
abbrev k_X7_index : xκ := (RX7, cX7_index, 2, 6, 92)
abbrev k_X7_isLetOn : xκ := (RX7, cX7_isLetOn, 4, 3, 64)
abbrev k_X2_init : xκ := (RX2, cX2_init, 1, 1, 20)
abbrev k_X5_init : xκ := (RX5, cX5_init, 1, 1, 20)
abbrev k_X3_init : xκ := (RX3, cX3_init, 4, 2, 42)
abbrev k_X7_lease : xκ := (RX7, cX7_lease, 4, 7, 191)
abbrev k_J5_newCapacity_0f7a4 : xκ := (RJ5, cJ5_newCapacity_0f7a4, 6, 2, 83)
abbrev k_J7_copyOf_9075b : xκ := (RJ7, cJ7_copyOf_9075b, 3, 1, 60)
abbrev k_J5_ensureCapacityInternal_d00df : xκ := (RJ5, cJ5_ensureCapacityInternal_d00df, 3, 3, 108)
abbrev k_J5_isLatin1_aae02 : xκ := (RJ5, cJ5_isLatin1_aae02, 1, 0, 0)
abbrev k_J1_canEncode_fc78d : xκ := (RJ1, cJ1_canEncode_fc78d, 1, 0, 0)
abbrev k_J5_append_3fe6f : xκ := (RJ5, cJ5_append_3fe6f, 2, 4, 130)
abbrev k_J4_append_cf468 : xκ := (RJ4, cJ4_append_cf468, 2, 5, 151)
abbrev k_X7_writeDigits : xκ := (RX7, cX7_writeDigits, 4, 6, 172)
abbrev k_J6_getChars_ba4f3 : xκ := (RJ6, cJ6_getChars_ba4f3, 7, 0, 0)
abbrev k_J6_stringSize_0f7a4 : xκ := (RJ6, cJ6_stringSize_0f7a4, 4, 0, 0)
abbrev k_J5_append_c97b9 : xκ := (RJ5, cJ5_append_c97b9, 4, 4, 130)
abbrev k_J4_append_bf812 : xκ := (RJ4, cJ4_append_bf812, 2, 5, 153)
abbrev k_X7_writeWhole : xκ := (RX7, cX7_writeWhole, 5, 7, 195)
abbrev k_X7_writeAmount : xκ := (RX7, cX7_writeAmount, 3, 8, 219)
abbrev k_J0_coder_7d493 : xκ := (RJ0, cJ0_coder_7d493, 1, 0, 0)
abbrev k_J5_inflateIfNeededFor_a7421 : xκ := (RJ5, cJ5_inflateIfNeededFor_a7421, 2, 1, 20)
abbrev k_J0_getBytes_840e7 : xκ := (RJ0, cJ0_getBytes_840e7, 4, 1, 60)
abbrev k_J5_putStringAt_47b60 : xκ := (RJ5, cJ5_putStringAt_47b60, 3, 2, 83)
abbrev k_J0_length_8abf5 : xκ := (RJ0, cJ0_length_8abf5, 1, 1, 20)
abbrev k_J5_append_cf1ce : xκ := (RJ5, cJ5_append_cf1ce, 3, 4, 130)
abbrev k_J4_append_15ec4 : xκ := (RJ4, cJ4_append_15ec4, 2, 5, 152)
abbrev k_X7_writeLine : xκ := (RX7, cX7_writeLine, 4, 9, 241)
abbrev k_J0_checkIndex_df160 : xκ := (RJ0, cJ0_checkIndex_df160, 2, 1, 22)
abbrev k_J5_charAt_5068e : xκ := (RJ5, cJ5_charAt_5068e, 5, 2, 60)
abbrev k_J4_charAt_5068e : xκ := (RJ4, cJ4_charAt_5068e, 2, 3, 84)
abbrev k_J5_length_8abf5 : xκ := (RJ5, cJ5_length_8abf5, 1, 0, 0)
abbrev k_J4_length_8abf5 : xκ := (RJ4, cJ4_length_8abf5, 1, 1, 20)
abbrev k_J5_setLength_d00df : xκ := (RJ5, cJ5_setLength_d00df, 2, 4, 130)
abbrev k_J4_setLength_d00df : xκ := (RJ4, cJ4_setLength_d00df, 2, 5, 151)
abbrev k_X7_line : xκ := (RX7, cX7_line, 6, 10, 264)
abbrev k_X7_mend : xκ := (RX7, cX7_mend, 3, 6, 92)
abbrev k_X7_owes : xκ := (RX7, cX7_owes, 2, 7, 113)
abbrev k_X7_owesAnew : xκ := (RX7, cX7_owesAnew, 7, 7, 137)
abbrev k_X7_owner : xκ := (RX7, cX7_owner, 1, 0, 0)
abbrev k_X7_pass : xκ := (RX7, cX7_pass, 3, 8, 182)
abbrev k_X7_pay : xκ := (RX7, cX7_pay, 4, 7, 113)
abbrev k_X5_begin : xκ := (RX5, cX5_begin, 5, 0, 0)
abbrev k_X7_plan : xκ := (RX7, cX7_plan, 6, 7, 113)
abbrev k_X7_planOf : xκ := (RX7, cX7_planOf, 2, 7, 113)
abbrev k_X7_points : xκ := (RX7, cX7_points, 2, 7, 113)
abbrev k_X1_readMeter : xκ := (RX1, cX1_readMeter, 4, 0, 0)
abbrev k_X7_read : xκ := (RX7, cX7_read, 4, 7, 113)
abbrev k_X6_init : xκ := (RX6, cX6_init, 4, 1, 20)
abbrev k_X7_report : xκ := (RX7, cX7_report, 4, 7, 191)
abbrev k_X7_use : xκ := (RX7, cX7_use, 4, 7, 113)
theorem xp_X0_9 : xFP RX0 9 0 0 .int false := ⟨RX0, TX0, 4, "RentStream$Bill", tyX0, rfl, xin0, by decide, xw145, Or.inl rfl, tyX0_ok, nmX0, rfl, by decide +kernel, fun h => nomatch h⟩
theorem xp_X0_15 : xFP RX0 15 0 1 .int false := ⟨RX0, TX0, 4, "RentStream$Bill", tyX0, rfl, xin0, by decide, xw148, Or.inl rfl, tyX0_ok, nmX0, rfl, by decide +kernel, fun h => nomatch h⟩
theorem xp_X0_18 : xFP RX0 18 0 2 .int false := ⟨RX0, TX0, 4, "RentStream$Bill", tyX0, rfl, xin0, by decide, xw151, Or.inl rfl, tyX0_ok, nmX0, rfl, by decide +kernel, fun h => nomatch h⟩
theorem xp_X0_21 : xFP RX0 21 0 3 .int false := ⟨RX0, TX0, 4, "RentStream$Bill", tyX0, rfl, xin0, by decide, xw154, Or.inl rfl, tyX0_ok, nmX0, rfl, by decide +kernel, fun h => nomatch h⟩
theorem xf_X4_9 : xFL RX4 9 4 0 := ⟨RX4, TX4, 1, "RentStream$Months", rfl, xin4, by decide, xw101, Or.inl rfl⟩
theorem xp_X4_9 : xFP RX4 9 4 0 (.array .int) true := ⟨RX4, TX4, 1, "RentStream$Months", tyX4, rfl, xin4, by decide, xw101, Or.inl rfl, tyX4_ok, nmX4, rfl, by decide +kernel, fun _ => rfl⟩
theorem xp_J5_15 : xFP RJ5 15 9 0 (.array .byte) false := ⟨RJ4, TJ4, 4, "java/lang/AbstractStringBuilder", tyJ4, rfl, xin9, by decide, xw124, Or.inl rfl, tyJ4_ok, nmJ4, rfl, by decide +kernel, fun h => nomatch h⟩
theorem xp_J5_22 : xFP RJ5 22 9 1 .byte false := ⟨RJ4, TJ4, 4, "java/lang/AbstractStringBuilder", tyJ4, rfl, xin9, by decide, xw125, Or.inl rfl, tyJ4_ok, nmJ4, rfl, by decide +kernel, fun h => nomatch h⟩
theorem xc_J4_init_da8c8_1 : xLI k_J4_init_da8c8 k_J5_init_d00df 1 yJ5_init_d00df 1 := ⟨List.forall_mem_cons.mpr ⟨xw111, List.forall_mem_cons.mpr ⟨xw112, List.forall_mem_cons.mpr ⟨xw34, fun _ h => absurd h List.not_mem_nil⟩⟩⟩, xw113, rfl, ⟨⟨by decide +kernel, by decide +kernel, by decide +kernel⟩, by decide, by decide⟩⟩
theorem xc_Jxc12de_init_da8c8_1 : xLI k_Jxc12de_init_da8c8 k_Jxa1e45_init_da8c8 1 yJxa1e45_init_da8c8 0 := ⟨List.forall_mem_cons.mpr ⟨xw77, List.forall_mem_cons.mpr ⟨xw78, List.forall_mem_cons.mpr ⟨xw30, fun _ h => absurd h List.not_mem_nil⟩⟩⟩, xw79, rfl, ⟨⟨by decide +kernel, by decide +kernel, by decide +kernel⟩, by decide, by decide⟩⟩
theorem xp_Jxc12de_7 : xFP RJxc12de 7 10 0 .int false := ⟨RJx4a65c, TJx4a65c, 3, "java/util/AbstractList", tyJx4a65c, rfl, xin10, by decide, xw85, Or.inl rfl, tyJx4a65c_ok, nmJx4a65c, rfl, by decide +kernel, fun h => nomatch h⟩
theorem xc_Jx4a65c_init_da8c8_1 : xLI k_Jx4a65c_init_da8c8 k_Jxc12de_init_da8c8 1 yJxc12de_init_da8c8 0 := ⟨List.forall_mem_cons.mpr ⟨xw74, List.forall_mem_cons.mpr ⟨xw75, List.forall_mem_cons.mpr ⟨xw31, fun _ h => absurd h List.not_mem_nil⟩⟩⟩, xw76, rfl, ⟨⟨by decide +kernel, by decide +kernel, by decide +kernel⟩, by decide, by decide⟩⟩
theorem xp_Jx4a65c_9 : xFP RJx4a65c 9 10 1 (.array (.object "java/lang/Object")) false := ⟨RJx4a65c, TJx4a65c, 3, "java/util/ArrayList", tyJx4a65c, rfl, xin10, by decide, xw83, Or.inl rfl, tyJx4a65c_ok, nmJx4a65c, rfl, by decide +kernel, fun h => nomatch h⟩
theorem xn_X7_7 : xNL RX7 7 10 [.int 0, .null, .int 0] := ⟨RJx4a65c, TJx4a65c, 3, tyJx4a65c, rfl, xin10, xw69, xw70, xw32, tyJx4a65c_ok, by decide +kernel, rfl⟩
theorem xc_X7_init_9 : xLI k_X7_init k_Jx4a65c_init_da8c8 9 yJx4a65c_init_da8c8 0 := ⟨List.forall_mem_cons.mpr ⟨xw71, List.forall_mem_cons.mpr ⟨xw72, List.forall_mem_cons.mpr ⟨xw32, fun _ h => absurd h List.not_mem_nil⟩⟩⟩, xw73, rfl, ⟨⟨by decide +kernel, by decide +kernel, by decide +kernel⟩, by decide, by decide⟩⟩
theorem xp_X7_10 : xFP RX7 10 7 0 (.object "java/util/ArrayList") true := ⟨RX7, TX7, 10, "RentStream", tyX7, rfl, xin7, by decide, xw165, Or.inl rfl, tyX7_ok, nmX7, rfl, by decide +kernel, fun _ => rfl⟩
theorem xp_X7_16 : xFP RX7 16 7 1 (.object "java/util/ArrayList") true := ⟨RX7, TX7, 10, "RentStream", tyX7, rfl, xin7, by decide, xw166, Or.inl rfl, tyX7_ok, nmX7, rfl, by decide +kernel, fun _ => rfl⟩
theorem xp_X7_19 : xFP RX7 19 7 2 (.object "java/util/ArrayList") true := ⟨RX7, TX7, 10, "RentStream", tyX7, rfl, xin7, by decide, xw167, Or.inl rfl, tyX7_ok, nmX7, rfl, by decide +kernel, fun _ => rfl⟩
theorem xn_X7_22 : xNL RX7 22 4 [.null] := ⟨RX4, TX4, 1, tyX4, rfl, xin4, xw95, xw96, xw33, tyX4_ok, by decide +kernel, rfl⟩
theorem xc_X7_init_24 : xLI k_X7_init k_X4_init 24 yX4_init 1 := ⟨List.forall_mem_cons.mpr ⟨xw97, List.forall_mem_cons.mpr ⟨xw98, List.forall_mem_cons.mpr ⟨xw33, fun _ h => absurd h List.not_mem_nil⟩⟩⟩, xw99, rfl, ⟨⟨by decide +kernel, by decide +kernel, by decide +kernel⟩, by decide, by decide⟩⟩
theorem xp_X7_27 : xFP RX7 27 7 3 (.object "RentStream$Months") true := ⟨RX7, TX7, 10, "RentStream", tyX7, rfl, xin7, by decide, xw168, Or.inl rfl, tyX7_ok, nmX7, rfl, by decide +kernel, fun _ => rfl⟩
theorem xp_X7_31 : xFP RX7 31 7 4 (.object "RentStream$Months") true := ⟨RX7, TX7, 10, "RentStream", tyX7, rfl, xin7, by decide, xw169, Or.inl rfl, tyX7_ok, nmX7, rfl, by decide +kernel, fun _ => rfl⟩
theorem xn_X7_34 : xNL RX7 34 9 [.null, .int 0, .int 0, .int 0] := ⟨RJ4, TJ4, 4, tyJ4, rfl, xin9, xw106, xw107, xw35, tyJ4_ok, by decide +kernel, rfl⟩
theorem xc_X7_init_36 : xLI k_X7_init k_J4_init_da8c8 36 yJ4_init_da8c8 0 := ⟨List.forall_mem_cons.mpr ⟨xw108, List.forall_mem_cons.mpr ⟨xw109, List.forall_mem_cons.mpr ⟨xw35, fun _ h => absurd h List.not_mem_nil⟩⟩⟩, xw110, rfl, ⟨⟨by decide +kernel, by decide +kernel, by decide +kernel⟩, by decide, by decide⟩⟩
theorem xp_X7_37 : xFP RX7 37 7 5 (.object "java/lang/StringBuilder") true := ⟨RX7, TX7, 10, "RentStream", tyX7, rfl, xin7, by decide, xw170, Or.inl rfl, tyX7_ok, nmX7, rfl, by decide +kernel, fun _ => rfl⟩
theorem xn_X7_41 : xNL RX7 41 0 [.int 0, .int 0, .int 0, .int 0] := ⟨RX0, TX0, 4, tyX0, rfl, xin0, xw139, xw140, xw38, tyX0_ok, by decide +kernel, rfl⟩
theorem xc_X7_init_43 : xLIN k_X7_init k_X0_init 43 yX0_init 0 := ⟨List.mem_of_getElem? (i := 0) rfl, List.forall_mem_cons.mpr ⟨xw142, List.forall_mem_cons.mpr ⟨xw38, fun _ h => absurd h List.not_mem_nil⟩⟩, xw143, rfl, ⟨⟨by decide +kernel, by decide +kernel, by decide +kernel⟩, by decide, by decide⟩⟩
theorem xp_X7_44 : xFP RX7 44 7 6 (.object "RentStream$Bill") true := ⟨RX7, TX7, 10, "RentStream", tyX7, rfl, xin7, by decide, xw171, Or.inl rfl, tyX7_ok, nmX7, rfl, by decide +kernel, fun _ => rfl⟩
theorem xp_X7_48 : xFP RX7 48 7 7 .int false := ⟨RX7, TX7, 10, "RentStream", tyX7, rfl, xin7, by decide, xw172, Or.inl rfl, tyX7_ok, nmX7, rfl, by decide +kernel, fun h => nomatch h⟩
theorem xp_X7_52 : xFP RX7 52 7 8 .int false := ⟨RX7, TX7, 10, "RentStream", tyX7, rfl, xin7, by decide, xw173, Or.inl rfl, tyX7_ok, nmX7, rfl, by decide +kernel, fun h => nomatch h⟩
theorem xp_X7_55 : xFP RX7 55 7 9 .long false := ⟨RX7, TX7, 10, "RentStream", tyX7, rfl, xin7, by decide, xw174, Or.inl rfl, tyX7_ok, nmX7, rfl, by decide +kernel, fun h => nomatch h⟩
theorem xlm_X7_370 : xLM RX7 370 Lib.Math.min.name Lib.Math.min.code 2 .int := ⟨xw638, xw378, xw46, xw379⟩
theorem xlm_X7_372 : xLM RX7 372 Lib.Math.max.name Lib.Math.max.code 2 .int := ⟨xw639, xw342, xw46, xw343⟩
theorem xf_X7_223 : xFL RX7 223 3 6 := ⟨RX3, TX3, 11, "RentStream$Lease", rfl, xin3, by decide, xw495, Or.inl rfl⟩
theorem xp_X7_223 : xFP RX7 223 3 6 .long false := ⟨RX3, TX3, 11, "RentStream$Lease", tyX3, rfl, xin3, by decide, xw495, Or.inl rfl, tyX3_ok, nmX3, rfl, by decide +kernel, fun h => nomatch h⟩
theorem xf_X7_55 : xFL RX7 55 7 9 := ⟨RX7, TX7, 10, "RentStream", rfl, xin7, by decide, xw174, Or.inl rfl⟩
theorem xf_X3_20 : xFL RX3 20 3 2 := ⟨RX3, TX3, 11, "RentStream$Lease", rfl, xin3, by decide, xw486, Or.inl rfl⟩
theorem xc_X3_incomeIn_73 : xLV k_X3_incomeIn k_X4_in 73 RX4 yX4_in (some .int) 1 := ⟨List.forall_mem_cons.mpr ⟨xw634, List.forall_mem_cons.mpr ⟨xw553, List.forall_mem_cons.mpr ⟨xw554, List.forall_mem_cons.mpr ⟨xw33, fun _ h => absurd h List.not_mem_nil⟩⟩⟩⟩, xw555, ⟨⟨by decide +kernel, by decide +kernel, by decide +kernel⟩, by decide, by decide⟩⟩
theorem xf_X3_58 : xFL RX3 58 3 8 := ⟨RX3, TX3, 11, "RentStream$Lease", rfl, xin3, by decide, xw498, Or.inl rfl⟩
theorem xf_X7_27 : xFL RX7 27 7 3 := ⟨RX7, TX7, 10, "RentStream", rfl, xin7, by decide, xw168, Or.inl rfl⟩
theorem xc_X7_payAhead_114 : xLV k_X7_payAhead k_X4_in 114 RX4 yX4_in (some .int) 1 := ⟨List.forall_mem_cons.mpr ⟨xw552, List.forall_mem_cons.mpr ⟨xw553, List.forall_mem_cons.mpr ⟨xw554, List.forall_mem_cons.mpr ⟨xw33, fun _ h => absurd h List.not_mem_nil⟩⟩⟩⟩, xw555, ⟨⟨by decide +kernel, by decide +kernel, by decide +kernel⟩, by decide, by decide⟩⟩
theorem xc_X7_payAhead_298 : xLV k_X7_payAhead k_X3_rentAt 298 RX3 yX3_rentAt (some .int) 1 := ⟨List.forall_mem_cons.mpr ⟨xw757, List.forall_mem_cons.mpr ⟨xw758, List.forall_mem_cons.mpr ⟨xw759, List.forall_mem_cons.mpr ⟨xw52, fun _ h => absurd h List.not_mem_nil⟩⟩⟩⟩, xw760, ⟨⟨by decide +kernel, by decide +kernel, by decide +kernel⟩, by decide, by decide⟩⟩
theorem xc_X7_payAhead_301 : xLV k_X7_payAhead k_X3_incomeIn 301 RX3 yX3_incomeIn (some .int) 1 := ⟨List.forall_mem_cons.mpr ⟨xw768, List.forall_mem_cons.mpr ⟨xw631, List.forall_mem_cons.mpr ⟨xw632, List.forall_mem_cons.mpr ⟨xw52, fun _ h => absurd h List.not_mem_nil⟩⟩⟩⟩, xw633, ⟨⟨by decide +kernel, by decide +kernel, by decide +kernel⟩, by decide, by decide⟩⟩
theorem xc_X7_payAhead_304 : xLS k_X7_payAhead k_X7_benefitFor 304 yX7_benefitFor (some .int) 2 := ⟨List.forall_mem_cons.mpr ⟨xw769, List.forall_mem_cons.mpr ⟨xw636, List.forall_mem_cons.mpr ⟨xw29, fun _ h => absurd h List.not_mem_nil⟩⟩⟩, xw637, ⟨⟨by decide +kernel, by decide +kernel, by decide +kernel⟩, by decide, by decide⟩⟩
theorem xc_X7_payAhead_176 : xLV k_X7_payAhead k_X7_postToDesk 176 RX7 yX7_postToDesk none 2 := ⟨List.forall_mem_cons.mpr ⟨xw644, List.forall_mem_cons.mpr ⟨xw646, List.forall_mem_cons.mpr ⟨xw14, List.forall_mem_cons.mpr ⟨xw29, fun _ h => absurd h List.not_mem_nil⟩⟩⟩⟩, xw647, ⟨⟨by decide +kernel, by decide +kernel, by decide +kernel⟩, by decide, by decide⟩⟩
theorem xf_X3_61 : xFL RX3 61 3 9 := ⟨RX3, TX3, 11, "RentStream$Lease", rfl, xin3, by decide, xw499, Or.inl rfl⟩
theorem xf_X3_9 : xFL RX3 9 3 1 := ⟨RX3, TX3, 11, "RentStream$Lease", rfl, xin3, by decide, xw484, Or.inl rfl⟩
theorem xf_Jx4a65c_9 : xFL RJx4a65c 9 10 1 := ⟨RJx4a65c, TJx4a65c, 3, "java/util/ArrayList", rfl, xin10, by decide, xw83, Or.inl rfl⟩
theorem xc_J15_checkIndex_7cf53_105 : xLS k_J15_checkIndex_7cf53 k_J3_checkIndex_8e157 105 yJ3_checkIndex_8e157 (some .int) 3 := ⟨List.forall_mem_cons.mpr ⟨xw416, List.forall_mem_cons.mpr ⟨xw417, List.forall_mem_cons.mpr ⟨xw51, fun _ h => absurd h List.not_mem_nil⟩⟩⟩, xw418, ⟨⟨by decide +kernel, by decide +kernel, by decide +kernel⟩, by decide, by decide⟩⟩
theorem xf_Jx4a65c_48 : xFL RJx4a65c 48 10 2 := ⟨RJx4a65c, TJx4a65c, 3, "java/util/ArrayList", rfl, xin10, by decide, xw84, Or.inl rfl⟩
theorem xc_Jx4a65c_get_915e3_118 : xLS k_Jx4a65c_get_915e3 k_J15_checkIndex_7cf53 118 yJ15_checkIndex_7cf53 (some .int) 2 := ⟨List.forall_mem_cons.mpr ⟨xw413, List.forall_mem_cons.mpr ⟨xw414, List.forall_mem_cons.mpr ⟨xw50, fun _ h => absurd h List.not_mem_nil⟩⟩⟩, xw415, ⟨⟨by decide +kernel, by decide +kernel, by decide +kernel⟩, by decide, by decide⟩⟩
theorem xc_Jx4a65c_get_915e3_123 : xLV k_Jx4a65c_get_915e3 k_Jx4a65c_elementData_915e3 123 RJx4a65c yJx4a65c_elementData_915e3 (some (.object "java/lang/Object")) 1 := ⟨List.forall_mem_cons.mpr ⟨xw419, List.forall_mem_cons.mpr ⟨xw420, List.forall_mem_cons.mpr ⟨xw421, List.forall_mem_cons.mpr ⟨xw32, fun _ h => absurd h List.not_mem_nil⟩⟩⟩⟩, xw422, ⟨⟨by decide +kernel, by decide +kernel, by decide +kernel⟩, by decide, by decide⟩⟩
theorem xf_X7_16 : xFL RX7 16 7 1 := ⟨RX7, TX7, 10, "RentStream", rfl, xin7, by decide, xw166, Or.inl rfl⟩
theorem xc_X7_beginMonth_66 : xLV k_X7_beginMonth k_Jx4a65c_size_8abf5 66 RJx4a65c yJx4a65c_size_8abf5 (some .int) 0 := ⟨List.forall_mem_cons.mpr ⟨xw269, List.forall_mem_cons.mpr ⟨xw270, List.forall_mem_cons.mpr ⟨xw271, List.forall_mem_cons.mpr ⟨xw32, fun _ h => absurd h List.not_mem_nil⟩⟩⟩⟩, xw272, ⟨⟨by decide +kernel, by decide +kernel, by decide +kernel⟩, by decide, by decide⟩⟩
theorem xc_X7_beginMonth_149 : xLV k_X7_beginMonth k_Jx4a65c_get_915e3 149 RJx4a65c yJx4a65c_get_915e3 (some (.object "java/lang/Object")) 1 := ⟨List.forall_mem_cons.mpr ⟨xw409, List.forall_mem_cons.mpr ⟨xw410, List.forall_mem_cons.mpr ⟨xw411, List.forall_mem_cons.mpr ⟨xw32, fun _ h => absurd h List.not_mem_nil⟩⟩⟩⟩, xw412, ⟨⟨by decide +kernel, by decide +kernel, by decide +kernel⟩, by decide, by decide⟩⟩
theorem xc_X7_beginMonth_209 : xLV k_X7_beginMonth k_X3_runsIn 209 RX3 yX3_runsIn (some .boolean) 1 := ⟨List.forall_mem_cons.mpr ⟨xw717, List.forall_mem_cons.mpr ⟨xw714, List.forall_mem_cons.mpr ⟨xw715, List.forall_mem_cons.mpr ⟨xw52, fun _ h => absurd h List.not_mem_nil⟩⟩⟩⟩, xw716, ⟨⟨by decide +kernel, by decide +kernel, by decide +kernel⟩, by decide, by decide⟩⟩
theorem xc_X7_beginMonth_295 : xLV k_X7_beginMonth k_X7_payAhead 295 RX7 yX7_payAhead none 2 := ⟨List.forall_mem_cons.mpr ⟨xw782, List.forall_mem_cons.mpr ⟨xw784, List.forall_mem_cons.mpr ⟨xw27, List.forall_mem_cons.mpr ⟨xw29, fun _ h => absurd h List.not_mem_nil⟩⟩⟩⟩, xw785, ⟨⟨by decide +kernel, by decide +kernel, by decide +kernel⟩, by decide, by decide⟩⟩
theorem xf_X7_48 : xFL RX7 48 7 7 := ⟨RX7, TX7, 10, "RentStream", rfl, xin7, by decide, xw172, Or.inl rfl⟩
theorem xc_X7_beginMonth_133 : xLV k_X7_beginMonth k_X4_put 133 RX4 yX4_put none 2 := ⟨List.forall_mem_cons.mpr ⟨xw573, List.forall_mem_cons.mpr ⟨xw574, List.forall_mem_cons.mpr ⟨xw575, List.forall_mem_cons.mpr ⟨xw33, fun _ h => absurd h List.not_mem_nil⟩⟩⟩⟩, xw576, ⟨⟨by decide +kernel, by decide +kernel, by decide +kernel⟩, by decide, by decide⟩⟩
theorem xtw_144 : xTW RX7 144 148 "java/lang/IndexOutOfBoundsException" ["java/lang/RuntimeException", "java/lang/Exception"] := ⟨by decide +kernel, by decide +kernel, xw393, xw49, by decide +kernel, by decide +kernel, by decide +kernel⟩
theorem xc_X7_leaseAt_66 : xLV k_X7_leaseAt k_Jx4a65c_size_8abf5 66 RJx4a65c yJx4a65c_size_8abf5 (some .int) 0 := ⟨List.forall_mem_cons.mpr ⟨xw269, List.forall_mem_cons.mpr ⟨xw270, List.forall_mem_cons.mpr ⟨xw271, List.forall_mem_cons.mpr ⟨xw32, fun _ h => absurd h List.not_mem_nil⟩⟩⟩⟩, xw272, ⟨⟨by decide +kernel, by decide +kernel, by decide +kernel⟩, by decide, by decide⟩⟩
theorem xc_X7_leaseAt_149 : xLV k_X7_leaseAt k_Jx4a65c_get_915e3 149 RJx4a65c yJx4a65c_get_915e3 (some (.object "java/lang/Object")) 1 := ⟨List.forall_mem_cons.mpr ⟨xw409, List.forall_mem_cons.mpr ⟨xw410, List.forall_mem_cons.mpr ⟨xw411, List.forall_mem_cons.mpr ⟨xw32, fun _ h => absurd h List.not_mem_nil⟩⟩⟩⟩, xw412, ⟨⟨by decide +kernel, by decide +kernel, by decide +kernel⟩, by decide, by decide⟩⟩
theorem xf_X7_52 : xFL RX7 52 7 8 := ⟨RX7, TX7, 10, "RentStream", rfl, xin7, by decide, xw173, Or.inl rfl⟩
theorem xc_X7_needMonth_97 : xLV k_X7_needMonth k_X7_monthNow 97 RX7 yX7_monthNow (some .int) 0 := ⟨List.forall_mem_cons.mpr ⟨xw432, List.forall_mem_cons.mpr ⟨xw434, List.forall_mem_cons.mpr ⟨xw10, List.forall_mem_cons.mpr ⟨xw29, fun _ h => absurd h List.not_mem_nil⟩⟩⟩⟩, xw435, ⟨⟨by decide +kernel, by decide +kernel, by decide +kernel⟩, by decide, by decide⟩⟩
theorem xf_X0_21 : xFL RX0 21 0 3 := ⟨RX0, TX0, 4, "RentStream$Bill", rfl, xin0, by decide, xw154, Or.inl rfl⟩
theorem xf_X0_9 : xFL RX0 9 0 0 := ⟨RX0, TX0, 4, "RentStream$Bill", rfl, xin0, by decide, xw145, Or.inl rfl⟩
theorem xf_X0_15 : xFL RX0 15 0 1 := ⟨RX0, TX0, 4, "RentStream$Bill", rfl, xin0, by decide, xw148, Or.inl rfl⟩
theorem xf_X0_18 : xFL RX0 18 0 2 := ⟨RX0, TX0, 4, "RentStream$Bill", rfl, xin0, by decide, xw151, Or.inl rfl⟩
theorem xf_X3_50 : xFL RX3 50 3 10 := ⟨RX3, TX3, 11, "RentStream$Lease", rfl, xin3, by decide, xw500, Or.inl rfl⟩
theorem xc_X7_bill_103 : xLV k_X7_bill k_X7_leaseAt 103 RX7 yX7_leaseAt (some (.object "RentStream$Lease")) 1 := ⟨List.forall_mem_cons.mpr ⟨xw541, List.forall_mem_cons.mpr ⟨xw543, List.forall_mem_cons.mpr ⟨xw11, List.forall_mem_cons.mpr ⟨xw29, fun _ h => absurd h List.not_mem_nil⟩⟩⟩⟩, xw544, ⟨⟨by decide +kernel, by decide +kernel, by decide +kernel⟩, by decide, by decide⟩⟩
theorem xc_X7_bill_162 : xLV k_X7_bill k_X7_needMonth 162 RX7 yX7_needMonth none 1 := ⟨List.forall_mem_cons.mpr ⟨xw617, List.forall_mem_cons.mpr ⟨xw619, List.forall_mem_cons.mpr ⟨xw12, List.forall_mem_cons.mpr ⟨xw29, fun _ h => absurd h List.not_mem_nil⟩⟩⟩⟩, xw620, ⟨⟨by decide +kernel, by decide +kernel, by decide +kernel⟩, by decide, by decide⟩⟩
theorem xtw_59 : xTW RX7 59 63 "java/lang/IllegalArgumentException" ["java/lang/RuntimeException", "java/lang/Exception"] := ⟨by decide +kernel, by decide +kernel, xw200, xw42, by decide +kernel, by decide +kernel, by decide +kernel⟩
theorem xc_X7_bill_228 : xLV k_X7_bill k_X3_billOf 228 RX3 yX3_billOf (some (.object "RentStream$Bill")) 1 := ⟨List.forall_mem_cons.mpr ⟨xw803, List.forall_mem_cons.mpr ⟨xw627, List.forall_mem_cons.mpr ⟨xw628, List.forall_mem_cons.mpr ⟨xw52, fun _ h => absurd h List.not_mem_nil⟩⟩⟩⟩, xw629, ⟨⟨by decide +kernel, by decide +kernel, by decide +kernel⟩, by decide, by decide⟩⟩
theorem xc_X7_bill_234 : xLV k_X7_bill k_X0_amount 234 RX0 yX0_amount (some .int) 1 := ⟨List.forall_mem_cons.mpr ⟨xw805, List.forall_mem_cons.mpr ⟨xw806, List.forall_mem_cons.mpr ⟨xw807, List.forall_mem_cons.mpr ⟨xw38, fun _ h => absurd h List.not_mem_nil⟩⟩⟩⟩, xw808, ⟨⟨by decide +kernel, by decide +kernel, by decide +kernel⟩, by decide, by decide⟩⟩
theorem xc_X7_desk_103 : xLV k_X7_desk k_X7_leaseAt 103 RX7 yX7_leaseAt (some (.object "RentStream$Lease")) 1 := ⟨List.forall_mem_cons.mpr ⟨xw541, List.forall_mem_cons.mpr ⟨xw543, List.forall_mem_cons.mpr ⟨xw11, List.forall_mem_cons.mpr ⟨xw29, fun _ h => absurd h List.not_mem_nil⟩⟩⟩⟩, xw544, ⟨⟨by decide +kernel, by decide +kernel, by decide +kernel⟩, by decide, by decide⟩⟩
theorem xc_X7_end_103 : xLV k_X7_end k_X7_leaseAt 103 RX7 yX7_leaseAt (some (.object "RentStream$Lease")) 1 := ⟨List.forall_mem_cons.mpr ⟨xw541, List.forall_mem_cons.mpr ⟨xw543, List.forall_mem_cons.mpr ⟨xw11, List.forall_mem_cons.mpr ⟨xw29, fun _ h => absurd h List.not_mem_nil⟩⟩⟩⟩, xw544, ⟨⟨by decide +kernel, by decide +kernel, by decide +kernel⟩, by decide, by decide⟩⟩
theorem xf_X7_107 : xFL RX7 107 3 1 := ⟨RX3, TX3, 11, "RentStream$Lease", rfl, xin3, by decide, xw485, Or.inl rfl⟩
theorem xc_X7_end_97 : xLV k_X7_end k_X7_monthNow 97 RX7 yX7_monthNow (some .int) 0 := ⟨List.forall_mem_cons.mpr ⟨xw432, List.forall_mem_cons.mpr ⟨xw434, List.forall_mem_cons.mpr ⟨xw10, List.forall_mem_cons.mpr ⟨xw29, fun _ h => absurd h List.not_mem_nil⟩⟩⟩⟩, xw435, ⟨⟨by decide +kernel, by decide +kernel, by decide +kernel⟩, by decide, by decide⟩⟩
theorem xp_X7_107 : xFP RX7 107 3 1 .int false := ⟨RX3, TX3, 11, "RentStream$Lease", tyX3, rfl, xin3, by decide, xw485, Or.inl rfl, tyX3_ok, nmX3, rfl, by decide +kernel, fun h => nomatch h⟩
theorem xtw_70 : xTW RX7 70 74 "java/lang/IllegalStateException" ["java/lang/RuntimeException", "java/lang/Exception"] := ⟨by decide +kernel, by decide +kernel, xw273, xw43, by decide +kernel, by decide +kernel, by decide +kernel⟩
theorem xf_X7_182 : xFL RX7 182 3 5 := ⟨RX3, TX3, 11, "RentStream$Lease", rfl, xin3, by decide, xw493, Or.inl rfl⟩
theorem xp_X7_182 : xFP RX7 182 3 5 .long false := ⟨RX3, TX3, 11, "RentStream$Lease", tyX3, rfl, xin3, by decide, xw493, Or.inl rfl, tyX3_ok, nmX3, rfl, by decide +kernel, fun h => nomatch h⟩
theorem xlm_X7_364 : xLM RX7 364 Lib.MathLoose.min_long.x Lib.MathLoose.min_long.code 4 .long := ⟨xw765, xw766, xw46, xw767⟩
theorem xc_X7_settle_114 : xLV k_X7_settle k_X4_in 114 RX4 yX4_in (some .int) 1 := ⟨List.forall_mem_cons.mpr ⟨xw552, List.forall_mem_cons.mpr ⟨xw553, List.forall_mem_cons.mpr ⟨xw554, List.forall_mem_cons.mpr ⟨xw33, fun _ h => absurd h List.not_mem_nil⟩⟩⟩⟩, xw555, ⟨⟨by decide +kernel, by decide +kernel, by decide +kernel⟩, by decide, by decide⟩⟩
theorem xc_X7_settle_298 : xLV k_X7_settle k_X3_rentAt 298 RX3 yX3_rentAt (some .int) 1 := ⟨List.forall_mem_cons.mpr ⟨xw757, List.forall_mem_cons.mpr ⟨xw758, List.forall_mem_cons.mpr ⟨xw759, List.forall_mem_cons.mpr ⟨xw52, fun _ h => absurd h List.not_mem_nil⟩⟩⟩⟩, xw760, ⟨⟨by decide +kernel, by decide +kernel, by decide +kernel⟩, by decide, by decide⟩⟩
theorem xp_X7_350 : xFP RX7 350 0 0 .int false := ⟨RX0, TX0, 4, "RentStream$Bill", tyX0, rfl, xin0, by decide, xw147, Or.inl rfl, tyX0_ok, nmX0, rfl, by decide +kernel, fun h => nomatch h⟩
theorem xf_X7_350 : xFL RX7 350 0 0 := ⟨RX0, TX0, 4, "RentStream$Bill", rfl, xin0, by decide, xw147, Or.inl rfl⟩
theorem xf_X7_265 : xFL RX7 265 3 0 := ⟨RX3, TX3, 11, "RentStream$Lease", rfl, xin3, by decide, xw483, Or.inl rfl⟩
theorem xf_X7_256 : xFL RX7 256 1 2 := ⟨RX1, TX1, 6, "RentStream$Flat", rfl, xin1, by decide, xw304, Or.inl rfl⟩
theorem xc_X7_settle_353 : xLS k_X7_settle k_X7_loweredBy 353 yX7_loweredBy (some .int) 2 := ⟨List.forall_mem_cons.mpr ⟨xw761, List.forall_mem_cons.mpr ⟨xw762, List.forall_mem_cons.mpr ⟨xw29, fun _ h => absurd h List.not_mem_nil⟩⟩⟩, xw763, ⟨⟨by decide +kernel, by decide +kernel, by decide +kernel⟩, by decide, by decide⟩⟩
theorem xp_X7_356 : xFP RX7 356 0 1 .int false := ⟨RX0, TX0, 4, "RentStream$Bill", tyX0, rfl, xin0, by decide, xw150, Or.inl rfl, tyX0_ok, nmX0, rfl, by decide +kernel, fun h => nomatch h⟩
theorem xf_X7_356 : xFL RX7 356 0 1 := ⟨RX0, TX0, 4, "RentStream$Bill", rfl, xin0, by decide, xw150, Or.inl rfl⟩
theorem xc_X7_settle_301 : xLV k_X7_settle k_X3_incomeIn 301 RX3 yX3_incomeIn (some .int) 1 := ⟨List.forall_mem_cons.mpr ⟨xw768, List.forall_mem_cons.mpr ⟨xw631, List.forall_mem_cons.mpr ⟨xw632, List.forall_mem_cons.mpr ⟨xw52, fun _ h => absurd h List.not_mem_nil⟩⟩⟩⟩, xw633, ⟨⟨by decide +kernel, by decide +kernel, by decide +kernel⟩, by decide, by decide⟩⟩
theorem xc_X7_settle_304 : xLS k_X7_settle k_X7_benefitFor 304 yX7_benefitFor (some .int) 2 := ⟨List.forall_mem_cons.mpr ⟨xw769, List.forall_mem_cons.mpr ⟨xw636, List.forall_mem_cons.mpr ⟨xw29, fun _ h => absurd h List.not_mem_nil⟩⟩⟩, xw637, ⟨⟨by decide +kernel, by decide +kernel, by decide +kernel⟩, by decide, by decide⟩⟩
theorem xp_X7_292 : xFP RX7 292 0 2 .int false := ⟨RX0, TX0, 4, "RentStream$Bill", tyX0, rfl, xin0, by decide, xw153, Or.inl rfl, tyX0_ok, nmX0, rfl, by decide +kernel, fun h => nomatch h⟩
theorem xf_X7_311 : xFL RX7 311 3 4 := ⟨RX3, TX3, 11, "RentStream$Lease", rfl, xin3, by decide, xw491, Or.inl rfl⟩
theorem xf_X7_315 : xFL RX7 315 2 0 := ⟨RX2, TX2, 3, "RentStream$HeatShare", rfl, xin2, by decide, xw469, Or.inl rfl⟩
theorem xp_X7_359 : xFP RX7 359 0 3 .int false := ⟨RX0, TX0, 4, "RentStream$Bill", tyX0, rfl, xin0, by decide, xw155, Or.inl rfl, tyX0_ok, nmX0, rfl, by decide +kernel, fun h => nomatch h⟩
theorem xc_X7_makeBill_43 : xLIN k_X7_makeBill k_X0_init 43 yX0_init 0 := ⟨List.mem_of_getElem? (i := 0) rfl, List.forall_mem_cons.mpr ⟨xw142, List.forall_mem_cons.mpr ⟨xw38, fun _ h => absurd h List.not_mem_nil⟩⟩, xw143, rfl, ⟨⟨by decide +kernel, by decide +kernel, by decide +kernel⟩, by decide, by decide⟩⟩
theorem xc_X7_makeBill_216 : xLV k_X7_makeBill k_X7_settle 216 RX7 yX7_settle none 3 := ⟨List.forall_mem_cons.mpr ⟨xw753, List.forall_mem_cons.mpr ⟨xw755, List.forall_mem_cons.mpr ⟨xw25, List.forall_mem_cons.mpr ⟨xw29, fun _ h => absurd h List.not_mem_nil⟩⟩⟩⟩, xw756, ⟨⟨by decide +kernel, by decide +kernel, by decide +kernel⟩, by decide, by decide⟩⟩
theorem xc_X7_makeBill_288 : xLV k_X7_makeBill k_X3_putBill 288 RX3 yX3_putBill none 2 := ⟨List.forall_mem_cons.mpr ⟨xw770, List.forall_mem_cons.mpr ⟨xw771, List.forall_mem_cons.mpr ⟨xw772, List.forall_mem_cons.mpr ⟨xw52, fun _ h => absurd h List.not_mem_nil⟩⟩⟩⟩, xw773, ⟨⟨by decide +kernel, by decide +kernel, by decide +kernel⟩, by decide, by decide⟩⟩
theorem xc_X7_makeBill_220 : xLV k_X7_makeBill k_X0_ofTenant 220 RX0 yX0_ofTenant (some .int) 0 := ⟨List.forall_mem_cons.mpr ⟨xw774, List.forall_mem_cons.mpr ⟨xw775, List.forall_mem_cons.mpr ⟨xw776, List.forall_mem_cons.mpr ⟨xw38, fun _ h => absurd h List.not_mem_nil⟩⟩⟩⟩, xw777, ⟨⟨by decide +kernel, by decide +kernel, by decide +kernel⟩, by decide, by decide⟩⟩
theorem xc_X7_makeBill_172 : xLV k_X7_makeBill k_X7_postToTenant 172 RX7 yX7_postToTenant none 2 := ⟨List.forall_mem_cons.mpr ⟨xw640, List.forall_mem_cons.mpr ⟨xw642, List.forall_mem_cons.mpr ⟨xw13, List.forall_mem_cons.mpr ⟨xw29, fun _ h => absurd h List.not_mem_nil⟩⟩⟩⟩, xw643, ⟨⟨by decide +kernel, by decide +kernel, by decide +kernel⟩, by decide, by decide⟩⟩
theorem xf_X7_292 : xFL RX7 292 0 2 := ⟨RX0, TX0, 4, "RentStream$Bill", rfl, xin0, by decide, xw153, Or.inl rfl⟩
theorem xc_X7_makeBill_176 : xLV k_X7_makeBill k_X7_postToDesk 176 RX7 yX7_postToDesk none 2 := ⟨List.forall_mem_cons.mpr ⟨xw644, List.forall_mem_cons.mpr ⟨xw646, List.forall_mem_cons.mpr ⟨xw14, List.forall_mem_cons.mpr ⟨xw29, fun _ h => absurd h List.not_mem_nil⟩⟩⟩⟩, xw647, ⟨⟨by decide +kernel, by decide +kernel, by decide +kernel⟩, by decide, by decide⟩⟩
theorem xf_X2_16 : xFL RX2 16 2 2 := ⟨RX2, TX2, 3, "RentStream$HeatShare", rfl, xin2, by decide, xw472, Or.inl rfl⟩
theorem xf_X2_7 : xFL RX2 7 2 0 := ⟨RX2, TX2, 3, "RentStream$HeatShare", rfl, xin2, by decide, xw468, Or.inl rfl⟩
theorem xp_X2_7 : xFP RX2 7 2 0 .int false := ⟨RX2, TX2, 3, "RentStream$HeatShare", tyX2, rfl, xin2, by decide, xw468, Or.inl rfl, tyX2_ok, nmX2, rfl, by decide +kernel, fun h => nomatch h⟩
theorem xp_X2_16 : xFP RX2 16 2 2 .long false := ⟨RX2, TX2, 3, "RentStream$HeatShare", tyX2, rfl, xin2, by decide, xw472, Or.inl rfl, tyX2_ok, nmX2, rfl, by decide +kernel, fun h => nomatch h⟩
theorem xc_X7_giveOneMore_66 : xLV k_X7_giveOneMore k_Jx4a65c_size_8abf5 66 RJx4a65c yJx4a65c_size_8abf5 (some .int) 0 := ⟨List.forall_mem_cons.mpr ⟨xw269, List.forall_mem_cons.mpr ⟨xw270, List.forall_mem_cons.mpr ⟨xw271, List.forall_mem_cons.mpr ⟨xw32, fun _ h => absurd h List.not_mem_nil⟩⟩⟩⟩, xw272, ⟨⟨by decide +kernel, by decide +kernel, by decide +kernel⟩, by decide, by decide⟩⟩
theorem xc_X7_giveOneMore_347 : xLV k_X7_giveOneMore k_X2_takeOneMore 347 RX2 yX2_takeOneMore none 0 := ⟨List.forall_mem_cons.mpr ⟨xw738, List.forall_mem_cons.mpr ⟨xw739, List.forall_mem_cons.mpr ⟨xw740, List.forall_mem_cons.mpr ⟨xw54, fun _ h => absurd h List.not_mem_nil⟩⟩⟩⟩, xw741, ⟨⟨by decide +kernel, by decide +kernel, by decide +kernel⟩, by decide, by decide⟩⟩
theorem xc_X7_giveOneMore_149 : xLV k_X7_giveOneMore k_Jx4a65c_get_915e3 149 RJx4a65c yJx4a65c_get_915e3 (some (.object "java/lang/Object")) 1 := ⟨List.forall_mem_cons.mpr ⟨xw409, List.forall_mem_cons.mpr ⟨xw410, List.forall_mem_cons.mpr ⟨xw411, List.forall_mem_cons.mpr ⟨xw32, fun _ h => absurd h List.not_mem_nil⟩⟩⟩⟩, xw412, ⟨⟨by decide +kernel, by decide +kernel, by decide +kernel⟩, by decide, by decide⟩⟩
theorem xc_X7_giveOneMore_343 : xLV k_X7_giveOneMore k_X2_isAheadOf 343 RX2 yX2_isAheadOf (some .boolean) 1 := ⟨List.forall_mem_cons.mpr ⟨xw734, List.forall_mem_cons.mpr ⟨xw735, List.forall_mem_cons.mpr ⟨xw736, List.forall_mem_cons.mpr ⟨xw54, fun _ h => absurd h List.not_mem_nil⟩⟩⟩⟩, xw737, ⟨⟨by decide +kernel, by decide +kernel, by decide +kernel⟩, by decide, by decide⟩⟩
theorem xc_X7_giveOneMore_339 : xLV k_X7_giveOneMore k_Jx4a65c_isEmpty_aae02 339 RJx4a65c yJx4a65c_isEmpty_aae02 (some .boolean) 0 := ⟨List.forall_mem_cons.mpr ⟨xw730, List.forall_mem_cons.mpr ⟨xw731, List.forall_mem_cons.mpr ⟨xw732, List.forall_mem_cons.mpr ⟨xw32, fun _ h => absurd h List.not_mem_nil⟩⟩⟩⟩, xw733, ⟨⟨by decide +kernel, by decide +kernel, by decide +kernel⟩, by decide, by decide⟩⟩
theorem xf_X2_13 : xFL RX2 13 2 1 := ⟨RX2, TX2, 3, "RentStream$HeatShare", rfl, xin2, by decide, xw470, Or.inl rfl⟩
theorem xc_X7_shareByWeights_336 : xLV k_X7_shareByWeights k_X7_giveOneMore 336 RX7 yX7_giveOneMore none 0 := ⟨List.forall_mem_cons.mpr ⟨xw726, List.forall_mem_cons.mpr ⟨xw728, List.forall_mem_cons.mpr ⟨xw23, List.forall_mem_cons.mpr ⟨xw29, fun _ h => absurd h List.not_mem_nil⟩⟩⟩⟩, xw729, ⟨⟨by decide +kernel, by decide +kernel, by decide +kernel⟩, by decide, by decide⟩⟩
theorem xc_X7_shareByWeights_66 : xLV k_X7_shareByWeights k_Jx4a65c_size_8abf5 66 RJx4a65c yJx4a65c_size_8abf5 (some .int) 0 := ⟨List.forall_mem_cons.mpr ⟨xw269, List.forall_mem_cons.mpr ⟨xw270, List.forall_mem_cons.mpr ⟨xw271, List.forall_mem_cons.mpr ⟨xw32, fun _ h => absurd h List.not_mem_nil⟩⟩⟩⟩, xw272, ⟨⟨by decide +kernel, by decide +kernel, by decide +kernel⟩, by decide, by decide⟩⟩
theorem xc_X7_shareByWeights_149 : xLV k_X7_shareByWeights k_Jx4a65c_get_915e3 149 RJx4a65c yJx4a65c_get_915e3 (some (.object "java/lang/Object")) 1 := ⟨List.forall_mem_cons.mpr ⟨xw409, List.forall_mem_cons.mpr ⟨xw410, List.forall_mem_cons.mpr ⟨xw411, List.forall_mem_cons.mpr ⟨xw32, fun _ h => absurd h List.not_mem_nil⟩⟩⟩⟩, xw412, ⟨⟨by decide +kernel, by decide +kernel, by decide +kernel⟩, by decide, by decide⟩⟩
theorem xc_X7_shareByWeights_332 : xLV k_X7_shareByWeights k_X2_takeWhole 332 RX2 yX2_takeWhole (some .int) 2 := ⟨List.forall_mem_cons.mpr ⟨xw722, List.forall_mem_cons.mpr ⟨xw723, List.forall_mem_cons.mpr ⟨xw724, List.forall_mem_cons.mpr ⟨xw54, fun _ h => absurd h List.not_mem_nil⟩⟩⟩⟩, xw725, ⟨⟨by decide +kernel, by decide +kernel, by decide +kernel⟩, by decide, by decide⟩⟩
theorem xf_X7_323 : xFL RX7 323 2 1 := ⟨RX2, TX2, 3, "RentStream$HeatShare", rfl, xin2, by decide, xw471, Or.inl rfl⟩
theorem xc_X3_useIn_64 : xLV k_X3_useIn k_X3_runsIn 64 RX3 yX3_runsIn (some .boolean) 1 := ⟨List.forall_mem_cons.mpr ⟨xw713, List.forall_mem_cons.mpr ⟨xw714, List.forall_mem_cons.mpr ⟨xw715, List.forall_mem_cons.mpr ⟨xw52, fun _ h => absurd h List.not_mem_nil⟩⟩⟩⟩, xw716, ⟨⟨by decide +kernel, by decide +kernel, by decide +kernel⟩, by decide, by decide⟩⟩
theorem xf_X3_54 : xFL RX3 54 3 0 := ⟨RX3, TX3, 11, "RentStream$Lease", rfl, xin3, by decide, xw482, Or.inl rfl⟩
theorem xf_X3_68 : xFL RX3 68 1 1 := ⟨RX1, TX1, 6, "RentStream$Flat", rfl, xin1, by decide, xw300, Or.inl rfl⟩
theorem xc_X3_useIn_73 : xLV k_X3_useIn k_X4_in 73 RX4 yX4_in (some .int) 1 := ⟨List.forall_mem_cons.mpr ⟨xw634, List.forall_mem_cons.mpr ⟨xw553, List.forall_mem_cons.mpr ⟨xw554, List.forall_mem_cons.mpr ⟨xw33, fun _ h => absurd h List.not_mem_nil⟩⟩⟩⟩, xw555, ⟨⟨by decide +kernel, by decide +kernel, by decide +kernel⟩, by decide, by decide⟩⟩
theorem xc_X7_usesOfAll_66 : xLV k_X7_usesOfAll k_Jx4a65c_size_8abf5 66 RJx4a65c yJx4a65c_size_8abf5 (some .int) 0 := ⟨List.forall_mem_cons.mpr ⟨xw269, List.forall_mem_cons.mpr ⟨xw270, List.forall_mem_cons.mpr ⟨xw271, List.forall_mem_cons.mpr ⟨xw32, fun _ h => absurd h List.not_mem_nil⟩⟩⟩⟩, xw272, ⟨⟨by decide +kernel, by decide +kernel, by decide +kernel⟩, by decide, by decide⟩⟩
theorem xc_X7_usesOfAll_149 : xLV k_X7_usesOfAll k_Jx4a65c_get_915e3 149 RJx4a65c yJx4a65c_get_915e3 (some (.object "java/lang/Object")) 1 := ⟨List.forall_mem_cons.mpr ⟨xw409, List.forall_mem_cons.mpr ⟨xw410, List.forall_mem_cons.mpr ⟨xw411, List.forall_mem_cons.mpr ⟨xw32, fun _ h => absurd h List.not_mem_nil⟩⟩⟩⟩, xw412, ⟨⟨by decide +kernel, by decide +kernel, by decide +kernel⟩, by decide, by decide⟩⟩
theorem xc_X7_usesOfAll_329 : xLV k_X7_usesOfAll k_X3_useIn 329 RX3 yX3_useIn (some .int) 1 := ⟨List.forall_mem_cons.mpr ⟨xw709, List.forall_mem_cons.mpr ⟨xw710, List.forall_mem_cons.mpr ⟨xw711, List.forall_mem_cons.mpr ⟨xw52, fun _ h => absurd h List.not_mem_nil⟩⟩⟩⟩, xw712, ⟨⟨by decide +kernel, by decide +kernel, by decide +kernel⟩, by decide, by decide⟩⟩
theorem xc_X7_shareHeat_66 : xLV k_X7_shareHeat k_Jx4a65c_size_8abf5 66 RJx4a65c yJx4a65c_size_8abf5 (some .int) 0 := ⟨List.forall_mem_cons.mpr ⟨xw269, List.forall_mem_cons.mpr ⟨xw270, List.forall_mem_cons.mpr ⟨xw271, List.forall_mem_cons.mpr ⟨xw32, fun _ h => absurd h List.not_mem_nil⟩⟩⟩⟩, xw272, ⟨⟨by decide +kernel, by decide +kernel, by decide +kernel⟩, by decide, by decide⟩⟩
theorem xc_X7_shareHeat_326 : xLV k_X7_shareHeat k_X7_shareByWeights 326 RX7 yX7_shareByWeights none 1 := ⟨List.forall_mem_cons.mpr ⟨xw718, List.forall_mem_cons.mpr ⟨xw720, List.forall_mem_cons.mpr ⟨xw22, List.forall_mem_cons.mpr ⟨xw29, fun _ h => absurd h List.not_mem_nil⟩⟩⟩⟩, xw721, ⟨⟨by decide +kernel, by decide +kernel, by decide +kernel⟩, by decide, by decide⟩⟩
theorem xc_X7_shareHeat_149 : xLV k_X7_shareHeat k_Jx4a65c_get_915e3 149 RJx4a65c yJx4a65c_get_915e3 (some (.object "java/lang/Object")) 1 := ⟨List.forall_mem_cons.mpr ⟨xw409, List.forall_mem_cons.mpr ⟨xw410, List.forall_mem_cons.mpr ⟨xw411, List.forall_mem_cons.mpr ⟨xw32, fun _ h => absurd h List.not_mem_nil⟩⟩⟩⟩, xw412, ⟨⟨by decide +kernel, by decide +kernel, by decide +kernel⟩, by decide, by decide⟩⟩
theorem xc_X7_shareHeat_329 : xLV k_X7_shareHeat k_X3_useIn 329 RX3 yX3_useIn (some .int) 1 := ⟨List.forall_mem_cons.mpr ⟨xw709, List.forall_mem_cons.mpr ⟨xw710, List.forall_mem_cons.mpr ⟨xw711, List.forall_mem_cons.mpr ⟨xw52, fun _ h => absurd h List.not_mem_nil⟩⟩⟩⟩, xw712, ⟨⟨by decide +kernel, by decide +kernel, by decide +kernel⟩, by decide, by decide⟩⟩
theorem xp_X7_323 : xFP RX7 323 2 1 .int false := ⟨RX2, TX2, 3, "RentStream$HeatShare", tyX2, rfl, xin2, by decide, xw471, Or.inl rfl, tyX2_ok, nmX2, rfl, by decide +kernel, fun h => nomatch h⟩
theorem xp_X7_315 : xFP RX7 315 2 0 .int false := ⟨RX2, TX2, 3, "RentStream$HeatShare", tyX2, rfl, xin2, by decide, xw469, Or.inl rfl, tyX2_ok, nmX2, rfl, by decide +kernel, fun h => nomatch h⟩
theorem xc_X7_shareHeat_209 : xLV k_X7_shareHeat k_X3_runsIn 209 RX3 yX3_runsIn (some .boolean) 1 := ⟨List.forall_mem_cons.mpr ⟨xw717, List.forall_mem_cons.mpr ⟨xw714, List.forall_mem_cons.mpr ⟨xw715, List.forall_mem_cons.mpr ⟨xw52, fun _ h => absurd h List.not_mem_nil⟩⟩⟩⟩, xw716, ⟨⟨by decide +kernel, by decide +kernel, by decide +kernel⟩, by decide, by decide⟩⟩
theorem xf_X7_320 : xFL RX7 320 1 0 := ⟨RX1, TX1, 6, "RentStream$Flat", rfl, xin1, by decide, xw298, Or.inl rfl⟩
theorem xf_X7_31 : xFL RX7 31 7 4 := ⟨RX7, TX7, 10, "RentStream", rfl, xin7, by decide, xw169, Or.inl rfl⟩
theorem xc_X7_shareHeat_114 : xLV k_X7_shareHeat k_X4_in 114 RX4 yX4_in (some .int) 1 := ⟨List.forall_mem_cons.mpr ⟨xw552, List.forall_mem_cons.mpr ⟨xw553, List.forall_mem_cons.mpr ⟨xw554, List.forall_mem_cons.mpr ⟨xw33, fun _ h => absurd h List.not_mem_nil⟩⟩⟩⟩, xw555, ⟨⟨by decide +kernel, by decide +kernel, by decide +kernel⟩, by decide, by decide⟩⟩
theorem xc_X7_shareHeat_307 : xLV k_X7_shareHeat k_X7_usesOfAll 307 RX7 yX7_usesOfAll (some .long) 1 := ⟨List.forall_mem_cons.mpr ⟨xw705, List.forall_mem_cons.mpr ⟨xw707, List.forall_mem_cons.mpr ⟨xw21, List.forall_mem_cons.mpr ⟨xw29, fun _ h => absurd h List.not_mem_nil⟩⟩⟩⟩, xw708, ⟨⟨by decide +kernel, by decide +kernel, by decide +kernel⟩, by decide, by decide⟩⟩
theorem xf_X1_14 : xFL RX1 14 1 1 := ⟨RX1, TX1, 6, "RentStream$Flat", rfl, xin1, by decide, xw299, Or.inl rfl⟩
theorem xc_X1_guessedUse_50 : xLV k_X1_guessedUse k_X4_in 50 RX4 yX4_in (some .int) 1 := ⟨List.forall_mem_cons.mpr ⟨xw699, List.forall_mem_cons.mpr ⟨xw553, List.forall_mem_cons.mpr ⟨xw554, List.forall_mem_cons.mpr ⟨xw33, fun _ h => absurd h List.not_mem_nil⟩⟩⟩⟩, xw555, ⟨⟨by decide +kernel, by decide +kernel, by decide +kernel⟩, by decide, by decide⟩⟩
theorem xf_X1_30 : xFL RX1 30 1 5 := ⟨RX1, TX1, 6, "RentStream$Flat", rfl, xin1, by decide, xw308, Or.inl rfl⟩
theorem xc_X1_findUse_42 : xLV k_X1_findUse k_X1_guessedUse 42 RX1 yX1_guessedUse (some .int) 1 := ⟨List.forall_mem_cons.mpr ⟨xw695, List.forall_mem_cons.mpr ⟨xw697, List.forall_mem_cons.mpr ⟨xw19, List.forall_mem_cons.mpr ⟨xw44, fun _ h => absurd h List.not_mem_nil⟩⟩⟩⟩, xw698, ⟨⟨by decide +kernel, by decide +kernel, by decide +kernel⟩, by decide, by decide⟩⟩
theorem xc_X1_findUse_46 : xLV k_X1_findUse k_X4_put 46 RX4 yX4_put none 2 := ⟨List.forall_mem_cons.mpr ⟨xw700, List.forall_mem_cons.mpr ⟨xw574, List.forall_mem_cons.mpr ⟨xw575, List.forall_mem_cons.mpr ⟨xw33, fun _ h => absurd h List.not_mem_nil⟩⟩⟩⟩, xw576, ⟨⟨by decide +kernel, by decide +kernel, by decide +kernel⟩, by decide, by decide⟩⟩
theorem xf_X1_27 : xFL RX1 27 1 4 := ⟨RX1, TX1, 6, "RentStream$Flat", rfl, xin1, by decide, xw307, Or.inl rfl⟩
theorem xp_X1_27 : xFP RX1 27 1 4 .int false := ⟨RX1, TX1, 6, "RentStream$Flat", tyX1, rfl, xin1, by decide, xw307, Or.inl rfl, tyX1_ok, nmX1, rfl, by decide +kernel, fun h => nomatch h⟩
theorem xf_X1_23 : xFL RX1 23 1 3 := ⟨RX1, TX1, 6, "RentStream$Flat", rfl, xin1, by decide, xw305, Or.inl rfl⟩
theorem xlm_X1_36 : xLM RX1 36 Lib.Math.max.name Lib.Math.max.code 2 .int := ⟨xw694, xw342, xw46, xw343⟩
theorem xf_X5_9 : xFL RX5 9 5 0 := ⟨RX5, TX5, 4, "RentStream$Plan", rfl, xin5, by decide, xw448, Or.inl rfl⟩
theorem xf_X5_22 : xFL RX5 22 5 3 := ⟨RX5, TX5, 4, "RentStream$Plan", rfl, xin5, by decide, xw452, Or.inl rfl⟩
theorem xp_X5_22 : xFP RX5 22 5 3 .int false := ⟨RX5, TX5, 4, "RentStream$Plan", tyX5, rfl, xin5, by decide, xw452, Or.inl rfl, tyX5_ok, nmX5, rfl, by decide +kernel, fun h => nomatch h⟩
theorem xf_X5_15 : xFL RX5 15 5 1 := ⟨RX5, TX5, 4, "RentStream$Plan", rfl, xin5, by decide, xw450, Or.inl rfl⟩
theorem xf_X5_19 : xFL RX5 19 5 2 := ⟨RX5, TX5, 4, "RentStream$Plan", rfl, xin5, by decide, xw451, Or.inl rfl⟩
theorem xlm_X5_25 : xLM RX5 25 Lib.MathLoose.max_long.x Lib.MathLoose.max_long.code 4 .long := ⟨xw746, xw747, xw46, xw748⟩
theorem xp_X5_9 : xFP RX5 9 5 0 .int false := ⟨RX5, TX5, 4, "RentStream$Plan", tyX5, rfl, xin5, by decide, xw448, Or.inl rfl, tyX5_ok, nmX5, rfl, by decide +kernel, fun h => nomatch h⟩
theorem xc_X7_endMonth_66 : xLV k_X7_endMonth k_Jx4a65c_size_8abf5 66 RJx4a65c yJx4a65c_size_8abf5 (some .int) 0 := ⟨List.forall_mem_cons.mpr ⟨xw269, List.forall_mem_cons.mpr ⟨xw270, List.forall_mem_cons.mpr ⟨xw271, List.forall_mem_cons.mpr ⟨xw32, fun _ h => absurd h List.not_mem_nil⟩⟩⟩⟩, xw272, ⟨⟨by decide +kernel, by decide +kernel, by decide +kernel⟩, by decide, by decide⟩⟩
theorem xc_X7_endMonth_149 : xLV k_X7_endMonth k_Jx4a65c_get_915e3 149 RJx4a65c yJx4a65c_get_915e3 (some (.object "java/lang/Object")) 1 := ⟨List.forall_mem_cons.mpr ⟨xw409, List.forall_mem_cons.mpr ⟨xw410, List.forall_mem_cons.mpr ⟨xw411, List.forall_mem_cons.mpr ⟨xw32, fun _ h => absurd h List.not_mem_nil⟩⟩⟩⟩, xw412, ⟨⟨by decide +kernel, by decide +kernel, by decide +kernel⟩, by decide, by decide⟩⟩
theorem xf_X7_187 : xFL RX7 187 3 3 := ⟨RX3, TX3, 11, "RentStream$Lease", rfl, xin3, by decide, xw489, Or.inl rfl⟩
theorem xc_X7_endMonth_281 : xLV k_X7_endMonth k_X5_endMonth 281 RX5 yX5_endMonth none 1 := ⟨List.forall_mem_cons.mpr ⟨xw742, List.forall_mem_cons.mpr ⟨xw743, List.forall_mem_cons.mpr ⟨xw744, List.forall_mem_cons.mpr ⟨xw53, fun _ h => absurd h List.not_mem_nil⟩⟩⟩⟩, xw745, ⟨⟨by decide +kernel, by decide +kernel, by decide +kernel⟩, by decide, by decide⟩⟩
theorem xc_X7_endMonth_209 : xLV k_X7_endMonth k_X3_runsIn 209 RX3 yX3_runsIn (some .boolean) 1 := ⟨List.forall_mem_cons.mpr ⟨xw717, List.forall_mem_cons.mpr ⟨xw714, List.forall_mem_cons.mpr ⟨xw715, List.forall_mem_cons.mpr ⟨xw52, fun _ h => absurd h List.not_mem_nil⟩⟩⟩⟩, xw716, ⟨⟨by decide +kernel, by decide +kernel, by decide +kernel⟩, by decide, by decide⟩⟩
theorem xc_X7_endMonth_284 : xLV k_X7_endMonth k_X7_makeBill 284 RX7 yX7_makeBill none 2 := ⟨List.forall_mem_cons.mpr ⟨xw749, List.forall_mem_cons.mpr ⟨xw751, List.forall_mem_cons.mpr ⟨xw24, List.forall_mem_cons.mpr ⟨xw29, fun _ h => absurd h List.not_mem_nil⟩⟩⟩⟩, xw752, ⟨⟨by decide +kernel, by decide +kernel, by decide +kernel⟩, by decide, by decide⟩⟩
theorem xf_X7_10 : xFL RX7 10 7 0 := ⟨RX7, TX7, 10, "RentStream", rfl, xin7, by decide, xw165, Or.inl rfl⟩
theorem xc_X7_endMonth_213 : xLV k_X7_endMonth k_X7_shareHeat 213 RX7 yX7_shareHeat none 1 := ⟨List.forall_mem_cons.mpr ⟨xw701, List.forall_mem_cons.mpr ⟨xw703, List.forall_mem_cons.mpr ⟨xw20, List.forall_mem_cons.mpr ⟨xw29, fun _ h => absurd h List.not_mem_nil⟩⟩⟩⟩, xw704, ⟨⟨by decide +kernel, by decide +kernel, by decide +kernel⟩, by decide, by decide⟩⟩
theorem xc_X7_endMonth_278 : xLV k_X7_endMonth k_X1_findUse 278 RX1 yX1_findUse none 1 := ⟨List.forall_mem_cons.mpr ⟨xw690, List.forall_mem_cons.mpr ⟨xw691, List.forall_mem_cons.mpr ⟨xw692, List.forall_mem_cons.mpr ⟨xw44, fun _ h => absurd h List.not_mem_nil⟩⟩⟩⟩, xw693, ⟨⟨by decide +kernel, by decide +kernel, by decide +kernel⟩, by decide, by decide⟩⟩
theorem xf_X6_23 : xFL RX6 23 6 3 := ⟨RX6, TX6, 5, "RentStream$Repair", rfl, xin6, by decide, xw594, Or.inl rfl⟩
theorem xf_X6_9 : xFL RX6 9 6 0 := ⟨RX6, TX6, 5, "RentStream$Repair", rfl, xin6, by decide, xw589, Or.inl rfl⟩
theorem xf_X6_26 : xFL RX6 26 6 4 := ⟨RX6, TX6, 5, "RentStream$Repair", rfl, xin6, by decide, xw595, Or.inl rfl⟩
theorem xc_X6_takePoints_29 : xLV k_X6_takePoints k_X6_clock 29 RX6 yX6_clock (some .int) 0 := ⟨List.forall_mem_cons.mpr ⟨xw676, List.forall_mem_cons.mpr ⟨xw678, List.forall_mem_cons.mpr ⟨xw16, List.forall_mem_cons.mpr ⟨xw55, fun _ h => absurd h List.not_mem_nil⟩⟩⟩⟩, xw679, ⟨⟨by decide +kernel, by decide +kernel, by decide +kernel⟩, by decide, by decide⟩⟩
theorem xf_X6_19 : xFL RX6 19 6 2 := ⟨RX6, TX6, 5, "RentStream$Repair", rfl, xin6, by decide, xw593, Or.inl rfl⟩
theorem xf_X6_33 : xFL RX6 33 1 2 := ⟨RX1, TX1, 6, "RentStream$Flat", rfl, xin1, by decide, xw303, Or.inl rfl⟩
theorem xc_X6_takePoints_39 : xLV k_X6_takePoints k_X4_in 39 RX4 yX4_in (some .int) 1 := ⟨List.forall_mem_cons.mpr ⟨xw680, List.forall_mem_cons.mpr ⟨xw553, List.forall_mem_cons.mpr ⟨xw554, List.forall_mem_cons.mpr ⟨xw33, fun _ h => absurd h List.not_mem_nil⟩⟩⟩⟩, xw555, ⟨⟨by decide +kernel, by decide +kernel, by decide +kernel⟩, by decide, by decide⟩⟩
theorem xc_X6_takePoints_45 : xLV k_X6_takePoints k_X6_pointsADay 45 RX6 yX6_pointsADay (some .int) 0 := ⟨List.forall_mem_cons.mpr ⟨xw681, List.forall_mem_cons.mpr ⟨xw683, List.forall_mem_cons.mpr ⟨xw17, List.forall_mem_cons.mpr ⟨xw55, fun _ h => absurd h List.not_mem_nil⟩⟩⟩⟩, xw684, ⟨⟨by decide +kernel, by decide +kernel, by decide +kernel⟩, by decide, by decide⟩⟩
theorem xc_X6_takePoints_48 : xLV k_X6_takePoints k_X4_put 48 RX4 yX4_put none 2 := ⟨List.forall_mem_cons.mpr ⟨xw685, List.forall_mem_cons.mpr ⟨xw574, List.forall_mem_cons.mpr ⟨xw575, List.forall_mem_cons.mpr ⟨xw33, fun _ h => absurd h List.not_mem_nil⟩⟩⟩⟩, xw576, ⟨⟨by decide +kernel, by decide +kernel, by decide +kernel⟩, by decide, by decide⟩⟩
theorem xf_X6_15 : xFL RX6 15 6 1 := ⟨RX6, TX6, 5, "RentStream$Repair", rfl, xin6, by decide, xw591, Or.inl rfl⟩
theorem xp_X6_15 : xFP RX6 15 6 1 .int false := ⟨RX6, TX6, 5, "RentStream$Repair", tyX6, rfl, xin6, by decide, xw591, Or.inl rfl, tyX6_ok, nmX6, rfl, by decide +kernel, fun h => nomatch h⟩
theorem xf_X7_19 : xFL RX7 19 7 2 := ⟨RX7, TX7, 10, "RentStream", rfl, xin7, by decide, xw167, Or.inl rfl⟩
theorem xc_X7_endDay_66 : xLV k_X7_endDay k_Jx4a65c_size_8abf5 66 RJx4a65c yJx4a65c_size_8abf5 (some .int) 0 := ⟨List.forall_mem_cons.mpr ⟨xw269, List.forall_mem_cons.mpr ⟨xw270, List.forall_mem_cons.mpr ⟨xw271, List.forall_mem_cons.mpr ⟨xw32, fun _ h => absurd h List.not_mem_nil⟩⟩⟩⟩, xw272, ⟨⟨by decide +kernel, by decide +kernel, by decide +kernel⟩, by decide, by decide⟩⟩
theorem xc_X7_endDay_97 : xLV k_X7_endDay k_X7_monthNow 97 RX7 yX7_monthNow (some .int) 0 := ⟨List.forall_mem_cons.mpr ⟨xw432, List.forall_mem_cons.mpr ⟨xw434, List.forall_mem_cons.mpr ⟨xw10, List.forall_mem_cons.mpr ⟨xw29, fun _ h => absurd h List.not_mem_nil⟩⟩⟩⟩, xw435, ⟨⟨by decide +kernel, by decide +kernel, by decide +kernel⟩, by decide, by decide⟩⟩
theorem xc_X7_endDay_272 : xLV k_X7_endDay k_X7_endMonth 272 RX7 yX7_endMonth none 1 := ⟨List.forall_mem_cons.mpr ⟨xw686, List.forall_mem_cons.mpr ⟨xw688, List.forall_mem_cons.mpr ⟨xw18, List.forall_mem_cons.mpr ⟨xw29, fun _ h => absurd h List.not_mem_nil⟩⟩⟩⟩, xw689, ⟨⟨by decide +kernel, by decide +kernel, by decide +kernel⟩, by decide, by decide⟩⟩
theorem xc_X7_endDay_275 : xLV k_X7_endDay k_X7_beginMonth 275 RX7 yX7_beginMonth none 1 := ⟨List.forall_mem_cons.mpr ⟨xw778, List.forall_mem_cons.mpr ⟨xw780, List.forall_mem_cons.mpr ⟨xw26, List.forall_mem_cons.mpr ⟨xw29, fun _ h => absurd h List.not_mem_nil⟩⟩⟩⟩, xw781, ⟨⟨by decide +kernel, by decide +kernel, by decide +kernel⟩, by decide, by decide⟩⟩
theorem xc_X7_endDay_149 : xLV k_X7_endDay k_Jx4a65c_get_915e3 149 RJx4a65c yJx4a65c_get_915e3 (some (.object "java/lang/Object")) 1 := ⟨List.forall_mem_cons.mpr ⟨xw409, List.forall_mem_cons.mpr ⟨xw410, List.forall_mem_cons.mpr ⟨xw411, List.forall_mem_cons.mpr ⟨xw32, fun _ h => absurd h List.not_mem_nil⟩⟩⟩⟩, xw412, ⟨⟨by decide +kernel, by decide +kernel, by decide +kernel⟩, by decide, by decide⟩⟩
theorem xc_X7_endDay_269 : xLV k_X7_endDay k_X6_takePoints 269 RX6 yX6_takePoints none 2 := ⟨List.forall_mem_cons.mpr ⟨xw672, List.forall_mem_cons.mpr ⟨xw673, List.forall_mem_cons.mpr ⟨xw674, List.forall_mem_cons.mpr ⟨xw55, fun _ h => absurd h List.not_mem_nil⟩⟩⟩⟩, xw675, ⟨⟨by decide +kernel, by decide +kernel, by decide +kernel⟩, by decide, by decide⟩⟩
theorem xn_X1_9 : xNL RX1 9 4 [.null] := ⟨RX4, TX4, 1, tyX4, rfl, xin4, xw295, xw96, xw33, tyX4_ok, by decide +kernel, rfl⟩
theorem xc_X1_init_11 : xLI k_X1_init k_X4_init 11 yX4_init 1 := ⟨List.forall_mem_cons.mpr ⟨xw296, List.forall_mem_cons.mpr ⟨xw98, List.forall_mem_cons.mpr ⟨xw33, fun _ h => absurd h List.not_mem_nil⟩⟩⟩, xw99, rfl, ⟨⟨by decide +kernel, by decide +kernel, by decide +kernel⟩, by decide, by decide⟩⟩
theorem xp_X1_14 : xFP RX1 14 1 1 (.object "RentStream$Months") true := ⟨RX1, TX1, 6, "RentStream$Flat", tyX1, rfl, xin1, by decide, xw299, Or.inl rfl, tyX1_ok, nmX1, rfl, by decide +kernel, fun _ => rfl⟩
theorem xp_X1_20 : xFP RX1 20 1 2 (.object "RentStream$Months") true := ⟨RX1, TX1, 6, "RentStream$Flat", tyX1, rfl, xin1, by decide, xw302, Or.inl rfl, tyX1_ok, nmX1, rfl, by decide +kernel, fun _ => rfl⟩
theorem xp_X1_23 : xFP RX1 23 1 3 .int false := ⟨RX1, TX1, 6, "RentStream$Flat", tyX1, rfl, xin1, by decide, xw305, Or.inl rfl, tyX1_ok, nmX1, rfl, by decide +kernel, fun h => nomatch h⟩
theorem xp_X1_30 : xFP RX1 30 1 5 .int false := ⟨RX1, TX1, 6, "RentStream$Flat", tyX1, rfl, xin1, by decide, xw308, Or.inl rfl, tyX1_ok, nmX1, rfl, by decide +kernel, fun h => nomatch h⟩
theorem xp_X1_33 : xFP RX1 33 1 0 .int true := ⟨RX1, TX1, 6, "RentStream$Flat", tyX1, rfl, xin1, by decide, xw297, Or.inl rfl, tyX1_ok, nmX1, rfl, by decide +kernel, fun _ => rfl⟩
theorem xlm_J7_304 : xLM RJ7 304 Lib.Math.min.name Lib.Math.min.code 2 .int := ⟨xw377, xw378, xw46, xw379⟩
theorem xlc_J7_150 : xLC RJ7 150 := ⟨xw380, xw382, xw381, xw48⟩
theorem xc_J7_copyOf_1904c_300 : xLS k_J7_copyOf_1904c k_J7_copyOf_6403c 300 yJ7_copyOf_6403c (some (.array (.object "java/lang/Object"))) 3 := ⟨List.forall_mem_cons.mpr ⟨xw371, List.forall_mem_cons.mpr ⟨xw372, List.forall_mem_cons.mpr ⟨xw47, fun _ h => absurd h List.not_mem_nil⟩⟩⟩, xw373, ⟨⟨by decide +kernel, by decide +kernel, by decide +kernel⟩, by decide, by decide⟩⟩
theorem xlm_J8_194 : xLM RJ8 194 Lib.Math.max.name Lib.Math.max.code 2 .int := ⟨xw341, xw342, xw46, xw343⟩
theorem xc_Jx4a65c_grow_92f84_73 : xLS k_Jx4a65c_grow_92f84 k_J8_newLength_cabcc 73 yJ8_newLength_cabcc (some .int) 3 := ⟨List.forall_mem_cons.mpr ⟨xw338, List.forall_mem_cons.mpr ⟨xw339, List.forall_mem_cons.mpr ⟨xw45, fun _ h => absurd h List.not_mem_nil⟩⟩⟩, xw340, ⟨⟨by decide +kernel, by decide +kernel, by decide +kernel⟩, by decide, by decide⟩⟩
theorem xc_Jx4a65c_grow_92f84_66 : xLS k_Jx4a65c_grow_92f84 k_J7_copyOf_1904c 66 yJ7_copyOf_1904c (some (.array (.object "java/lang/Object"))) 2 := ⟨List.forall_mem_cons.mpr ⟨xw348, List.forall_mem_cons.mpr ⟨xw349, List.forall_mem_cons.mpr ⟨xw47, fun _ h => absurd h List.not_mem_nil⟩⟩⟩, xw350, ⟨⟨by decide +kernel, by decide +kernel, by decide +kernel⟩, by decide, by decide⟩⟩
theorem xlm_Jx4a65c_79 : xLM RJx4a65c 79 Lib.Math.max.name Lib.Math.max.code 2 .int := ⟨xw383, xw342, xw46, xw343⟩
theorem xc_Jx4a65c_grow_d5877_69 : xLV k_Jx4a65c_grow_d5877 k_Jx4a65c_grow_92f84 69 RJx4a65c yJx4a65c_grow_92f84 (some (.array (.object "java/lang/Object"))) 1 := ⟨List.forall_mem_cons.mpr ⟨xw334, List.forall_mem_cons.mpr ⟨xw336, List.forall_mem_cons.mpr ⟨xw7, List.forall_mem_cons.mpr ⟨xw32, fun _ h => absurd h List.not_mem_nil⟩⟩⟩⟩, xw337, ⟨⟨by decide +kernel, by decide +kernel, by decide +kernel⟩, by decide, by decide⟩⟩
theorem xp_Jx4a65c_48 : xFP RJx4a65c 48 10 2 .int false := ⟨RJx4a65c, TJx4a65c, 3, "java/util/ArrayList", tyJx4a65c, rfl, xin10, by decide, xw84, Or.inl rfl, tyJx4a65c_ok, nmJx4a65c, rfl, by decide +kernel, fun h => nomatch h⟩
theorem xc_Jx4a65c_add_72be8_129 : xLV k_Jx4a65c_add_72be8 k_Jx4a65c_grow_d5877 129 RJx4a65c yJx4a65c_grow_d5877 (some (.array (.object "java/lang/Object"))) 0 := ⟨List.forall_mem_cons.mpr ⟨xw330, List.forall_mem_cons.mpr ⟨xw332, List.forall_mem_cons.mpr ⟨xw6, List.forall_mem_cons.mpr ⟨xw32, fun _ h => absurd h List.not_mem_nil⟩⟩⟩⟩, xw333, ⟨⟨by decide +kernel, by decide +kernel, by decide +kernel⟩, by decide, by decide⟩⟩
theorem xf_Jx4a65c_63 : xFL RJx4a65c 63 10 0 := ⟨RJx4a65c, TJx4a65c, 3, "java/util/ArrayList", rfl, xin10, by decide, xw86, Or.inr xw87⟩
theorem xp_Jx4a65c_63 : xFP RJx4a65c 63 10 0 .int false := ⟨RJx4a65c, TJx4a65c, 3, "java/util/ArrayList", tyJx4a65c, rfl, xin10, by decide, xw86, Or.inr xw87, tyJx4a65c_ok, nmJx4a65c, rfl, by decide +kernel, fun h => nomatch h⟩
theorem xc_Jx4a65c_add_9ea2d_131 : xLV k_Jx4a65c_add_9ea2d k_Jx4a65c_add_72be8 131 RJx4a65c yJx4a65c_add_72be8 none 3 := ⟨List.forall_mem_cons.mpr ⟨xw326, List.forall_mem_cons.mpr ⟨xw328, List.forall_mem_cons.mpr ⟨xw5, List.forall_mem_cons.mpr ⟨xw32, fun _ h => absurd h List.not_mem_nil⟩⟩⟩⟩, xw329, ⟨⟨by decide +kernel, by decide +kernel, by decide +kernel⟩, by decide, by decide⟩⟩
theorem xc_X7_flat_66 : xLV k_X7_flat k_Jx4a65c_size_8abf5 66 RJx4a65c yJx4a65c_size_8abf5 (some .int) 0 := ⟨List.forall_mem_cons.mpr ⟨xw269, List.forall_mem_cons.mpr ⟨xw270, List.forall_mem_cons.mpr ⟨xw271, List.forall_mem_cons.mpr ⟨xw32, fun _ h => absurd h List.not_mem_nil⟩⟩⟩⟩, xw272, ⟨⟨by decide +kernel, by decide +kernel, by decide +kernel⟩, by decide, by decide⟩⟩
theorem xn_X7_75 : xNL RX7 75 1 [.int 0, .null, .null, .int 0, .int 0, .int 0] := ⟨RX1, TX1, 6, tyX1, rfl, xin1, xw289, xw290, xw44, tyX1_ok, by decide +kernel, rfl⟩
theorem xc_X7_flat_77 : xLI k_X7_flat k_X1_init 77 yX1_init 1 := ⟨List.forall_mem_cons.mpr ⟨xw291, List.forall_mem_cons.mpr ⟨xw292, List.forall_mem_cons.mpr ⟨xw44, fun _ h => absurd h List.not_mem_nil⟩⟩⟩, xw293, rfl, ⟨⟨by decide +kernel, by decide +kernel, by decide +kernel⟩, by decide, by decide⟩⟩
theorem xc_X7_flat_78 : xLV k_X7_flat k_Jx4a65c_add_9ea2d 78 RJx4a65c yJx4a65c_add_9ea2d (some .boolean) 1 := ⟨List.forall_mem_cons.mpr ⟨xw322, List.forall_mem_cons.mpr ⟨xw323, List.forall_mem_cons.mpr ⟨xw324, List.forall_mem_cons.mpr ⟨xw32, fun _ h => absurd h List.not_mem_nil⟩⟩⟩⟩, xw325, ⟨⟨by decide +kernel, by decide +kernel, by decide +kernel⟩, by decide, by decide⟩⟩
theorem xc_X7_flatAt_66 : xLV k_X7_flatAt k_Jx4a65c_size_8abf5 66 RJx4a65c yJx4a65c_size_8abf5 (some .int) 0 := ⟨List.forall_mem_cons.mpr ⟨xw269, List.forall_mem_cons.mpr ⟨xw270, List.forall_mem_cons.mpr ⟨xw271, List.forall_mem_cons.mpr ⟨xw32, fun _ h => absurd h List.not_mem_nil⟩⟩⟩⟩, xw272, ⟨⟨by decide +kernel, by decide +kernel, by decide +kernel⟩, by decide, by decide⟩⟩
theorem xc_X7_flatAt_149 : xLV k_X7_flatAt k_Jx4a65c_get_915e3 149 RJx4a65c yJx4a65c_get_915e3 (some (.object "java/lang/Object")) 1 := ⟨List.forall_mem_cons.mpr ⟨xw409, List.forall_mem_cons.mpr ⟨xw410, List.forall_mem_cons.mpr ⟨xw411, List.forall_mem_cons.mpr ⟨xw32, fun _ h => absurd h List.not_mem_nil⟩⟩⟩⟩, xw412, ⟨⟨by decide +kernel, by decide +kernel, by decide +kernel⟩, by decide, by decide⟩⟩
theorem xc_X7_heat_97 : xLV k_X7_heat k_X7_monthNow 97 RX7 yX7_monthNow (some .int) 0 := ⟨List.forall_mem_cons.mpr ⟨xw432, List.forall_mem_cons.mpr ⟨xw434, List.forall_mem_cons.mpr ⟨xw10, List.forall_mem_cons.mpr ⟨xw29, fun _ h => absurd h List.not_mem_nil⟩⟩⟩⟩, xw435, ⟨⟨by decide +kernel, by decide +kernel, by decide +kernel⟩, by decide, by decide⟩⟩
theorem xc_X7_heat_114 : xLV k_X7_heat k_X4_in 114 RX4 yX4_in (some .int) 1 := ⟨List.forall_mem_cons.mpr ⟨xw552, List.forall_mem_cons.mpr ⟨xw553, List.forall_mem_cons.mpr ⟨xw554, List.forall_mem_cons.mpr ⟨xw33, fun _ h => absurd h List.not_mem_nil⟩⟩⟩⟩, xw555, ⟨⟨by decide +kernel, by decide +kernel, by decide +kernel⟩, by decide, by decide⟩⟩
theorem xc_X7_heat_133 : xLV k_X7_heat k_X4_put 133 RX4 yX4_put none 2 := ⟨List.forall_mem_cons.mpr ⟨xw573, List.forall_mem_cons.mpr ⟨xw574, List.forall_mem_cons.mpr ⟨xw575, List.forall_mem_cons.mpr ⟨xw33, fun _ h => absurd h List.not_mem_nil⟩⟩⟩⟩, xw576, ⟨⟨by decide +kernel, by decide +kernel, by decide +kernel⟩, by decide, by decide⟩⟩
theorem xc_X3_benefitsAnew_77 : xLV k_X3_benefitsAnew k_X3_billOf 77 RX3 yX3_billOf (some (.object "RentStream$Bill")) 1 := ⟨List.forall_mem_cons.mpr ⟨xw626, List.forall_mem_cons.mpr ⟨xw627, List.forall_mem_cons.mpr ⟨xw628, List.forall_mem_cons.mpr ⟨xw52, fun _ h => absurd h List.not_mem_nil⟩⟩⟩⟩, xw629, ⟨⟨by decide +kernel, by decide +kernel, by decide +kernel⟩, by decide, by decide⟩⟩
theorem xf_X3_81 : xFL RX3 81 0 0 := ⟨RX0, TX0, 4, "RentStream$Bill", rfl, xin0, by decide, xw146, Or.inl rfl⟩
theorem xf_X3_82 : xFL RX3 82 0 1 := ⟨RX0, TX0, 4, "RentStream$Bill", rfl, xin0, by decide, xw149, Or.inl rfl⟩
theorem xc_X3_benefitsAnew_85 : xLV k_X3_benefitsAnew k_X3_incomeIn 85 RX3 yX3_incomeIn (some .int) 1 := ⟨List.forall_mem_cons.mpr ⟨xw630, List.forall_mem_cons.mpr ⟨xw631, List.forall_mem_cons.mpr ⟨xw632, List.forall_mem_cons.mpr ⟨xw52, fun _ h => absurd h List.not_mem_nil⟩⟩⟩⟩, xw633, ⟨⟨by decide +kernel, by decide +kernel, by decide +kernel⟩, by decide, by decide⟩⟩
theorem xc_X3_benefitsAnew_88 : xLSN k_X3_benefitsAnew k_X7_benefitFor 88 yX7_benefitFor (some .int) 2 := ⟨List.mem_of_getElem? (i := 3) rfl, List.forall_mem_cons.mpr ⟨xw636, List.forall_mem_cons.mpr ⟨xw29, fun _ h => absurd h List.not_mem_nil⟩⟩, xw637, ⟨⟨by decide +kernel, by decide +kernel, by decide +kernel⟩, by decide, by decide⟩⟩
theorem xf_X3_92 : xFL RX3 92 0 2 := ⟨RX0, TX0, 4, "RentStream$Bill", rfl, xin0, by decide, xw152, Or.inl rfl⟩
theorem xp_X3_92 : xFP RX3 92 0 2 .int false := ⟨RX0, TX0, 4, "RentStream$Bill", tyX0, rfl, xin0, by decide, xw152, Or.inl rfl, tyX0_ok, nmX0, rfl, by decide +kernel, fun h => nomatch h⟩
theorem xc_X7_income_103 : xLV k_X7_income k_X7_leaseAt 103 RX7 yX7_leaseAt (some (.object "RentStream$Lease")) 1 := ⟨List.forall_mem_cons.mpr ⟨xw541, List.forall_mem_cons.mpr ⟨xw543, List.forall_mem_cons.mpr ⟨xw11, List.forall_mem_cons.mpr ⟨xw29, fun _ h => absurd h List.not_mem_nil⟩⟩⟩⟩, xw544, ⟨⟨by decide +kernel, by decide +kernel, by decide +kernel⟩, by decide, by decide⟩⟩
theorem xc_X7_income_162 : xLV k_X7_income k_X7_needMonth 162 RX7 yX7_needMonth none 1 := ⟨List.forall_mem_cons.mpr ⟨xw617, List.forall_mem_cons.mpr ⟨xw619, List.forall_mem_cons.mpr ⟨xw12, List.forall_mem_cons.mpr ⟨xw29, fun _ h => absurd h List.not_mem_nil⟩⟩⟩⟩, xw620, ⟨⟨by decide +kernel, by decide +kernel, by decide +kernel⟩, by decide, by decide⟩⟩
theorem xf_X7_165 : xFL RX7 165 3 2 := ⟨RX3, TX3, 11, "RentStream$Lease", rfl, xin3, by decide, xw487, Or.inl rfl⟩
theorem xc_X7_income_133 : xLV k_X7_income k_X4_put 133 RX4 yX4_put none 2 := ⟨List.forall_mem_cons.mpr ⟨xw573, List.forall_mem_cons.mpr ⟨xw574, List.forall_mem_cons.mpr ⟨xw575, List.forall_mem_cons.mpr ⟨xw33, fun _ h => absurd h List.not_mem_nil⟩⟩⟩⟩, xw576, ⟨⟨by decide +kernel, by decide +kernel, by decide +kernel⟩, by decide, by decide⟩⟩
theorem xc_X7_income_97 : xLV k_X7_income k_X7_monthNow 97 RX7 yX7_monthNow (some .int) 0 := ⟨List.forall_mem_cons.mpr ⟨xw432, List.forall_mem_cons.mpr ⟨xw434, List.forall_mem_cons.mpr ⟨xw10, List.forall_mem_cons.mpr ⟨xw29, fun _ h => absurd h List.not_mem_nil⟩⟩⟩⟩, xw435, ⟨⟨by decide +kernel, by decide +kernel, by decide +kernel⟩, by decide, by decide⟩⟩
theorem xc_X7_income_168 : xLV k_X7_income k_X3_benefitsAnew 168 RX3 yX3_benefitsAnew (some .long) 2 := ⟨List.forall_mem_cons.mpr ⟨xw622, List.forall_mem_cons.mpr ⟨xw623, List.forall_mem_cons.mpr ⟨xw624, List.forall_mem_cons.mpr ⟨xw52, fun _ h => absurd h List.not_mem_nil⟩⟩⟩⟩, xw625, ⟨⟨by decide +kernel, by decide +kernel, by decide +kernel⟩, by decide, by decide⟩⟩
theorem xc_X7_income_172 : xLV k_X7_income k_X7_postToTenant 172 RX7 yX7_postToTenant none 2 := ⟨List.forall_mem_cons.mpr ⟨xw640, List.forall_mem_cons.mpr ⟨xw642, List.forall_mem_cons.mpr ⟨xw13, List.forall_mem_cons.mpr ⟨xw29, fun _ h => absurd h List.not_mem_nil⟩⟩⟩⟩, xw643, ⟨⟨by decide +kernel, by decide +kernel, by decide +kernel⟩, by decide, by decide⟩⟩
theorem xc_X7_income_176 : xLV k_X7_income k_X7_postToDesk 176 RX7 yX7_postToDesk none 2 := ⟨List.forall_mem_cons.mpr ⟨xw644, List.forall_mem_cons.mpr ⟨xw646, List.forall_mem_cons.mpr ⟨xw14, List.forall_mem_cons.mpr ⟨xw29, fun _ h => absurd h List.not_mem_nil⟩⟩⟩⟩, xw647, ⟨⟨by decide +kernel, by decide +kernel, by decide +kernel⟩, by decide, by decide⟩⟩
theorem xc_X7_index_97 : xLV k_X7_index k_X7_monthNow 97 RX7 yX7_monthNow (some .int) 0 := ⟨List.forall_mem_cons.mpr ⟨xw432, List.forall_mem_cons.mpr ⟨xw434, List.forall_mem_cons.mpr ⟨xw10, List.forall_mem_cons.mpr ⟨xw29, fun _ h => absurd h List.not_mem_nil⟩⟩⟩⟩, xw435, ⟨⟨by decide +kernel, by decide +kernel, by decide +kernel⟩, by decide, by decide⟩⟩
theorem xc_X7_index_114 : xLV k_X7_index k_X4_in 114 RX4 yX4_in (some .int) 1 := ⟨List.forall_mem_cons.mpr ⟨xw552, List.forall_mem_cons.mpr ⟨xw553, List.forall_mem_cons.mpr ⟨xw554, List.forall_mem_cons.mpr ⟨xw33, fun _ h => absurd h List.not_mem_nil⟩⟩⟩⟩, xw555, ⟨⟨by decide +kernel, by decide +kernel, by decide +kernel⟩, by decide, by decide⟩⟩
theorem xc_X7_isLetOn_66 : xLV k_X7_isLetOn k_Jx4a65c_size_8abf5 66 RJx4a65c yJx4a65c_size_8abf5 (some .int) 0 := ⟨List.forall_mem_cons.mpr ⟨xw269, List.forall_mem_cons.mpr ⟨xw270, List.forall_mem_cons.mpr ⟨xw271, List.forall_mem_cons.mpr ⟨xw32, fun _ h => absurd h List.not_mem_nil⟩⟩⟩⟩, xw272, ⟨⟨by decide +kernel, by decide +kernel, by decide +kernel⟩, by decide, by decide⟩⟩
theorem xc_X7_isLetOn_149 : xLV k_X7_isLetOn k_Jx4a65c_get_915e3 149 RJx4a65c yJx4a65c_get_915e3 (some (.object "java/lang/Object")) 1 := ⟨List.forall_mem_cons.mpr ⟨xw409, List.forall_mem_cons.mpr ⟨xw410, List.forall_mem_cons.mpr ⟨xw411, List.forall_mem_cons.mpr ⟨xw32, fun _ h => absurd h List.not_mem_nil⟩⟩⟩⟩, xw412, ⟨⟨by decide +kernel, by decide +kernel, by decide +kernel⟩, by decide, by decide⟩⟩
theorem xp_X2_13 : xFP RX2 13 2 1 .int false := ⟨RX2, TX2, 3, "RentStream$HeatShare", tyX2, rfl, xin2, by decide, xw470, Or.inl rfl, tyX2_ok, nmX2, rfl, by decide +kernel, fun h => nomatch h⟩
theorem xp_X5_15 : xFP RX5 15 5 1 .long false := ⟨RX5, TX5, 4, "RentStream$Plan", tyX5, rfl, xin5, by decide, xw450, Or.inl rfl, tyX5_ok, nmX5, rfl, by decide +kernel, fun h => nomatch h⟩
theorem xp_X5_19 : xFP RX5 19 5 2 .long false := ⟨RX5, TX5, 4, "RentStream$Plan", tyX5, rfl, xin5, by decide, xw451, Or.inl rfl, tyX5_ok, nmX5, rfl, by decide +kernel, fun h => nomatch h⟩
theorem xp_X3_9 : xFP RX3 9 3 1 .int false := ⟨RX3, TX3, 11, "RentStream$Lease", tyX3, rfl, xin3, by decide, xw484, Or.inl rfl, tyX3_ok, nmX3, rfl, by decide +kernel, fun h => nomatch h⟩
theorem xn_X3_15 : xNL RX3 15 4 [.null] := ⟨RX4, TX4, 1, tyX4, rfl, xin4, xw440, xw96, xw33, tyX4_ok, by decide +kernel, rfl⟩
theorem xc_X3_init_17 : xLI k_X3_init k_X4_init 17 yX4_init 1 := ⟨List.forall_mem_cons.mpr ⟨xw441, List.forall_mem_cons.mpr ⟨xw98, List.forall_mem_cons.mpr ⟨xw33, fun _ h => absurd h List.not_mem_nil⟩⟩⟩, xw99, rfl, ⟨⟨by decide +kernel, by decide +kernel, by decide +kernel⟩, by decide, by decide⟩⟩
theorem xp_X3_20 : xFP RX3 20 3 2 (.object "RentStream$Months") true := ⟨RX3, TX3, 11, "RentStream$Lease", tyX3, rfl, xin3, by decide, xw486, Or.inl rfl, tyX3_ok, nmX3, rfl, by decide +kernel, fun _ => rfl⟩
theorem xn_X3_24 : xNL RX3 24 5 [.int 0, .long 0, .long 0, .int 0] := ⟨RX5, TX5, 4, tyX5, rfl, xin5, xw442, xw443, xw53, tyX5_ok, by decide +kernel, rfl⟩
theorem xc_X3_init_26 : xLIN k_X3_init k_X5_init 26 yX5_init 0 := ⟨List.mem_of_getElem? (i := 1) rfl, List.forall_mem_cons.mpr ⟨xw445, List.forall_mem_cons.mpr ⟨xw53, fun _ h => absurd h List.not_mem_nil⟩⟩, xw446, rfl, ⟨⟨by decide +kernel, by decide +kernel, by decide +kernel⟩, by decide, by decide⟩⟩
theorem xp_X3_27 : xFP RX3 27 3 3 (.object "RentStream$Plan") true := ⟨RX3, TX3, 11, "RentStream$Lease", tyX3, rfl, xin3, by decide, xw488, Or.inl rfl, tyX3_ok, nmX3, rfl, by decide +kernel, fun _ => rfl⟩
theorem xn_X3_31 : xNL RX3 31 2 [.int 0, .int 0, .long 0] := ⟨RX2, TX2, 3, tyX2, rfl, xin2, xw462, xw463, xw54, tyX2_ok, by decide +kernel, rfl⟩
theorem xc_X3_init_33 : xLIN k_X3_init k_X2_init 33 yX2_init 0 := ⟨List.mem_of_getElem? (i := 2) rfl, List.forall_mem_cons.mpr ⟨xw465, List.forall_mem_cons.mpr ⟨xw54, fun _ h => absurd h List.not_mem_nil⟩⟩, xw466, rfl, ⟨⟨by decide +kernel, by decide +kernel, by decide +kernel⟩, by decide, by decide⟩⟩
theorem xp_X3_34 : xFP RX3 34 3 4 (.object "RentStream$HeatShare") true := ⟨RX3, TX3, 11, "RentStream$Lease", tyX3, rfl, xin3, by decide, xw490, Or.inl rfl, tyX3_ok, nmX3, rfl, by decide +kernel, fun _ => rfl⟩
theorem xp_X3_38 : xFP RX3 38 3 5 .long false := ⟨RX3, TX3, 11, "RentStream$Lease", tyX3, rfl, xin3, by decide, xw492, Or.inl rfl, tyX3_ok, nmX3, rfl, by decide +kernel, fun h => nomatch h⟩
theorem xp_X3_42 : xFP RX3 42 3 6 .long false := ⟨RX3, TX3, 11, "RentStream$Lease", tyX3, rfl, xin3, by decide, xw494, Or.inl rfl, tyX3_ok, nmX3, rfl, by decide +kernel, fun h => nomatch h⟩
theorem xp_X3_45 : xFP RX3 45 3 7 .long false := ⟨RX3, TX3, 11, "RentStream$Lease", tyX3, rfl, xin3, by decide, xw496, Or.inl rfl, tyX3_ok, nmX3, rfl, by decide +kernel, fun h => nomatch h⟩
theorem xp_X3_50 : xFP RX3 50 3 10 (.array (.object "RentStream$Bill")) true := ⟨RX3, TX3, 11, "RentStream$Lease", tyX3, rfl, xin3, by decide, xw500, Or.inl rfl, tyX3_ok, nmX3, rfl, by decide +kernel, fun _ => rfl⟩
theorem xp_X3_54 : xFP RX3 54 3 0 (.object "RentStream$Flat") true := ⟨RX3, TX3, 11, "RentStream$Lease", tyX3, rfl, xin3, by decide, xw482, Or.inl rfl, tyX3_ok, nmX3, rfl, by decide +kernel, fun _ => rfl⟩
theorem xp_X3_58 : xFP RX3 58 3 8 .int true := ⟨RX3, TX3, 11, "RentStream$Lease", tyX3, rfl, xin3, by decide, xw498, Or.inl rfl, tyX3_ok, nmX3, rfl, by decide +kernel, fun _ => rfl⟩
theorem xp_X3_61 : xFP RX3 61 3 9 .int true := ⟨RX3, TX3, 11, "RentStream$Lease", tyX3, rfl, xin3, by decide, xw499, Or.inl rfl, tyX3_ok, nmX3, rfl, by decide +kernel, fun _ => rfl⟩
theorem xc_X7_lease_82 : xLV k_X7_lease k_X7_flatAt 82 RX7 yX7_flatAt (some (.object "RentStream$Flat")) 1 := ⟨List.forall_mem_cons.mpr ⟨xw389, List.forall_mem_cons.mpr ⟨xw391, List.forall_mem_cons.mpr ⟨xw8, List.forall_mem_cons.mpr ⟨xw29, fun _ h => absurd h List.not_mem_nil⟩⟩⟩⟩, xw392, ⟨⟨by decide +kernel, by decide +kernel, by decide +kernel⟩, by decide, by decide⟩⟩
theorem xc_X7_lease_66 : xLV k_X7_lease k_Jx4a65c_size_8abf5 66 RJx4a65c yJx4a65c_size_8abf5 (some .int) 0 := ⟨List.forall_mem_cons.mpr ⟨xw269, List.forall_mem_cons.mpr ⟨xw270, List.forall_mem_cons.mpr ⟨xw271, List.forall_mem_cons.mpr ⟨xw32, fun _ h => absurd h List.not_mem_nil⟩⟩⟩⟩, xw272, ⟨⟨by decide +kernel, by decide +kernel, by decide +kernel⟩, by decide, by decide⟩⟩
theorem xc_X7_lease_89 : xLV k_X7_lease k_X7_isLetOn 89 RX7 yX7_isLetOn (some .boolean) 1 := ⟨List.forall_mem_cons.mpr ⟨xw425, List.forall_mem_cons.mpr ⟨xw427, List.forall_mem_cons.mpr ⟨xw9, List.forall_mem_cons.mpr ⟨xw29, fun _ h => absurd h List.not_mem_nil⟩⟩⟩⟩, xw428, ⟨⟨by decide +kernel, by decide +kernel, by decide +kernel⟩, by decide, by decide⟩⟩
theorem xn_X7_95 : xNL RX7 95 3 [.null, .int 0, .null, .null, .null, .long 0, .long 0, .long 0, .int 0, .int 0, .null] := ⟨RX3, TX3, 11, tyX3, rfl, xin3, xw429, xw431, xw52, tyX3_ok, by decide +kernel, rfl⟩
theorem xc_X7_lease_97 : xLV k_X7_lease k_X7_monthNow 97 RX7 yX7_monthNow (some .int) 0 := ⟨List.forall_mem_cons.mpr ⟨xw432, List.forall_mem_cons.mpr ⟨xw434, List.forall_mem_cons.mpr ⟨xw10, List.forall_mem_cons.mpr ⟨xw29, fun _ h => absurd h List.not_mem_nil⟩⟩⟩⟩, xw435, ⟨⟨by decide +kernel, by decide +kernel, by decide +kernel⟩, by decide, by decide⟩⟩
theorem xc_X7_lease_100 : xLI k_X7_lease k_X3_init 100 yX3_init 3 := ⟨List.forall_mem_cons.mpr ⟨xw436, List.forall_mem_cons.mpr ⟨xw437, List.forall_mem_cons.mpr ⟨xw52, fun _ h => absurd h List.not_mem_nil⟩⟩⟩, xw438, rfl, ⟨⟨by decide +kernel, by decide +kernel, by decide +kernel⟩, by decide, by decide⟩⟩
theorem xc_X7_lease_78 : xLV k_X7_lease k_Jx4a65c_add_9ea2d 78 RJx4a65c yJx4a65c_add_9ea2d (some .boolean) 1 := ⟨List.forall_mem_cons.mpr ⟨xw322, List.forall_mem_cons.mpr ⟨xw323, List.forall_mem_cons.mpr ⟨xw324, List.forall_mem_cons.mpr ⟨xw32, fun _ h => absurd h List.not_mem_nil⟩⟩⟩⟩, xw325, ⟨⟨by decide +kernel, by decide +kernel, by decide +kernel⟩, by decide, by decide⟩⟩
theorem xf_J5_15 : xFL RJ5 15 9 0 := ⟨RJ4, TJ4, 4, "java/lang/AbstractStringBuilder", rfl, xin9, by decide, xw124, Or.inl rfl⟩
theorem xf_J5_22 : xFL RJ5 22 9 1 := ⟨RJ4, TJ4, 4, "java/lang/AbstractStringBuilder", rfl, xin9, by decide, xw125, Or.inl rfl⟩
theorem xc_J5_newCapacity_0f7a4_114 : xLS k_J5_newCapacity_0f7a4 k_J8_newLength_cabcc 114 yJ8_newLength_cabcc (some .int) 3 := ⟨List.forall_mem_cons.mpr ⟨xw848, List.forall_mem_cons.mpr ⟨xw339, List.forall_mem_cons.mpr ⟨xw45, fun _ h => absurd h List.not_mem_nil⟩⟩⟩, xw340, ⟨⟨by decide +kernel, by decide +kernel, by decide +kernel⟩, by decide, by decide⟩⟩
theorem xc_J5_ensureCapacityInternal_d00df_104 : xLV k_J5_ensureCapacityInternal_d00df k_J5_newCapacity_0f7a4 104 RJ4 yJ5_newCapacity_0f7a4 (some .int) 1 := ⟨List.forall_mem_cons.mpr ⟨xw844, List.forall_mem_cons.mpr ⟨xw846, List.forall_mem_cons.mpr ⟨xw1, List.forall_mem_cons.mpr ⟨xw34, fun _ h => absurd h List.not_mem_nil⟩⟩⟩⟩, xw847, ⟨⟨by decide +kernel, by decide +kernel, by decide +kernel⟩, by decide, by decide⟩⟩
theorem xc_J5_ensureCapacityInternal_d00df_108 : xLS k_J5_ensureCapacityInternal_d00df k_J7_copyOf_9075b 108 yJ7_copyOf_9075b (some (.array .byte)) 2 := ⟨List.forall_mem_cons.mpr ⟨xw850, List.forall_mem_cons.mpr ⟨xw851, List.forall_mem_cons.mpr ⟨xw47, fun _ h => absurd h List.not_mem_nil⟩⟩⟩, xw852, ⟨⟨by decide +kernel, by decide +kernel, by decide +kernel⟩, by decide, by decide⟩⟩
theorem xc_J5_append_3fe6f_83 : xLV k_J5_append_3fe6f k_J5_isLatin1_aae02 83 RJ4 yJ5_isLatin1_aae02 (some .boolean) 0 := ⟨List.forall_mem_cons.mpr ⟨xw860, List.forall_mem_cons.mpr ⟨xw861, List.forall_mem_cons.mpr ⟨xw863, List.forall_mem_cons.mpr ⟨xw34, fun _ h => absurd h List.not_mem_nil⟩⟩⟩⟩, xw864, ⟨⟨by decide +kernel, by decide +kernel, by decide +kernel⟩, by decide, by decide⟩⟩
theorem xf_J5_79 : xFL RJ5 79 9 3 := ⟨RJ4, TJ4, 4, "java/lang/AbstractStringBuilder", rfl, xin9, by decide, xw128, Or.inl rfl⟩
theorem xp_J5_79 : xFP RJ5 79 9 3 .int false := ⟨RJ4, TJ4, 4, "java/lang/AbstractStringBuilder", tyJ4, rfl, xin9, by decide, xw128, Or.inl rfl, tyJ4_ok, nmJ4, rfl, by decide +kernel, fun h => nomatch h⟩
theorem xc_J5_append_3fe6f_100 : xLV k_J5_append_3fe6f k_J5_ensureCapacityInternal_d00df 100 RJ4 yJ5_ensureCapacityInternal_d00df none 1 := ⟨List.forall_mem_cons.mpr ⟨xw840, List.forall_mem_cons.mpr ⟨xw842, List.forall_mem_cons.mpr ⟨xw0, List.forall_mem_cons.mpr ⟨xw34, fun _ h => absurd h List.not_mem_nil⟩⟩⟩⟩, xw843, ⟨⟨by decide +kernel, by decide +kernel, by decide +kernel⟩, by decide, by decide⟩⟩
theorem xc_J5_append_3fe6f_191 : xLS k_J5_append_3fe6f k_J1_canEncode_fc78d 191 yJ1_canEncode_fc78d (some .boolean) 1 := ⟨List.forall_mem_cons.mpr ⟨xw1084, List.forall_mem_cons.mpr ⟨xw1085, List.forall_mem_cons.mpr ⟨xw57, fun _ h => absurd h List.not_mem_nil⟩⟩⟩, xw1086, ⟨⟨by decide +kernel, by decide +kernel, by decide +kernel⟩, by decide, by decide⟩⟩
theorem xc_J4_append_cf468_50 : xLSU k_J4_append_cf468 k_J5_append_3fe6f 50 yJ5_append_3fe6f (some (.object "java/lang/AbstractStringBuilder")) 1 := ⟨List.forall_mem_cons.mpr ⟨xw1081, List.forall_mem_cons.mpr ⟨xw1171, List.forall_mem_cons.mpr ⟨xw137, List.forall_mem_cons.mpr ⟨xw1082, List.forall_mem_cons.mpr ⟨xw34, fun _ h => absurd h List.not_mem_nil⟩⟩⟩⟩⟩, xw1083, by decide +kernel, ⟨⟨by decide +kernel, by decide +kernel, by decide +kernel⟩, by decide, by decide⟩⟩
theorem xc_X7_writeDigits_375 : xLV k_X7_writeDigits k_J4_append_cf468 375 RJ4 yJ4_append_cf468 (some (.object "java/lang/StringBuilder")) 1 := ⟨List.forall_mem_cons.mpr ⟨xw1077, List.forall_mem_cons.mpr ⟨xw1078, List.forall_mem_cons.mpr ⟨xw1079, List.forall_mem_cons.mpr ⟨xw35, fun _ h => absurd h List.not_mem_nil⟩⟩⟩⟩, xw1080, ⟨⟨by decide +kernel, by decide +kernel, by decide +kernel⟩, by decide, by decide⟩⟩
theorem xc_J5_append_c97b9_245 : xLS k_J5_append_c97b9 k_J6_stringSize_0f7a4 245 yJ6_stringSize_0f7a4 (some .int) 1 := ⟨List.forall_mem_cons.mpr ⟨xw941, List.forall_mem_cons.mpr ⟨xw942, List.forall_mem_cons.mpr ⟨xw59, fun _ h => absurd h List.not_mem_nil⟩⟩⟩, xw943, ⟨⟨by decide +kernel, by decide +kernel, by decide +kernel⟩, by decide, by decide⟩⟩
theorem xc_J5_append_c97b9_100 : xLV k_J5_append_c97b9 k_J5_ensureCapacityInternal_d00df 100 RJ4 yJ5_ensureCapacityInternal_d00df none 1 := ⟨List.forall_mem_cons.mpr ⟨xw840, List.forall_mem_cons.mpr ⟨xw842, List.forall_mem_cons.mpr ⟨xw0, List.forall_mem_cons.mpr ⟨xw34, fun _ h => absurd h List.not_mem_nil⟩⟩⟩⟩, xw843, ⟨⟨by decide +kernel, by decide +kernel, by decide +kernel⟩, by decide, by decide⟩⟩
theorem xc_J5_append_c97b9_83 : xLV k_J5_append_c97b9 k_J5_isLatin1_aae02 83 RJ4 yJ5_isLatin1_aae02 (some .boolean) 0 := ⟨List.forall_mem_cons.mpr ⟨xw860, List.forall_mem_cons.mpr ⟨xw861, List.forall_mem_cons.mpr ⟨xw863, List.forall_mem_cons.mpr ⟨xw34, fun _ h => absurd h List.not_mem_nil⟩⟩⟩⟩, xw864, ⟨⟨by decide +kernel, by decide +kernel, by decide +kernel⟩, by decide, by decide⟩⟩
theorem xc_J5_append_c97b9_248 : xLS k_J5_append_c97b9 k_J6_getChars_ba4f3 248 yJ6_getChars_ba4f3 (some .int) 3 := ⟨List.forall_mem_cons.mpr ⟨xw944, List.forall_mem_cons.mpr ⟨xw945, List.forall_mem_cons.mpr ⟨xw59, fun _ h => absurd h List.not_mem_nil⟩⟩⟩, xw946, ⟨⟨by decide +kernel, by decide +kernel, by decide +kernel⟩, by decide, by decide⟩⟩
theorem xc_J4_append_bf812_53 : xLSU k_J4_append_bf812 k_J5_append_c97b9 53 yJ5_append_c97b9 (some (.object "java/lang/AbstractStringBuilder")) 1 := ⟨List.forall_mem_cons.mpr ⟨xw938, List.forall_mem_cons.mpr ⟨xw1170, List.forall_mem_cons.mpr ⟨xw137, List.forall_mem_cons.mpr ⟨xw939, List.forall_mem_cons.mpr ⟨xw34, fun _ h => absurd h List.not_mem_nil⟩⟩⟩⟩⟩, xw940, by decide +kernel, ⟨⟨by decide +kernel, by decide +kernel, by decide +kernel⟩, by decide, by decide⟩⟩
theorem xc_X7_writeWhole_379 : xLV k_X7_writeWhole k_J4_append_bf812 379 RJ4 yJ4_append_bf812 (some (.object "java/lang/StringBuilder")) 1 := ⟨List.forall_mem_cons.mpr ⟨xw1097, List.forall_mem_cons.mpr ⟨xw935, List.forall_mem_cons.mpr ⟨xw936, List.forall_mem_cons.mpr ⟨xw35, fun _ h => absurd h List.not_mem_nil⟩⟩⟩⟩, xw937, ⟨⟨by decide +kernel, by decide +kernel, by decide +kernel⟩, by decide, by decide⟩⟩
theorem xc_X7_writeWhole_375 : xLV k_X7_writeWhole k_J4_append_cf468 375 RJ4 yJ4_append_cf468 (some (.object "java/lang/StringBuilder")) 1 := ⟨List.forall_mem_cons.mpr ⟨xw1077, List.forall_mem_cons.mpr ⟨xw1078, List.forall_mem_cons.mpr ⟨xw1079, List.forall_mem_cons.mpr ⟨xw35, fun _ h => absurd h List.not_mem_nil⟩⟩⟩⟩, xw1080, ⟨⟨by decide +kernel, by decide +kernel, by decide +kernel⟩, by decide, by decide⟩⟩
theorem xc_X7_writeWhole_395 : xLS k_X7_writeWhole k_X7_writeDigits 395 yX7_writeDigits none 3 := ⟨List.forall_mem_cons.mpr ⟨xw1106, List.forall_mem_cons.mpr ⟨xw1107, List.forall_mem_cons.mpr ⟨xw29, fun _ h => absurd h List.not_mem_nil⟩⟩⟩, xw1108, ⟨⟨by decide +kernel, by decide +kernel, by decide +kernel⟩, by decide, by decide⟩⟩
theorem xc_X7_writeAmount_375 : xLV k_X7_writeAmount k_J4_append_cf468 375 RJ4 yJ4_append_cf468 (some (.object "java/lang/StringBuilder")) 1 := ⟨List.forall_mem_cons.mpr ⟨xw1077, List.forall_mem_cons.mpr ⟨xw1078, List.forall_mem_cons.mpr ⟨xw1079, List.forall_mem_cons.mpr ⟨xw35, fun _ h => absurd h List.not_mem_nil⟩⟩⟩⟩, xw1080, ⟨⟨by decide +kernel, by decide +kernel, by decide +kernel⟩, by decide, by decide⟩⟩
theorem xc_X7_writeAmount_391 : xLS k_X7_writeAmount k_X7_writeWhole 391 yX7_writeWhole none 2 := ⟨List.forall_mem_cons.mpr ⟨xw1103, List.forall_mem_cons.mpr ⟨xw1104, List.forall_mem_cons.mpr ⟨xw29, fun _ h => absurd h List.not_mem_nil⟩⟩⟩, xw1105, ⟨⟨by decide +kernel, by decide +kernel, by decide +kernel⟩, by decide, by decide⟩⟩
theorem xc_X7_writeAmount_395 : xLS k_X7_writeAmount k_X7_writeDigits 395 yX7_writeDigits none 3 := ⟨List.forall_mem_cons.mpr ⟨xw1106, List.forall_mem_cons.mpr ⟨xw1107, List.forall_mem_cons.mpr ⟨xw29, fun _ h => absurd h List.not_mem_nil⟩⟩⟩, xw1108, ⟨⟨by decide +kernel, by decide +kernel, by decide +kernel⟩, by decide, by decide⟩⟩
theorem xc_J5_inflateIfNeededFor_a7421_40 : xLV k_J5_inflateIfNeededFor_a7421 k_J0_coder_7d493 40 RJ0 yJ0_coder_7d493 (some .byte) 0 := ⟨List.forall_mem_cons.mpr ⟨xw908, List.forall_mem_cons.mpr ⟨xw896, List.forall_mem_cons.mpr ⟨xw897, List.forall_mem_cons.mpr ⟨xw36, fun _ h => absurd h List.not_mem_nil⟩⟩⟩⟩, xw898, ⟨⟨by decide +kernel, by decide +kernel, by decide +kernel⟩, by decide, by decide⟩⟩
theorem xc_J0_getBytes_840e7_335 : xLV k_J0_getBytes_840e7 k_J0_coder_7d493 335 RJ0 yJ0_coder_7d493 (some .byte) 0 := ⟨List.forall_mem_cons.mpr ⟨xw895, List.forall_mem_cons.mpr ⟨xw896, List.forall_mem_cons.mpr ⟨xw897, List.forall_mem_cons.mpr ⟨xw36, fun _ h => absurd h List.not_mem_nil⟩⟩⟩⟩, xw898, ⟨⟨by decide +kernel, by decide +kernel, by decide +kernel⟩, by decide, by decide⟩⟩
theorem xlc_J0_212 : xLC RJ0 212 := ⟨xw932, xw382, xw381, xw48⟩
theorem xc_J5_putStringAt_47b60_397 : xLV k_J5_putStringAt_47b60 k_J5_inflateIfNeededFor_a7421 397 RJ4 yJ5_inflateIfNeededFor_a7421 none 1 := ⟨List.forall_mem_cons.mpr ⟨xw904, List.forall_mem_cons.mpr ⟨xw906, List.forall_mem_cons.mpr ⟨xw3, List.forall_mem_cons.mpr ⟨xw34, fun _ h => absurd h List.not_mem_nil⟩⟩⟩⟩, xw907, ⟨⟨by decide +kernel, by decide +kernel, by decide +kernel⟩, by decide, by decide⟩⟩
theorem xc_J5_putStringAt_47b60_399 : xLV k_J5_putStringAt_47b60 k_J0_getBytes_840e7 399 RJ0 yJ0_getBytes_840e7 none 3 := ⟨List.forall_mem_cons.mpr ⟨xw928, List.forall_mem_cons.mpr ⟨xw929, List.forall_mem_cons.mpr ⟨xw930, List.forall_mem_cons.mpr ⟨xw36, fun _ h => absurd h List.not_mem_nil⟩⟩⟩⟩, xw931, ⟨⟨by decide +kernel, by decide +kernel, by decide +kernel⟩, by decide, by decide⟩⟩
theorem xc_J0_length_8abf5_335 : xLV k_J0_length_8abf5 k_J0_coder_7d493 335 RJ0 yJ0_coder_7d493 (some .byte) 0 := ⟨List.forall_mem_cons.mpr ⟨xw895, List.forall_mem_cons.mpr ⟨xw896, List.forall_mem_cons.mpr ⟨xw897, List.forall_mem_cons.mpr ⟨xw36, fun _ h => absurd h List.not_mem_nil⟩⟩⟩⟩, xw898, ⟨⟨by decide +kernel, by decide +kernel, by decide +kernel⟩, by decide, by decide⟩⟩
theorem xc_J5_append_cf1ce_32 : xLV k_J5_append_cf1ce k_J0_length_8abf5 32 RJ0 yJ0_length_8abf5 (some .int) 0 := ⟨List.forall_mem_cons.mpr ⟨xw891, List.forall_mem_cons.mpr ⟨xw892, List.forall_mem_cons.mpr ⟨xw893, List.forall_mem_cons.mpr ⟨xw36, fun _ h => absurd h List.not_mem_nil⟩⟩⟩⟩, xw894, ⟨⟨by decide +kernel, by decide +kernel, by decide +kernel⟩, by decide, by decide⟩⟩
theorem xc_J5_append_cf1ce_100 : xLV k_J5_append_cf1ce k_J5_ensureCapacityInternal_d00df 100 RJ4 yJ5_ensureCapacityInternal_d00df none 1 := ⟨List.forall_mem_cons.mpr ⟨xw840, List.forall_mem_cons.mpr ⟨xw842, List.forall_mem_cons.mpr ⟨xw0, List.forall_mem_cons.mpr ⟨xw34, fun _ h => absurd h List.not_mem_nil⟩⟩⟩⟩, xw843, ⟨⟨by decide +kernel, by decide +kernel, by decide +kernel⟩, by decide, by decide⟩⟩
theorem xc_J5_append_cf1ce_208 : xLV k_J5_append_cf1ce k_J5_putStringAt_47b60 208 RJ4 yJ5_putStringAt_47b60 none 2 := ⟨List.forall_mem_cons.mpr ⟨xw900, List.forall_mem_cons.mpr ⟨xw902, List.forall_mem_cons.mpr ⟨xw2, List.forall_mem_cons.mpr ⟨xw34, fun _ h => absurd h List.not_mem_nil⟩⟩⟩⟩, xw903, ⟨⟨by decide +kernel, by decide +kernel, by decide +kernel⟩, by decide, by decide⟩⟩
theorem xc_J4_append_15ec4_29 : xLSU k_J4_append_15ec4 k_J5_append_cf1ce 29 yJ5_append_cf1ce (some (.object "java/lang/AbstractStringBuilder")) 1 := ⟨List.forall_mem_cons.mpr ⟨xw833, List.forall_mem_cons.mpr ⟨xw1163, List.forall_mem_cons.mpr ⟨xw137, List.forall_mem_cons.mpr ⟨xw834, List.forall_mem_cons.mpr ⟨xw34, fun _ h => absurd h List.not_mem_nil⟩⟩⟩⟩⟩, xw835, by decide +kernel, ⟨⟨by decide +kernel, by decide +kernel, by decide +kernel⟩, by decide, by decide⟩⟩
theorem xc_X7_writeLine_375 : xLV k_X7_writeLine k_J4_append_cf468 375 RJ4 yJ4_append_cf468 (some (.object "java/lang/StringBuilder")) 1 := ⟨List.forall_mem_cons.mpr ⟨xw1077, List.forall_mem_cons.mpr ⟨xw1078, List.forall_mem_cons.mpr ⟨xw1079, List.forall_mem_cons.mpr ⟨xw35, fun _ h => absurd h List.not_mem_nil⟩⟩⟩⟩, xw1080, ⟨⟨by decide +kernel, by decide +kernel, by decide +kernel⟩, by decide, by decide⟩⟩
theorem xc_X7_writeLine_379 : xLV k_X7_writeLine k_J4_append_bf812 379 RJ4 yJ4_append_bf812 (some (.object "java/lang/StringBuilder")) 1 := ⟨List.forall_mem_cons.mpr ⟨xw1097, List.forall_mem_cons.mpr ⟨xw935, List.forall_mem_cons.mpr ⟨xw936, List.forall_mem_cons.mpr ⟨xw35, fun _ h => absurd h List.not_mem_nil⟩⟩⟩⟩, xw937, ⟨⟨by decide +kernel, by decide +kernel, by decide +kernel⟩, by decide, by decide⟩⟩
theorem xc_X7_writeLine_384 : xLV k_X7_writeLine k_J4_append_15ec4 384 RJ4 yJ4_append_15ec4 (some (.object "java/lang/StringBuilder")) 1 := ⟨List.forall_mem_cons.mpr ⟨xw1099, List.forall_mem_cons.mpr ⟨xw830, List.forall_mem_cons.mpr ⟨xw831, List.forall_mem_cons.mpr ⟨xw35, fun _ h => absurd h List.not_mem_nil⟩⟩⟩⟩, xw832, ⟨⟨by decide +kernel, by decide +kernel, by decide +kernel⟩, by decide, by decide⟩⟩
theorem xc_X7_writeLine_387 : xLS k_X7_writeLine k_X7_writeAmount 387 yX7_writeAmount none 3 := ⟨List.forall_mem_cons.mpr ⟨xw1100, List.forall_mem_cons.mpr ⟨xw1101, List.forall_mem_cons.mpr ⟨xw29, fun _ h => absurd h List.not_mem_nil⟩⟩⟩, xw1102, ⟨⟨by decide +kernel, by decide +kernel, by decide +kernel⟩, by decide, by decide⟩⟩
theorem xf_X7_359 : xFL RX7 359 0 3 := ⟨RX0, TX0, 4, "RentStream$Bill", rfl, xin0, by decide, xw155, Or.inl rfl⟩
theorem xc_X7_writeLine_220 : xLV k_X7_writeLine k_X0_ofTenant 220 RX0 yX0_ofTenant (some .int) 0 := ⟨List.forall_mem_cons.mpr ⟨xw774, List.forall_mem_cons.mpr ⟨xw775, List.forall_mem_cons.mpr ⟨xw776, List.forall_mem_cons.mpr ⟨xw38, fun _ h => absurd h List.not_mem_nil⟩⟩⟩⟩, xw777, ⟨⟨by decide +kernel, by decide +kernel, by decide +kernel⟩, by decide, by decide⟩⟩
theorem xc_J0_checkIndex_df160_1059 : xLS k_J0_checkIndex_df160 k_J3_checkIndex_8e157 1059 yJ3_checkIndex_8e157 (some .int) 3 := ⟨List.forall_mem_cons.mpr ⟨xw1096, List.forall_mem_cons.mpr ⟨xw417, List.forall_mem_cons.mpr ⟨xw51, fun _ h => absurd h List.not_mem_nil⟩⟩⟩, xw418, ⟨⟨by decide +kernel, by decide +kernel, by decide +kernel⟩, by decide, by decide⟩⟩
theorem xlm_J5_138 : xLM RJ5 138 Lib.Math.min.name Lib.Math.min.code 2 .int := ⟨xw1117, xw378, xw46, xw379⟩
theorem xc_J5_charAt_5068e_144 : xLS k_J5_charAt_5068e k_J0_checkIndex_df160 144 yJ0_checkIndex_df160 none 2 := ⟨List.forall_mem_cons.mpr ⟨xw1118, List.forall_mem_cons.mpr ⟨xw1094, List.forall_mem_cons.mpr ⟨xw36, fun _ h => absurd h List.not_mem_nil⟩⟩⟩, xw1095, ⟨⟨by decide +kernel, by decide +kernel, by decide +kernel⟩, by decide, by decide⟩⟩
theorem xc_J4_charAt_5068e_329 : xLSU k_J4_charAt_5068e k_J5_charAt_5068e 329 yJ5_charAt_5068e (some .char) 1 := ⟨List.forall_mem_cons.mpr ⟨xw1114, List.forall_mem_cons.mpr ⟨xw1173, List.forall_mem_cons.mpr ⟨xw137, List.forall_mem_cons.mpr ⟨xw1115, List.forall_mem_cons.mpr ⟨xw34, fun _ h => absurd h List.not_mem_nil⟩⟩⟩⟩⟩, xw1116, by decide +kernel, ⟨⟨by decide +kernel, by decide +kernel, by decide +kernel⟩, by decide, by decide⟩⟩
theorem xc_J4_length_8abf5_343 : xLSU k_J4_length_8abf5 k_J5_length_8abf5 343 yJ5_length_8abf5 (some .int) 0 := ⟨List.forall_mem_cons.mpr ⟨xw983, List.forall_mem_cons.mpr ⟨xw979, List.forall_mem_cons.mpr ⟨xw137, List.forall_mem_cons.mpr ⟨xw978, List.forall_mem_cons.mpr ⟨xw34, fun _ h => absurd h List.not_mem_nil⟩⟩⟩⟩⟩, xw984, by decide +kernel, ⟨⟨by decide +kernel, by decide +kernel, by decide +kernel⟩, by decide, by decide⟩⟩
theorem xc_J5_setLength_d00df_100 : xLV k_J5_setLength_d00df k_J5_ensureCapacityInternal_d00df 100 RJ4 yJ5_ensureCapacityInternal_d00df none 1 := ⟨List.forall_mem_cons.mpr ⟨xw840, List.forall_mem_cons.mpr ⟨xw842, List.forall_mem_cons.mpr ⟨xw0, List.forall_mem_cons.mpr ⟨xw34, fun _ h => absurd h List.not_mem_nil⟩⟩⟩⟩, xw843, ⟨⟨by decide +kernel, by decide +kernel, by decide +kernel⟩, by decide, by decide⟩⟩
theorem xp_J5_73 : xFP RJ5 73 9 2 .boolean false := ⟨RJ4, TJ4, 4, "java/lang/AbstractStringBuilder", tyJ4, rfl, xin9, by decide, xw126, Or.inl rfl, tyJ4_ok, nmJ4, rfl, by decide +kernel, fun h => nomatch h⟩
theorem xc_J5_setLength_d00df_83 : xLV k_J5_setLength_d00df k_J5_isLatin1_aae02 83 RJ4 yJ5_isLatin1_aae02 (some .boolean) 0 := ⟨List.forall_mem_cons.mpr ⟨xw860, List.forall_mem_cons.mpr ⟨xw861, List.forall_mem_cons.mpr ⟨xw863, List.forall_mem_cons.mpr ⟨xw34, fun _ h => absurd h List.not_mem_nil⟩⟩⟩⟩, xw864, ⟨⟨by decide +kernel, by decide +kernel, by decide +kernel⟩, by decide, by decide⟩⟩
theorem xc_J4_setLength_d00df_333 : xLSU k_J4_setLength_d00df k_J5_setLength_d00df 333 yJ5_setLength_d00df none 1 := ⟨List.forall_mem_cons.mpr ⟨xw818, List.forall_mem_cons.mpr ⟨xw1162, List.forall_mem_cons.mpr ⟨xw137, List.forall_mem_cons.mpr ⟨xw819, List.forall_mem_cons.mpr ⟨xw34, fun _ h => absurd h List.not_mem_nil⟩⟩⟩⟩⟩, xw820, by decide +kernel, ⟨⟨by decide +kernel, by decide +kernel, by decide +kernel⟩, by decide, by decide⟩⟩
theorem xc_X7_line_103 : xLV k_X7_line k_X7_leaseAt 103 RX7 yX7_leaseAt (some (.object "RentStream$Lease")) 1 := ⟨List.forall_mem_cons.mpr ⟨xw541, List.forall_mem_cons.mpr ⟨xw543, List.forall_mem_cons.mpr ⟨xw11, List.forall_mem_cons.mpr ⟨xw29, fun _ h => absurd h List.not_mem_nil⟩⟩⟩⟩, xw544, ⟨⟨by decide +kernel, by decide +kernel, by decide +kernel⟩, by decide, by decide⟩⟩
theorem xc_X7_line_162 : xLV k_X7_line k_X7_needMonth 162 RX7 yX7_needMonth none 1 := ⟨List.forall_mem_cons.mpr ⟨xw617, List.forall_mem_cons.mpr ⟨xw619, List.forall_mem_cons.mpr ⟨xw12, List.forall_mem_cons.mpr ⟨xw29, fun _ h => absurd h List.not_mem_nil⟩⟩⟩⟩, xw620, ⟨⟨by decide +kernel, by decide +kernel, by decide +kernel⟩, by decide, by decide⟩⟩
theorem xc_X7_line_228 : xLV k_X7_line k_X3_billOf 228 RX3 yX3_billOf (some (.object "RentStream$Bill")) 1 := ⟨List.forall_mem_cons.mpr ⟨xw803, List.forall_mem_cons.mpr ⟨xw627, List.forall_mem_cons.mpr ⟨xw628, List.forall_mem_cons.mpr ⟨xw52, fun _ h => absurd h List.not_mem_nil⟩⟩⟩⟩, xw629, ⟨⟨by decide +kernel, by decide +kernel, by decide +kernel⟩, by decide, by decide⟩⟩
theorem xf_X7_37 : xFL RX7 37 7 5 := ⟨RX7, TX7, 10, "RentStream", rfl, xin7, by decide, xw170, Or.inl rfl⟩
theorem xc_X7_line_239 : xLV k_X7_line k_J4_setLength_d00df 239 RJ4 yJ4_setLength_d00df none 1 := ⟨List.forall_mem_cons.mpr ⟨xw814, List.forall_mem_cons.mpr ⟨xw815, List.forall_mem_cons.mpr ⟨xw816, List.forall_mem_cons.mpr ⟨xw35, fun _ h => absurd h List.not_mem_nil⟩⟩⟩⟩, xw817, ⟨⟨by decide +kernel, by decide +kernel, by decide +kernel⟩, by decide, by decide⟩⟩
theorem xc_X7_line_242 : xLS k_X7_line k_X7_writeLine 242 yX7_writeLine none 4 := ⟨List.forall_mem_cons.mpr ⟨xw1074, List.forall_mem_cons.mpr ⟨xw1075, List.forall_mem_cons.mpr ⟨xw29, fun _ h => absurd h List.not_mem_nil⟩⟩⟩, xw1076, ⟨⟨by decide +kernel, by decide +kernel, by decide +kernel⟩, by decide, by decide⟩⟩
theorem xc_X7_line_246 : xLV k_X7_line k_J4_length_8abf5 246 RJ4 yJ4_length_8abf5 (some .int) 0 := ⟨List.forall_mem_cons.mpr ⟨xw1109, List.forall_mem_cons.mpr ⟨xw981, List.forall_mem_cons.mpr ⟨xw1172, List.forall_mem_cons.mpr ⟨xw35, fun _ h => absurd h List.not_mem_nil⟩⟩⟩⟩, xw982, ⟨⟨by decide +kernel, by decide +kernel, by decide +kernel⟩, by decide, by decide⟩⟩
theorem xc_X7_line_249 : xLV k_X7_line k_J4_charAt_5068e 249 RJ4 yJ4_charAt_5068e (some .char) 1 := ⟨List.forall_mem_cons.mpr ⟨xw1110, List.forall_mem_cons.mpr ⟨xw1111, List.forall_mem_cons.mpr ⟨xw1112, List.forall_mem_cons.mpr ⟨xw35, fun _ h => absurd h List.not_mem_nil⟩⟩⟩⟩, xw1113, ⟨⟨by decide +kernel, by decide +kernel, by decide +kernel⟩, by decide, by decide⟩⟩
theorem xc_X7_mend_66 : xLV k_X7_mend k_Jx4a65c_size_8abf5 66 RJx4a65c yJx4a65c_size_8abf5 (some .int) 0 := ⟨List.forall_mem_cons.mpr ⟨xw269, List.forall_mem_cons.mpr ⟨xw270, List.forall_mem_cons.mpr ⟨xw271, List.forall_mem_cons.mpr ⟨xw32, fun _ h => absurd h List.not_mem_nil⟩⟩⟩⟩, xw272, ⟨⟨by decide +kernel, by decide +kernel, by decide +kernel⟩, by decide, by decide⟩⟩
theorem xc_X7_mend_149 : xLV k_X7_mend k_Jx4a65c_get_915e3 149 RJx4a65c yJx4a65c_get_915e3 (some (.object "java/lang/Object")) 1 := ⟨List.forall_mem_cons.mpr ⟨xw409, List.forall_mem_cons.mpr ⟨xw410, List.forall_mem_cons.mpr ⟨xw411, List.forall_mem_cons.mpr ⟨xw32, fun _ h => absurd h List.not_mem_nil⟩⟩⟩⟩, xw412, ⟨⟨by decide +kernel, by decide +kernel, by decide +kernel⟩, by decide, by decide⟩⟩
theorem xf_X7_153 : xFL RX7 153 6 0 := ⟨RX6, TX6, 5, "RentStream$Repair", rfl, xin6, by decide, xw590, Or.inl rfl⟩
theorem xp_X7_153 : xFP RX7 153 6 0 .boolean false := ⟨RX6, TX6, 5, "RentStream$Repair", tyX6, rfl, xin6, by decide, xw590, Or.inl rfl, tyX6_ok, nmX6, rfl, by decide +kernel, fun h => nomatch h⟩
theorem xf_X7_159 : xFL RX7 159 6 1 := ⟨RX6, TX6, 5, "RentStream$Repair", rfl, xin6, by decide, xw592, Or.inl rfl⟩
theorem xc_X7_owes_103 : xLV k_X7_owes k_X7_leaseAt 103 RX7 yX7_leaseAt (some (.object "RentStream$Lease")) 1 := ⟨List.forall_mem_cons.mpr ⟨xw541, List.forall_mem_cons.mpr ⟨xw543, List.forall_mem_cons.mpr ⟨xw11, List.forall_mem_cons.mpr ⟨xw29, fun _ h => absurd h List.not_mem_nil⟩⟩⟩⟩, xw544, ⟨⟨by decide +kernel, by decide +kernel, by decide +kernel⟩, by decide, by decide⟩⟩
theorem xc_X7_owesAnew_209 : xLV k_X7_owesAnew k_X3_runsIn 209 RX3 yX3_runsIn (some .boolean) 1 := ⟨List.forall_mem_cons.mpr ⟨xw717, List.forall_mem_cons.mpr ⟨xw714, List.forall_mem_cons.mpr ⟨xw715, List.forall_mem_cons.mpr ⟨xw52, fun _ h => absurd h List.not_mem_nil⟩⟩⟩⟩, xw716, ⟨⟨by decide +kernel, by decide +kernel, by decide +kernel⟩, by decide, by decide⟩⟩
theorem xc_X7_owesAnew_213 : xLV k_X7_owesAnew k_X7_shareHeat 213 RX7 yX7_shareHeat none 1 := ⟨List.forall_mem_cons.mpr ⟨xw701, List.forall_mem_cons.mpr ⟨xw703, List.forall_mem_cons.mpr ⟨xw20, List.forall_mem_cons.mpr ⟨xw29, fun _ h => absurd h List.not_mem_nil⟩⟩⟩⟩, xw704, ⟨⟨by decide +kernel, by decide +kernel, by decide +kernel⟩, by decide, by decide⟩⟩
theorem xf_X7_44 : xFL RX7 44 7 6 := ⟨RX7, TX7, 10, "RentStream", rfl, xin7, by decide, xw171, Or.inl rfl⟩
theorem xc_X7_owesAnew_216 : xLV k_X7_owesAnew k_X7_settle 216 RX7 yX7_settle none 3 := ⟨List.forall_mem_cons.mpr ⟨xw753, List.forall_mem_cons.mpr ⟨xw755, List.forall_mem_cons.mpr ⟨xw25, List.forall_mem_cons.mpr ⟨xw29, fun _ h => absurd h List.not_mem_nil⟩⟩⟩⟩, xw756, ⟨⟨by decide +kernel, by decide +kernel, by decide +kernel⟩, by decide, by decide⟩⟩
theorem xc_X7_owesAnew_220 : xLV k_X7_owesAnew k_X0_ofTenant 220 RX0 yX0_ofTenant (some .int) 0 := ⟨List.forall_mem_cons.mpr ⟨xw774, List.forall_mem_cons.mpr ⟨xw775, List.forall_mem_cons.mpr ⟨xw776, List.forall_mem_cons.mpr ⟨xw38, fun _ h => absurd h List.not_mem_nil⟩⟩⟩⟩, xw777, ⟨⟨by decide +kernel, by decide +kernel, by decide +kernel⟩, by decide, by decide⟩⟩
theorem xc_X7_owesAnew_103 : xLV k_X7_owesAnew k_X7_leaseAt 103 RX7 yX7_leaseAt (some (.object "RentStream$Lease")) 1 := ⟨List.forall_mem_cons.mpr ⟨xw541, List.forall_mem_cons.mpr ⟨xw543, List.forall_mem_cons.mpr ⟨xw11, List.forall_mem_cons.mpr ⟨xw29, fun _ h => absurd h List.not_mem_nil⟩⟩⟩⟩, xw544, ⟨⟨by decide +kernel, by decide +kernel, by decide +kernel⟩, by decide, by decide⟩⟩
theorem xf_X7_179 : xFL RX7 179 3 7 := ⟨RX3, TX3, 11, "RentStream$Lease", rfl, xin3, by decide, xw497, Or.inl rfl⟩
theorem xc_X7_owesAnew_97 : xLV k_X7_owesAnew k_X7_monthNow 97 RX7 yX7_monthNow (some .int) 0 := ⟨List.forall_mem_cons.mpr ⟨xw432, List.forall_mem_cons.mpr ⟨xw434, List.forall_mem_cons.mpr ⟨xw10, List.forall_mem_cons.mpr ⟨xw29, fun _ h => absurd h List.not_mem_nil⟩⟩⟩⟩, xw435, ⟨⟨by decide +kernel, by decide +kernel, by decide +kernel⟩, by decide, by decide⟩⟩
theorem xc_X7_pass_206 : xLV k_X7_pass k_X7_endDay 206 RX7 yX7_endDay none 0 := ⟨List.forall_mem_cons.mpr ⟨xw668, List.forall_mem_cons.mpr ⟨xw670, List.forall_mem_cons.mpr ⟨xw15, List.forall_mem_cons.mpr ⟨xw29, fun _ h => absurd h List.not_mem_nil⟩⟩⟩⟩, xw671, ⟨⟨by decide +kernel, by decide +kernel, by decide +kernel⟩, by decide, by decide⟩⟩
theorem xc_X7_pay_103 : xLV k_X7_pay k_X7_leaseAt 103 RX7 yX7_leaseAt (some (.object "RentStream$Lease")) 1 := ⟨List.forall_mem_cons.mpr ⟨xw541, List.forall_mem_cons.mpr ⟨xw543, List.forall_mem_cons.mpr ⟨xw11, List.forall_mem_cons.mpr ⟨xw29, fun _ h => absurd h List.not_mem_nil⟩⟩⟩⟩, xw544, ⟨⟨by decide +kernel, by decide +kernel, by decide +kernel⟩, by decide, by decide⟩⟩
theorem xp_X7_179 : xFP RX7 179 3 7 .long false := ⟨RX3, TX3, 11, "RentStream$Lease", tyX3, rfl, xin3, by decide, xw497, Or.inl rfl, tyX3_ok, nmX3, rfl, by decide +kernel, fun h => nomatch h⟩
theorem xc_X7_pay_172 : xLV k_X7_pay k_X7_postToTenant 172 RX7 yX7_postToTenant none 2 := ⟨List.forall_mem_cons.mpr ⟨xw640, List.forall_mem_cons.mpr ⟨xw642, List.forall_mem_cons.mpr ⟨xw13, List.forall_mem_cons.mpr ⟨xw29, fun _ h => absurd h List.not_mem_nil⟩⟩⟩⟩, xw643, ⟨⟨by decide +kernel, by decide +kernel, by decide +kernel⟩, by decide, by decide⟩⟩
theorem xc_X7_plan_103 : xLV k_X7_plan k_X7_leaseAt 103 RX7 yX7_leaseAt (some (.object "RentStream$Lease")) 1 := ⟨List.forall_mem_cons.mpr ⟨xw541, List.forall_mem_cons.mpr ⟨xw543, List.forall_mem_cons.mpr ⟨xw11, List.forall_mem_cons.mpr ⟨xw29, fun _ h => absurd h List.not_mem_nil⟩⟩⟩⟩, xw544, ⟨⟨by decide +kernel, by decide +kernel, by decide +kernel⟩, by decide, by decide⟩⟩
theorem xf_X7_191 : xFL RX7 191 5 0 := ⟨RX5, TX5, 4, "RentStream$Plan", rfl, xin5, by decide, xw449, Or.inl rfl⟩
theorem xc_X7_plan_198 : xLV k_X7_plan k_X5_begin 198 RX5 yX5_begin none 2 := ⟨List.forall_mem_cons.mpr ⟨xw658, List.forall_mem_cons.mpr ⟨xw659, List.forall_mem_cons.mpr ⟨xw660, List.forall_mem_cons.mpr ⟨xw53, fun _ h => absurd h List.not_mem_nil⟩⟩⟩⟩, xw661, ⟨⟨by decide +kernel, by decide +kernel, by decide +kernel⟩, by decide, by decide⟩⟩
theorem xc_X7_planOf_103 : xLV k_X7_planOf k_X7_leaseAt 103 RX7 yX7_leaseAt (some (.object "RentStream$Lease")) 1 := ⟨List.forall_mem_cons.mpr ⟨xw541, List.forall_mem_cons.mpr ⟨xw543, List.forall_mem_cons.mpr ⟨xw11, List.forall_mem_cons.mpr ⟨xw29, fun _ h => absurd h List.not_mem_nil⟩⟩⟩⟩, xw544, ⟨⟨by decide +kernel, by decide +kernel, by decide +kernel⟩, by decide, by decide⟩⟩
theorem xc_X7_points_82 : xLV k_X7_points k_X7_flatAt 82 RX7 yX7_flatAt (some (.object "RentStream$Flat")) 1 := ⟨List.forall_mem_cons.mpr ⟨xw389, List.forall_mem_cons.mpr ⟨xw391, List.forall_mem_cons.mpr ⟨xw8, List.forall_mem_cons.mpr ⟨xw29, fun _ h => absurd h List.not_mem_nil⟩⟩⟩⟩, xw392, ⟨⟨by decide +kernel, by decide +kernel, by decide +kernel⟩, by decide, by decide⟩⟩
theorem xc_X7_points_97 : xLV k_X7_points k_X7_monthNow 97 RX7 yX7_monthNow (some .int) 0 := ⟨List.forall_mem_cons.mpr ⟨xw432, List.forall_mem_cons.mpr ⟨xw434, List.forall_mem_cons.mpr ⟨xw10, List.forall_mem_cons.mpr ⟨xw29, fun _ h => absurd h List.not_mem_nil⟩⟩⟩⟩, xw435, ⟨⟨by decide +kernel, by decide +kernel, by decide +kernel⟩, by decide, by decide⟩⟩
theorem xc_X7_points_114 : xLV k_X7_points k_X4_in 114 RX4 yX4_in (some .int) 1 := ⟨List.forall_mem_cons.mpr ⟨xw552, List.forall_mem_cons.mpr ⟨xw553, List.forall_mem_cons.mpr ⟨xw554, List.forall_mem_cons.mpr ⟨xw33, fun _ h => absurd h List.not_mem_nil⟩⟩⟩⟩, xw555, ⟨⟨by decide +kernel, by decide +kernel, by decide +kernel⟩, by decide, by decide⟩⟩
theorem xc_X7_read_82 : xLV k_X7_read k_X7_flatAt 82 RX7 yX7_flatAt (some (.object "RentStream$Flat")) 1 := ⟨List.forall_mem_cons.mpr ⟨xw389, List.forall_mem_cons.mpr ⟨xw391, List.forall_mem_cons.mpr ⟨xw8, List.forall_mem_cons.mpr ⟨xw29, fun _ h => absurd h List.not_mem_nil⟩⟩⟩⟩, xw392, ⟨⟨by decide +kernel, by decide +kernel, by decide +kernel⟩, by decide, by decide⟩⟩
theorem xf_X7_118 : xFL RX7 118 1 3 := ⟨RX1, TX1, 6, "RentStream$Flat", rfl, xin1, by decide, xw306, Or.inl rfl⟩
theorem xc_X7_read_97 : xLV k_X7_read k_X7_monthNow 97 RX7 yX7_monthNow (some .int) 0 := ⟨List.forall_mem_cons.mpr ⟨xw432, List.forall_mem_cons.mpr ⟨xw434, List.forall_mem_cons.mpr ⟨xw10, List.forall_mem_cons.mpr ⟨xw29, fun _ h => absurd h List.not_mem_nil⟩⟩⟩⟩, xw435, ⟨⟨by decide +kernel, by decide +kernel, by decide +kernel⟩, by decide, by decide⟩⟩
theorem xc_X7_read_124 : xLV k_X7_read k_X1_readMeter 124 RX1 yX1_readMeter (some .int) 2 := ⟨List.forall_mem_cons.mpr ⟨xw562, List.forall_mem_cons.mpr ⟨xw563, List.forall_mem_cons.mpr ⟨xw564, List.forall_mem_cons.mpr ⟨xw44, fun _ h => absurd h List.not_mem_nil⟩⟩⟩⟩, xw565, ⟨⟨by decide +kernel, by decide +kernel, by decide +kernel⟩, by decide, by decide⟩⟩
theorem xp_X6_9 : xFP RX6 9 6 0 .boolean false := ⟨RX6, TX6, 5, "RentStream$Repair", tyX6, rfl, xin6, by decide, xw589, Or.inl rfl, tyX6_ok, nmX6, rfl, by decide +kernel, fun h => nomatch h⟩
theorem xp_X6_19 : xFP RX6 19 6 2 (.object "RentStream$Flat") true := ⟨RX6, TX6, 5, "RentStream$Repair", tyX6, rfl, xin6, by decide, xw593, Or.inl rfl, tyX6_ok, nmX6, rfl, by decide +kernel, fun _ => rfl⟩
theorem xp_X6_23 : xFP RX6 23 6 3 .int true := ⟨RX6, TX6, 5, "RentStream$Repair", tyX6, rfl, xin6, by decide, xw594, Or.inl rfl, tyX6_ok, nmX6, rfl, by decide +kernel, fun _ => rfl⟩
theorem xp_X6_26 : xFP RX6 26 6 4 .int true := ⟨RX6, TX6, 5, "RentStream$Repair", tyX6, rfl, xin6, by decide, xw595, Or.inl rfl, tyX6_ok, nmX6, rfl, by decide +kernel, fun _ => rfl⟩
theorem xc_X7_report_82 : xLV k_X7_report k_X7_flatAt 82 RX7 yX7_flatAt (some (.object "RentStream$Flat")) 1 := ⟨List.forall_mem_cons.mpr ⟨xw389, List.forall_mem_cons.mpr ⟨xw391, List.forall_mem_cons.mpr ⟨xw8, List.forall_mem_cons.mpr ⟨xw29, fun _ h => absurd h List.not_mem_nil⟩⟩⟩⟩, xw392, ⟨⟨by decide +kernel, by decide +kernel, by decide +kernel⟩, by decide, by decide⟩⟩
theorem xc_X7_report_66 : xLV k_X7_report k_Jx4a65c_size_8abf5 66 RJx4a65c yJx4a65c_size_8abf5 (some .int) 0 := ⟨List.forall_mem_cons.mpr ⟨xw269, List.forall_mem_cons.mpr ⟨xw270, List.forall_mem_cons.mpr ⟨xw271, List.forall_mem_cons.mpr ⟨xw32, fun _ h => absurd h List.not_mem_nil⟩⟩⟩⟩, xw272, ⟨⟨by decide +kernel, by decide +kernel, by decide +kernel⟩, by decide, by decide⟩⟩
theorem xn_X7_141 : xNL RX7 141 6 [.int 0, .int 0, .null, .int 0, .int 0] := ⟨RX6, TX6, 5, tyX6, rfl, xin6, xw583, xw584, xw55, tyX6_ok, by decide +kernel, rfl⟩
theorem xc_X7_report_143 : xLI k_X7_report k_X6_init 143 yX6_init 3 := ⟨List.forall_mem_cons.mpr ⟨xw585, List.forall_mem_cons.mpr ⟨xw586, List.forall_mem_cons.mpr ⟨xw55, fun _ h => absurd h List.not_mem_nil⟩⟩⟩, xw587, rfl, ⟨⟨by decide +kernel, by decide +kernel, by decide +kernel⟩, by decide, by decide⟩⟩
theorem xc_X7_report_78 : xLV k_X7_report k_Jx4a65c_add_9ea2d 78 RJx4a65c yJx4a65c_add_9ea2d (some .boolean) 1 := ⟨List.forall_mem_cons.mpr ⟨xw322, List.forall_mem_cons.mpr ⟨xw323, List.forall_mem_cons.mpr ⟨xw324, List.forall_mem_cons.mpr ⟨xw32, fun _ h => absurd h List.not_mem_nil⟩⟩⟩⟩, xw325, ⟨⟨by decide +kernel, by decide +kernel, by decide +kernel⟩, by decide, by decide⟩⟩
theorem xc_X7_use_82 : xLV k_X7_use k_X7_flatAt 82 RX7 yX7_flatAt (some (.object "RentStream$Flat")) 1 := ⟨List.forall_mem_cons.mpr ⟨xw389, List.forall_mem_cons.mpr ⟨xw391, List.forall_mem_cons.mpr ⟨xw8, List.forall_mem_cons.mpr ⟨xw29, fun _ h => absurd h List.not_mem_nil⟩⟩⟩⟩, xw392, ⟨⟨by decide +kernel, by decide +kernel, by decide +kernel⟩, by decide, by decide⟩⟩
theorem xc_X7_use_162 : xLV k_X7_use k_X7_needMonth 162 RX7 yX7_needMonth none 1 := ⟨List.forall_mem_cons.mpr ⟨xw617, List.forall_mem_cons.mpr ⟨xw619, List.forall_mem_cons.mpr ⟨xw12, List.forall_mem_cons.mpr ⟨xw29, fun _ h => absurd h List.not_mem_nil⟩⟩⟩⟩, xw620, ⟨⟨by decide +kernel, by decide +kernel, by decide +kernel⟩, by decide, by decide⟩⟩
theorem xf_X7_253 : xFL RX7 253 1 1 := ⟨RX1, TX1, 6, "RentStream$Flat", rfl, xin1, by decide, xw301, Or.inl rfl⟩
theorem xc_X7_use_114 : xLV k_X7_use k_X4_in 114 RX4 yX4_in (some .int) 1 := ⟨List.forall_mem_cons.mpr ⟨xw552, List.forall_mem_cons.mpr ⟨xw553, List.forall_mem_cons.mpr ⟨xw554, List.forall_mem_cons.mpr ⟨xw33, fun _ h => absurd h List.not_mem_nil⟩⟩⟩⟩, xw555, ⟨⟨by decide +kernel, by decide +kernel, by decide +kernel⟩, by decide, by decide⟩⟩
