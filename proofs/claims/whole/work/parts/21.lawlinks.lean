set_option maxRecDepth 20000
theorem dL_flat_0 : decode cL_flat 0 = .ok (.aload_n 2, 1) := by decide +kernel
theorem dL_flat_1 : decode cL_flat 1 = .ok (.iconst 0, 1) := by decide +kernel
theorem dL_flat_2 : decode cL_flat 2 = .ok (.aload_n 0, 1) := by decide +kernel
theorem dL_flat_3 : decode cL_flat 3 = .ok (.iload_n 1, 1) := by decide +kernel
theorem dL_flat_4 : decode cL_flat 4 = .ok (.invokevirtual 7, 3) := by decide +kernel
theorem dL_flat_7 : decode cL_flat 7 = .ok (.i2l, 1) := by decide +kernel
theorem dL_flat_8 : decode cL_flat 8 = .ok (.lastore, 1) := by decide +kernel
theorem dL_flat_9 : decode cL_flat 9 = .ok (.goto 9, 3) := by decide +kernel
theorem dL_flat_12 : decode cL_flat 12 = .ok (.astore_n 3, 1) := by decide +kernel
theorem dL_flat_13 : decode cL_flat 13 = .ok (.iconst 1, 1) := by decide +kernel
theorem dL_flat_14 : decode cL_flat 14 = .ok (.ireturn, 1) := by decide +kernel
theorem dL_flat_15 : decode cL_flat 15 = .ok (.astore_n 3, 1) := by decide +kernel
theorem dL_flat_16 : decode cL_flat 16 = .ok (.iconst 2, 1) := by decide +kernel
theorem dL_flat_17 : decode cL_flat 17 = .ok (.ireturn, 1) := by decide +kernel
theorem dL_flat_18 : decode cL_flat 18 = .ok (.iconst 0, 1) := by decide +kernel
theorem dL_flat_19 : decode cL_flat 19 = .ok (.ireturn, 1) := by decide +kernel
theorem dL_lease_0 : decode cL_lease 0 = .ok (.aload_n 3, 1) := by decide +kernel
theorem dL_lease_1 : decode cL_lease 1 = .ok (.iconst 0, 1) := by decide +kernel
theorem dL_lease_2 : decode cL_lease 2 = .ok (.aload_n 0, 1) := by decide +kernel
theorem dL_lease_3 : decode cL_lease 3 = .ok (.iload_n 1, 1) := by decide +kernel
theorem dL_lease_4 : decode cL_lease 4 = .ok (.iload_n 2, 1) := by decide +kernel
theorem dL_lease_5 : decode cL_lease 5 = .ok (.invokevirtual 17, 3) := by decide +kernel
theorem dL_lease_8 : decode cL_lease 8 = .ok (.i2l, 1) := by decide +kernel
theorem dL_lease_9 : decode cL_lease 9 = .ok (.lastore, 1) := by decide +kernel
theorem dL_lease_10 : decode cL_lease 10 = .ok (.goto 15, 3) := by decide +kernel
theorem dL_lease_13 : decode cL_lease 13 = .ok (.astore 4, 2) := by decide +kernel
theorem dL_lease_15 : decode cL_lease 15 = .ok (.iconst 1, 1) := by decide +kernel
theorem dL_lease_16 : decode cL_lease 16 = .ok (.ireturn, 1) := by decide +kernel
theorem dL_lease_17 : decode cL_lease 17 = .ok (.astore 4, 2) := by decide +kernel
theorem dL_lease_19 : decode cL_lease 19 = .ok (.iconst 2, 1) := by decide +kernel
theorem dL_lease_20 : decode cL_lease 20 = .ok (.ireturn, 1) := by decide +kernel
theorem dL_lease_21 : decode cL_lease 21 = .ok (.astore 4, 2) := by decide +kernel
theorem dL_lease_23 : decode cL_lease 23 = .ok (.iconst 3, 1) := by decide +kernel
theorem dL_lease_24 : decode cL_lease 24 = .ok (.ireturn, 1) := by decide +kernel
theorem dL_lease_25 : decode cL_lease 25 = .ok (.iconst 0, 1) := by decide +kernel
theorem dL_lease_26 : decode cL_lease 26 = .ok (.ireturn, 1) := by decide +kernel
theorem dL_end_0 : decode cL_end 0 = .ok (.aload_n 2, 1) := by decide +kernel
theorem dL_end_1 : decode cL_end 1 = .ok (.iconst 0, 1) := by decide +kernel
theorem dL_end_2 : decode cL_end 2 = .ok (.aload_n 0, 1) := by decide +kernel
theorem dL_end_3 : decode cL_end 3 = .ok (.iload_n 1, 1) := by decide +kernel
theorem dL_end_4 : decode cL_end 4 = .ok (.invokevirtual 23, 3) := by decide +kernel
theorem dL_end_7 : decode cL_end 7 = .ok (.i2l, 1) := by decide +kernel
theorem dL_end_8 : decode cL_end 8 = .ok (.lastore, 1) := by decide +kernel
theorem dL_end_9 : decode cL_end 9 = .ok (.goto 9, 3) := by decide +kernel
theorem dL_end_12 : decode cL_end 12 = .ok (.astore_n 3, 1) := by decide +kernel
theorem dL_end_13 : decode cL_end 13 = .ok (.iconst 1, 1) := by decide +kernel
theorem dL_end_14 : decode cL_end 14 = .ok (.ireturn, 1) := by decide +kernel
theorem dL_end_15 : decode cL_end 15 = .ok (.astore_n 3, 1) := by decide +kernel
theorem dL_end_16 : decode cL_end 16 = .ok (.iconst 2, 1) := by decide +kernel
theorem dL_end_17 : decode cL_end 17 = .ok (.ireturn, 1) := by decide +kernel
theorem dL_end_18 : decode cL_end 18 = .ok (.iconst 0, 1) := by decide +kernel
theorem dL_end_19 : decode cL_end 19 = .ok (.ireturn, 1) := by decide +kernel
theorem dL_index_0 : decode cL_index 0 = .ok (.aload_n 2, 1) := by decide +kernel
theorem dL_index_1 : decode cL_index 1 = .ok (.iconst 0, 1) := by decide +kernel
theorem dL_index_2 : decode cL_index 2 = .ok (.aload_n 0, 1) := by decide +kernel
theorem dL_index_3 : decode cL_index 3 = .ok (.iload_n 1, 1) := by decide +kernel
theorem dL_index_4 : decode cL_index 4 = .ok (.invokevirtual 26, 3) := by decide +kernel
theorem dL_index_7 : decode cL_index 7 = .ok (.i2l, 1) := by decide +kernel
theorem dL_index_8 : decode cL_index 8 = .ok (.lastore, 1) := by decide +kernel
theorem dL_index_9 : decode cL_index 9 = .ok (.goto 6, 3) := by decide +kernel
theorem dL_index_12 : decode cL_index 12 = .ok (.astore_n 3, 1) := by decide +kernel
theorem dL_index_13 : decode cL_index 13 = .ok (.iconst 1, 1) := by decide +kernel
theorem dL_index_14 : decode cL_index 14 = .ok (.ireturn, 1) := by decide +kernel
theorem dL_index_15 : decode cL_index 15 = .ok (.iconst 0, 1) := by decide +kernel
theorem dL_index_16 : decode cL_index 16 = .ok (.ireturn, 1) := by decide +kernel
theorem dL_read_0 : decode cL_read 0 = .ok (.aload_n 3, 1) := by decide +kernel
theorem dL_read_1 : decode cL_read 1 = .ok (.iconst 0, 1) := by decide +kernel
theorem dL_read_2 : decode cL_read 2 = .ok (.aload_n 0, 1) := by decide +kernel
theorem dL_read_3 : decode cL_read 3 = .ok (.iload_n 1, 1) := by decide +kernel
theorem dL_read_4 : decode cL_read 4 = .ok (.iload_n 2, 1) := by decide +kernel
theorem dL_read_5 : decode cL_read 5 = .ok (.invokevirtual 29, 3) := by decide +kernel
theorem dL_read_8 : decode cL_read 8 = .ok (.i2l, 1) := by decide +kernel
theorem dL_read_9 : decode cL_read 9 = .ok (.lastore, 1) := by decide +kernel
theorem dL_read_10 : decode cL_read 10 = .ok (.goto 11, 3) := by decide +kernel
theorem dL_read_13 : decode cL_read 13 = .ok (.astore 4, 2) := by decide +kernel
theorem dL_read_15 : decode cL_read 15 = .ok (.iconst 1, 1) := by decide +kernel
theorem dL_read_16 : decode cL_read 16 = .ok (.ireturn, 1) := by decide +kernel
theorem dL_read_17 : decode cL_read 17 = .ok (.astore 4, 2) := by decide +kernel
theorem dL_read_19 : decode cL_read 19 = .ok (.iconst 2, 1) := by decide +kernel
theorem dL_read_20 : decode cL_read 20 = .ok (.ireturn, 1) := by decide +kernel
theorem dL_read_21 : decode cL_read 21 = .ok (.iconst 0, 1) := by decide +kernel
theorem dL_read_22 : decode cL_read 22 = .ok (.ireturn, 1) := by decide +kernel
theorem dL_heat_0 : decode cL_heat 0 = .ok (.aload_n 2, 1) := by decide +kernel
theorem dL_heat_1 : decode cL_heat 1 = .ok (.iconst 0, 1) := by decide +kernel
theorem dL_heat_2 : decode cL_heat 2 = .ok (.aload_n 0, 1) := by decide +kernel
theorem dL_heat_3 : decode cL_heat 3 = .ok (.iload_n 1, 1) := by decide +kernel
theorem dL_heat_4 : decode cL_heat 4 = .ok (.invokevirtual 32, 3) := by decide +kernel
theorem dL_heat_7 : decode cL_heat 7 = .ok (.i2l, 1) := by decide +kernel
theorem dL_heat_8 : decode cL_heat 8 = .ok (.lastore, 1) := by decide +kernel
theorem dL_heat_9 : decode cL_heat 9 = .ok (.goto 9, 3) := by decide +kernel
theorem dL_heat_12 : decode cL_heat 12 = .ok (.astore_n 3, 1) := by decide +kernel
theorem dL_heat_13 : decode cL_heat 13 = .ok (.iconst 1, 1) := by decide +kernel
theorem dL_heat_14 : decode cL_heat 14 = .ok (.ireturn, 1) := by decide +kernel
theorem dL_heat_15 : decode cL_heat 15 = .ok (.astore_n 3, 1) := by decide +kernel
theorem dL_heat_16 : decode cL_heat 16 = .ok (.iconst 2, 1) := by decide +kernel
theorem dL_heat_17 : decode cL_heat 17 = .ok (.ireturn, 1) := by decide +kernel
theorem dL_heat_18 : decode cL_heat 18 = .ok (.iconst 0, 1) := by decide +kernel
theorem dL_heat_19 : decode cL_heat 19 = .ok (.ireturn, 1) := by decide +kernel
theorem dL_report_0 : decode cL_report 0 = .ok (.aload_n 3, 1) := by decide +kernel
theorem dL_report_1 : decode cL_report 1 = .ok (.iconst 0, 1) := by decide +kernel
theorem dL_report_2 : decode cL_report 2 = .ok (.aload_n 0, 1) := by decide +kernel
theorem dL_report_3 : decode cL_report 3 = .ok (.iload_n 1, 1) := by decide +kernel
theorem dL_report_4 : decode cL_report 4 = .ok (.iload_n 2, 1) := by decide +kernel
theorem dL_report_5 : decode cL_report 5 = .ok (.invokevirtual 35, 3) := by decide +kernel
theorem dL_report_8 : decode cL_report 8 = .ok (.i2l, 1) := by decide +kernel
theorem dL_report_9 : decode cL_report 9 = .ok (.lastore, 1) := by decide +kernel
theorem dL_report_10 : decode cL_report 10 = .ok (.goto 15, 3) := by decide +kernel
theorem dL_report_13 : decode cL_report 13 = .ok (.astore 4, 2) := by decide +kernel
theorem dL_report_15 : decode cL_report 15 = .ok (.iconst 1, 1) := by decide +kernel
theorem dL_report_16 : decode cL_report 16 = .ok (.ireturn, 1) := by decide +kernel
theorem dL_report_17 : decode cL_report 17 = .ok (.astore 4, 2) := by decide +kernel
theorem dL_report_19 : decode cL_report 19 = .ok (.iconst 2, 1) := by decide +kernel
theorem dL_report_20 : decode cL_report 20 = .ok (.ireturn, 1) := by decide +kernel
theorem dL_report_21 : decode cL_report 21 = .ok (.astore 4, 2) := by decide +kernel
theorem dL_report_23 : decode cL_report 23 = .ok (.iconst 3, 1) := by decide +kernel
theorem dL_report_24 : decode cL_report 24 = .ok (.ireturn, 1) := by decide +kernel
theorem dL_report_25 : decode cL_report 25 = .ok (.iconst 0, 1) := by decide +kernel
theorem dL_report_26 : decode cL_report 26 = .ok (.ireturn, 1) := by decide +kernel
theorem dL_mend_0 : decode cL_mend 0 = .ok (.aload_n 2, 1) := by decide +kernel
theorem dL_mend_1 : decode cL_mend 1 = .ok (.iconst 0, 1) := by decide +kernel
theorem dL_mend_2 : decode cL_mend 2 = .ok (.aload_n 0, 1) := by decide +kernel
theorem dL_mend_3 : decode cL_mend 3 = .ok (.iload_n 1, 1) := by decide +kernel
theorem dL_mend_4 : decode cL_mend 4 = .ok (.invokevirtual 38, 3) := by decide +kernel
theorem dL_mend_7 : decode cL_mend 7 = .ok (.i2l, 1) := by decide +kernel
theorem dL_mend_8 : decode cL_mend 8 = .ok (.lastore, 1) := by decide +kernel
theorem dL_mend_9 : decode cL_mend 9 = .ok (.goto 9, 3) := by decide +kernel
theorem dL_mend_12 : decode cL_mend 12 = .ok (.astore_n 3, 1) := by decide +kernel
theorem dL_mend_13 : decode cL_mend 13 = .ok (.iconst 1, 1) := by decide +kernel
theorem dL_mend_14 : decode cL_mend 14 = .ok (.ireturn, 1) := by decide +kernel
theorem dL_mend_15 : decode cL_mend 15 = .ok (.astore_n 3, 1) := by decide +kernel
theorem dL_mend_16 : decode cL_mend 16 = .ok (.iconst 2, 1) := by decide +kernel
theorem dL_mend_17 : decode cL_mend 17 = .ok (.ireturn, 1) := by decide +kernel
theorem dL_mend_18 : decode cL_mend 18 = .ok (.iconst 0, 1) := by decide +kernel
theorem dL_mend_19 : decode cL_mend 19 = .ok (.ireturn, 1) := by decide +kernel
theorem dL_income_0 : decode cL_income 0 = .ok (.aload 4, 2) := by decide +kernel
theorem dL_income_2 : decode cL_income 2 = .ok (.iconst 0, 1) := by decide +kernel
theorem dL_income_3 : decode cL_income 3 = .ok (.aload_n 0, 1) := by decide +kernel
theorem dL_income_4 : decode cL_income 4 = .ok (.iload_n 1, 1) := by decide +kernel
theorem dL_income_5 : decode cL_income 5 = .ok (.iload_n 2, 1) := by decide +kernel
theorem dL_income_6 : decode cL_income 6 = .ok (.iload_n 3, 1) := by decide +kernel
theorem dL_income_7 : decode cL_income 7 = .ok (.invokevirtual 41, 3) := by decide +kernel
theorem dL_income_10 : decode cL_income 10 = .ok (.lastore, 1) := by decide +kernel
theorem dL_income_11 : decode cL_income 11 = .ok (.goto 11, 3) := by decide +kernel
theorem dL_income_14 : decode cL_income 14 = .ok (.astore 5, 2) := by decide +kernel
theorem dL_income_16 : decode cL_income 16 = .ok (.iconst 1, 1) := by decide +kernel
theorem dL_income_17 : decode cL_income 17 = .ok (.ireturn, 1) := by decide +kernel
theorem dL_income_18 : decode cL_income 18 = .ok (.astore 5, 2) := by decide +kernel
theorem dL_income_20 : decode cL_income 20 = .ok (.iconst 2, 1) := by decide +kernel
theorem dL_income_21 : decode cL_income 21 = .ok (.ireturn, 1) := by decide +kernel
theorem dL_income_22 : decode cL_income 22 = .ok (.iconst 0, 1) := by decide +kernel
theorem dL_income_23 : decode cL_income 23 = .ok (.ireturn, 1) := by decide +kernel
theorem dL_pay_0 : decode cL_pay 0 = .ok (.aload_n 3, 1) := by decide +kernel
theorem dL_pay_1 : decode cL_pay 1 = .ok (.iconst 0, 1) := by decide +kernel
theorem dL_pay_2 : decode cL_pay 2 = .ok (.aload_n 0, 1) := by decide +kernel
theorem dL_pay_3 : decode cL_pay 3 = .ok (.iload_n 1, 1) := by decide +kernel
theorem dL_pay_4 : decode cL_pay 4 = .ok (.iload_n 2, 1) := by decide +kernel
theorem dL_pay_5 : decode cL_pay 5 = .ok (.invokevirtual 45, 3) := by decide +kernel
theorem dL_pay_8 : decode cL_pay 8 = .ok (.lastore, 1) := by decide +kernel
theorem dL_pay_9 : decode cL_pay 9 = .ok (.goto 11, 3) := by decide +kernel
theorem dL_pay_12 : decode cL_pay 12 = .ok (.astore 4, 2) := by decide +kernel
theorem dL_pay_14 : decode cL_pay 14 = .ok (.iconst 1, 1) := by decide +kernel
theorem dL_pay_15 : decode cL_pay 15 = .ok (.ireturn, 1) := by decide +kernel
theorem dL_pay_16 : decode cL_pay 16 = .ok (.astore 4, 2) := by decide +kernel
theorem dL_pay_18 : decode cL_pay 18 = .ok (.iconst 2, 1) := by decide +kernel
theorem dL_pay_19 : decode cL_pay 19 = .ok (.ireturn, 1) := by decide +kernel
theorem dL_pay_20 : decode cL_pay 20 = .ok (.iconst 0, 1) := by decide +kernel
theorem dL_pay_21 : decode cL_pay 21 = .ok (.ireturn, 1) := by decide +kernel
theorem dL_plan_0 : decode cL_plan 0 = .ok (.aload_n 3, 1) := by decide +kernel
theorem dL_plan_1 : decode cL_plan 1 = .ok (.iconst 0, 1) := by decide +kernel
theorem dL_plan_2 : decode cL_plan 2 = .ok (.aload_n 0, 1) := by decide +kernel
theorem dL_plan_3 : decode cL_plan 3 = .ok (.iload_n 1, 1) := by decide +kernel
theorem dL_plan_4 : decode cL_plan 4 = .ok (.iload_n 2, 1) := by decide +kernel
theorem dL_plan_5 : decode cL_plan 5 = .ok (.invokevirtual 49, 3) := by decide +kernel
theorem dL_plan_8 : decode cL_plan 8 = .ok (.lastore, 1) := by decide +kernel
theorem dL_plan_9 : decode cL_plan 9 = .ok (.goto 15, 3) := by decide +kernel
theorem dL_plan_12 : decode cL_plan 12 = .ok (.astore 4, 2) := by decide +kernel
theorem dL_plan_14 : decode cL_plan 14 = .ok (.iconst 1, 1) := by decide +kernel
theorem dL_plan_15 : decode cL_plan 15 = .ok (.ireturn, 1) := by decide +kernel
theorem dL_plan_16 : decode cL_plan 16 = .ok (.astore 4, 2) := by decide +kernel
theorem dL_plan_18 : decode cL_plan 18 = .ok (.iconst 2, 1) := by decide +kernel
theorem dL_plan_19 : decode cL_plan 19 = .ok (.ireturn, 1) := by decide +kernel
theorem dL_plan_20 : decode cL_plan 20 = .ok (.astore 4, 2) := by decide +kernel
theorem dL_plan_22 : decode cL_plan 22 = .ok (.iconst 3, 1) := by decide +kernel
theorem dL_plan_23 : decode cL_plan 23 = .ok (.ireturn, 1) := by decide +kernel
theorem dL_plan_24 : decode cL_plan 24 = .ok (.iconst 0, 1) := by decide +kernel
theorem dL_plan_25 : decode cL_plan 25 = .ok (.ireturn, 1) := by decide +kernel
theorem dL_pass_0 : decode cL_pass 0 = .ok (.aload_n 2, 1) := by decide +kernel
theorem dL_pass_1 : decode cL_pass 1 = .ok (.iconst 0, 1) := by decide +kernel
theorem dL_pass_2 : decode cL_pass 2 = .ok (.aload_n 0, 1) := by decide +kernel
theorem dL_pass_3 : decode cL_pass 3 = .ok (.iload_n 1, 1) := by decide +kernel
theorem dL_pass_4 : decode cL_pass 4 = .ok (.invokevirtual 52, 3) := by decide +kernel
theorem dL_pass_7 : decode cL_pass 7 = .ok (.i2l, 1) := by decide +kernel
theorem dL_pass_8 : decode cL_pass 8 = .ok (.lastore, 1) := by decide +kernel
theorem dL_pass_9 : decode cL_pass 9 = .ok (.goto 9, 3) := by decide +kernel
theorem dL_pass_12 : decode cL_pass 12 = .ok (.astore_n 3, 1) := by decide +kernel
theorem dL_pass_13 : decode cL_pass 13 = .ok (.iconst 1, 1) := by decide +kernel
theorem dL_pass_14 : decode cL_pass 14 = .ok (.ireturn, 1) := by decide +kernel
theorem dL_pass_15 : decode cL_pass 15 = .ok (.astore_n 3, 1) := by decide +kernel
theorem dL_pass_16 : decode cL_pass 16 = .ok (.iconst 2, 1) := by decide +kernel
theorem dL_pass_17 : decode cL_pass 17 = .ok (.ireturn, 1) := by decide +kernel
theorem dL_pass_18 : decode cL_pass 18 = .ok (.iconst 0, 1) := by decide +kernel
theorem dL_pass_19 : decode cL_pass 19 = .ok (.ireturn, 1) := by decide +kernel
theorem dL_owes_0 : decode cL_owes 0 = .ok (.aload_n 2, 1) := by decide +kernel
theorem dL_owes_1 : decode cL_owes 1 = .ok (.iconst 0, 1) := by decide +kernel
theorem dL_owes_2 : decode cL_owes 2 = .ok (.aload_n 0, 1) := by decide +kernel
theorem dL_owes_3 : decode cL_owes 3 = .ok (.iload_n 1, 1) := by decide +kernel
theorem dL_owes_4 : decode cL_owes 4 = .ok (.invokevirtual 55, 3) := by decide +kernel
theorem dL_owes_7 : decode cL_owes 7 = .ok (.lastore, 1) := by decide +kernel
theorem dL_owes_8 : decode cL_owes 8 = .ok (.goto 6, 3) := by decide +kernel
theorem dL_owes_11 : decode cL_owes 11 = .ok (.astore_n 3, 1) := by decide +kernel
theorem dL_owes_12 : decode cL_owes 12 = .ok (.iconst 1, 1) := by decide +kernel
theorem dL_owes_13 : decode cL_owes 13 = .ok (.ireturn, 1) := by decide +kernel
theorem dL_owes_14 : decode cL_owes 14 = .ok (.iconst 0, 1) := by decide +kernel
theorem dL_owes_15 : decode cL_owes 15 = .ok (.ireturn, 1) := by decide +kernel
theorem dL_owesAnew_0 : decode cL_owesAnew 0 = .ok (.aload_n 2, 1) := by decide +kernel
theorem dL_owesAnew_1 : decode cL_owesAnew 1 = .ok (.iconst 0, 1) := by decide +kernel
theorem dL_owesAnew_2 : decode cL_owesAnew 2 = .ok (.aload_n 0, 1) := by decide +kernel
theorem dL_owesAnew_3 : decode cL_owesAnew 3 = .ok (.iload_n 1, 1) := by decide +kernel
theorem dL_owesAnew_4 : decode cL_owesAnew 4 = .ok (.invokevirtual 59, 3) := by decide +kernel
theorem dL_owesAnew_7 : decode cL_owesAnew 7 = .ok (.lastore, 1) := by decide +kernel
theorem dL_owesAnew_8 : decode cL_owesAnew 8 = .ok (.goto 6, 3) := by decide +kernel
theorem dL_owesAnew_11 : decode cL_owesAnew 11 = .ok (.astore_n 3, 1) := by decide +kernel
theorem dL_owesAnew_12 : decode cL_owesAnew 12 = .ok (.iconst 1, 1) := by decide +kernel
theorem dL_owesAnew_13 : decode cL_owesAnew 13 = .ok (.ireturn, 1) := by decide +kernel
theorem dL_owesAnew_14 : decode cL_owesAnew 14 = .ok (.iconst 0, 1) := by decide +kernel
theorem dL_owesAnew_15 : decode cL_owesAnew 15 = .ok (.ireturn, 1) := by decide +kernel
theorem dL_desk_0 : decode cL_desk 0 = .ok (.aload_n 2, 1) := by decide +kernel
theorem dL_desk_1 : decode cL_desk 1 = .ok (.iconst 0, 1) := by decide +kernel
theorem dL_desk_2 : decode cL_desk 2 = .ok (.aload_n 0, 1) := by decide +kernel
theorem dL_desk_3 : decode cL_desk 3 = .ok (.iload_n 1, 1) := by decide +kernel
theorem dL_desk_4 : decode cL_desk 4 = .ok (.invokevirtual 62, 3) := by decide +kernel
theorem dL_desk_7 : decode cL_desk 7 = .ok (.lastore, 1) := by decide +kernel
theorem dL_desk_8 : decode cL_desk 8 = .ok (.goto 6, 3) := by decide +kernel
theorem dL_desk_11 : decode cL_desk 11 = .ok (.astore_n 3, 1) := by decide +kernel
theorem dL_desk_12 : decode cL_desk 12 = .ok (.iconst 1, 1) := by decide +kernel
theorem dL_desk_13 : decode cL_desk 13 = .ok (.ireturn, 1) := by decide +kernel
theorem dL_desk_14 : decode cL_desk 14 = .ok (.iconst 0, 1) := by decide +kernel
theorem dL_desk_15 : decode cL_desk 15 = .ok (.ireturn, 1) := by decide +kernel
theorem dL_bill_0 : decode cL_bill 0 = .ok (.aload 4, 2) := by decide +kernel
theorem dL_bill_2 : decode cL_bill 2 = .ok (.iconst 0, 1) := by decide +kernel
theorem dL_bill_3 : decode cL_bill 3 = .ok (.aload_n 0, 1) := by decide +kernel
theorem dL_bill_4 : decode cL_bill 4 = .ok (.iload_n 1, 1) := by decide +kernel
theorem dL_bill_5 : decode cL_bill 5 = .ok (.iload_n 2, 1) := by decide +kernel
theorem dL_bill_6 : decode cL_bill 6 = .ok (.iload_n 3, 1) := by decide +kernel
theorem dL_bill_7 : decode cL_bill 7 = .ok (.invokevirtual 65, 3) := by decide +kernel
theorem dL_bill_10 : decode cL_bill 10 = .ok (.lastore, 1) := by decide +kernel
theorem dL_bill_11 : decode cL_bill 11 = .ok (.goto 11, 3) := by decide +kernel
theorem dL_bill_14 : decode cL_bill 14 = .ok (.astore 5, 2) := by decide +kernel
theorem dL_bill_16 : decode cL_bill 16 = .ok (.iconst 1, 1) := by decide +kernel
theorem dL_bill_17 : decode cL_bill 17 = .ok (.ireturn, 1) := by decide +kernel
theorem dL_bill_18 : decode cL_bill 18 = .ok (.astore 5, 2) := by decide +kernel
theorem dL_bill_20 : decode cL_bill 20 = .ok (.iconst 2, 1) := by decide +kernel
theorem dL_bill_21 : decode cL_bill 21 = .ok (.ireturn, 1) := by decide +kernel
theorem dL_bill_22 : decode cL_bill 22 = .ok (.iconst 0, 1) := by decide +kernel
theorem dL_bill_23 : decode cL_bill 23 = .ok (.ireturn, 1) := by decide +kernel
theorem dL_line_0 : decode cL_line 0 = .ok (.aload 4, 2) := by decide +kernel
theorem dL_line_2 : decode cL_line 2 = .ok (.iconst 0, 1) := by decide +kernel
theorem dL_line_3 : decode cL_line 3 = .ok (.aload_n 0, 1) := by decide +kernel
theorem dL_line_4 : decode cL_line 4 = .ok (.iload_n 1, 1) := by decide +kernel
theorem dL_line_5 : decode cL_line 5 = .ok (.iload_n 2, 1) := by decide +kernel
theorem dL_line_6 : decode cL_line 6 = .ok (.iload_n 3, 1) := by decide +kernel
theorem dL_line_7 : decode cL_line 7 = .ok (.invokevirtual 68, 3) := by decide +kernel
theorem dL_line_10 : decode cL_line 10 = .ok (.i2l, 1) := by decide +kernel
theorem dL_line_11 : decode cL_line 11 = .ok (.lastore, 1) := by decide +kernel
theorem dL_line_12 : decode cL_line 12 = .ok (.goto 7, 3) := by decide +kernel
theorem dL_line_15 : decode cL_line 15 = .ok (.astore 5, 2) := by decide +kernel
theorem dL_line_17 : decode cL_line 17 = .ok (.iconst 1, 1) := by decide +kernel
theorem dL_line_18 : decode cL_line 18 = .ok (.ireturn, 1) := by decide +kernel
theorem dL_line_19 : decode cL_line 19 = .ok (.iconst 0, 1) := by decide +kernel
theorem dL_line_20 : decode cL_line 20 = .ok (.ireturn, 1) := by decide +kernel
theorem dL_use_0 : decode cL_use 0 = .ok (.aload_n 3, 1) := by decide +kernel
theorem dL_use_1 : decode cL_use 1 = .ok (.iconst 0, 1) := by decide +kernel
theorem dL_use_2 : decode cL_use 2 = .ok (.aload_n 0, 1) := by decide +kernel
theorem dL_use_3 : decode cL_use 3 = .ok (.iload_n 1, 1) := by decide +kernel
theorem dL_use_4 : decode cL_use 4 = .ok (.iload_n 2, 1) := by decide +kernel
theorem dL_use_5 : decode cL_use 5 = .ok (.invokevirtual 72, 3) := by decide +kernel
theorem dL_use_8 : decode cL_use 8 = .ok (.i2l, 1) := by decide +kernel
theorem dL_use_9 : decode cL_use 9 = .ok (.lastore, 1) := by decide +kernel
theorem dL_use_10 : decode cL_use 10 = .ok (.goto 7, 3) := by decide +kernel
theorem dL_use_13 : decode cL_use 13 = .ok (.astore 4, 2) := by decide +kernel
theorem dL_use_15 : decode cL_use 15 = .ok (.iconst 1, 1) := by decide +kernel
theorem dL_use_16 : decode cL_use 16 = .ok (.ireturn, 1) := by decide +kernel
theorem dL_use_17 : decode cL_use 17 = .ok (.iconst 0, 1) := by decide +kernel
theorem dL_use_18 : decode cL_use 18 = .ok (.ireturn, 1) := by decide +kernel
theorem dL_points_0 : decode cL_points 0 = .ok (.aload_n 2, 1) := by decide +kernel
theorem dL_points_1 : decode cL_points 1 = .ok (.iconst 0, 1) := by decide +kernel
theorem dL_points_2 : decode cL_points 2 = .ok (.aload_n 0, 1) := by decide +kernel
theorem dL_points_3 : decode cL_points 3 = .ok (.iload_n 1, 1) := by decide +kernel
theorem dL_points_4 : decode cL_points 4 = .ok (.invokevirtual 75, 3) := by decide +kernel
theorem dL_points_7 : decode cL_points 7 = .ok (.i2l, 1) := by decide +kernel
theorem dL_points_8 : decode cL_points 8 = .ok (.lastore, 1) := by decide +kernel
theorem dL_points_9 : decode cL_points 9 = .ok (.goto 6, 3) := by decide +kernel
theorem dL_points_12 : decode cL_points 12 = .ok (.astore_n 3, 1) := by decide +kernel
theorem dL_points_13 : decode cL_points 13 = .ok (.iconst 1, 1) := by decide +kernel
theorem dL_points_14 : decode cL_points 14 = .ok (.ireturn, 1) := by decide +kernel
theorem dL_points_15 : decode cL_points 15 = .ok (.iconst 0, 1) := by decide +kernel
theorem dL_points_16 : decode cL_points 16 = .ok (.ireturn, 1) := by decide +kernel
theorem dL_planOf_0 : decode cL_planOf 0 = .ok (.aload_n 2, 1) := by decide +kernel
theorem dL_planOf_1 : decode cL_planOf 1 = .ok (.iconst 0, 1) := by decide +kernel
theorem dL_planOf_2 : decode cL_planOf 2 = .ok (.aload_n 0, 1) := by decide +kernel
theorem dL_planOf_3 : decode cL_planOf 3 = .ok (.iload_n 1, 1) := by decide +kernel
theorem dL_planOf_4 : decode cL_planOf 4 = .ok (.invokevirtual 78, 3) := by decide +kernel
theorem dL_planOf_7 : decode cL_planOf 7 = .ok (.i2l, 1) := by decide +kernel
theorem dL_planOf_8 : decode cL_planOf 8 = .ok (.lastore, 1) := by decide +kernel
theorem dL_planOf_9 : decode cL_planOf 9 = .ok (.goto 6, 3) := by decide +kernel
theorem dL_planOf_12 : decode cL_planOf 12 = .ok (.astore_n 3, 1) := by decide +kernel
theorem dL_planOf_13 : decode cL_planOf 13 = .ok (.iconst 1, 1) := by decide +kernel
theorem dL_planOf_14 : decode cL_planOf 14 = .ok (.ireturn, 1) := by decide +kernel
theorem dL_planOf_15 : decode cL_planOf 15 = .ok (.iconst 0, 1) := by decide +kernel
theorem dL_planOf_16 : decode cL_planOf 16 = .ok (.ireturn, 1) := by decide +kernel
theorem dL_law_0 : decode cL_law 0 = .ok (.new 8, 3) := by decide +kernel
theorem dL_law_3 : decode cL_law 3 = .ok (.dup, 1) := by decide +kernel
theorem dL_law_4 : decode cL_law 4 = .ok (.invokespecial 81, 3) := by decide +kernel
theorem dL_law_7 : decode cL_law 7 = .ok (.astore_n 1, 1) := by decide +kernel
theorem dL_law_8 : decode cL_law 8 = .ok (.new 82, 3) := by decide +kernel
theorem dL_law_11 : decode cL_law 11 = .ok (.dup, 1) := by decide +kernel
theorem dL_law_12 : decode cL_law 12 = .ok (.invokespecial 84, 3) := by decide +kernel
theorem dL_law_15 : decode cL_law 15 = .ok (.astore_n 2, 1) := by decide +kernel
theorem dL_law_16 : decode cL_law 16 = .ok (.iconst 1, 1) := by decide +kernel
theorem dL_law_17 : decode cL_law 17 = .ok (.newarray .long, 2) := by decide +kernel
theorem dL_law_19 : decode cL_law 19 = .ok (.astore_n 3, 1) := by decide +kernel
theorem dL_law_20 : decode cL_law 20 = .ok (.iconst 0, 1) := by decide +kernel
theorem dL_law_21 : decode cL_law 21 = .ok (.istore 4, 2) := by decide +kernel
theorem dL_law_23 : decode cL_law 23 = .ok (.iload 4, 2) := by decide +kernel
theorem dL_law_25 : decode cL_law 25 = .ok (.aload_n 0, 1) := by decide +kernel
theorem dL_law_26 : decode cL_law 26 = .ok (.arraylength, 1) := by decide +kernel
theorem dL_law_27 : decode cL_law 27 = .ok (.iconst 4, 1) := by decide +kernel
theorem dL_law_28 : decode cL_law 28 = .ok (.isub, 1) := by decide +kernel
theorem dL_law_29 : decode cL_law 29 = .ok (.if_icmp .gt 1384, 3) := by decide +kernel
theorem dL_law_32 : decode cL_law 32 = .ok (.aload_n 0, 1) := by decide +kernel
theorem dL_law_33 : decode cL_law 33 = .ok (.iload 4, 2) := by decide +kernel
theorem dL_law_35 : decode cL_law 35 = .ok (.iaload, 1) := by decide +kernel
theorem dL_law_36 : decode cL_law 36 = .ok (.bipush 31, 2) := by decide +kernel
theorem dL_law_38 : decode cL_law 38 = .ok (.iand, 1) := by decide +kernel
theorem dL_law_39 : decode cL_law 39 = .ok (.tableswitch 1368 0 20 #[97, 153, 221, 277, 333, 401, 457, 525, 581, 660, 727, 794, 850, 905, 960, 1015, 1029, 1108, 1188, 1256, 1312], 97) := by decide +kernel
theorem dL_law_136 : decode cL_law 136 = .ok (.aload_n 1, 1) := by decide +kernel
theorem dL_law_137 : decode cL_law 137 = .ok (.aload_n 0, 1) := by decide +kernel
theorem dL_law_138 : decode cL_law 138 = .ok (.iload 4, 2) := by decide +kernel
theorem dL_law_140 : decode cL_law 140 = .ok (.iconst 1, 1) := by decide +kernel
theorem dL_law_141 : decode cL_law 141 = .ok (.iadd, 1) := by decide +kernel
theorem dL_law_142 : decode cL_law 142 = .ok (.iaload, 1) := by decide +kernel
theorem dL_law_143 : decode cL_law 143 = .ok (.aload_n 3, 1) := by decide +kernel
theorem dL_law_144 : decode cL_law 144 = .ok (.invokestatic 85, 3) := by decide +kernel
theorem dL_law_147 : decode cL_law 147 = .ok (.istore 5, 2) := by decide +kernel
theorem dL_law_149 : decode cL_law 149 = .ok (.aload_n 2, 1) := by decide +kernel
theorem dL_law_150 : decode cL_law 150 = .ok (.aload_n 0, 1) := by decide +kernel
theorem dL_law_151 : decode cL_law 151 = .ok (.iload 4, 2) := by decide +kernel
theorem dL_law_153 : decode cL_law 153 = .ok (.iconst 1, 1) := by decide +kernel
theorem dL_law_154 : decode cL_law 154 = .ok (.iadd, 1) := by decide +kernel
theorem dL_law_155 : decode cL_law 155 = .ok (.iaload, 1) := by decide +kernel
theorem dL_law_156 : decode cL_law 156 = .ok (.invokevirtual 90, 3) := by decide +kernel
theorem dL_law_159 : decode cL_law 159 = .ok (.istore 6, 2) := by decide +kernel
theorem dL_law_161 : decode cL_law 161 = .ok (.aload_n 2, 1) := by decide +kernel
theorem dL_law_162 : decode cL_law 162 = .ok (.invokevirtual 91, 3) := by decide +kernel
theorem dL_law_165 : decode cL_law 165 = .ok (.iload 5, 2) := by decide +kernel
theorem dL_law_167 : decode cL_law 167 = .ok (.if_icmp .eq 5, 3) := by decide +kernel
theorem dL_law_170 : decode cL_law 170 = .ok (.iconst 0, 1) := by decide +kernel
theorem dL_law_171 : decode cL_law 171 = .ok (.ireturn, 1) := by decide +kernel
theorem dL_law_172 : decode cL_law 172 = .ok (.iload 5, 2) := by decide +kernel
theorem dL_law_174 : decode cL_law 174 = .ok (.ifCond .ne 15, 3) := by decide +kernel
theorem dL_law_177 : decode cL_law 177 = .ok (.aload_n 3, 1) := by decide +kernel
theorem dL_law_178 : decode cL_law 178 = .ok (.iconst 0, 1) := by decide +kernel
theorem dL_law_179 : decode cL_law 179 = .ok (.laload, 1) := by decide +kernel
theorem dL_law_180 : decode cL_law 180 = .ok (.iload 6, 2) := by decide +kernel
theorem dL_law_182 : decode cL_law 182 = .ok (.i2l, 1) := by decide +kernel
theorem dL_law_183 : decode cL_law 183 = .ok (.lcmp, 1) := by decide +kernel
theorem dL_law_184 : decode cL_law 184 = .ok (.ifCond .eq 5, 3) := by decide +kernel
theorem dL_law_187 : decode cL_law 187 = .ok (.iconst 0, 1) := by decide +kernel
theorem dL_law_188 : decode cL_law 188 = .ok (.ireturn, 1) := by decide +kernel
theorem dL_law_189 : decode cL_law 189 = .ok (.goto 1218, 3) := by decide +kernel
theorem dL_law_192 : decode cL_law 192 = .ok (.aload_n 1, 1) := by decide +kernel
theorem dL_law_193 : decode cL_law 193 = .ok (.aload_n 0, 1) := by decide +kernel
theorem dL_law_194 : decode cL_law 194 = .ok (.iload 4, 2) := by decide +kernel
theorem dL_law_196 : decode cL_law 196 = .ok (.iconst 1, 1) := by decide +kernel
theorem dL_law_197 : decode cL_law 197 = .ok (.iadd, 1) := by decide +kernel
theorem dL_law_198 : decode cL_law 198 = .ok (.iaload, 1) := by decide +kernel
theorem dL_law_199 : decode cL_law 199 = .ok (.aload_n 0, 1) := by decide +kernel
theorem dL_law_200 : decode cL_law 200 = .ok (.iload 4, 2) := by decide +kernel
theorem dL_law_202 : decode cL_law 202 = .ok (.iconst 2, 1) := by decide +kernel
theorem dL_law_203 : decode cL_law 203 = .ok (.iadd, 1) := by decide +kernel
theorem dL_law_204 : decode cL_law 204 = .ok (.iaload, 1) := by decide +kernel
theorem dL_law_205 : decode cL_law 205 = .ok (.aload_n 3, 1) := by decide +kernel
theorem dL_law_206 : decode cL_law 206 = .ok (.invokestatic 95, 3) := by decide +kernel
theorem dL_law_209 : decode cL_law 209 = .ok (.istore 5, 2) := by decide +kernel
theorem dL_law_211 : decode cL_law 211 = .ok (.aload_n 2, 1) := by decide +kernel
theorem dL_law_212 : decode cL_law 212 = .ok (.aload_n 0, 1) := by decide +kernel
theorem dL_law_213 : decode cL_law 213 = .ok (.iload 4, 2) := by decide +kernel
theorem dL_law_215 : decode cL_law 215 = .ok (.iconst 1, 1) := by decide +kernel
theorem dL_law_216 : decode cL_law 216 = .ok (.iadd, 1) := by decide +kernel
theorem dL_law_217 : decode cL_law 217 = .ok (.iaload, 1) := by decide +kernel
theorem dL_law_218 : decode cL_law 218 = .ok (.aload_n 0, 1) := by decide +kernel
theorem dL_law_219 : decode cL_law 219 = .ok (.iload 4, 2) := by decide +kernel
theorem dL_law_221 : decode cL_law 221 = .ok (.iconst 2, 1) := by decide +kernel
theorem dL_law_222 : decode cL_law 222 = .ok (.iadd, 1) := by decide +kernel
theorem dL_law_223 : decode cL_law 223 = .ok (.iaload, 1) := by decide +kernel
theorem dL_law_224 : decode cL_law 224 = .ok (.invokevirtual 98, 3) := by decide +kernel
theorem dL_law_227 : decode cL_law 227 = .ok (.istore 6, 2) := by decide +kernel
theorem dL_law_229 : decode cL_law 229 = .ok (.aload_n 2, 1) := by decide +kernel
theorem dL_law_230 : decode cL_law 230 = .ok (.invokevirtual 91, 3) := by decide +kernel
theorem dL_law_233 : decode cL_law 233 = .ok (.iload 5, 2) := by decide +kernel
theorem dL_law_235 : decode cL_law 235 = .ok (.if_icmp .eq 5, 3) := by decide +kernel
theorem dL_law_238 : decode cL_law 238 = .ok (.iconst 0, 1) := by decide +kernel
theorem dL_law_239 : decode cL_law 239 = .ok (.ireturn, 1) := by decide +kernel
theorem dL_law_240 : decode cL_law 240 = .ok (.iload 5, 2) := by decide +kernel
theorem dL_law_242 : decode cL_law 242 = .ok (.ifCond .ne 15, 3) := by decide +kernel
theorem dL_law_245 : decode cL_law 245 = .ok (.aload_n 3, 1) := by decide +kernel
theorem dL_law_246 : decode cL_law 246 = .ok (.iconst 0, 1) := by decide +kernel
theorem dL_law_247 : decode cL_law 247 = .ok (.laload, 1) := by decide +kernel
theorem dL_law_248 : decode cL_law 248 = .ok (.iload 6, 2) := by decide +kernel
theorem dL_law_250 : decode cL_law 250 = .ok (.i2l, 1) := by decide +kernel
theorem dL_law_251 : decode cL_law 251 = .ok (.lcmp, 1) := by decide +kernel
theorem dL_law_252 : decode cL_law 252 = .ok (.ifCond .eq 5, 3) := by decide +kernel
theorem dL_law_255 : decode cL_law 255 = .ok (.iconst 0, 1) := by decide +kernel
theorem dL_law_256 : decode cL_law 256 = .ok (.ireturn, 1) := by decide +kernel
theorem dL_law_257 : decode cL_law 257 = .ok (.goto 1150, 3) := by decide +kernel
theorem dL_law_260 : decode cL_law 260 = .ok (.aload_n 1, 1) := by decide +kernel
theorem dL_law_261 : decode cL_law 261 = .ok (.aload_n 0, 1) := by decide +kernel
theorem dL_law_262 : decode cL_law 262 = .ok (.iload 4, 2) := by decide +kernel
theorem dL_law_264 : decode cL_law 264 = .ok (.iconst 1, 1) := by decide +kernel
theorem dL_law_265 : decode cL_law 265 = .ok (.iadd, 1) := by decide +kernel
theorem dL_law_266 : decode cL_law 266 = .ok (.iaload, 1) := by decide +kernel
theorem dL_law_267 : decode cL_law 267 = .ok (.aload_n 3, 1) := by decide +kernel
theorem dL_law_268 : decode cL_law 268 = .ok (.invokestatic 99, 3) := by decide +kernel
theorem dL_law_271 : decode cL_law 271 = .ok (.istore 5, 2) := by decide +kernel
theorem dL_law_273 : decode cL_law 273 = .ok (.aload_n 2, 1) := by decide +kernel
theorem dL_law_274 : decode cL_law 274 = .ok (.aload_n 0, 1) := by decide +kernel
theorem dL_law_275 : decode cL_law 275 = .ok (.iload 4, 2) := by decide +kernel
theorem dL_law_277 : decode cL_law 277 = .ok (.iconst 1, 1) := by decide +kernel
theorem dL_law_278 : decode cL_law 278 = .ok (.iadd, 1) := by decide +kernel
theorem dL_law_279 : decode cL_law 279 = .ok (.iaload, 1) := by decide +kernel
theorem dL_law_280 : decode cL_law 280 = .ok (.invokevirtual 101, 3) := by decide +kernel
theorem dL_law_283 : decode cL_law 283 = .ok (.istore 6, 2) := by decide +kernel
theorem dL_law_285 : decode cL_law 285 = .ok (.aload_n 2, 1) := by decide +kernel
theorem dL_law_286 : decode cL_law 286 = .ok (.invokevirtual 91, 3) := by decide +kernel
theorem dL_law_289 : decode cL_law 289 = .ok (.iload 5, 2) := by decide +kernel
theorem dL_law_291 : decode cL_law 291 = .ok (.if_icmp .eq 5, 3) := by decide +kernel
theorem dL_law_294 : decode cL_law 294 = .ok (.iconst 0, 1) := by decide +kernel
theorem dL_law_295 : decode cL_law 295 = .ok (.ireturn, 1) := by decide +kernel
theorem dL_law_296 : decode cL_law 296 = .ok (.iload 5, 2) := by decide +kernel
theorem dL_law_298 : decode cL_law 298 = .ok (.ifCond .ne 15, 3) := by decide +kernel
theorem dL_law_301 : decode cL_law 301 = .ok (.aload_n 3, 1) := by decide +kernel
theorem dL_law_302 : decode cL_law 302 = .ok (.iconst 0, 1) := by decide +kernel
theorem dL_law_303 : decode cL_law 303 = .ok (.laload, 1) := by decide +kernel
theorem dL_law_304 : decode cL_law 304 = .ok (.iload 6, 2) := by decide +kernel
theorem dL_law_306 : decode cL_law 306 = .ok (.i2l, 1) := by decide +kernel
theorem dL_law_307 : decode cL_law 307 = .ok (.lcmp, 1) := by decide +kernel
theorem dL_law_308 : decode cL_law 308 = .ok (.ifCond .eq 5, 3) := by decide +kernel
theorem dL_law_311 : decode cL_law 311 = .ok (.iconst 0, 1) := by decide +kernel
theorem dL_law_312 : decode cL_law 312 = .ok (.ireturn, 1) := by decide +kernel
theorem dL_law_313 : decode cL_law 313 = .ok (.goto 1094, 3) := by decide +kernel
theorem dL_law_316 : decode cL_law 316 = .ok (.aload_n 1, 1) := by decide +kernel
theorem dL_law_317 : decode cL_law 317 = .ok (.aload_n 0, 1) := by decide +kernel
theorem dL_law_318 : decode cL_law 318 = .ok (.iload 4, 2) := by decide +kernel
theorem dL_law_320 : decode cL_law 320 = .ok (.iconst 1, 1) := by decide +kernel
theorem dL_law_321 : decode cL_law 321 = .ok (.iadd, 1) := by decide +kernel
theorem dL_law_322 : decode cL_law 322 = .ok (.iaload, 1) := by decide +kernel
theorem dL_law_323 : decode cL_law 323 = .ok (.aload_n 3, 1) := by decide +kernel
theorem dL_law_324 : decode cL_law 324 = .ok (.invokestatic 102, 3) := by decide +kernel
theorem dL_law_327 : decode cL_law 327 = .ok (.istore 5, 2) := by decide +kernel
theorem dL_law_329 : decode cL_law 329 = .ok (.aload_n 2, 1) := by decide +kernel
theorem dL_law_330 : decode cL_law 330 = .ok (.aload_n 0, 1) := by decide +kernel
theorem dL_law_331 : decode cL_law 331 = .ok (.iload 4, 2) := by decide +kernel
theorem dL_law_333 : decode cL_law 333 = .ok (.iconst 1, 1) := by decide +kernel
theorem dL_law_334 : decode cL_law 334 = .ok (.iadd, 1) := by decide +kernel
theorem dL_law_335 : decode cL_law 335 = .ok (.iaload, 1) := by decide +kernel
theorem dL_law_336 : decode cL_law 336 = .ok (.invokevirtual 104, 3) := by decide +kernel
theorem dL_law_339 : decode cL_law 339 = .ok (.istore 6, 2) := by decide +kernel
theorem dL_law_341 : decode cL_law 341 = .ok (.aload_n 2, 1) := by decide +kernel
theorem dL_law_342 : decode cL_law 342 = .ok (.invokevirtual 91, 3) := by decide +kernel
theorem dL_law_345 : decode cL_law 345 = .ok (.iload 5, 2) := by decide +kernel
theorem dL_law_347 : decode cL_law 347 = .ok (.if_icmp .eq 5, 3) := by decide +kernel
theorem dL_law_350 : decode cL_law 350 = .ok (.iconst 0, 1) := by decide +kernel
theorem dL_law_351 : decode cL_law 351 = .ok (.ireturn, 1) := by decide +kernel
theorem dL_law_352 : decode cL_law 352 = .ok (.iload 5, 2) := by decide +kernel
theorem dL_law_354 : decode cL_law 354 = .ok (.ifCond .ne 15, 3) := by decide +kernel
theorem dL_law_357 : decode cL_law 357 = .ok (.aload_n 3, 1) := by decide +kernel
theorem dL_law_358 : decode cL_law 358 = .ok (.iconst 0, 1) := by decide +kernel
theorem dL_law_359 : decode cL_law 359 = .ok (.laload, 1) := by decide +kernel
theorem dL_law_360 : decode cL_law 360 = .ok (.iload 6, 2) := by decide +kernel
theorem dL_law_362 : decode cL_law 362 = .ok (.i2l, 1) := by decide +kernel
theorem dL_law_363 : decode cL_law 363 = .ok (.lcmp, 1) := by decide +kernel
theorem dL_law_364 : decode cL_law 364 = .ok (.ifCond .eq 5, 3) := by decide +kernel
theorem dL_law_367 : decode cL_law 367 = .ok (.iconst 0, 1) := by decide +kernel
theorem dL_law_368 : decode cL_law 368 = .ok (.ireturn, 1) := by decide +kernel
theorem dL_law_369 : decode cL_law 369 = .ok (.goto 1038, 3) := by decide +kernel
theorem dL_law_372 : decode cL_law 372 = .ok (.aload_n 1, 1) := by decide +kernel
theorem dL_law_373 : decode cL_law 373 = .ok (.aload_n 0, 1) := by decide +kernel
theorem dL_law_374 : decode cL_law 374 = .ok (.iload 4, 2) := by decide +kernel
theorem dL_law_376 : decode cL_law 376 = .ok (.iconst 1, 1) := by decide +kernel
theorem dL_law_377 : decode cL_law 377 = .ok (.iadd, 1) := by decide +kernel
theorem dL_law_378 : decode cL_law 378 = .ok (.iaload, 1) := by decide +kernel
theorem dL_law_379 : decode cL_law 379 = .ok (.aload_n 0, 1) := by decide +kernel
theorem dL_law_380 : decode cL_law 380 = .ok (.iload 4, 2) := by decide +kernel
theorem dL_law_382 : decode cL_law 382 = .ok (.iconst 2, 1) := by decide +kernel
theorem dL_law_383 : decode cL_law 383 = .ok (.iadd, 1) := by decide +kernel
theorem dL_law_384 : decode cL_law 384 = .ok (.iaload, 1) := by decide +kernel
theorem dL_law_385 : decode cL_law 385 = .ok (.aload_n 3, 1) := by decide +kernel
theorem dL_law_386 : decode cL_law 386 = .ok (.invokestatic 105, 3) := by decide +kernel
theorem dL_law_389 : decode cL_law 389 = .ok (.istore 5, 2) := by decide +kernel
theorem dL_law_391 : decode cL_law 391 = .ok (.aload_n 2, 1) := by decide +kernel
theorem dL_law_392 : decode cL_law 392 = .ok (.aload_n 0, 1) := by decide +kernel
theorem dL_law_393 : decode cL_law 393 = .ok (.iload 4, 2) := by decide +kernel
theorem dL_law_395 : decode cL_law 395 = .ok (.iconst 1, 1) := by decide +kernel
theorem dL_law_396 : decode cL_law 396 = .ok (.iadd, 1) := by decide +kernel
theorem dL_law_397 : decode cL_law 397 = .ok (.iaload, 1) := by decide +kernel
theorem dL_law_398 : decode cL_law 398 = .ok (.aload_n 0, 1) := by decide +kernel
theorem dL_law_399 : decode cL_law 399 = .ok (.iload 4, 2) := by decide +kernel
theorem dL_law_401 : decode cL_law 401 = .ok (.iconst 2, 1) := by decide +kernel
theorem dL_law_402 : decode cL_law 402 = .ok (.iadd, 1) := by decide +kernel
theorem dL_law_403 : decode cL_law 403 = .ok (.iaload, 1) := by decide +kernel
theorem dL_law_404 : decode cL_law 404 = .ok (.invokevirtual 107, 3) := by decide +kernel
theorem dL_law_407 : decode cL_law 407 = .ok (.istore 6, 2) := by decide +kernel
theorem dL_law_409 : decode cL_law 409 = .ok (.aload_n 2, 1) := by decide +kernel
theorem dL_law_410 : decode cL_law 410 = .ok (.invokevirtual 91, 3) := by decide +kernel
theorem dL_law_413 : decode cL_law 413 = .ok (.iload 5, 2) := by decide +kernel
theorem dL_law_415 : decode cL_law 415 = .ok (.if_icmp .eq 5, 3) := by decide +kernel
theorem dL_law_418 : decode cL_law 418 = .ok (.iconst 0, 1) := by decide +kernel
theorem dL_law_419 : decode cL_law 419 = .ok (.ireturn, 1) := by decide +kernel
theorem dL_law_420 : decode cL_law 420 = .ok (.iload 5, 2) := by decide +kernel
theorem dL_law_422 : decode cL_law 422 = .ok (.ifCond .ne 15, 3) := by decide +kernel
theorem dL_law_425 : decode cL_law 425 = .ok (.aload_n 3, 1) := by decide +kernel
theorem dL_law_426 : decode cL_law 426 = .ok (.iconst 0, 1) := by decide +kernel
theorem dL_law_427 : decode cL_law 427 = .ok (.laload, 1) := by decide +kernel
theorem dL_law_428 : decode cL_law 428 = .ok (.iload 6, 2) := by decide +kernel
theorem dL_law_430 : decode cL_law 430 = .ok (.i2l, 1) := by decide +kernel
theorem dL_law_431 : decode cL_law 431 = .ok (.lcmp, 1) := by decide +kernel
theorem dL_law_432 : decode cL_law 432 = .ok (.ifCond .eq 5, 3) := by decide +kernel
theorem dL_law_435 : decode cL_law 435 = .ok (.iconst 0, 1) := by decide +kernel
theorem dL_law_436 : decode cL_law 436 = .ok (.ireturn, 1) := by decide +kernel
theorem dL_law_437 : decode cL_law 437 = .ok (.goto 970, 3) := by decide +kernel
theorem dL_law_440 : decode cL_law 440 = .ok (.aload_n 1, 1) := by decide +kernel
theorem dL_law_441 : decode cL_law 441 = .ok (.aload_n 0, 1) := by decide +kernel
theorem dL_law_442 : decode cL_law 442 = .ok (.iload 4, 2) := by decide +kernel
theorem dL_law_444 : decode cL_law 444 = .ok (.iconst 1, 1) := by decide +kernel
theorem dL_law_445 : decode cL_law 445 = .ok (.iadd, 1) := by decide +kernel
theorem dL_law_446 : decode cL_law 446 = .ok (.iaload, 1) := by decide +kernel
theorem dL_law_447 : decode cL_law 447 = .ok (.aload_n 3, 1) := by decide +kernel
theorem dL_law_448 : decode cL_law 448 = .ok (.invokestatic 108, 3) := by decide +kernel
theorem dL_law_451 : decode cL_law 451 = .ok (.istore 5, 2) := by decide +kernel
theorem dL_law_453 : decode cL_law 453 = .ok (.aload_n 2, 1) := by decide +kernel
theorem dL_law_454 : decode cL_law 454 = .ok (.aload_n 0, 1) := by decide +kernel
theorem dL_law_455 : decode cL_law 455 = .ok (.iload 4, 2) := by decide +kernel
theorem dL_law_457 : decode cL_law 457 = .ok (.iconst 1, 1) := by decide +kernel
theorem dL_law_458 : decode cL_law 458 = .ok (.iadd, 1) := by decide +kernel
theorem dL_law_459 : decode cL_law 459 = .ok (.iaload, 1) := by decide +kernel
theorem dL_law_460 : decode cL_law 460 = .ok (.invokevirtual 110, 3) := by decide +kernel
theorem dL_law_463 : decode cL_law 463 = .ok (.istore 6, 2) := by decide +kernel
theorem dL_law_465 : decode cL_law 465 = .ok (.aload_n 2, 1) := by decide +kernel
theorem dL_law_466 : decode cL_law 466 = .ok (.invokevirtual 91, 3) := by decide +kernel
theorem dL_law_469 : decode cL_law 469 = .ok (.iload 5, 2) := by decide +kernel
theorem dL_law_471 : decode cL_law 471 = .ok (.if_icmp .eq 5, 3) := by decide +kernel
theorem dL_law_474 : decode cL_law 474 = .ok (.iconst 0, 1) := by decide +kernel
theorem dL_law_475 : decode cL_law 475 = .ok (.ireturn, 1) := by decide +kernel
theorem dL_law_476 : decode cL_law 476 = .ok (.iload 5, 2) := by decide +kernel
theorem dL_law_478 : decode cL_law 478 = .ok (.ifCond .ne 15, 3) := by decide +kernel
theorem dL_law_481 : decode cL_law 481 = .ok (.aload_n 3, 1) := by decide +kernel
theorem dL_law_482 : decode cL_law 482 = .ok (.iconst 0, 1) := by decide +kernel
theorem dL_law_483 : decode cL_law 483 = .ok (.laload, 1) := by decide +kernel
theorem dL_law_484 : decode cL_law 484 = .ok (.iload 6, 2) := by decide +kernel
theorem dL_law_486 : decode cL_law 486 = .ok (.i2l, 1) := by decide +kernel
theorem dL_law_487 : decode cL_law 487 = .ok (.lcmp, 1) := by decide +kernel
theorem dL_law_488 : decode cL_law 488 = .ok (.ifCond .eq 5, 3) := by decide +kernel
theorem dL_law_491 : decode cL_law 491 = .ok (.iconst 0, 1) := by decide +kernel
theorem dL_law_492 : decode cL_law 492 = .ok (.ireturn, 1) := by decide +kernel
theorem dL_law_493 : decode cL_law 493 = .ok (.goto 914, 3) := by decide +kernel
theorem dL_law_496 : decode cL_law 496 = .ok (.aload_n 1, 1) := by decide +kernel
theorem dL_law_497 : decode cL_law 497 = .ok (.aload_n 0, 1) := by decide +kernel
theorem dL_law_498 : decode cL_law 498 = .ok (.iload 4, 2) := by decide +kernel
theorem dL_law_500 : decode cL_law 500 = .ok (.iconst 1, 1) := by decide +kernel
theorem dL_law_501 : decode cL_law 501 = .ok (.iadd, 1) := by decide +kernel
theorem dL_law_502 : decode cL_law 502 = .ok (.iaload, 1) := by decide +kernel
theorem dL_law_503 : decode cL_law 503 = .ok (.aload_n 0, 1) := by decide +kernel
theorem dL_law_504 : decode cL_law 504 = .ok (.iload 4, 2) := by decide +kernel
theorem dL_law_506 : decode cL_law 506 = .ok (.iconst 2, 1) := by decide +kernel
theorem dL_law_507 : decode cL_law 507 = .ok (.iadd, 1) := by decide +kernel
theorem dL_law_508 : decode cL_law 508 = .ok (.iaload, 1) := by decide +kernel
theorem dL_law_509 : decode cL_law 509 = .ok (.aload_n 3, 1) := by decide +kernel
theorem dL_law_510 : decode cL_law 510 = .ok (.invokestatic 111, 3) := by decide +kernel
theorem dL_law_513 : decode cL_law 513 = .ok (.istore 5, 2) := by decide +kernel
theorem dL_law_515 : decode cL_law 515 = .ok (.aload_n 2, 1) := by decide +kernel
theorem dL_law_516 : decode cL_law 516 = .ok (.aload_n 0, 1) := by decide +kernel
theorem dL_law_517 : decode cL_law 517 = .ok (.iload 4, 2) := by decide +kernel
theorem dL_law_519 : decode cL_law 519 = .ok (.iconst 1, 1) := by decide +kernel
theorem dL_law_520 : decode cL_law 520 = .ok (.iadd, 1) := by decide +kernel
theorem dL_law_521 : decode cL_law 521 = .ok (.iaload, 1) := by decide +kernel
theorem dL_law_522 : decode cL_law 522 = .ok (.aload_n 0, 1) := by decide +kernel
theorem dL_law_523 : decode cL_law 523 = .ok (.iload 4, 2) := by decide +kernel
theorem dL_law_525 : decode cL_law 525 = .ok (.iconst 2, 1) := by decide +kernel
theorem dL_law_526 : decode cL_law 526 = .ok (.iadd, 1) := by decide +kernel
theorem dL_law_527 : decode cL_law 527 = .ok (.iaload, 1) := by decide +kernel
theorem dL_law_528 : decode cL_law 528 = .ok (.invokevirtual 113, 3) := by decide +kernel
theorem dL_law_531 : decode cL_law 531 = .ok (.istore 6, 2) := by decide +kernel
theorem dL_law_533 : decode cL_law 533 = .ok (.aload_n 2, 1) := by decide +kernel
theorem dL_law_534 : decode cL_law 534 = .ok (.invokevirtual 91, 3) := by decide +kernel
theorem dL_law_537 : decode cL_law 537 = .ok (.iload 5, 2) := by decide +kernel
theorem dL_law_539 : decode cL_law 539 = .ok (.if_icmp .eq 5, 3) := by decide +kernel
theorem dL_law_542 : decode cL_law 542 = .ok (.iconst 0, 1) := by decide +kernel
theorem dL_law_543 : decode cL_law 543 = .ok (.ireturn, 1) := by decide +kernel
theorem dL_law_544 : decode cL_law 544 = .ok (.iload 5, 2) := by decide +kernel
theorem dL_law_546 : decode cL_law 546 = .ok (.ifCond .ne 15, 3) := by decide +kernel
theorem dL_law_549 : decode cL_law 549 = .ok (.aload_n 3, 1) := by decide +kernel
theorem dL_law_550 : decode cL_law 550 = .ok (.iconst 0, 1) := by decide +kernel
theorem dL_law_551 : decode cL_law 551 = .ok (.laload, 1) := by decide +kernel
theorem dL_law_552 : decode cL_law 552 = .ok (.iload 6, 2) := by decide +kernel
theorem dL_law_554 : decode cL_law 554 = .ok (.i2l, 1) := by decide +kernel
theorem dL_law_555 : decode cL_law 555 = .ok (.lcmp, 1) := by decide +kernel
theorem dL_law_556 : decode cL_law 556 = .ok (.ifCond .eq 5, 3) := by decide +kernel
theorem dL_law_559 : decode cL_law 559 = .ok (.iconst 0, 1) := by decide +kernel
theorem dL_law_560 : decode cL_law 560 = .ok (.ireturn, 1) := by decide +kernel
theorem dL_law_561 : decode cL_law 561 = .ok (.goto 846, 3) := by decide +kernel
theorem dL_law_564 : decode cL_law 564 = .ok (.aload_n 1, 1) := by decide +kernel
theorem dL_law_565 : decode cL_law 565 = .ok (.aload_n 0, 1) := by decide +kernel
theorem dL_law_566 : decode cL_law 566 = .ok (.iload 4, 2) := by decide +kernel
theorem dL_law_568 : decode cL_law 568 = .ok (.iconst 1, 1) := by decide +kernel
theorem dL_law_569 : decode cL_law 569 = .ok (.iadd, 1) := by decide +kernel
theorem dL_law_570 : decode cL_law 570 = .ok (.iaload, 1) := by decide +kernel
theorem dL_law_571 : decode cL_law 571 = .ok (.aload_n 3, 1) := by decide +kernel
theorem dL_law_572 : decode cL_law 572 = .ok (.invokestatic 114, 3) := by decide +kernel
theorem dL_law_575 : decode cL_law 575 = .ok (.istore 5, 2) := by decide +kernel
theorem dL_law_577 : decode cL_law 577 = .ok (.aload_n 2, 1) := by decide +kernel
theorem dL_law_578 : decode cL_law 578 = .ok (.aload_n 0, 1) := by decide +kernel
theorem dL_law_579 : decode cL_law 579 = .ok (.iload 4, 2) := by decide +kernel
theorem dL_law_581 : decode cL_law 581 = .ok (.iconst 1, 1) := by decide +kernel
theorem dL_law_582 : decode cL_law 582 = .ok (.iadd, 1) := by decide +kernel
theorem dL_law_583 : decode cL_law 583 = .ok (.iaload, 1) := by decide +kernel
theorem dL_law_584 : decode cL_law 584 = .ok (.invokevirtual 116, 3) := by decide +kernel
theorem dL_law_587 : decode cL_law 587 = .ok (.istore 6, 2) := by decide +kernel
theorem dL_law_589 : decode cL_law 589 = .ok (.aload_n 2, 1) := by decide +kernel
theorem dL_law_590 : decode cL_law 590 = .ok (.invokevirtual 91, 3) := by decide +kernel
theorem dL_law_593 : decode cL_law 593 = .ok (.iload 5, 2) := by decide +kernel
theorem dL_law_595 : decode cL_law 595 = .ok (.if_icmp .eq 5, 3) := by decide +kernel
theorem dL_law_598 : decode cL_law 598 = .ok (.iconst 0, 1) := by decide +kernel
theorem dL_law_599 : decode cL_law 599 = .ok (.ireturn, 1) := by decide +kernel
theorem dL_law_600 : decode cL_law 600 = .ok (.iload 5, 2) := by decide +kernel
theorem dL_law_602 : decode cL_law 602 = .ok (.ifCond .ne 15, 3) := by decide +kernel
theorem dL_law_605 : decode cL_law 605 = .ok (.aload_n 3, 1) := by decide +kernel
theorem dL_law_606 : decode cL_law 606 = .ok (.iconst 0, 1) := by decide +kernel
theorem dL_law_607 : decode cL_law 607 = .ok (.laload, 1) := by decide +kernel
theorem dL_law_608 : decode cL_law 608 = .ok (.iload 6, 2) := by decide +kernel
theorem dL_law_610 : decode cL_law 610 = .ok (.i2l, 1) := by decide +kernel
theorem dL_law_611 : decode cL_law 611 = .ok (.lcmp, 1) := by decide +kernel
theorem dL_law_612 : decode cL_law 612 = .ok (.ifCond .eq 5, 3) := by decide +kernel
theorem dL_law_615 : decode cL_law 615 = .ok (.iconst 0, 1) := by decide +kernel
theorem dL_law_616 : decode cL_law 616 = .ok (.ireturn, 1) := by decide +kernel
theorem dL_law_617 : decode cL_law 617 = .ok (.goto 790, 3) := by decide +kernel
theorem dL_law_620 : decode cL_law 620 = .ok (.aload_n 1, 1) := by decide +kernel
theorem dL_law_621 : decode cL_law 621 = .ok (.aload_n 0, 1) := by decide +kernel
theorem dL_law_622 : decode cL_law 622 = .ok (.iload 4, 2) := by decide +kernel
theorem dL_law_624 : decode cL_law 624 = .ok (.iconst 1, 1) := by decide +kernel
theorem dL_law_625 : decode cL_law 625 = .ok (.iadd, 1) := by decide +kernel
theorem dL_law_626 : decode cL_law 626 = .ok (.iaload, 1) := by decide +kernel
theorem dL_law_627 : decode cL_law 627 = .ok (.aload_n 0, 1) := by decide +kernel
theorem dL_law_628 : decode cL_law 628 = .ok (.iload 4, 2) := by decide +kernel
theorem dL_law_630 : decode cL_law 630 = .ok (.iconst 2, 1) := by decide +kernel
theorem dL_law_631 : decode cL_law 631 = .ok (.iadd, 1) := by decide +kernel
theorem dL_law_632 : decode cL_law 632 = .ok (.iaload, 1) := by decide +kernel
theorem dL_law_633 : decode cL_law 633 = .ok (.aload_n 0, 1) := by decide +kernel
theorem dL_law_634 : decode cL_law 634 = .ok (.iload 4, 2) := by decide +kernel
theorem dL_law_636 : decode cL_law 636 = .ok (.iconst 3, 1) := by decide +kernel
theorem dL_law_637 : decode cL_law 637 = .ok (.iadd, 1) := by decide +kernel
theorem dL_law_638 : decode cL_law 638 = .ok (.iaload, 1) := by decide +kernel
theorem dL_law_639 : decode cL_law 639 = .ok (.aload_n 3, 1) := by decide +kernel
theorem dL_law_640 : decode cL_law 640 = .ok (.invokestatic 117, 3) := by decide +kernel
theorem dL_law_643 : decode cL_law 643 = .ok (.istore 5, 2) := by decide +kernel
theorem dL_law_645 : decode cL_law 645 = .ok (.aload_n 2, 1) := by decide +kernel
theorem dL_law_646 : decode cL_law 646 = .ok (.aload_n 0, 1) := by decide +kernel
theorem dL_law_647 : decode cL_law 647 = .ok (.iload 4, 2) := by decide +kernel
theorem dL_law_649 : decode cL_law 649 = .ok (.iconst 1, 1) := by decide +kernel
theorem dL_law_650 : decode cL_law 650 = .ok (.iadd, 1) := by decide +kernel
theorem dL_law_651 : decode cL_law 651 = .ok (.iaload, 1) := by decide +kernel
theorem dL_law_652 : decode cL_law 652 = .ok (.aload_n 0, 1) := by decide +kernel
theorem dL_law_653 : decode cL_law 653 = .ok (.iload 4, 2) := by decide +kernel
theorem dL_law_655 : decode cL_law 655 = .ok (.iconst 2, 1) := by decide +kernel
theorem dL_law_656 : decode cL_law 656 = .ok (.iadd, 1) := by decide +kernel
theorem dL_law_657 : decode cL_law 657 = .ok (.iaload, 1) := by decide +kernel
theorem dL_law_658 : decode cL_law 658 = .ok (.aload_n 0, 1) := by decide +kernel
theorem dL_law_659 : decode cL_law 659 = .ok (.iload 4, 2) := by decide +kernel
theorem dL_law_661 : decode cL_law 661 = .ok (.iconst 3, 1) := by decide +kernel
theorem dL_law_662 : decode cL_law 662 = .ok (.iadd, 1) := by decide +kernel
theorem dL_law_663 : decode cL_law 663 = .ok (.iaload, 1) := by decide +kernel
theorem dL_law_664 : decode cL_law 664 = .ok (.invokevirtual 120, 3) := by decide +kernel
theorem dL_law_667 : decode cL_law 667 = .ok (.lstore 6, 2) := by decide +kernel
theorem dL_law_669 : decode cL_law 669 = .ok (.aload_n 2, 1) := by decide +kernel
theorem dL_law_670 : decode cL_law 670 = .ok (.invokevirtual 91, 3) := by decide +kernel
theorem dL_law_673 : decode cL_law 673 = .ok (.iload 5, 2) := by decide +kernel
theorem dL_law_675 : decode cL_law 675 = .ok (.if_icmp .eq 5, 3) := by decide +kernel
theorem dL_law_678 : decode cL_law 678 = .ok (.iconst 0, 1) := by decide +kernel
theorem dL_law_679 : decode cL_law 679 = .ok (.ireturn, 1) := by decide +kernel
theorem dL_law_680 : decode cL_law 680 = .ok (.iload 5, 2) := by decide +kernel
theorem dL_law_682 : decode cL_law 682 = .ok (.ifCond .ne 14, 3) := by decide +kernel
theorem dL_law_685 : decode cL_law 685 = .ok (.aload_n 3, 1) := by decide +kernel
theorem dL_law_686 : decode cL_law 686 = .ok (.iconst 0, 1) := by decide +kernel
theorem dL_law_687 : decode cL_law 687 = .ok (.laload, 1) := by decide +kernel
theorem dL_law_688 : decode cL_law 688 = .ok (.lload 6, 2) := by decide +kernel
theorem dL_law_690 : decode cL_law 690 = .ok (.lcmp, 1) := by decide +kernel
theorem dL_law_691 : decode cL_law 691 = .ok (.ifCond .eq 5, 3) := by decide +kernel
theorem dL_law_694 : decode cL_law 694 = .ok (.iconst 0, 1) := by decide +kernel
theorem dL_law_695 : decode cL_law 695 = .ok (.ireturn, 1) := by decide +kernel
theorem dL_law_696 : decode cL_law 696 = .ok (.goto 711, 3) := by decide +kernel
theorem dL_law_699 : decode cL_law 699 = .ok (.aload_n 1, 1) := by decide +kernel
theorem dL_law_700 : decode cL_law 700 = .ok (.aload_n 0, 1) := by decide +kernel
theorem dL_law_701 : decode cL_law 701 = .ok (.iload 4, 2) := by decide +kernel
theorem dL_law_703 : decode cL_law 703 = .ok (.iconst 1, 1) := by decide +kernel
theorem dL_law_704 : decode cL_law 704 = .ok (.iadd, 1) := by decide +kernel
theorem dL_law_705 : decode cL_law 705 = .ok (.iaload, 1) := by decide +kernel
theorem dL_law_706 : decode cL_law 706 = .ok (.aload_n 0, 1) := by decide +kernel
theorem dL_law_707 : decode cL_law 707 = .ok (.iload 4, 2) := by decide +kernel
theorem dL_law_709 : decode cL_law 709 = .ok (.iconst 2, 1) := by decide +kernel
theorem dL_law_710 : decode cL_law 710 = .ok (.iadd, 1) := by decide +kernel
theorem dL_law_711 : decode cL_law 711 = .ok (.iaload, 1) := by decide +kernel
theorem dL_law_712 : decode cL_law 712 = .ok (.aload_n 3, 1) := by decide +kernel
theorem dL_law_713 : decode cL_law 713 = .ok (.invokestatic 121, 3) := by decide +kernel
theorem dL_law_716 : decode cL_law 716 = .ok (.istore 5, 2) := by decide +kernel
theorem dL_law_718 : decode cL_law 718 = .ok (.aload_n 2, 1) := by decide +kernel
theorem dL_law_719 : decode cL_law 719 = .ok (.aload_n 0, 1) := by decide +kernel
theorem dL_law_720 : decode cL_law 720 = .ok (.iload 4, 2) := by decide +kernel
theorem dL_law_722 : decode cL_law 722 = .ok (.iconst 1, 1) := by decide +kernel
theorem dL_law_723 : decode cL_law 723 = .ok (.iadd, 1) := by decide +kernel
theorem dL_law_724 : decode cL_law 724 = .ok (.iaload, 1) := by decide +kernel
theorem dL_law_725 : decode cL_law 725 = .ok (.aload_n 0, 1) := by decide +kernel
theorem dL_law_726 : decode cL_law 726 = .ok (.iload 4, 2) := by decide +kernel
theorem dL_law_728 : decode cL_law 728 = .ok (.iconst 2, 1) := by decide +kernel
theorem dL_law_729 : decode cL_law 729 = .ok (.iadd, 1) := by decide +kernel
theorem dL_law_730 : decode cL_law 730 = .ok (.iaload, 1) := by decide +kernel
theorem dL_law_731 : decode cL_law 731 = .ok (.invokevirtual 123, 3) := by decide +kernel
theorem dL_law_734 : decode cL_law 734 = .ok (.lstore 6, 2) := by decide +kernel
theorem dL_law_736 : decode cL_law 736 = .ok (.aload_n 2, 1) := by decide +kernel
theorem dL_law_737 : decode cL_law 737 = .ok (.invokevirtual 91, 3) := by decide +kernel
theorem dL_law_740 : decode cL_law 740 = .ok (.iload 5, 2) := by decide +kernel
theorem dL_law_742 : decode cL_law 742 = .ok (.if_icmp .eq 5, 3) := by decide +kernel
theorem dL_law_745 : decode cL_law 745 = .ok (.iconst 0, 1) := by decide +kernel
theorem dL_law_746 : decode cL_law 746 = .ok (.ireturn, 1) := by decide +kernel
theorem dL_law_747 : decode cL_law 747 = .ok (.iload 5, 2) := by decide +kernel
theorem dL_law_749 : decode cL_law 749 = .ok (.ifCond .ne 14, 3) := by decide +kernel
theorem dL_law_752 : decode cL_law 752 = .ok (.aload_n 3, 1) := by decide +kernel
theorem dL_law_753 : decode cL_law 753 = .ok (.iconst 0, 1) := by decide +kernel
theorem dL_law_754 : decode cL_law 754 = .ok (.laload, 1) := by decide +kernel
theorem dL_law_755 : decode cL_law 755 = .ok (.lload 6, 2) := by decide +kernel
theorem dL_law_757 : decode cL_law 757 = .ok (.lcmp, 1) := by decide +kernel
theorem dL_law_758 : decode cL_law 758 = .ok (.ifCond .eq 5, 3) := by decide +kernel
theorem dL_law_761 : decode cL_law 761 = .ok (.iconst 0, 1) := by decide +kernel
theorem dL_law_762 : decode cL_law 762 = .ok (.ireturn, 1) := by decide +kernel
theorem dL_law_763 : decode cL_law 763 = .ok (.goto 644, 3) := by decide +kernel
theorem dL_law_766 : decode cL_law 766 = .ok (.aload_n 1, 1) := by decide +kernel
theorem dL_law_767 : decode cL_law 767 = .ok (.aload_n 0, 1) := by decide +kernel
theorem dL_law_768 : decode cL_law 768 = .ok (.iload 4, 2) := by decide +kernel
theorem dL_law_770 : decode cL_law 770 = .ok (.iconst 1, 1) := by decide +kernel
theorem dL_law_771 : decode cL_law 771 = .ok (.iadd, 1) := by decide +kernel
theorem dL_law_772 : decode cL_law 772 = .ok (.iaload, 1) := by decide +kernel
theorem dL_law_773 : decode cL_law 773 = .ok (.aload_n 0, 1) := by decide +kernel
theorem dL_law_774 : decode cL_law 774 = .ok (.iload 4, 2) := by decide +kernel
theorem dL_law_776 : decode cL_law 776 = .ok (.iconst 2, 1) := by decide +kernel
theorem dL_law_777 : decode cL_law 777 = .ok (.iadd, 1) := by decide +kernel
theorem dL_law_778 : decode cL_law 778 = .ok (.iaload, 1) := by decide +kernel
theorem dL_law_779 : decode cL_law 779 = .ok (.aload_n 3, 1) := by decide +kernel
theorem dL_law_780 : decode cL_law 780 = .ok (.invokestatic 124, 3) := by decide +kernel
theorem dL_law_783 : decode cL_law 783 = .ok (.istore 5, 2) := by decide +kernel
theorem dL_law_785 : decode cL_law 785 = .ok (.aload_n 2, 1) := by decide +kernel
theorem dL_law_786 : decode cL_law 786 = .ok (.aload_n 0, 1) := by decide +kernel
theorem dL_law_787 : decode cL_law 787 = .ok (.iload 4, 2) := by decide +kernel
theorem dL_law_789 : decode cL_law 789 = .ok (.iconst 1, 1) := by decide +kernel
theorem dL_law_790 : decode cL_law 790 = .ok (.iadd, 1) := by decide +kernel
theorem dL_law_791 : decode cL_law 791 = .ok (.iaload, 1) := by decide +kernel
theorem dL_law_792 : decode cL_law 792 = .ok (.aload_n 0, 1) := by decide +kernel
theorem dL_law_793 : decode cL_law 793 = .ok (.iload 4, 2) := by decide +kernel
theorem dL_law_795 : decode cL_law 795 = .ok (.iconst 2, 1) := by decide +kernel
theorem dL_law_796 : decode cL_law 796 = .ok (.iadd, 1) := by decide +kernel
theorem dL_law_797 : decode cL_law 797 = .ok (.iaload, 1) := by decide +kernel
theorem dL_law_798 : decode cL_law 798 = .ok (.invokevirtual 126, 3) := by decide +kernel
theorem dL_law_801 : decode cL_law 801 = .ok (.lstore 6, 2) := by decide +kernel
theorem dL_law_803 : decode cL_law 803 = .ok (.aload_n 2, 1) := by decide +kernel
theorem dL_law_804 : decode cL_law 804 = .ok (.invokevirtual 91, 3) := by decide +kernel
theorem dL_law_807 : decode cL_law 807 = .ok (.iload 5, 2) := by decide +kernel
theorem dL_law_809 : decode cL_law 809 = .ok (.if_icmp .eq 5, 3) := by decide +kernel
theorem dL_law_812 : decode cL_law 812 = .ok (.iconst 0, 1) := by decide +kernel
theorem dL_law_813 : decode cL_law 813 = .ok (.ireturn, 1) := by decide +kernel
theorem dL_law_814 : decode cL_law 814 = .ok (.iload 5, 2) := by decide +kernel
theorem dL_law_816 : decode cL_law 816 = .ok (.ifCond .ne 14, 3) := by decide +kernel
theorem dL_law_819 : decode cL_law 819 = .ok (.aload_n 3, 1) := by decide +kernel
theorem dL_law_820 : decode cL_law 820 = .ok (.iconst 0, 1) := by decide +kernel
theorem dL_law_821 : decode cL_law 821 = .ok (.laload, 1) := by decide +kernel
theorem dL_law_822 : decode cL_law 822 = .ok (.lload 6, 2) := by decide +kernel
theorem dL_law_824 : decode cL_law 824 = .ok (.lcmp, 1) := by decide +kernel
theorem dL_law_825 : decode cL_law 825 = .ok (.ifCond .eq 5, 3) := by decide +kernel
theorem dL_law_828 : decode cL_law 828 = .ok (.iconst 0, 1) := by decide +kernel
theorem dL_law_829 : decode cL_law 829 = .ok (.ireturn, 1) := by decide +kernel
theorem dL_law_830 : decode cL_law 830 = .ok (.goto 577, 3) := by decide +kernel
theorem dL_law_833 : decode cL_law 833 = .ok (.aload_n 1, 1) := by decide +kernel
theorem dL_law_834 : decode cL_law 834 = .ok (.aload_n 0, 1) := by decide +kernel
theorem dL_law_835 : decode cL_law 835 = .ok (.iload 4, 2) := by decide +kernel
theorem dL_law_837 : decode cL_law 837 = .ok (.iconst 1, 1) := by decide +kernel
theorem dL_law_838 : decode cL_law 838 = .ok (.iadd, 1) := by decide +kernel
theorem dL_law_839 : decode cL_law 839 = .ok (.iaload, 1) := by decide +kernel
theorem dL_law_840 : decode cL_law 840 = .ok (.aload_n 3, 1) := by decide +kernel
theorem dL_law_841 : decode cL_law 841 = .ok (.invokestatic 127, 3) := by decide +kernel
theorem dL_law_844 : decode cL_law 844 = .ok (.istore 5, 2) := by decide +kernel
theorem dL_law_846 : decode cL_law 846 = .ok (.aload_n 2, 1) := by decide +kernel
theorem dL_law_847 : decode cL_law 847 = .ok (.aload_n 0, 1) := by decide +kernel
theorem dL_law_848 : decode cL_law 848 = .ok (.iload 4, 2) := by decide +kernel
theorem dL_law_850 : decode cL_law 850 = .ok (.iconst 1, 1) := by decide +kernel
theorem dL_law_851 : decode cL_law 851 = .ok (.iadd, 1) := by decide +kernel
theorem dL_law_852 : decode cL_law 852 = .ok (.iaload, 1) := by decide +kernel
theorem dL_law_853 : decode cL_law 853 = .ok (.invokevirtual 129, 3) := by decide +kernel
theorem dL_law_856 : decode cL_law 856 = .ok (.istore 6, 2) := by decide +kernel
theorem dL_law_858 : decode cL_law 858 = .ok (.aload_n 2, 1) := by decide +kernel
theorem dL_law_859 : decode cL_law 859 = .ok (.invokevirtual 91, 3) := by decide +kernel
theorem dL_law_862 : decode cL_law 862 = .ok (.iload 5, 2) := by decide +kernel
theorem dL_law_864 : decode cL_law 864 = .ok (.if_icmp .eq 5, 3) := by decide +kernel
theorem dL_law_867 : decode cL_law 867 = .ok (.iconst 0, 1) := by decide +kernel
theorem dL_law_868 : decode cL_law 868 = .ok (.ireturn, 1) := by decide +kernel
theorem dL_law_869 : decode cL_law 869 = .ok (.iload 5, 2) := by decide +kernel
theorem dL_law_871 : decode cL_law 871 = .ok (.ifCond .ne 15, 3) := by decide +kernel
theorem dL_law_874 : decode cL_law 874 = .ok (.aload_n 3, 1) := by decide +kernel
theorem dL_law_875 : decode cL_law 875 = .ok (.iconst 0, 1) := by decide +kernel
theorem dL_law_876 : decode cL_law 876 = .ok (.laload, 1) := by decide +kernel
theorem dL_law_877 : decode cL_law 877 = .ok (.iload 6, 2) := by decide +kernel
theorem dL_law_879 : decode cL_law 879 = .ok (.i2l, 1) := by decide +kernel
theorem dL_law_880 : decode cL_law 880 = .ok (.lcmp, 1) := by decide +kernel
theorem dL_law_881 : decode cL_law 881 = .ok (.ifCond .eq 5, 3) := by decide +kernel
theorem dL_law_884 : decode cL_law 884 = .ok (.iconst 0, 1) := by decide +kernel
theorem dL_law_885 : decode cL_law 885 = .ok (.ireturn, 1) := by decide +kernel
theorem dL_law_886 : decode cL_law 886 = .ok (.goto 521, 3) := by decide +kernel
theorem dL_law_889 : decode cL_law 889 = .ok (.aload_n 1, 1) := by decide +kernel
theorem dL_law_890 : decode cL_law 890 = .ok (.aload_n 0, 1) := by decide +kernel
theorem dL_law_891 : decode cL_law 891 = .ok (.iload 4, 2) := by decide +kernel
theorem dL_law_893 : decode cL_law 893 = .ok (.iconst 1, 1) := by decide +kernel
theorem dL_law_894 : decode cL_law 894 = .ok (.iadd, 1) := by decide +kernel
theorem dL_law_895 : decode cL_law 895 = .ok (.iaload, 1) := by decide +kernel
theorem dL_law_896 : decode cL_law 896 = .ok (.aload_n 3, 1) := by decide +kernel
theorem dL_law_897 : decode cL_law 897 = .ok (.invokestatic 130, 3) := by decide +kernel
theorem dL_law_900 : decode cL_law 900 = .ok (.istore 5, 2) := by decide +kernel
theorem dL_law_902 : decode cL_law 902 = .ok (.aload_n 2, 1) := by decide +kernel
theorem dL_law_903 : decode cL_law 903 = .ok (.aload_n 0, 1) := by decide +kernel
theorem dL_law_904 : decode cL_law 904 = .ok (.iload 4, 2) := by decide +kernel
theorem dL_law_906 : decode cL_law 906 = .ok (.iconst 1, 1) := by decide +kernel
theorem dL_law_907 : decode cL_law 907 = .ok (.iadd, 1) := by decide +kernel
theorem dL_law_908 : decode cL_law 908 = .ok (.iaload, 1) := by decide +kernel
theorem dL_law_909 : decode cL_law 909 = .ok (.invokevirtual 132, 3) := by decide +kernel
theorem dL_law_912 : decode cL_law 912 = .ok (.lstore 6, 2) := by decide +kernel
theorem dL_law_914 : decode cL_law 914 = .ok (.aload_n 2, 1) := by decide +kernel
theorem dL_law_915 : decode cL_law 915 = .ok (.invokevirtual 91, 3) := by decide +kernel
theorem dL_law_918 : decode cL_law 918 = .ok (.iload 5, 2) := by decide +kernel
theorem dL_law_920 : decode cL_law 920 = .ok (.if_icmp .eq 5, 3) := by decide +kernel
theorem dL_law_923 : decode cL_law 923 = .ok (.iconst 0, 1) := by decide +kernel
theorem dL_law_924 : decode cL_law 924 = .ok (.ireturn, 1) := by decide +kernel
theorem dL_law_925 : decode cL_law 925 = .ok (.iload 5, 2) := by decide +kernel
theorem dL_law_927 : decode cL_law 927 = .ok (.ifCond .ne 14, 3) := by decide +kernel
theorem dL_law_930 : decode cL_law 930 = .ok (.aload_n 3, 1) := by decide +kernel
theorem dL_law_931 : decode cL_law 931 = .ok (.iconst 0, 1) := by decide +kernel
theorem dL_law_932 : decode cL_law 932 = .ok (.laload, 1) := by decide +kernel
theorem dL_law_933 : decode cL_law 933 = .ok (.lload 6, 2) := by decide +kernel
theorem dL_law_935 : decode cL_law 935 = .ok (.lcmp, 1) := by decide +kernel
theorem dL_law_936 : decode cL_law 936 = .ok (.ifCond .eq 5, 3) := by decide +kernel
theorem dL_law_939 : decode cL_law 939 = .ok (.iconst 0, 1) := by decide +kernel
theorem dL_law_940 : decode cL_law 940 = .ok (.ireturn, 1) := by decide +kernel
theorem dL_law_941 : decode cL_law 941 = .ok (.goto 466, 3) := by decide +kernel
theorem dL_law_944 : decode cL_law 944 = .ok (.aload_n 1, 1) := by decide +kernel
theorem dL_law_945 : decode cL_law 945 = .ok (.aload_n 0, 1) := by decide +kernel
theorem dL_law_946 : decode cL_law 946 = .ok (.iload 4, 2) := by decide +kernel
theorem dL_law_948 : decode cL_law 948 = .ok (.iconst 1, 1) := by decide +kernel
theorem dL_law_949 : decode cL_law 949 = .ok (.iadd, 1) := by decide +kernel
theorem dL_law_950 : decode cL_law 950 = .ok (.iaload, 1) := by decide +kernel
theorem dL_law_951 : decode cL_law 951 = .ok (.aload_n 3, 1) := by decide +kernel
theorem dL_law_952 : decode cL_law 952 = .ok (.invokestatic 133, 3) := by decide +kernel
theorem dL_law_955 : decode cL_law 955 = .ok (.istore 5, 2) := by decide +kernel
theorem dL_law_957 : decode cL_law 957 = .ok (.aload_n 2, 1) := by decide +kernel
theorem dL_law_958 : decode cL_law 958 = .ok (.aload_n 0, 1) := by decide +kernel
theorem dL_law_959 : decode cL_law 959 = .ok (.iload 4, 2) := by decide +kernel
theorem dL_law_961 : decode cL_law 961 = .ok (.iconst 1, 1) := by decide +kernel
theorem dL_law_962 : decode cL_law 962 = .ok (.iadd, 1) := by decide +kernel
theorem dL_law_963 : decode cL_law 963 = .ok (.iaload, 1) := by decide +kernel
theorem dL_law_964 : decode cL_law 964 = .ok (.invokevirtual 135, 3) := by decide +kernel
theorem dL_law_967 : decode cL_law 967 = .ok (.lstore 6, 2) := by decide +kernel
theorem dL_law_969 : decode cL_law 969 = .ok (.aload_n 2, 1) := by decide +kernel
theorem dL_law_970 : decode cL_law 970 = .ok (.invokevirtual 91, 3) := by decide +kernel
theorem dL_law_973 : decode cL_law 973 = .ok (.iload 5, 2) := by decide +kernel
theorem dL_law_975 : decode cL_law 975 = .ok (.if_icmp .eq 5, 3) := by decide +kernel
theorem dL_law_978 : decode cL_law 978 = .ok (.iconst 0, 1) := by decide +kernel
theorem dL_law_979 : decode cL_law 979 = .ok (.ireturn, 1) := by decide +kernel
theorem dL_law_980 : decode cL_law 980 = .ok (.iload 5, 2) := by decide +kernel
theorem dL_law_982 : decode cL_law 982 = .ok (.ifCond .ne 14, 3) := by decide +kernel
theorem dL_law_985 : decode cL_law 985 = .ok (.aload_n 3, 1) := by decide +kernel
theorem dL_law_986 : decode cL_law 986 = .ok (.iconst 0, 1) := by decide +kernel
theorem dL_law_987 : decode cL_law 987 = .ok (.laload, 1) := by decide +kernel
theorem dL_law_988 : decode cL_law 988 = .ok (.lload 6, 2) := by decide +kernel
theorem dL_law_990 : decode cL_law 990 = .ok (.lcmp, 1) := by decide +kernel
theorem dL_law_991 : decode cL_law 991 = .ok (.ifCond .eq 5, 3) := by decide +kernel
theorem dL_law_994 : decode cL_law 994 = .ok (.iconst 0, 1) := by decide +kernel
theorem dL_law_995 : decode cL_law 995 = .ok (.ireturn, 1) := by decide +kernel
theorem dL_law_996 : decode cL_law 996 = .ok (.goto 411, 3) := by decide +kernel
theorem dL_law_999 : decode cL_law 999 = .ok (.aload_n 1, 1) := by decide +kernel
theorem dL_law_1000 : decode cL_law 1000 = .ok (.aload_n 0, 1) := by decide +kernel
theorem dL_law_1001 : decode cL_law 1001 = .ok (.iload 4, 2) := by decide +kernel
theorem dL_law_1003 : decode cL_law 1003 = .ok (.iconst 1, 1) := by decide +kernel
theorem dL_law_1004 : decode cL_law 1004 = .ok (.iadd, 1) := by decide +kernel
theorem dL_law_1005 : decode cL_law 1005 = .ok (.iaload, 1) := by decide +kernel
theorem dL_law_1006 : decode cL_law 1006 = .ok (.aload_n 3, 1) := by decide +kernel
theorem dL_law_1007 : decode cL_law 1007 = .ok (.invokestatic 136, 3) := by decide +kernel
theorem dL_law_1010 : decode cL_law 1010 = .ok (.istore 5, 2) := by decide +kernel
theorem dL_law_1012 : decode cL_law 1012 = .ok (.aload_n 2, 1) := by decide +kernel
theorem dL_law_1013 : decode cL_law 1013 = .ok (.aload_n 0, 1) := by decide +kernel
theorem dL_law_1014 : decode cL_law 1014 = .ok (.iload 4, 2) := by decide +kernel
theorem dL_law_1016 : decode cL_law 1016 = .ok (.iconst 1, 1) := by decide +kernel
theorem dL_law_1017 : decode cL_law 1017 = .ok (.iadd, 1) := by decide +kernel
theorem dL_law_1018 : decode cL_law 1018 = .ok (.iaload, 1) := by decide +kernel
theorem dL_law_1019 : decode cL_law 1019 = .ok (.invokevirtual 138, 3) := by decide +kernel
theorem dL_law_1022 : decode cL_law 1022 = .ok (.lstore 6, 2) := by decide +kernel
theorem dL_law_1024 : decode cL_law 1024 = .ok (.aload_n 2, 1) := by decide +kernel
theorem dL_law_1025 : decode cL_law 1025 = .ok (.invokevirtual 91, 3) := by decide +kernel
theorem dL_law_1028 : decode cL_law 1028 = .ok (.iload 5, 2) := by decide +kernel
theorem dL_law_1030 : decode cL_law 1030 = .ok (.if_icmp .eq 5, 3) := by decide +kernel
theorem dL_law_1033 : decode cL_law 1033 = .ok (.iconst 0, 1) := by decide +kernel
theorem dL_law_1034 : decode cL_law 1034 = .ok (.ireturn, 1) := by decide +kernel
theorem dL_law_1035 : decode cL_law 1035 = .ok (.iload 5, 2) := by decide +kernel
theorem dL_law_1037 : decode cL_law 1037 = .ok (.ifCond .ne 14, 3) := by decide +kernel
theorem dL_law_1040 : decode cL_law 1040 = .ok (.aload_n 3, 1) := by decide +kernel
theorem dL_law_1041 : decode cL_law 1041 = .ok (.iconst 0, 1) := by decide +kernel
theorem dL_law_1042 : decode cL_law 1042 = .ok (.laload, 1) := by decide +kernel
theorem dL_law_1043 : decode cL_law 1043 = .ok (.lload 6, 2) := by decide +kernel
theorem dL_law_1045 : decode cL_law 1045 = .ok (.lcmp, 1) := by decide +kernel
theorem dL_law_1046 : decode cL_law 1046 = .ok (.ifCond .eq 5, 3) := by decide +kernel
theorem dL_law_1049 : decode cL_law 1049 = .ok (.iconst 0, 1) := by decide +kernel
theorem dL_law_1050 : decode cL_law 1050 = .ok (.ireturn, 1) := by decide +kernel
theorem dL_law_1051 : decode cL_law 1051 = .ok (.goto 356, 3) := by decide +kernel
theorem dL_law_1054 : decode cL_law 1054 = .ok (.aload_n 1, 1) := by decide +kernel
theorem dL_law_1055 : decode cL_law 1055 = .ok (.invokevirtual 139, 3) := by decide +kernel
theorem dL_law_1058 : decode cL_law 1058 = .ok (.aload_n 2, 1) := by decide +kernel
theorem dL_law_1059 : decode cL_law 1059 = .ok (.invokevirtual 143, 3) := by decide +kernel
theorem dL_law_1062 : decode cL_law 1062 = .ok (.lcmp, 1) := by decide +kernel
theorem dL_law_1063 : decode cL_law 1063 = .ok (.ifCond .eq 344, 3) := by decide +kernel
theorem dL_law_1066 : decode cL_law 1066 = .ok (.iconst 0, 1) := by decide +kernel
theorem dL_law_1067 : decode cL_law 1067 = .ok (.ireturn, 1) := by decide +kernel
theorem dL_law_1068 : decode cL_law 1068 = .ok (.aload_n 1, 1) := by decide +kernel
theorem dL_law_1069 : decode cL_law 1069 = .ok (.aload_n 0, 1) := by decide +kernel
theorem dL_law_1070 : decode cL_law 1070 = .ok (.iload 4, 2) := by decide +kernel
theorem dL_law_1072 : decode cL_law 1072 = .ok (.iconst 1, 1) := by decide +kernel
theorem dL_law_1073 : decode cL_law 1073 = .ok (.iadd, 1) := by decide +kernel
theorem dL_law_1074 : decode cL_law 1074 = .ok (.iaload, 1) := by decide +kernel
theorem dL_law_1075 : decode cL_law 1075 = .ok (.aload_n 0, 1) := by decide +kernel
theorem dL_law_1076 : decode cL_law 1076 = .ok (.iload 4, 2) := by decide +kernel
theorem dL_law_1078 : decode cL_law 1078 = .ok (.iconst 2, 1) := by decide +kernel
theorem dL_law_1079 : decode cL_law 1079 = .ok (.iadd, 1) := by decide +kernel
theorem dL_law_1080 : decode cL_law 1080 = .ok (.iaload, 1) := by decide +kernel
theorem dL_law_1081 : decode cL_law 1081 = .ok (.aload_n 0, 1) := by decide +kernel
theorem dL_law_1082 : decode cL_law 1082 = .ok (.iload 4, 2) := by decide +kernel
theorem dL_law_1084 : decode cL_law 1084 = .ok (.iconst 3, 1) := by decide +kernel
theorem dL_law_1085 : decode cL_law 1085 = .ok (.iadd, 1) := by decide +kernel
theorem dL_law_1086 : decode cL_law 1086 = .ok (.iaload, 1) := by decide +kernel
theorem dL_law_1087 : decode cL_law 1087 = .ok (.aload_n 3, 1) := by decide +kernel
theorem dL_law_1088 : decode cL_law 1088 = .ok (.invokestatic 144, 3) := by decide +kernel
theorem dL_law_1091 : decode cL_law 1091 = .ok (.istore 5, 2) := by decide +kernel
theorem dL_law_1093 : decode cL_law 1093 = .ok (.aload_n 2, 1) := by decide +kernel
theorem dL_law_1094 : decode cL_law 1094 = .ok (.aload_n 0, 1) := by decide +kernel
theorem dL_law_1095 : decode cL_law 1095 = .ok (.iload 4, 2) := by decide +kernel
theorem dL_law_1097 : decode cL_law 1097 = .ok (.iconst 1, 1) := by decide +kernel
theorem dL_law_1098 : decode cL_law 1098 = .ok (.iadd, 1) := by decide +kernel
theorem dL_law_1099 : decode cL_law 1099 = .ok (.iaload, 1) := by decide +kernel
theorem dL_law_1100 : decode cL_law 1100 = .ok (.aload_n 0, 1) := by decide +kernel
theorem dL_law_1101 : decode cL_law 1101 = .ok (.iload 4, 2) := by decide +kernel
theorem dL_law_1103 : decode cL_law 1103 = .ok (.iconst 2, 1) := by decide +kernel
theorem dL_law_1104 : decode cL_law 1104 = .ok (.iadd, 1) := by decide +kernel
theorem dL_law_1105 : decode cL_law 1105 = .ok (.iaload, 1) := by decide +kernel
theorem dL_law_1106 : decode cL_law 1106 = .ok (.aload_n 0, 1) := by decide +kernel
theorem dL_law_1107 : decode cL_law 1107 = .ok (.iload 4, 2) := by decide +kernel
theorem dL_law_1109 : decode cL_law 1109 = .ok (.iconst 3, 1) := by decide +kernel
theorem dL_law_1110 : decode cL_law 1110 = .ok (.iadd, 1) := by decide +kernel
theorem dL_law_1111 : decode cL_law 1111 = .ok (.iaload, 1) := by decide +kernel
theorem dL_law_1112 : decode cL_law 1112 = .ok (.invokevirtual 146, 3) := by decide +kernel
theorem dL_law_1115 : decode cL_law 1115 = .ok (.lstore 6, 2) := by decide +kernel
theorem dL_law_1117 : decode cL_law 1117 = .ok (.aload_n 2, 1) := by decide +kernel
theorem dL_law_1118 : decode cL_law 1118 = .ok (.invokevirtual 91, 3) := by decide +kernel
theorem dL_law_1121 : decode cL_law 1121 = .ok (.iload 5, 2) := by decide +kernel
theorem dL_law_1123 : decode cL_law 1123 = .ok (.if_icmp .eq 5, 3) := by decide +kernel
theorem dL_law_1126 : decode cL_law 1126 = .ok (.iconst 0, 1) := by decide +kernel
theorem dL_law_1127 : decode cL_law 1127 = .ok (.ireturn, 1) := by decide +kernel
theorem dL_law_1128 : decode cL_law 1128 = .ok (.iload 5, 2) := by decide +kernel
theorem dL_law_1130 : decode cL_law 1130 = .ok (.ifCond .ne 14, 3) := by decide +kernel
theorem dL_law_1133 : decode cL_law 1133 = .ok (.aload_n 3, 1) := by decide +kernel
theorem dL_law_1134 : decode cL_law 1134 = .ok (.iconst 0, 1) := by decide +kernel
theorem dL_law_1135 : decode cL_law 1135 = .ok (.laload, 1) := by decide +kernel
theorem dL_law_1136 : decode cL_law 1136 = .ok (.lload 6, 2) := by decide +kernel
theorem dL_law_1138 : decode cL_law 1138 = .ok (.lcmp, 1) := by decide +kernel
theorem dL_law_1139 : decode cL_law 1139 = .ok (.ifCond .eq 5, 3) := by decide +kernel
theorem dL_law_1142 : decode cL_law 1142 = .ok (.iconst 0, 1) := by decide +kernel
theorem dL_law_1143 : decode cL_law 1143 = .ok (.ireturn, 1) := by decide +kernel
theorem dL_law_1144 : decode cL_law 1144 = .ok (.goto 263, 3) := by decide +kernel
theorem dL_law_1147 : decode cL_law 1147 = .ok (.aload_n 1, 1) := by decide +kernel
theorem dL_law_1148 : decode cL_law 1148 = .ok (.aload_n 0, 1) := by decide +kernel
theorem dL_law_1149 : decode cL_law 1149 = .ok (.iload 4, 2) := by decide +kernel
theorem dL_law_1151 : decode cL_law 1151 = .ok (.iconst 1, 1) := by decide +kernel
theorem dL_law_1152 : decode cL_law 1152 = .ok (.iadd, 1) := by decide +kernel
theorem dL_law_1153 : decode cL_law 1153 = .ok (.iaload, 1) := by decide +kernel
theorem dL_law_1154 : decode cL_law 1154 = .ok (.aload_n 0, 1) := by decide +kernel
theorem dL_law_1155 : decode cL_law 1155 = .ok (.iload 4, 2) := by decide +kernel
theorem dL_law_1157 : decode cL_law 1157 = .ok (.iconst 2, 1) := by decide +kernel
theorem dL_law_1158 : decode cL_law 1158 = .ok (.iadd, 1) := by decide +kernel
theorem dL_law_1159 : decode cL_law 1159 = .ok (.iaload, 1) := by decide +kernel
theorem dL_law_1160 : decode cL_law 1160 = .ok (.aload_n 0, 1) := by decide +kernel
theorem dL_law_1161 : decode cL_law 1161 = .ok (.iload 4, 2) := by decide +kernel
theorem dL_law_1163 : decode cL_law 1163 = .ok (.iconst 3, 1) := by decide +kernel
theorem dL_law_1164 : decode cL_law 1164 = .ok (.iadd, 1) := by decide +kernel
theorem dL_law_1165 : decode cL_law 1165 = .ok (.iaload, 1) := by decide +kernel
theorem dL_law_1166 : decode cL_law 1166 = .ok (.aload_n 3, 1) := by decide +kernel
theorem dL_law_1167 : decode cL_law 1167 = .ok (.invokestatic 147, 3) := by decide +kernel
theorem dL_law_1170 : decode cL_law 1170 = .ok (.istore 5, 2) := by decide +kernel
theorem dL_law_1172 : decode cL_law 1172 = .ok (.aload_n 2, 1) := by decide +kernel
theorem dL_law_1173 : decode cL_law 1173 = .ok (.aload_n 0, 1) := by decide +kernel
theorem dL_law_1174 : decode cL_law 1174 = .ok (.iload 4, 2) := by decide +kernel
theorem dL_law_1176 : decode cL_law 1176 = .ok (.iconst 1, 1) := by decide +kernel
theorem dL_law_1177 : decode cL_law 1177 = .ok (.iadd, 1) := by decide +kernel
theorem dL_law_1178 : decode cL_law 1178 = .ok (.iaload, 1) := by decide +kernel
theorem dL_law_1179 : decode cL_law 1179 = .ok (.aload_n 0, 1) := by decide +kernel
theorem dL_law_1180 : decode cL_law 1180 = .ok (.iload 4, 2) := by decide +kernel
theorem dL_law_1182 : decode cL_law 1182 = .ok (.iconst 2, 1) := by decide +kernel
theorem dL_law_1183 : decode cL_law 1183 = .ok (.iadd, 1) := by decide +kernel
theorem dL_law_1184 : decode cL_law 1184 = .ok (.iaload, 1) := by decide +kernel
theorem dL_law_1185 : decode cL_law 1185 = .ok (.aload_n 0, 1) := by decide +kernel
theorem dL_law_1186 : decode cL_law 1186 = .ok (.iload 4, 2) := by decide +kernel
theorem dL_law_1188 : decode cL_law 1188 = .ok (.iconst 3, 1) := by decide +kernel
theorem dL_law_1189 : decode cL_law 1189 = .ok (.iadd, 1) := by decide +kernel
theorem dL_law_1190 : decode cL_law 1190 = .ok (.iaload, 1) := by decide +kernel
theorem dL_law_1191 : decode cL_law 1191 = .ok (.invokevirtual 149, 3) := by decide +kernel
theorem dL_law_1194 : decode cL_law 1194 = .ok (.istore 6, 2) := by decide +kernel
theorem dL_law_1196 : decode cL_law 1196 = .ok (.aload_n 2, 1) := by decide +kernel
theorem dL_law_1197 : decode cL_law 1197 = .ok (.invokevirtual 91, 3) := by decide +kernel
theorem dL_law_1200 : decode cL_law 1200 = .ok (.iload 5, 2) := by decide +kernel
theorem dL_law_1202 : decode cL_law 1202 = .ok (.if_icmp .eq 5, 3) := by decide +kernel
theorem dL_law_1205 : decode cL_law 1205 = .ok (.iconst 0, 1) := by decide +kernel
theorem dL_law_1206 : decode cL_law 1206 = .ok (.ireturn, 1) := by decide +kernel
theorem dL_law_1207 : decode cL_law 1207 = .ok (.iload 5, 2) := by decide +kernel
theorem dL_law_1209 : decode cL_law 1209 = .ok (.ifCond .ne 15, 3) := by decide +kernel
theorem dL_law_1212 : decode cL_law 1212 = .ok (.aload_n 3, 1) := by decide +kernel
theorem dL_law_1213 : decode cL_law 1213 = .ok (.iconst 0, 1) := by decide +kernel
theorem dL_law_1214 : decode cL_law 1214 = .ok (.laload, 1) := by decide +kernel
theorem dL_law_1215 : decode cL_law 1215 = .ok (.iload 6, 2) := by decide +kernel
theorem dL_law_1217 : decode cL_law 1217 = .ok (.i2l, 1) := by decide +kernel
theorem dL_law_1218 : decode cL_law 1218 = .ok (.lcmp, 1) := by decide +kernel
theorem dL_law_1219 : decode cL_law 1219 = .ok (.ifCond .eq 5, 3) := by decide +kernel
theorem dL_law_1222 : decode cL_law 1222 = .ok (.iconst 0, 1) := by decide +kernel
theorem dL_law_1223 : decode cL_law 1223 = .ok (.ireturn, 1) := by decide +kernel
theorem dL_law_1224 : decode cL_law 1224 = .ok (.goto 183, 3) := by decide +kernel
theorem dL_law_1227 : decode cL_law 1227 = .ok (.aload_n 1, 1) := by decide +kernel
theorem dL_law_1228 : decode cL_law 1228 = .ok (.aload_n 0, 1) := by decide +kernel
theorem dL_law_1229 : decode cL_law 1229 = .ok (.iload 4, 2) := by decide +kernel
theorem dL_law_1231 : decode cL_law 1231 = .ok (.iconst 1, 1) := by decide +kernel
theorem dL_law_1232 : decode cL_law 1232 = .ok (.iadd, 1) := by decide +kernel
theorem dL_law_1233 : decode cL_law 1233 = .ok (.iaload, 1) := by decide +kernel
theorem dL_law_1234 : decode cL_law 1234 = .ok (.aload_n 0, 1) := by decide +kernel
theorem dL_law_1235 : decode cL_law 1235 = .ok (.iload 4, 2) := by decide +kernel
theorem dL_law_1237 : decode cL_law 1237 = .ok (.iconst 2, 1) := by decide +kernel
theorem dL_law_1238 : decode cL_law 1238 = .ok (.iadd, 1) := by decide +kernel
theorem dL_law_1239 : decode cL_law 1239 = .ok (.iaload, 1) := by decide +kernel
theorem dL_law_1240 : decode cL_law 1240 = .ok (.aload_n 3, 1) := by decide +kernel
theorem dL_law_1241 : decode cL_law 1241 = .ok (.invokestatic 150, 3) := by decide +kernel
theorem dL_law_1244 : decode cL_law 1244 = .ok (.istore 5, 2) := by decide +kernel
theorem dL_law_1246 : decode cL_law 1246 = .ok (.aload_n 2, 1) := by decide +kernel
theorem dL_law_1247 : decode cL_law 1247 = .ok (.aload_n 0, 1) := by decide +kernel
theorem dL_law_1248 : decode cL_law 1248 = .ok (.iload 4, 2) := by decide +kernel
theorem dL_law_1250 : decode cL_law 1250 = .ok (.iconst 1, 1) := by decide +kernel
theorem dL_law_1251 : decode cL_law 1251 = .ok (.iadd, 1) := by decide +kernel
theorem dL_law_1252 : decode cL_law 1252 = .ok (.iaload, 1) := by decide +kernel
theorem dL_law_1253 : decode cL_law 1253 = .ok (.aload_n 0, 1) := by decide +kernel
theorem dL_law_1254 : decode cL_law 1254 = .ok (.iload 4, 2) := by decide +kernel
theorem dL_law_1256 : decode cL_law 1256 = .ok (.iconst 2, 1) := by decide +kernel
theorem dL_law_1257 : decode cL_law 1257 = .ok (.iadd, 1) := by decide +kernel
theorem dL_law_1258 : decode cL_law 1258 = .ok (.iaload, 1) := by decide +kernel
theorem dL_law_1259 : decode cL_law 1259 = .ok (.invokevirtual 152, 3) := by decide +kernel
theorem dL_law_1262 : decode cL_law 1262 = .ok (.istore 6, 2) := by decide +kernel
theorem dL_law_1264 : decode cL_law 1264 = .ok (.aload_n 2, 1) := by decide +kernel
theorem dL_law_1265 : decode cL_law 1265 = .ok (.invokevirtual 91, 3) := by decide +kernel
theorem dL_law_1268 : decode cL_law 1268 = .ok (.iload 5, 2) := by decide +kernel
theorem dL_law_1270 : decode cL_law 1270 = .ok (.if_icmp .eq 5, 3) := by decide +kernel
theorem dL_law_1273 : decode cL_law 1273 = .ok (.iconst 0, 1) := by decide +kernel
theorem dL_law_1274 : decode cL_law 1274 = .ok (.ireturn, 1) := by decide +kernel
theorem dL_law_1275 : decode cL_law 1275 = .ok (.iload 5, 2) := by decide +kernel
theorem dL_law_1277 : decode cL_law 1277 = .ok (.ifCond .ne 15, 3) := by decide +kernel
theorem dL_law_1280 : decode cL_law 1280 = .ok (.aload_n 3, 1) := by decide +kernel
theorem dL_law_1281 : decode cL_law 1281 = .ok (.iconst 0, 1) := by decide +kernel
theorem dL_law_1282 : decode cL_law 1282 = .ok (.laload, 1) := by decide +kernel
theorem dL_law_1283 : decode cL_law 1283 = .ok (.iload 6, 2) := by decide +kernel
theorem dL_law_1285 : decode cL_law 1285 = .ok (.i2l, 1) := by decide +kernel
theorem dL_law_1286 : decode cL_law 1286 = .ok (.lcmp, 1) := by decide +kernel
theorem dL_law_1287 : decode cL_law 1287 = .ok (.ifCond .eq 5, 3) := by decide +kernel
theorem dL_law_1290 : decode cL_law 1290 = .ok (.iconst 0, 1) := by decide +kernel
theorem dL_law_1291 : decode cL_law 1291 = .ok (.ireturn, 1) := by decide +kernel
theorem dL_law_1292 : decode cL_law 1292 = .ok (.goto 115, 3) := by decide +kernel
theorem dL_law_1295 : decode cL_law 1295 = .ok (.aload_n 1, 1) := by decide +kernel
theorem dL_law_1296 : decode cL_law 1296 = .ok (.aload_n 0, 1) := by decide +kernel
theorem dL_law_1297 : decode cL_law 1297 = .ok (.iload 4, 2) := by decide +kernel
theorem dL_law_1299 : decode cL_law 1299 = .ok (.iconst 1, 1) := by decide +kernel
theorem dL_law_1300 : decode cL_law 1300 = .ok (.iadd, 1) := by decide +kernel
theorem dL_law_1301 : decode cL_law 1301 = .ok (.iaload, 1) := by decide +kernel
theorem dL_law_1302 : decode cL_law 1302 = .ok (.aload_n 3, 1) := by decide +kernel
theorem dL_law_1303 : decode cL_law 1303 = .ok (.invokestatic 153, 3) := by decide +kernel
theorem dL_law_1306 : decode cL_law 1306 = .ok (.istore 5, 2) := by decide +kernel
theorem dL_law_1308 : decode cL_law 1308 = .ok (.aload_n 2, 1) := by decide +kernel
theorem dL_law_1309 : decode cL_law 1309 = .ok (.aload_n 0, 1) := by decide +kernel
theorem dL_law_1310 : decode cL_law 1310 = .ok (.iload 4, 2) := by decide +kernel
theorem dL_law_1312 : decode cL_law 1312 = .ok (.iconst 1, 1) := by decide +kernel
theorem dL_law_1313 : decode cL_law 1313 = .ok (.iadd, 1) := by decide +kernel
theorem dL_law_1314 : decode cL_law 1314 = .ok (.iaload, 1) := by decide +kernel
theorem dL_law_1315 : decode cL_law 1315 = .ok (.invokevirtual 155, 3) := by decide +kernel
theorem dL_law_1318 : decode cL_law 1318 = .ok (.istore 6, 2) := by decide +kernel
theorem dL_law_1320 : decode cL_law 1320 = .ok (.aload_n 2, 1) := by decide +kernel
theorem dL_law_1321 : decode cL_law 1321 = .ok (.invokevirtual 91, 3) := by decide +kernel
theorem dL_law_1324 : decode cL_law 1324 = .ok (.iload 5, 2) := by decide +kernel
theorem dL_law_1326 : decode cL_law 1326 = .ok (.if_icmp .eq 5, 3) := by decide +kernel
theorem dL_law_1329 : decode cL_law 1329 = .ok (.iconst 0, 1) := by decide +kernel
theorem dL_law_1330 : decode cL_law 1330 = .ok (.ireturn, 1) := by decide +kernel
theorem dL_law_1331 : decode cL_law 1331 = .ok (.iload 5, 2) := by decide +kernel
theorem dL_law_1333 : decode cL_law 1333 = .ok (.ifCond .ne 15, 3) := by decide +kernel
theorem dL_law_1336 : decode cL_law 1336 = .ok (.aload_n 3, 1) := by decide +kernel
theorem dL_law_1337 : decode cL_law 1337 = .ok (.iconst 0, 1) := by decide +kernel
theorem dL_law_1338 : decode cL_law 1338 = .ok (.laload, 1) := by decide +kernel
theorem dL_law_1339 : decode cL_law 1339 = .ok (.iload 6, 2) := by decide +kernel
theorem dL_law_1341 : decode cL_law 1341 = .ok (.i2l, 1) := by decide +kernel
theorem dL_law_1342 : decode cL_law 1342 = .ok (.lcmp, 1) := by decide +kernel
theorem dL_law_1343 : decode cL_law 1343 = .ok (.ifCond .eq 5, 3) := by decide +kernel
theorem dL_law_1346 : decode cL_law 1346 = .ok (.iconst 0, 1) := by decide +kernel
theorem dL_law_1347 : decode cL_law 1347 = .ok (.ireturn, 1) := by decide +kernel
theorem dL_law_1348 : decode cL_law 1348 = .ok (.goto 59, 3) := by decide +kernel
theorem dL_law_1351 : decode cL_law 1351 = .ok (.aload_n 1, 1) := by decide +kernel
theorem dL_law_1352 : decode cL_law 1352 = .ok (.aload_n 0, 1) := by decide +kernel
theorem dL_law_1353 : decode cL_law 1353 = .ok (.iload 4, 2) := by decide +kernel
theorem dL_law_1355 : decode cL_law 1355 = .ok (.iconst 1, 1) := by decide +kernel
theorem dL_law_1356 : decode cL_law 1356 = .ok (.iadd, 1) := by decide +kernel
theorem dL_law_1357 : decode cL_law 1357 = .ok (.iaload, 1) := by decide +kernel
theorem dL_law_1358 : decode cL_law 1358 = .ok (.aload_n 3, 1) := by decide +kernel
theorem dL_law_1359 : decode cL_law 1359 = .ok (.invokestatic 156, 3) := by decide +kernel
theorem dL_law_1362 : decode cL_law 1362 = .ok (.istore 5, 2) := by decide +kernel
theorem dL_law_1364 : decode cL_law 1364 = .ok (.aload_n 2, 1) := by decide +kernel
theorem dL_law_1365 : decode cL_law 1365 = .ok (.aload_n 0, 1) := by decide +kernel
theorem dL_law_1366 : decode cL_law 1366 = .ok (.iload 4, 2) := by decide +kernel
theorem dL_law_1368 : decode cL_law 1368 = .ok (.iconst 1, 1) := by decide +kernel
theorem dL_law_1369 : decode cL_law 1369 = .ok (.iadd, 1) := by decide +kernel
theorem dL_law_1370 : decode cL_law 1370 = .ok (.iaload, 1) := by decide +kernel
theorem dL_law_1371 : decode cL_law 1371 = .ok (.invokevirtual 158, 3) := by decide +kernel
theorem dL_law_1374 : decode cL_law 1374 = .ok (.istore 6, 2) := by decide +kernel
theorem dL_law_1376 : decode cL_law 1376 = .ok (.aload_n 2, 1) := by decide +kernel
theorem dL_law_1377 : decode cL_law 1377 = .ok (.invokevirtual 91, 3) := by decide +kernel
theorem dL_law_1380 : decode cL_law 1380 = .ok (.iload 5, 2) := by decide +kernel
theorem dL_law_1382 : decode cL_law 1382 = .ok (.if_icmp .eq 5, 3) := by decide +kernel
theorem dL_law_1385 : decode cL_law 1385 = .ok (.iconst 0, 1) := by decide +kernel
theorem dL_law_1386 : decode cL_law 1386 = .ok (.ireturn, 1) := by decide +kernel
theorem dL_law_1387 : decode cL_law 1387 = .ok (.iload 5, 2) := by decide +kernel
theorem dL_law_1389 : decode cL_law 1389 = .ok (.ifCond .ne 15, 3) := by decide +kernel
theorem dL_law_1392 : decode cL_law 1392 = .ok (.aload_n 3, 1) := by decide +kernel
theorem dL_law_1393 : decode cL_law 1393 = .ok (.iconst 0, 1) := by decide +kernel
theorem dL_law_1394 : decode cL_law 1394 = .ok (.laload, 1) := by decide +kernel
theorem dL_law_1395 : decode cL_law 1395 = .ok (.iload 6, 2) := by decide +kernel
theorem dL_law_1397 : decode cL_law 1397 = .ok (.i2l, 1) := by decide +kernel
theorem dL_law_1398 : decode cL_law 1398 = .ok (.lcmp, 1) := by decide +kernel
theorem dL_law_1399 : decode cL_law 1399 = .ok (.ifCond .eq 5, 3) := by decide +kernel
theorem dL_law_1402 : decode cL_law 1402 = .ok (.iconst 0, 1) := by decide +kernel
theorem dL_law_1403 : decode cL_law 1403 = .ok (.ireturn, 1) := by decide +kernel
theorem dL_law_1404 : decode cL_law 1404 = .ok (.goto 3, 3) := by decide +kernel
theorem dL_law_1407 : decode cL_law 1407 = .ok (.iinc 4 4, 3) := by decide +kernel
theorem dL_law_1410 : decode cL_law 1410 = .ok (.goto (-1387), 3) := by decide +kernel
theorem dL_law_1413 : decode cL_law 1413 = .ok (.iconst 1, 1) := by decide +kernel
theorem dL_law_1414 : decode cL_law 1414 = .ok (.ireturn, 1) := by decide +kernel
theorem xw863 : Cond.methodLink RL 65 yX7_bill ∈ xBW := xbw 863 (by decide +kernel) (by decide +kernel)
theorem xw864 : Cond.instanceMethod yX7_bill ∈ xBW := xbw 864 (by decide +kernel) (by decide +kernel)
theorem xw865 : Cond.selects RX7 yX7_bill yX7_bill ∈ xBW := xbw 865 (by decide +kernel) (by decide +kernel)
theorem xw866 : Cond.code yX7_bill cX7_bill 6 (some .long) ∈ xBW := xbw 866 (by decide +kernel) (by decide +kernel)
theorem xw420 : Cond.classLink RL 21 "java/lang/IndexOutOfBoundsException" ∈ xBW := xbw 420 (by decide +kernel) (by decide +kernel)
theorem xw225 : Cond.classLink RL 13 "java/lang/IllegalArgumentException" ∈ xBW := xbw 225 (by decide +kernel) (by decide +kernel)
theorem xw856 : Cond.methodLink RL 62 yX7_desk ∈ xBW := xbw 856 (by decide +kernel) (by decide +kernel)
theorem xw857 : Cond.instanceMethod yX7_desk ∈ xBW := xbw 857 (by decide +kernel) (by decide +kernel)
theorem xw858 : Cond.selects RX7 yX7_desk yX7_desk ∈ xBW := xbw 858 (by decide +kernel) (by decide +kernel)
theorem xw859 : Cond.code yX7_desk cX7_desk 2 (some .long) ∈ xBW := xbw 859 (by decide +kernel) (by decide +kernel)
theorem xw563 : Cond.methodLink RL 23 yX7_end ∈ xBW := xbw 563 (by decide +kernel) (by decide +kernel)
theorem xw564 : Cond.instanceMethod yX7_end ∈ xBW := xbw 564 (by decide +kernel) (by decide +kernel)
theorem xw565 : Cond.selects RX7 yX7_end yX7_end ∈ xBW := xbw 565 (by decide +kernel) (by decide +kernel)
theorem xw566 : Cond.code yX7_end cX7_end 3 (some .int) ∈ xBW := xbw 566 (by decide +kernel) (by decide +kernel)
theorem xw226 : Cond.classLink RL 15 "java/lang/IllegalStateException" ∈ xBW := xbw 226 (by decide +kernel) (by decide +kernel)
theorem xw227 : Cond.methodLink RL 7 yX7_flat ∈ xBW := xbw 227 (by decide +kernel) (by decide +kernel)
theorem xw228 : Cond.instanceMethod yX7_flat ∈ xBW := xbw 228 (by decide +kernel) (by decide +kernel)
theorem xw229 : Cond.selects RX7 yX7_flat yX7_flat ∈ xBW := xbw 229 (by decide +kernel) (by decide +kernel)
theorem xw230 : Cond.code yX7_flat cX7_flat 2 (some .int) ∈ xBW := xbw 230 (by decide +kernel) (by decide +kernel)
theorem xw601 : Cond.methodLink RL 32 yX7_heat ∈ xBW := xbw 601 (by decide +kernel) (by decide +kernel)
theorem xw602 : Cond.instanceMethod yX7_heat ∈ xBW := xbw 602 (by decide +kernel) (by decide +kernel)
theorem xw603 : Cond.selects RX7 yX7_heat yX7_heat ∈ xBW := xbw 603 (by decide +kernel) (by decide +kernel)
theorem xw604 : Cond.code yX7_heat cX7_heat 4 (some .int) ∈ xBW := xbw 604 (by decide +kernel) (by decide +kernel)
theorem xw657 : Cond.methodLink RL 41 yX7_income ∈ xBW := xbw 657 (by decide +kernel) (by decide +kernel)
theorem xw658 : Cond.instanceMethod yX7_income ∈ xBW := xbw 658 (by decide +kernel) (by decide +kernel)
theorem xw659 : Cond.selects RX7 yX7_income yX7_income ∈ xBW := xbw 659 (by decide +kernel) (by decide +kernel)
theorem xw660 : Cond.code yX7_income cX7_income 7 (some .long) ∈ xBW := xbw 660 (by decide +kernel) (by decide +kernel)
theorem xw576 : Cond.methodLink RL 26 yX7_index ∈ xBW := xbw 576 (by decide +kernel) (by decide +kernel)
theorem xw577 : Cond.instanceMethod yX7_index ∈ xBW := xbw 577 (by decide +kernel) (by decide +kernel)
theorem xw578 : Cond.selects RX7 yX7_index yX7_index ∈ xBW := xbw 578 (by decide +kernel) (by decide +kernel)
theorem xw579 : Cond.code yX7_index cX7_index 2 (some .int) ∈ xBW := xbw 579 (by decide +kernel) (by decide +kernel)
theorem xw421 : Cond.methodLink RL 17 yX7_lease ∈ xBW := xbw 421 (by decide +kernel) (by decide +kernel)
theorem xw422 : Cond.instanceMethod yX7_lease ∈ xBW := xbw 422 (by decide +kernel) (by decide +kernel)
theorem xw423 : Cond.selects RX7 yX7_lease yX7_lease ∈ xBW := xbw 423 (by decide +kernel) (by decide +kernel)
theorem xw424 : Cond.code yX7_lease cX7_lease 4 (some .int) ∈ xBW := xbw 424 (by decide +kernel) (by decide +kernel)
theorem xw877 : Cond.methodLink RL 68 yX7_line ∈ xBW := xbw 877 (by decide +kernel) (by decide +kernel)
theorem xw878 : Cond.instanceMethod yX7_line ∈ xBW := xbw 878 (by decide +kernel) (by decide +kernel)
theorem xw879 : Cond.selects RX7 yX7_line yX7_line ∈ xBW := xbw 879 (by decide +kernel) (by decide +kernel)
theorem xw880 : Cond.code yX7_line cX7_line 6 (some .char) ∈ xBW := xbw 880 (by decide +kernel) (by decide +kernel)
theorem xw648 : Cond.methodLink RL 38 yX7_mend ∈ xBW := xbw 648 (by decide +kernel) (by decide +kernel)
theorem xw649 : Cond.instanceMethod yX7_mend ∈ xBW := xbw 649 (by decide +kernel) (by decide +kernel)
theorem xw650 : Cond.selects RX7 yX7_mend yX7_mend ∈ xBW := xbw 650 (by decide +kernel) (by decide +kernel)
theorem xw651 : Cond.code yX7_mend cX7_mend 3 (some .int) ∈ xBW := xbw 651 (by decide +kernel) (by decide +kernel)
theorem xw842 : Cond.methodLink RL 55 yX7_owes ∈ xBW := xbw 842 (by decide +kernel) (by decide +kernel)
theorem xw843 : Cond.instanceMethod yX7_owes ∈ xBW := xbw 843 (by decide +kernel) (by decide +kernel)
theorem xw844 : Cond.selects RX7 yX7_owes yX7_owes ∈ xBW := xbw 844 (by decide +kernel) (by decide +kernel)
theorem xw845 : Cond.code yX7_owes cX7_owes 2 (some .long) ∈ xBW := xbw 845 (by decide +kernel) (by decide +kernel)
theorem xw849 : Cond.methodLink RL 59 yX7_owesAnew ∈ xBW := xbw 849 (by decide +kernel) (by decide +kernel)
theorem xw850 : Cond.instanceMethod yX7_owesAnew ∈ xBW := xbw 850 (by decide +kernel) (by decide +kernel)
theorem xw851 : Cond.selects RX7 yX7_owesAnew yX7_owesAnew ∈ xBW := xbw 851 (by decide +kernel) (by decide +kernel)
theorem xw852 : Cond.code yX7_owesAnew cX7_owesAnew 7 (some .long) ∈ xBW := xbw 852 (by decide +kernel) (by decide +kernel)
theorem xw715 : Cond.methodLink RL 52 yX7_pass ∈ xBW := xbw 715 (by decide +kernel) (by decide +kernel)
theorem xw716 : Cond.instanceMethod yX7_pass ∈ xBW := xbw 716 (by decide +kernel) (by decide +kernel)
theorem xw717 : Cond.selects RX7 yX7_pass yX7_pass ∈ xBW := xbw 717 (by decide +kernel) (by decide +kernel)
theorem xw718 : Cond.code yX7_pass cX7_pass 3 (some .int) ∈ xBW := xbw 718 (by decide +kernel) (by decide +kernel)
theorem xw695 : Cond.methodLink RL 45 yX7_pay ∈ xBW := xbw 695 (by decide +kernel) (by decide +kernel)
theorem xw696 : Cond.instanceMethod yX7_pay ∈ xBW := xbw 696 (by decide +kernel) (by decide +kernel)
theorem xw697 : Cond.selects RX7 yX7_pay yX7_pay ∈ xBW := xbw 697 (by decide +kernel) (by decide +kernel)
theorem xw698 : Cond.code yX7_pay cX7_pay 4 (some .long) ∈ xBW := xbw 698 (by decide +kernel) (by decide +kernel)
theorem xw702 : Cond.methodLink RL 49 yX7_plan ∈ xBW := xbw 702 (by decide +kernel) (by decide +kernel)
theorem xw703 : Cond.instanceMethod yX7_plan ∈ xBW := xbw 703 (by decide +kernel) (by decide +kernel)
theorem xw704 : Cond.selects RX7 yX7_plan yX7_plan ∈ xBW := xbw 704 (by decide +kernel) (by decide +kernel)
theorem xw705 : Cond.code yX7_plan cX7_plan 6 (some .long) ∈ xBW := xbw 705 (by decide +kernel) (by decide +kernel)
theorem xw1205 : Cond.methodLink RL 78 yX7_planOf ∈ xBW := xbw 1205 (by decide +kernel) (by decide +kernel)
theorem xw1206 : Cond.instanceMethod yX7_planOf ∈ xBW := xbw 1206 (by decide +kernel) (by decide +kernel)
theorem xw1207 : Cond.selects RX7 yX7_planOf yX7_planOf ∈ xBW := xbw 1207 (by decide +kernel) (by decide +kernel)
theorem xw1208 : Cond.code yX7_planOf cX7_planOf 2 (some .int) ∈ xBW := xbw 1208 (by decide +kernel) (by decide +kernel)
theorem xw1198 : Cond.methodLink RL 75 yX7_points ∈ xBW := xbw 1198 (by decide +kernel) (by decide +kernel)
theorem xw1199 : Cond.instanceMethod yX7_points ∈ xBW := xbw 1199 (by decide +kernel) (by decide +kernel)
theorem xw1200 : Cond.selects RX7 yX7_points yX7_points ∈ xBW := xbw 1200 (by decide +kernel) (by decide +kernel)
theorem xw1201 : Cond.code yX7_points cX7_points 2 (some .int) ∈ xBW := xbw 1201 (by decide +kernel) (by decide +kernel)
theorem xw588 : Cond.methodLink RL 29 yX7_read ∈ xBW := xbw 588 (by decide +kernel) (by decide +kernel)
theorem xw589 : Cond.instanceMethod yX7_read ∈ xBW := xbw 589 (by decide +kernel) (by decide +kernel)
theorem xw590 : Cond.selects RX7 yX7_read yX7_read ∈ xBW := xbw 590 (by decide +kernel) (by decide +kernel)
theorem xw591 : Cond.code yX7_read cX7_read 4 (some .int) ∈ xBW := xbw 591 (by decide +kernel) (by decide +kernel)
theorem xw615 : Cond.methodLink RL 35 yX7_report ∈ xBW := xbw 615 (by decide +kernel) (by decide +kernel)
theorem xw616 : Cond.instanceMethod yX7_report ∈ xBW := xbw 616 (by decide +kernel) (by decide +kernel)
theorem xw617 : Cond.selects RX7 yX7_report yX7_report ∈ xBW := xbw 617 (by decide +kernel) (by decide +kernel)
theorem xw618 : Cond.code yX7_report cX7_report 4 (some .int) ∈ xBW := xbw 618 (by decide +kernel) (by decide +kernel)
theorem xw1191 : Cond.methodLink RL 72 yX7_use ∈ xBW := xbw 1191 (by decide +kernel) (by decide +kernel)
theorem xw1192 : Cond.instanceMethod yX7_use ∈ xBW := xbw 1192 (by decide +kernel) (by decide +kernel)
theorem xw1193 : Cond.selects RX7 yX7_use yX7_use ∈ xBW := xbw 1193 (by decide +kernel) (by decide +kernel)
theorem xw1194 : Cond.code yX7_use cX7_use 4 (some .int) ∈ xBW := xbw 1194 (by decide +kernel) (by decide +kernel)
theorem xw222 : Cond.methodLink RL 85 yL_flat ∈ xBW := xbw 222 (by decide +kernel) (by decide +kernel)
theorem xw223 : Cond.static yL_flat ∈ xBW := xbw 223 (by decide +kernel) (by decide +kernel)
theorem xw49 : Cond.initialized RL ∈ xBW := xbw 49 (by decide +kernel) (by decide +kernel)
theorem xw224 : Cond.codeWith yL_flat cL_flat 4 (some .int) [(0, 9, 12, 13), (0, 9, 15, 15)] ∈ xBW := xbw 224 (by decide +kernel) (by decide +kernel)
theorem xw1343 : Cond.methodLink RL 90 yX8_flat ∈ xBW := xbw 1343 (by decide +kernel) (by decide +kernel)
theorem xw1344 : Cond.instanceMethod yX8_flat ∈ xBW := xbw 1344 (by decide +kernel) (by decide +kernel)
theorem xw1345 : Cond.selects RX8 yX8_flat yX8_flat ∈ xBW := xbw 1345 (by decide +kernel) (by decide +kernel)
theorem xw1346 : Cond.code yX8_flat cX8_flat 2 (some .int) ∈ xBW := xbw 1346 (by decide +kernel) (by decide +kernel)
theorem xw1339 : Cond.methodLink RL 91 yX8_thrown ∈ xBW := xbw 1339 (by decide +kernel) (by decide +kernel)
theorem xw1340 : Cond.instanceMethod yX8_thrown ∈ xBW := xbw 1340 (by decide +kernel) (by decide +kernel)
theorem xw1341 : Cond.selects RX8 yX8_thrown yX8_thrown ∈ xBW := xbw 1341 (by decide +kernel) (by decide +kernel)
theorem xw1342 : Cond.code yX8_thrown cX8_thrown 1 (some .int) ∈ xBW := xbw 1342 (by decide +kernel) (by decide +kernel)
theorem xw417 : Cond.methodLink RL 95 yL_lease ∈ xBW := xbw 417 (by decide +kernel) (by decide +kernel)
theorem xw418 : Cond.static yL_lease ∈ xBW := xbw 418 (by decide +kernel) (by decide +kernel)
theorem xw419 : Cond.codeWith yL_lease cL_lease 5 (some .int) [(0, 10, 13, 21), (0, 10, 17, 13), (0, 10, 21, 15)] ∈ xBW := xbw 419 (by decide +kernel) (by decide +kernel)
theorem xw1358 : Cond.methodLink RL 98 yX8_lease ∈ xBW := xbw 1358 (by decide +kernel) (by decide +kernel)
theorem xw1359 : Cond.instanceMethod yX8_lease ∈ xBW := xbw 1359 (by decide +kernel) (by decide +kernel)
theorem xw1360 : Cond.selects RX8 yX8_lease yX8_lease ∈ xBW := xbw 1360 (by decide +kernel) (by decide +kernel)
theorem xw1361 : Cond.code yX8_lease cX8_lease 4 (some .int) ∈ xBW := xbw 1361 (by decide +kernel) (by decide +kernel)
theorem xw560 : Cond.methodLink RL 99 yL_end ∈ xBW := xbw 560 (by decide +kernel) (by decide +kernel)
theorem xw561 : Cond.static yL_end ∈ xBW := xbw 561 (by decide +kernel) (by decide +kernel)
theorem xw562 : Cond.codeWith yL_end cL_end 4 (some .int) [(0, 9, 12, 21), (0, 9, 15, 15)] ∈ xBW := xbw 562 (by decide +kernel) (by decide +kernel)
theorem xw1375 : Cond.methodLink RL 101 yX8_end ∈ xBW := xbw 1375 (by decide +kernel) (by decide +kernel)
theorem xw1376 : Cond.instanceMethod yX8_end ∈ xBW := xbw 1376 (by decide +kernel) (by decide +kernel)
theorem xw1377 : Cond.selects RX8 yX8_end yX8_end ∈ xBW := xbw 1377 (by decide +kernel) (by decide +kernel)
theorem xw1378 : Cond.code yX8_end cX8_end 3 (some .int) ∈ xBW := xbw 1378 (by decide +kernel) (by decide +kernel)
theorem xw573 : Cond.methodLink RL 102 yL_index ∈ xBW := xbw 573 (by decide +kernel) (by decide +kernel)
theorem xw574 : Cond.static yL_index ∈ xBW := xbw 574 (by decide +kernel) (by decide +kernel)
theorem xw575 : Cond.codeWith yL_index cL_index 4 (some .int) [(0, 9, 12, 13)] ∈ xBW := xbw 575 (by decide +kernel) (by decide +kernel)
theorem xw1383 : Cond.methodLink RL 104 yX8_index ∈ xBW := xbw 1383 (by decide +kernel) (by decide +kernel)
theorem xw1384 : Cond.instanceMethod yX8_index ∈ xBW := xbw 1384 (by decide +kernel) (by decide +kernel)
theorem xw1385 : Cond.selects RX8 yX8_index yX8_index ∈ xBW := xbw 1385 (by decide +kernel) (by decide +kernel)
theorem xw1386 : Cond.code yX8_index cX8_index 2 (some .int) ∈ xBW := xbw 1386 (by decide +kernel) (by decide +kernel)
theorem xw585 : Cond.methodLink RL 105 yL_read ∈ xBW := xbw 585 (by decide +kernel) (by decide +kernel)
theorem xw586 : Cond.static yL_read ∈ xBW := xbw 586 (by decide +kernel) (by decide +kernel)
theorem xw587 : Cond.codeWith yL_read cL_read 5 (some .int) [(0, 10, 13, 21), (0, 10, 17, 13)] ∈ xBW := xbw 587 (by decide +kernel) (by decide +kernel)
theorem xw1387 : Cond.methodLink RL 107 yX8_read ∈ xBW := xbw 1387 (by decide +kernel) (by decide +kernel)
theorem xw1388 : Cond.instanceMethod yX8_read ∈ xBW := xbw 1388 (by decide +kernel) (by decide +kernel)
theorem xw1389 : Cond.selects RX8 yX8_read yX8_read ∈ xBW := xbw 1389 (by decide +kernel) (by decide +kernel)
theorem xw1390 : Cond.code yX8_read cX8_read 5 (some .int) ∈ xBW := xbw 1390 (by decide +kernel) (by decide +kernel)
theorem xw598 : Cond.methodLink RL 108 yL_heat ∈ xBW := xbw 598 (by decide +kernel) (by decide +kernel)
theorem xw599 : Cond.static yL_heat ∈ xBW := xbw 599 (by decide +kernel) (by decide +kernel)
theorem xw600 : Cond.codeWith yL_heat cL_heat 4 (some .int) [(0, 9, 12, 13), (0, 9, 15, 15)] ∈ xBW := xbw 600 (by decide +kernel) (by decide +kernel)
theorem xw1392 : Cond.methodLink RL 110 yX8_heat ∈ xBW := xbw 1392 (by decide +kernel) (by decide +kernel)
theorem xw1393 : Cond.instanceMethod yX8_heat ∈ xBW := xbw 1393 (by decide +kernel) (by decide +kernel)
theorem xw1394 : Cond.selects RX8 yX8_heat yX8_heat ∈ xBW := xbw 1394 (by decide +kernel) (by decide +kernel)
theorem xw1395 : Cond.code yX8_heat cX8_heat 2 (some .int) ∈ xBW := xbw 1395 (by decide +kernel) (by decide +kernel)
theorem xw612 : Cond.methodLink RL 111 yL_report ∈ xBW := xbw 612 (by decide +kernel) (by decide +kernel)
theorem xw613 : Cond.static yL_report ∈ xBW := xbw 613 (by decide +kernel) (by decide +kernel)
theorem xw614 : Cond.codeWith yL_report cL_report 5 (some .int) [(0, 10, 13, 21), (0, 10, 17, 13), (0, 10, 21, 15)] ∈ xBW := xbw 614 (by decide +kernel) (by decide +kernel)
theorem xw1397 : Cond.methodLink RL 113 yX8_report ∈ xBW := xbw 1397 (by decide +kernel) (by decide +kernel)
theorem xw1398 : Cond.instanceMethod yX8_report ∈ xBW := xbw 1398 (by decide +kernel) (by decide +kernel)
theorem xw1399 : Cond.selects RX8 yX8_report yX8_report ∈ xBW := xbw 1399 (by decide +kernel) (by decide +kernel)
theorem xw1400 : Cond.code yX8_report cX8_report 4 (some .int) ∈ xBW := xbw 1400 (by decide +kernel) (by decide +kernel)
theorem xw645 : Cond.methodLink RL 114 yL_mend ∈ xBW := xbw 645 (by decide +kernel) (by decide +kernel)
theorem xw646 : Cond.static yL_mend ∈ xBW := xbw 646 (by decide +kernel) (by decide +kernel)
theorem xw647 : Cond.codeWith yL_mend cL_mend 4 (some .int) [(0, 9, 12, 21), (0, 9, 15, 15)] ∈ xBW := xbw 647 (by decide +kernel) (by decide +kernel)
theorem xw1401 : Cond.methodLink RL 116 yX8_mend ∈ xBW := xbw 1401 (by decide +kernel) (by decide +kernel)
theorem xw1402 : Cond.instanceMethod yX8_mend ∈ xBW := xbw 1402 (by decide +kernel) (by decide +kernel)
theorem xw1403 : Cond.selects RX8 yX8_mend yX8_mend ∈ xBW := xbw 1403 (by decide +kernel) (by decide +kernel)
theorem xw1404 : Cond.code yX8_mend cX8_mend 3 (some .int) ∈ xBW := xbw 1404 (by decide +kernel) (by decide +kernel)
theorem xw654 : Cond.methodLink RL 117 yL_income ∈ xBW := xbw 654 (by decide +kernel) (by decide +kernel)
theorem xw655 : Cond.static yL_income ∈ xBW := xbw 655 (by decide +kernel) (by decide +kernel)
theorem xw656 : Cond.codeWith yL_income cL_income 6 (some .int) [(0, 11, 14, 21), (0, 11, 18, 13)] ∈ xBW := xbw 656 (by decide +kernel) (by decide +kernel)
theorem xw1405 : Cond.methodLink RL 120 yX8_income ∈ xBW := xbw 1405 (by decide +kernel) (by decide +kernel)
theorem xw1406 : Cond.instanceMethod yX8_income ∈ xBW := xbw 1406 (by decide +kernel) (by decide +kernel)
theorem xw1407 : Cond.selects RX8 yX8_income yX8_income ∈ xBW := xbw 1407 (by decide +kernel) (by decide +kernel)
theorem xw1408 : Cond.code yX8_income cX8_income 10 (some .long) ∈ xBW := xbw 1408 (by decide +kernel) (by decide +kernel)
theorem xw692 : Cond.methodLink RL 121 yL_pay ∈ xBW := xbw 692 (by decide +kernel) (by decide +kernel)
theorem xw693 : Cond.static yL_pay ∈ xBW := xbw 693 (by decide +kernel) (by decide +kernel)
theorem xw694 : Cond.codeWith yL_pay cL_pay 5 (some .int) [(0, 9, 12, 21), (0, 9, 16, 13)] ∈ xBW := xbw 694 (by decide +kernel) (by decide +kernel)
theorem xw1423 : Cond.methodLink RL 123 yX8_pay ∈ xBW := xbw 1423 (by decide +kernel) (by decide +kernel)
theorem xw1424 : Cond.instanceMethod yX8_pay ∈ xBW := xbw 1424 (by decide +kernel) (by decide +kernel)
theorem xw1425 : Cond.selects RX8 yX8_pay yX8_pay ∈ xBW := xbw 1425 (by decide +kernel) (by decide +kernel)
theorem xw1426 : Cond.code yX8_pay cX8_pay 3 (some .long) ∈ xBW := xbw 1426 (by decide +kernel) (by decide +kernel)
theorem xw699 : Cond.methodLink RL 124 yL_plan ∈ xBW := xbw 699 (by decide +kernel) (by decide +kernel)
theorem xw700 : Cond.static yL_plan ∈ xBW := xbw 700 (by decide +kernel) (by decide +kernel)
theorem xw701 : Cond.codeWith yL_plan cL_plan 5 (some .int) [(0, 9, 12, 21), (0, 9, 16, 13), (0, 9, 20, 15)] ∈ xBW := xbw 701 (by decide +kernel) (by decide +kernel)
theorem xw1427 : Cond.methodLink RL 126 yX8_plan ∈ xBW := xbw 1427 (by decide +kernel) (by decide +kernel)
theorem xw1428 : Cond.instanceMethod yX8_plan ∈ xBW := xbw 1428 (by decide +kernel) (by decide +kernel)
theorem xw1429 : Cond.selects RX8 yX8_plan yX8_plan ∈ xBW := xbw 1429 (by decide +kernel) (by decide +kernel)
theorem xw1430 : Cond.code yX8_plan cX8_plan 4 (some .long) ∈ xBW := xbw 1430 (by decide +kernel) (by decide +kernel)
theorem xw712 : Cond.methodLink RL 127 yL_pass ∈ xBW := xbw 712 (by decide +kernel) (by decide +kernel)
theorem xw713 : Cond.static yL_pass ∈ xBW := xbw 713 (by decide +kernel) (by decide +kernel)
theorem xw714 : Cond.codeWith yL_pass cL_pass 4 (some .int) [(0, 9, 12, 13), (0, 9, 15, 15)] ∈ xBW := xbw 714 (by decide +kernel) (by decide +kernel)
theorem xw1431 : Cond.methodLink RL 129 yX8_pass ∈ xBW := xbw 1431 (by decide +kernel) (by decide +kernel)
theorem xw1432 : Cond.instanceMethod yX8_pass ∈ xBW := xbw 1432 (by decide +kernel) (by decide +kernel)
theorem xw1433 : Cond.selects RX8 yX8_pass yX8_pass ∈ xBW := xbw 1433 (by decide +kernel) (by decide +kernel)
theorem xw1434 : Cond.code yX8_pass cX8_pass 3 (some .int) ∈ xBW := xbw 1434 (by decide +kernel) (by decide +kernel)
theorem xw839 : Cond.methodLink RL 130 yL_owes ∈ xBW := xbw 839 (by decide +kernel) (by decide +kernel)
theorem xw840 : Cond.static yL_owes ∈ xBW := xbw 840 (by decide +kernel) (by decide +kernel)
theorem xw841 : Cond.codeWith yL_owes cL_owes 4 (some .int) [(0, 8, 11, 21)] ∈ xBW := xbw 841 (by decide +kernel) (by decide +kernel)
theorem xw1479 : Cond.methodLink RL 132 yX8_owes ∈ xBW := xbw 1479 (by decide +kernel) (by decide +kernel)
theorem xw846 : Cond.methodLink RL 133 yL_owesAnew ∈ xBW := xbw 846 (by decide +kernel) (by decide +kernel)
theorem xw847 : Cond.static yL_owesAnew ∈ xBW := xbw 847 (by decide +kernel) (by decide +kernel)
theorem xw848 : Cond.codeWith yL_owesAnew cL_owesAnew 4 (some .int) [(0, 8, 11, 21)] ∈ xBW := xbw 848 (by decide +kernel) (by decide +kernel)
theorem xw1483 : Cond.methodLink RL 135 yX8_owesAnew ∈ xBW := xbw 1483 (by decide +kernel) (by decide +kernel)
theorem xw1484 : Cond.instanceMethod yX8_owesAnew ∈ xBW := xbw 1484 (by decide +kernel) (by decide +kernel)
theorem xw1485 : Cond.selects RX8 yX8_owesAnew yX8_owesAnew ∈ xBW := xbw 1485 (by decide +kernel) (by decide +kernel)
theorem xw1486 : Cond.code yX8_owesAnew cX8_owesAnew 2 (some .long) ∈ xBW := xbw 1486 (by decide +kernel) (by decide +kernel)
theorem xw853 : Cond.methodLink RL 136 yL_desk ∈ xBW := xbw 853 (by decide +kernel) (by decide +kernel)
theorem xw854 : Cond.static yL_desk ∈ xBW := xbw 854 (by decide +kernel) (by decide +kernel)
theorem xw855 : Cond.codeWith yL_desk cL_desk 4 (some .int) [(0, 8, 11, 21)] ∈ xBW := xbw 855 (by decide +kernel) (by decide +kernel)
theorem xw1488 : Cond.methodLink RL 138 yX8_desk ∈ xBW := xbw 1488 (by decide +kernel) (by decide +kernel)
theorem xw1489 : Cond.instanceMethod yX8_desk ∈ xBW := xbw 1489 (by decide +kernel) (by decide +kernel)
theorem xw1490 : Cond.selects RX8 yX8_desk yX8_desk ∈ xBW := xbw 1490 (by decide +kernel) (by decide +kernel)
theorem xw1491 : Cond.code yX8_desk cX8_desk 2 (some .long) ∈ xBW := xbw 1491 (by decide +kernel) (by decide +kernel)
theorem xw860 : Cond.methodLink RL 144 yL_bill ∈ xBW := xbw 860 (by decide +kernel) (by decide +kernel)
theorem xw861 : Cond.static yL_bill ∈ xBW := xbw 861 (by decide +kernel) (by decide +kernel)
theorem xw862 : Cond.codeWith yL_bill cL_bill 6 (some .int) [(0, 11, 14, 21), (0, 11, 18, 13)] ∈ xBW := xbw 862 (by decide +kernel) (by decide +kernel)
theorem xw1496 : Cond.methodLink RL 146 yX8_bill ∈ xBW := xbw 1496 (by decide +kernel) (by decide +kernel)
theorem xw1497 : Cond.instanceMethod yX8_bill ∈ xBW := xbw 1497 (by decide +kernel) (by decide +kernel)
theorem xw1498 : Cond.selects RX8 yX8_bill yX8_bill ∈ xBW := xbw 1498 (by decide +kernel) (by decide +kernel)
theorem xw1499 : Cond.code yX8_bill cX8_bill 6 (some .long) ∈ xBW := xbw 1499 (by decide +kernel) (by decide +kernel)
theorem xw874 : Cond.methodLink RL 147 yL_line ∈ xBW := xbw 874 (by decide +kernel) (by decide +kernel)
theorem xw875 : Cond.static yL_line ∈ xBW := xbw 875 (by decide +kernel) (by decide +kernel)
theorem xw876 : Cond.codeWith yL_line cL_line 6 (some .int) [(0, 12, 15, 21)] ∈ xBW := xbw 876 (by decide +kernel) (by decide +kernel)
theorem xw1500 : Cond.methodLink RL 149 yX8_line ∈ xBW := xbw 1500 (by decide +kernel) (by decide +kernel)
theorem xw1501 : Cond.instanceMethod yX8_line ∈ xBW := xbw 1501 (by decide +kernel) (by decide +kernel)
theorem xw1502 : Cond.selects RX8 yX8_line yX8_line ∈ xBW := xbw 1502 (by decide +kernel) (by decide +kernel)
theorem xw1503 : Cond.code yX8_line cX8_line 6 (some .char) ∈ xBW := xbw 1503 (by decide +kernel) (by decide +kernel)
theorem xw1188 : Cond.methodLink RL 150 yL_use ∈ xBW := xbw 1188 (by decide +kernel) (by decide +kernel)
theorem xw1189 : Cond.static yL_use ∈ xBW := xbw 1189 (by decide +kernel) (by decide +kernel)
theorem xw1190 : Cond.codeWith yL_use cL_use 5 (some .int) [(0, 10, 13, 21)] ∈ xBW := xbw 1190 (by decide +kernel) (by decide +kernel)
theorem xw1519 : Cond.methodLink RL 152 yX8_use ∈ xBW := xbw 1519 (by decide +kernel) (by decide +kernel)
theorem xw1520 : Cond.instanceMethod yX8_use ∈ xBW := xbw 1520 (by decide +kernel) (by decide +kernel)
theorem xw1521 : Cond.selects RX8 yX8_use yX8_use ∈ xBW := xbw 1521 (by decide +kernel) (by decide +kernel)
theorem xw1522 : Cond.code yX8_use cX8_use 4 (some .int) ∈ xBW := xbw 1522 (by decide +kernel) (by decide +kernel)
theorem xw1195 : Cond.methodLink RL 153 yL_points ∈ xBW := xbw 1195 (by decide +kernel) (by decide +kernel)
theorem xw1196 : Cond.static yL_points ∈ xBW := xbw 1196 (by decide +kernel) (by decide +kernel)
theorem xw1197 : Cond.codeWith yL_points cL_points 4 (some .int) [(0, 9, 12, 21)] ∈ xBW := xbw 1197 (by decide +kernel) (by decide +kernel)
theorem xw1523 : Cond.methodLink RL 155 yX8_points ∈ xBW := xbw 1523 (by decide +kernel) (by decide +kernel)
theorem xw1524 : Cond.instanceMethod yX8_points ∈ xBW := xbw 1524 (by decide +kernel) (by decide +kernel)
theorem xw1525 : Cond.selects RX8 yX8_points yX8_points ∈ xBW := xbw 1525 (by decide +kernel) (by decide +kernel)
theorem xw1526 : Cond.code yX8_points cX8_points 2 (some .int) ∈ xBW := xbw 1526 (by decide +kernel) (by decide +kernel)
theorem xw1202 : Cond.methodLink RL 156 yL_planOf ∈ xBW := xbw 1202 (by decide +kernel) (by decide +kernel)
theorem xw1203 : Cond.static yL_planOf ∈ xBW := xbw 1203 (by decide +kernel) (by decide +kernel)
theorem xw1204 : Cond.codeWith yL_planOf cL_planOf 4 (some .int) [(0, 9, 12, 21)] ∈ xBW := xbw 1204 (by decide +kernel) (by decide +kernel)
theorem xw1527 : Cond.methodLink RL 158 yX8_planOf ∈ xBW := xbw 1527 (by decide +kernel) (by decide +kernel)
theorem xw1528 : Cond.instanceMethod yX8_planOf ∈ xBW := xbw 1528 (by decide +kernel) (by decide +kernel)
theorem xw1529 : Cond.selects RX8 yX8_planOf yX8_planOf ∈ xBW := xbw 1529 (by decide +kernel) (by decide +kernel)
theorem xw1530 : Cond.code yX8_planOf cX8_planOf 2 (some .int) ∈ xBW := xbw 1530 (by decide +kernel) (by decide +kernel)
theorem xw218 : Cond.methodLink RL 139 yX7_owner ∈ xBW := xbw 218 (by decide +kernel) (by decide +kernel)
theorem xw219 : Cond.instanceMethod yX7_owner ∈ xBW := xbw 219 (by decide +kernel) (by decide +kernel)
theorem xw220 : Cond.selects RX7 yX7_owner yX7_owner ∈ xBW := xbw 220 (by decide +kernel) (by decide +kernel)
theorem xw221 : Cond.code yX7_owner cX7_owner 1 (some .long) ∈ xBW := xbw 221 (by decide +kernel) (by decide +kernel)
theorem xw1492 : Cond.methodLink RL 143 yX8_owner ∈ xBW := xbw 1492 (by decide +kernel) (by decide +kernel)
theorem xw1493 : Cond.instanceMethod yX8_owner ∈ xBW := xbw 1493 (by decide +kernel) (by decide +kernel)
theorem xw1494 : Cond.selects RX8 yX8_owner yX8_owner ∈ xBW := xbw 1494 (by decide +kernel) (by decide +kernel)
theorem xw1495 : Cond.code yX8_owner cX8_owner 4 (some .long) ∈ xBW := xbw 1495 (by decide +kernel) (by decide +kernel)
theorem xw83 : Cond.classLink RL 8 "RentStream" ∈ xBW := xbw 83 (by decide +kernel) (by decide +kernel)
theorem xw84 : Cond.instantiable RX7 10 ∈ xBW := xbw 84 (by decide +kernel) (by decide +kernel)
theorem xw85 : Cond.methodLink RL 81 yX7_init ∈ xBW := xbw 85 (by decide +kernel) (by decide +kernel)
theorem xw86 : Cond.instanceMethod yX7_init ∈ xBW := xbw 86 (by decide +kernel) (by decide +kernel)
theorem xw87 : Cond.code yX7_init cX7_init 1 none ∈ xBW := xbw 87 (by decide +kernel) (by decide +kernel)
theorem xw1209 : Cond.classLink RL 82 "RentStreamModel" ∈ xBW := xbw 1209 (by decide +kernel) (by decide +kernel)
theorem xw1210 : Cond.instantiable RX8 40 ∈ xBW := xbw 1210 (by decide +kernel) (by decide +kernel)
theorem xw1211 : Cond.methodLink RL 84 yX8_init ∈ xBW := xbw 1211 (by decide +kernel) (by decide +kernel)
theorem xw1212 : Cond.instanceMethod yX8_init ∈ xBW := xbw 1212 (by decide +kernel) (by decide +kernel)
theorem xw1213 : Cond.code yX8_init cX8_init 2 none ∈ xBW := xbw 1213 (by decide +kernel) (by decide +kernel)
abbrev k_L_bill : xκ := (RL, cL_bill, 6, 8, 138)
abbrev k_L_desk : xκ := (RL, cL_desk, 4, 8, 134)
abbrev k_L_end : xκ := (RL, cL_end, 4, 8, 135)
abbrev k_L_flat : xκ := (RL, cL_flat, 4, 8, 212)
abbrev k_L_heat : xκ := (RL, cL_heat, 4, 7, 115)
abbrev k_L_income : xκ := (RL, cL_income, 6, 8, 139)
abbrev k_L_index : xκ := (RL, cL_index, 4, 7, 113)
abbrev k_L_lease : xκ := (RL, cL_lease, 5, 8, 214)
abbrev k_L_line : xκ := (RL, cL_line, 6, 11, 289)
abbrev k_L_mend : xκ := (RL, cL_mend, 4, 7, 114)
abbrev k_L_owes : xκ := (RL, cL_owes, 4, 8, 134)
abbrev k_L_owesAnew : xκ := (RL, cL_owesAnew, 4, 8, 163)
abbrev k_L_pass : xκ := (RL, cL_pass, 4, 9, 204)
abbrev k_L_pay : xκ := (RL, cL_pay, 5, 8, 136)
abbrev k_L_plan : xκ := (RL, cL_plan, 5, 8, 138)
abbrev k_L_planOf : xκ := (RL, cL_planOf, 4, 8, 134)
abbrev k_L_points : xκ := (RL, cL_points, 4, 8, 134)
abbrev k_L_read : xκ := (RL, cL_read, 5, 8, 136)
abbrev k_L_report : xκ := (RL, cL_report, 5, 8, 214)
abbrev k_L_use : xκ := (RL, cL_use, 5, 8, 136)
abbrev k_L_law : xκ := (RL, cL_law, 8, 12, 314)
theorem xc_L_bill_65 : xLV k_L_bill k_X7_bill 65 RX7 yX7_bill (some .long) 3 := ⟨List.forall_mem_cons.mpr ⟨xw863, List.forall_mem_cons.mpr ⟨xw864, List.forall_mem_cons.mpr ⟨xw865, List.forall_mem_cons.mpr ⟨xw50, fun _ h => absurd h List.not_mem_nil⟩⟩⟩⟩, xw866, ⟨⟨by decide +kernel, by decide +kernel, by decide +kernel⟩, by decide, by decide⟩⟩
theorem xc_L_desk_62 : xLV k_L_desk k_X7_desk 62 RX7 yX7_desk (some .long) 1 := ⟨List.forall_mem_cons.mpr ⟨xw856, List.forall_mem_cons.mpr ⟨xw857, List.forall_mem_cons.mpr ⟨xw858, List.forall_mem_cons.mpr ⟨xw50, fun _ h => absurd h List.not_mem_nil⟩⟩⟩⟩, xw859, ⟨⟨by decide +kernel, by decide +kernel, by decide +kernel⟩, by decide, by decide⟩⟩
theorem xc_L_end_23 : xLV k_L_end k_X7_end 23 RX7 yX7_end (some .int) 1 := ⟨List.forall_mem_cons.mpr ⟨xw563, List.forall_mem_cons.mpr ⟨xw564, List.forall_mem_cons.mpr ⟨xw565, List.forall_mem_cons.mpr ⟨xw50, fun _ h => absurd h List.not_mem_nil⟩⟩⟩⟩, xw566, ⟨⟨by decide +kernel, by decide +kernel, by decide +kernel⟩, by decide, by decide⟩⟩
theorem xc_L_flat_7 : xLV k_L_flat k_X7_flat 7 RX7 yX7_flat (some .int) 1 := ⟨List.forall_mem_cons.mpr ⟨xw227, List.forall_mem_cons.mpr ⟨xw228, List.forall_mem_cons.mpr ⟨xw229, List.forall_mem_cons.mpr ⟨xw50, fun _ h => absurd h List.not_mem_nil⟩⟩⟩⟩, xw230, ⟨⟨by decide +kernel, by decide +kernel, by decide +kernel⟩, by decide, by decide⟩⟩
theorem xc_L_heat_32 : xLV k_L_heat k_X7_heat 32 RX7 yX7_heat (some .int) 1 := ⟨List.forall_mem_cons.mpr ⟨xw601, List.forall_mem_cons.mpr ⟨xw602, List.forall_mem_cons.mpr ⟨xw603, List.forall_mem_cons.mpr ⟨xw50, fun _ h => absurd h List.not_mem_nil⟩⟩⟩⟩, xw604, ⟨⟨by decide +kernel, by decide +kernel, by decide +kernel⟩, by decide, by decide⟩⟩
theorem xc_L_income_41 : xLV k_L_income k_X7_income 41 RX7 yX7_income (some .long) 3 := ⟨List.forall_mem_cons.mpr ⟨xw657, List.forall_mem_cons.mpr ⟨xw658, List.forall_mem_cons.mpr ⟨xw659, List.forall_mem_cons.mpr ⟨xw50, fun _ h => absurd h List.not_mem_nil⟩⟩⟩⟩, xw660, ⟨⟨by decide +kernel, by decide +kernel, by decide +kernel⟩, by decide, by decide⟩⟩
theorem xc_L_index_26 : xLV k_L_index k_X7_index 26 RX7 yX7_index (some .int) 1 := ⟨List.forall_mem_cons.mpr ⟨xw576, List.forall_mem_cons.mpr ⟨xw577, List.forall_mem_cons.mpr ⟨xw578, List.forall_mem_cons.mpr ⟨xw50, fun _ h => absurd h List.not_mem_nil⟩⟩⟩⟩, xw579, ⟨⟨by decide +kernel, by decide +kernel, by decide +kernel⟩, by decide, by decide⟩⟩
theorem xc_L_lease_17 : xLV k_L_lease k_X7_lease 17 RX7 yX7_lease (some .int) 2 := ⟨List.forall_mem_cons.mpr ⟨xw421, List.forall_mem_cons.mpr ⟨xw422, List.forall_mem_cons.mpr ⟨xw423, List.forall_mem_cons.mpr ⟨xw50, fun _ h => absurd h List.not_mem_nil⟩⟩⟩⟩, xw424, ⟨⟨by decide +kernel, by decide +kernel, by decide +kernel⟩, by decide, by decide⟩⟩
theorem xc_L_line_68 : xLV k_L_line k_X7_line 68 RX7 yX7_line (some .char) 3 := ⟨List.forall_mem_cons.mpr ⟨xw877, List.forall_mem_cons.mpr ⟨xw878, List.forall_mem_cons.mpr ⟨xw879, List.forall_mem_cons.mpr ⟨xw50, fun _ h => absurd h List.not_mem_nil⟩⟩⟩⟩, xw880, ⟨⟨by decide +kernel, by decide +kernel, by decide +kernel⟩, by decide, by decide⟩⟩
theorem xc_L_mend_38 : xLV k_L_mend k_X7_mend 38 RX7 yX7_mend (some .int) 1 := ⟨List.forall_mem_cons.mpr ⟨xw648, List.forall_mem_cons.mpr ⟨xw649, List.forall_mem_cons.mpr ⟨xw650, List.forall_mem_cons.mpr ⟨xw50, fun _ h => absurd h List.not_mem_nil⟩⟩⟩⟩, xw651, ⟨⟨by decide +kernel, by decide +kernel, by decide +kernel⟩, by decide, by decide⟩⟩
theorem xc_L_owes_55 : xLV k_L_owes k_X7_owes 55 RX7 yX7_owes (some .long) 1 := ⟨List.forall_mem_cons.mpr ⟨xw842, List.forall_mem_cons.mpr ⟨xw843, List.forall_mem_cons.mpr ⟨xw844, List.forall_mem_cons.mpr ⟨xw50, fun _ h => absurd h List.not_mem_nil⟩⟩⟩⟩, xw845, ⟨⟨by decide +kernel, by decide +kernel, by decide +kernel⟩, by decide, by decide⟩⟩
theorem xc_L_owesAnew_59 : xLV k_L_owesAnew k_X7_owesAnew 59 RX7 yX7_owesAnew (some .long) 1 := ⟨List.forall_mem_cons.mpr ⟨xw849, List.forall_mem_cons.mpr ⟨xw850, List.forall_mem_cons.mpr ⟨xw851, List.forall_mem_cons.mpr ⟨xw50, fun _ h => absurd h List.not_mem_nil⟩⟩⟩⟩, xw852, ⟨⟨by decide +kernel, by decide +kernel, by decide +kernel⟩, by decide, by decide⟩⟩
theorem xc_L_pass_52 : xLV k_L_pass k_X7_pass 52 RX7 yX7_pass (some .int) 1 := ⟨List.forall_mem_cons.mpr ⟨xw715, List.forall_mem_cons.mpr ⟨xw716, List.forall_mem_cons.mpr ⟨xw717, List.forall_mem_cons.mpr ⟨xw50, fun _ h => absurd h List.not_mem_nil⟩⟩⟩⟩, xw718, ⟨⟨by decide +kernel, by decide +kernel, by decide +kernel⟩, by decide, by decide⟩⟩
theorem xc_L_pay_45 : xLV k_L_pay k_X7_pay 45 RX7 yX7_pay (some .long) 2 := ⟨List.forall_mem_cons.mpr ⟨xw695, List.forall_mem_cons.mpr ⟨xw696, List.forall_mem_cons.mpr ⟨xw697, List.forall_mem_cons.mpr ⟨xw50, fun _ h => absurd h List.not_mem_nil⟩⟩⟩⟩, xw698, ⟨⟨by decide +kernel, by decide +kernel, by decide +kernel⟩, by decide, by decide⟩⟩
theorem xc_L_plan_49 : xLV k_L_plan k_X7_plan 49 RX7 yX7_plan (some .long) 2 := ⟨List.forall_mem_cons.mpr ⟨xw702, List.forall_mem_cons.mpr ⟨xw703, List.forall_mem_cons.mpr ⟨xw704, List.forall_mem_cons.mpr ⟨xw50, fun _ h => absurd h List.not_mem_nil⟩⟩⟩⟩, xw705, ⟨⟨by decide +kernel, by decide +kernel, by decide +kernel⟩, by decide, by decide⟩⟩
theorem xc_L_planOf_78 : xLV k_L_planOf k_X7_planOf 78 RX7 yX7_planOf (some .int) 1 := ⟨List.forall_mem_cons.mpr ⟨xw1205, List.forall_mem_cons.mpr ⟨xw1206, List.forall_mem_cons.mpr ⟨xw1207, List.forall_mem_cons.mpr ⟨xw50, fun _ h => absurd h List.not_mem_nil⟩⟩⟩⟩, xw1208, ⟨⟨by decide +kernel, by decide +kernel, by decide +kernel⟩, by decide, by decide⟩⟩
theorem xc_L_points_75 : xLV k_L_points k_X7_points 75 RX7 yX7_points (some .int) 1 := ⟨List.forall_mem_cons.mpr ⟨xw1198, List.forall_mem_cons.mpr ⟨xw1199, List.forall_mem_cons.mpr ⟨xw1200, List.forall_mem_cons.mpr ⟨xw50, fun _ h => absurd h List.not_mem_nil⟩⟩⟩⟩, xw1201, ⟨⟨by decide +kernel, by decide +kernel, by decide +kernel⟩, by decide, by decide⟩⟩
theorem xc_L_read_29 : xLV k_L_read k_X7_read 29 RX7 yX7_read (some .int) 2 := ⟨List.forall_mem_cons.mpr ⟨xw588, List.forall_mem_cons.mpr ⟨xw589, List.forall_mem_cons.mpr ⟨xw590, List.forall_mem_cons.mpr ⟨xw50, fun _ h => absurd h List.not_mem_nil⟩⟩⟩⟩, xw591, ⟨⟨by decide +kernel, by decide +kernel, by decide +kernel⟩, by decide, by decide⟩⟩
theorem xc_L_report_35 : xLV k_L_report k_X7_report 35 RX7 yX7_report (some .int) 2 := ⟨List.forall_mem_cons.mpr ⟨xw615, List.forall_mem_cons.mpr ⟨xw616, List.forall_mem_cons.mpr ⟨xw617, List.forall_mem_cons.mpr ⟨xw50, fun _ h => absurd h List.not_mem_nil⟩⟩⟩⟩, xw618, ⟨⟨by decide +kernel, by decide +kernel, by decide +kernel⟩, by decide, by decide⟩⟩
theorem xc_L_use_72 : xLV k_L_use k_X7_use 72 RX7 yX7_use (some .int) 2 := ⟨List.forall_mem_cons.mpr ⟨xw1191, List.forall_mem_cons.mpr ⟨xw1192, List.forall_mem_cons.mpr ⟨xw1193, List.forall_mem_cons.mpr ⟨xw50, fun _ h => absurd h List.not_mem_nil⟩⟩⟩⟩, xw1194, ⟨⟨by decide +kernel, by decide +kernel, by decide +kernel⟩, by decide, by decide⟩⟩
theorem xc_L_law_85 : xLSH k_L_law k_L_flat 85 yL_flat (some .int) [(0, 9, 12, 13), (0, 9, 15, 15)] 3 := ⟨List.forall_mem_cons.mpr ⟨xw222, List.forall_mem_cons.mpr ⟨xw223, List.forall_mem_cons.mpr ⟨xw49, fun _ h => absurd h List.not_mem_nil⟩⟩⟩, xw224, ⟨⟨by decide +kernel, by decide +kernel, by decide +kernel⟩, by decide, by decide⟩⟩
theorem xc_L_law_90 : xLV k_L_law k_X8_flat 90 RX8 yX8_flat (some .int) 1 := ⟨List.forall_mem_cons.mpr ⟨xw1343, List.forall_mem_cons.mpr ⟨xw1344, List.forall_mem_cons.mpr ⟨xw1345, List.forall_mem_cons.mpr ⟨xw60, fun _ h => absurd h List.not_mem_nil⟩⟩⟩⟩, xw1346, ⟨⟨by decide +kernel, by decide +kernel, by decide +kernel⟩, by decide, by decide⟩⟩
theorem xc_L_law_91 : xLV k_L_law k_X8_thrown 91 RX8 yX8_thrown (some .int) 0 := ⟨List.forall_mem_cons.mpr ⟨xw1339, List.forall_mem_cons.mpr ⟨xw1340, List.forall_mem_cons.mpr ⟨xw1341, List.forall_mem_cons.mpr ⟨xw60, fun _ h => absurd h List.not_mem_nil⟩⟩⟩⟩, xw1342, ⟨⟨by decide +kernel, by decide +kernel, by decide +kernel⟩, by decide, by decide⟩⟩
theorem xc_L_law_95 : xLSH k_L_law k_L_lease 95 yL_lease (some .int) [(0, 10, 13, 21), (0, 10, 17, 13), (0, 10, 21, 15)] 4 := ⟨List.forall_mem_cons.mpr ⟨xw417, List.forall_mem_cons.mpr ⟨xw418, List.forall_mem_cons.mpr ⟨xw49, fun _ h => absurd h List.not_mem_nil⟩⟩⟩, xw419, ⟨⟨by decide +kernel, by decide +kernel, by decide +kernel⟩, by decide, by decide⟩⟩
theorem xc_L_law_98 : xLV k_L_law k_X8_lease 98 RX8 yX8_lease (some .int) 2 := ⟨List.forall_mem_cons.mpr ⟨xw1358, List.forall_mem_cons.mpr ⟨xw1359, List.forall_mem_cons.mpr ⟨xw1360, List.forall_mem_cons.mpr ⟨xw60, fun _ h => absurd h List.not_mem_nil⟩⟩⟩⟩, xw1361, ⟨⟨by decide +kernel, by decide +kernel, by decide +kernel⟩, by decide, by decide⟩⟩
theorem xc_L_law_99 : xLSH k_L_law k_L_end 99 yL_end (some .int) [(0, 9, 12, 21), (0, 9, 15, 15)] 3 := ⟨List.forall_mem_cons.mpr ⟨xw560, List.forall_mem_cons.mpr ⟨xw561, List.forall_mem_cons.mpr ⟨xw49, fun _ h => absurd h List.not_mem_nil⟩⟩⟩, xw562, ⟨⟨by decide +kernel, by decide +kernel, by decide +kernel⟩, by decide, by decide⟩⟩
theorem xc_L_law_101 : xLV k_L_law k_X8_end 101 RX8 yX8_end (some .int) 1 := ⟨List.forall_mem_cons.mpr ⟨xw1375, List.forall_mem_cons.mpr ⟨xw1376, List.forall_mem_cons.mpr ⟨xw1377, List.forall_mem_cons.mpr ⟨xw60, fun _ h => absurd h List.not_mem_nil⟩⟩⟩⟩, xw1378, ⟨⟨by decide +kernel, by decide +kernel, by decide +kernel⟩, by decide, by decide⟩⟩
theorem xc_L_law_102 : xLSH k_L_law k_L_index 102 yL_index (some .int) [(0, 9, 12, 13)] 3 := ⟨List.forall_mem_cons.mpr ⟨xw573, List.forall_mem_cons.mpr ⟨xw574, List.forall_mem_cons.mpr ⟨xw49, fun _ h => absurd h List.not_mem_nil⟩⟩⟩, xw575, ⟨⟨by decide +kernel, by decide +kernel, by decide +kernel⟩, by decide, by decide⟩⟩
theorem xc_L_law_104 : xLV k_L_law k_X8_index 104 RX8 yX8_index (some .int) 1 := ⟨List.forall_mem_cons.mpr ⟨xw1383, List.forall_mem_cons.mpr ⟨xw1384, List.forall_mem_cons.mpr ⟨xw1385, List.forall_mem_cons.mpr ⟨xw60, fun _ h => absurd h List.not_mem_nil⟩⟩⟩⟩, xw1386, ⟨⟨by decide +kernel, by decide +kernel, by decide +kernel⟩, by decide, by decide⟩⟩
theorem xc_L_law_105 : xLSH k_L_law k_L_read 105 yL_read (some .int) [(0, 10, 13, 21), (0, 10, 17, 13)] 4 := ⟨List.forall_mem_cons.mpr ⟨xw585, List.forall_mem_cons.mpr ⟨xw586, List.forall_mem_cons.mpr ⟨xw49, fun _ h => absurd h List.not_mem_nil⟩⟩⟩, xw587, ⟨⟨by decide +kernel, by decide +kernel, by decide +kernel⟩, by decide, by decide⟩⟩
theorem xc_L_law_107 : xLV k_L_law k_X8_read 107 RX8 yX8_read (some .int) 2 := ⟨List.forall_mem_cons.mpr ⟨xw1387, List.forall_mem_cons.mpr ⟨xw1388, List.forall_mem_cons.mpr ⟨xw1389, List.forall_mem_cons.mpr ⟨xw60, fun _ h => absurd h List.not_mem_nil⟩⟩⟩⟩, xw1390, ⟨⟨by decide +kernel, by decide +kernel, by decide +kernel⟩, by decide, by decide⟩⟩
theorem xc_L_law_108 : xLSH k_L_law k_L_heat 108 yL_heat (some .int) [(0, 9, 12, 13), (0, 9, 15, 15)] 3 := ⟨List.forall_mem_cons.mpr ⟨xw598, List.forall_mem_cons.mpr ⟨xw599, List.forall_mem_cons.mpr ⟨xw49, fun _ h => absurd h List.not_mem_nil⟩⟩⟩, xw600, ⟨⟨by decide +kernel, by decide +kernel, by decide +kernel⟩, by decide, by decide⟩⟩
theorem xc_L_law_110 : xLV k_L_law k_X8_heat 110 RX8 yX8_heat (some .int) 1 := ⟨List.forall_mem_cons.mpr ⟨xw1392, List.forall_mem_cons.mpr ⟨xw1393, List.forall_mem_cons.mpr ⟨xw1394, List.forall_mem_cons.mpr ⟨xw60, fun _ h => absurd h List.not_mem_nil⟩⟩⟩⟩, xw1395, ⟨⟨by decide +kernel, by decide +kernel, by decide +kernel⟩, by decide, by decide⟩⟩
theorem xc_L_law_111 : xLSH k_L_law k_L_report 111 yL_report (some .int) [(0, 10, 13, 21), (0, 10, 17, 13), (0, 10, 21, 15)] 4 := ⟨List.forall_mem_cons.mpr ⟨xw612, List.forall_mem_cons.mpr ⟨xw613, List.forall_mem_cons.mpr ⟨xw49, fun _ h => absurd h List.not_mem_nil⟩⟩⟩, xw614, ⟨⟨by decide +kernel, by decide +kernel, by decide +kernel⟩, by decide, by decide⟩⟩
theorem xc_L_law_113 : xLV k_L_law k_X8_report 113 RX8 yX8_report (some .int) 2 := ⟨List.forall_mem_cons.mpr ⟨xw1397, List.forall_mem_cons.mpr ⟨xw1398, List.forall_mem_cons.mpr ⟨xw1399, List.forall_mem_cons.mpr ⟨xw60, fun _ h => absurd h List.not_mem_nil⟩⟩⟩⟩, xw1400, ⟨⟨by decide +kernel, by decide +kernel, by decide +kernel⟩, by decide, by decide⟩⟩
theorem xc_L_law_114 : xLSH k_L_law k_L_mend 114 yL_mend (some .int) [(0, 9, 12, 21), (0, 9, 15, 15)] 3 := ⟨List.forall_mem_cons.mpr ⟨xw645, List.forall_mem_cons.mpr ⟨xw646, List.forall_mem_cons.mpr ⟨xw49, fun _ h => absurd h List.not_mem_nil⟩⟩⟩, xw647, ⟨⟨by decide +kernel, by decide +kernel, by decide +kernel⟩, by decide, by decide⟩⟩
theorem xc_L_law_116 : xLV k_L_law k_X8_mend 116 RX8 yX8_mend (some .int) 1 := ⟨List.forall_mem_cons.mpr ⟨xw1401, List.forall_mem_cons.mpr ⟨xw1402, List.forall_mem_cons.mpr ⟨xw1403, List.forall_mem_cons.mpr ⟨xw60, fun _ h => absurd h List.not_mem_nil⟩⟩⟩⟩, xw1404, ⟨⟨by decide +kernel, by decide +kernel, by decide +kernel⟩, by decide, by decide⟩⟩
theorem xc_L_law_117 : xLSH k_L_law k_L_income 117 yL_income (some .int) [(0, 11, 14, 21), (0, 11, 18, 13)] 5 := ⟨List.forall_mem_cons.mpr ⟨xw654, List.forall_mem_cons.mpr ⟨xw655, List.forall_mem_cons.mpr ⟨xw49, fun _ h => absurd h List.not_mem_nil⟩⟩⟩, xw656, ⟨⟨by decide +kernel, by decide +kernel, by decide +kernel⟩, by decide, by decide⟩⟩
theorem xc_L_law_120 : xLV k_L_law k_X8_income 120 RX8 yX8_income (some .long) 3 := ⟨List.forall_mem_cons.mpr ⟨xw1405, List.forall_mem_cons.mpr ⟨xw1406, List.forall_mem_cons.mpr ⟨xw1407, List.forall_mem_cons.mpr ⟨xw60, fun _ h => absurd h List.not_mem_nil⟩⟩⟩⟩, xw1408, ⟨⟨by decide +kernel, by decide +kernel, by decide +kernel⟩, by decide, by decide⟩⟩
theorem xc_L_law_121 : xLSH k_L_law k_L_pay 121 yL_pay (some .int) [(0, 9, 12, 21), (0, 9, 16, 13)] 4 := ⟨List.forall_mem_cons.mpr ⟨xw692, List.forall_mem_cons.mpr ⟨xw693, List.forall_mem_cons.mpr ⟨xw49, fun _ h => absurd h List.not_mem_nil⟩⟩⟩, xw694, ⟨⟨by decide +kernel, by decide +kernel, by decide +kernel⟩, by decide, by decide⟩⟩
theorem xc_L_law_123 : xLV k_L_law k_X8_pay 123 RX8 yX8_pay (some .long) 2 := ⟨List.forall_mem_cons.mpr ⟨xw1423, List.forall_mem_cons.mpr ⟨xw1424, List.forall_mem_cons.mpr ⟨xw1425, List.forall_mem_cons.mpr ⟨xw60, fun _ h => absurd h List.not_mem_nil⟩⟩⟩⟩, xw1426, ⟨⟨by decide +kernel, by decide +kernel, by decide +kernel⟩, by decide, by decide⟩⟩
theorem xc_L_law_124 : xLSH k_L_law k_L_plan 124 yL_plan (some .int) [(0, 9, 12, 21), (0, 9, 16, 13), (0, 9, 20, 15)] 4 := ⟨List.forall_mem_cons.mpr ⟨xw699, List.forall_mem_cons.mpr ⟨xw700, List.forall_mem_cons.mpr ⟨xw49, fun _ h => absurd h List.not_mem_nil⟩⟩⟩, xw701, ⟨⟨by decide +kernel, by decide +kernel, by decide +kernel⟩, by decide, by decide⟩⟩
theorem xc_L_law_126 : xLV k_L_law k_X8_plan 126 RX8 yX8_plan (some .long) 2 := ⟨List.forall_mem_cons.mpr ⟨xw1427, List.forall_mem_cons.mpr ⟨xw1428, List.forall_mem_cons.mpr ⟨xw1429, List.forall_mem_cons.mpr ⟨xw60, fun _ h => absurd h List.not_mem_nil⟩⟩⟩⟩, xw1430, ⟨⟨by decide +kernel, by decide +kernel, by decide +kernel⟩, by decide, by decide⟩⟩
theorem xc_L_law_127 : xLSH k_L_law k_L_pass 127 yL_pass (some .int) [(0, 9, 12, 13), (0, 9, 15, 15)] 3 := ⟨List.forall_mem_cons.mpr ⟨xw712, List.forall_mem_cons.mpr ⟨xw713, List.forall_mem_cons.mpr ⟨xw49, fun _ h => absurd h List.not_mem_nil⟩⟩⟩, xw714, ⟨⟨by decide +kernel, by decide +kernel, by decide +kernel⟩, by decide, by decide⟩⟩
theorem xc_L_law_129 : xLV k_L_law k_X8_pass 129 RX8 yX8_pass (some .int) 1 := ⟨List.forall_mem_cons.mpr ⟨xw1431, List.forall_mem_cons.mpr ⟨xw1432, List.forall_mem_cons.mpr ⟨xw1433, List.forall_mem_cons.mpr ⟨xw60, fun _ h => absurd h List.not_mem_nil⟩⟩⟩⟩, xw1434, ⟨⟨by decide +kernel, by decide +kernel, by decide +kernel⟩, by decide, by decide⟩⟩
theorem xc_L_law_130 : xLSH k_L_law k_L_owes 130 yL_owes (some .int) [(0, 8, 11, 21)] 3 := ⟨List.forall_mem_cons.mpr ⟨xw839, List.forall_mem_cons.mpr ⟨xw840, List.forall_mem_cons.mpr ⟨xw49, fun _ h => absurd h List.not_mem_nil⟩⟩⟩, xw841, ⟨⟨by decide +kernel, by decide +kernel, by decide +kernel⟩, by decide, by decide⟩⟩
theorem xc_L_law_132 : xLV k_L_law k_X8_owes 132 RX8 yX8_owes (some .long) 1 := ⟨List.forall_mem_cons.mpr ⟨xw1479, List.forall_mem_cons.mpr ⟨xw1480, List.forall_mem_cons.mpr ⟨xw1481, List.forall_mem_cons.mpr ⟨xw60, fun _ h => absurd h List.not_mem_nil⟩⟩⟩⟩, xw1482, ⟨⟨by decide +kernel, by decide +kernel, by decide +kernel⟩, by decide, by decide⟩⟩
theorem xc_L_law_133 : xLSH k_L_law k_L_owesAnew 133 yL_owesAnew (some .int) [(0, 8, 11, 21)] 3 := ⟨List.forall_mem_cons.mpr ⟨xw846, List.forall_mem_cons.mpr ⟨xw847, List.forall_mem_cons.mpr ⟨xw49, fun _ h => absurd h List.not_mem_nil⟩⟩⟩, xw848, ⟨⟨by decide +kernel, by decide +kernel, by decide +kernel⟩, by decide, by decide⟩⟩
theorem xc_L_law_135 : xLV k_L_law k_X8_owesAnew 135 RX8 yX8_owesAnew (some .long) 1 := ⟨List.forall_mem_cons.mpr ⟨xw1483, List.forall_mem_cons.mpr ⟨xw1484, List.forall_mem_cons.mpr ⟨xw1485, List.forall_mem_cons.mpr ⟨xw60, fun _ h => absurd h List.not_mem_nil⟩⟩⟩⟩, xw1486, ⟨⟨by decide +kernel, by decide +kernel, by decide +kernel⟩, by decide, by decide⟩⟩
theorem xc_L_law_136 : xLSH k_L_law k_L_desk 136 yL_desk (some .int) [(0, 8, 11, 21)] 3 := ⟨List.forall_mem_cons.mpr ⟨xw853, List.forall_mem_cons.mpr ⟨xw854, List.forall_mem_cons.mpr ⟨xw49, fun _ h => absurd h List.not_mem_nil⟩⟩⟩, xw855, ⟨⟨by decide +kernel, by decide +kernel, by decide +kernel⟩, by decide, by decide⟩⟩
theorem xc_L_law_138 : xLV k_L_law k_X8_desk 138 RX8 yX8_desk (some .long) 1 := ⟨List.forall_mem_cons.mpr ⟨xw1488, List.forall_mem_cons.mpr ⟨xw1489, List.forall_mem_cons.mpr ⟨xw1490, List.forall_mem_cons.mpr ⟨xw60, fun _ h => absurd h List.not_mem_nil⟩⟩⟩⟩, xw1491, ⟨⟨by decide +kernel, by decide +kernel, by decide +kernel⟩, by decide, by decide⟩⟩
theorem xc_L_law_144 : xLSH k_L_law k_L_bill 144 yL_bill (some .int) [(0, 11, 14, 21), (0, 11, 18, 13)] 5 := ⟨List.forall_mem_cons.mpr ⟨xw860, List.forall_mem_cons.mpr ⟨xw861, List.forall_mem_cons.mpr ⟨xw49, fun _ h => absurd h List.not_mem_nil⟩⟩⟩, xw862, ⟨⟨by decide +kernel, by decide +kernel, by decide +kernel⟩, by decide, by decide⟩⟩
theorem xc_L_law_146 : xLV k_L_law k_X8_bill 146 RX8 yX8_bill (some .long) 3 := ⟨List.forall_mem_cons.mpr ⟨xw1496, List.forall_mem_cons.mpr ⟨xw1497, List.forall_mem_cons.mpr ⟨xw1498, List.forall_mem_cons.mpr ⟨xw60, fun _ h => absurd h List.not_mem_nil⟩⟩⟩⟩, xw1499, ⟨⟨by decide +kernel, by decide +kernel, by decide +kernel⟩, by decide, by decide⟩⟩
theorem xc_L_law_147 : xLSH k_L_law k_L_line 147 yL_line (some .int) [(0, 12, 15, 21)] 5 := ⟨List.forall_mem_cons.mpr ⟨xw874, List.forall_mem_cons.mpr ⟨xw875, List.forall_mem_cons.mpr ⟨xw49, fun _ h => absurd h List.not_mem_nil⟩⟩⟩, xw876, ⟨⟨by decide +kernel, by decide +kernel, by decide +kernel⟩, by decide, by decide⟩⟩
theorem xc_L_law_149 : xLV k_L_law k_X8_line 149 RX8 yX8_line (some .char) 3 := ⟨List.forall_mem_cons.mpr ⟨xw1500, List.forall_mem_cons.mpr ⟨xw1501, List.forall_mem_cons.mpr ⟨xw1502, List.forall_mem_cons.mpr ⟨xw60, fun _ h => absurd h List.not_mem_nil⟩⟩⟩⟩, xw1503, ⟨⟨by decide +kernel, by decide +kernel, by decide +kernel⟩, by decide, by decide⟩⟩
theorem xc_L_law_150 : xLSH k_L_law k_L_use 150 yL_use (some .int) [(0, 10, 13, 21)] 4 := ⟨List.forall_mem_cons.mpr ⟨xw1188, List.forall_mem_cons.mpr ⟨xw1189, List.forall_mem_cons.mpr ⟨xw49, fun _ h => absurd h List.not_mem_nil⟩⟩⟩, xw1190, ⟨⟨by decide +kernel, by decide +kernel, by decide +kernel⟩, by decide, by decide⟩⟩
theorem xc_L_law_152 : xLV k_L_law k_X8_use 152 RX8 yX8_use (some .int) 2 := ⟨List.forall_mem_cons.mpr ⟨xw1519, List.forall_mem_cons.mpr ⟨xw1520, List.forall_mem_cons.mpr ⟨xw1521, List.forall_mem_cons.mpr ⟨xw60, fun _ h => absurd h List.not_mem_nil⟩⟩⟩⟩, xw1522, ⟨⟨by decide +kernel, by decide +kernel, by decide +kernel⟩, by decide, by decide⟩⟩
theorem xc_L_law_153 : xLSH k_L_law k_L_points 153 yL_points (some .int) [(0, 9, 12, 21)] 3 := ⟨List.forall_mem_cons.mpr ⟨xw1195, List.forall_mem_cons.mpr ⟨xw1196, List.forall_mem_cons.mpr ⟨xw49, fun _ h => absurd h List.not_mem_nil⟩⟩⟩, xw1197, ⟨⟨by decide +kernel, by decide +kernel, by decide +kernel⟩, by decide, by decide⟩⟩
theorem xc_L_law_155 : xLV k_L_law k_X8_points 155 RX8 yX8_points (some .int) 1 := ⟨List.forall_mem_cons.mpr ⟨xw1523, List.forall_mem_cons.mpr ⟨xw1524, List.forall_mem_cons.mpr ⟨xw1525, List.forall_mem_cons.mpr ⟨xw60, fun _ h => absurd h List.not_mem_nil⟩⟩⟩⟩, xw1526, ⟨⟨by decide +kernel, by decide +kernel, by decide +kernel⟩, by decide, by decide⟩⟩
theorem xc_L_law_156 : xLSH k_L_law k_L_planOf 156 yL_planOf (some .int) [(0, 9, 12, 21)] 3 := ⟨List.forall_mem_cons.mpr ⟨xw1202, List.forall_mem_cons.mpr ⟨xw1203, List.forall_mem_cons.mpr ⟨xw49, fun _ h => absurd h List.not_mem_nil⟩⟩⟩, xw1204, ⟨⟨by decide +kernel, by decide +kernel, by decide +kernel⟩, by decide, by decide⟩⟩
theorem xc_L_law_158 : xLV k_L_law k_X8_planOf 158 RX8 yX8_planOf (some .int) 1 := ⟨List.forall_mem_cons.mpr ⟨xw1527, List.forall_mem_cons.mpr ⟨xw1528, List.forall_mem_cons.mpr ⟨xw1529, List.forall_mem_cons.mpr ⟨xw60, fun _ h => absurd h List.not_mem_nil⟩⟩⟩⟩, xw1530, ⟨⟨by decide +kernel, by decide +kernel, by decide +kernel⟩, by decide, by decide⟩⟩
theorem xc_L_law_139 : xLV k_L_law k_X7_owner 139 RX7 yX7_owner (some .long) 0 := ⟨List.forall_mem_cons.mpr ⟨xw218, List.forall_mem_cons.mpr ⟨xw219, List.forall_mem_cons.mpr ⟨xw220, List.forall_mem_cons.mpr ⟨xw50, fun _ h => absurd h List.not_mem_nil⟩⟩⟩⟩, xw221, ⟨⟨by decide +kernel, by decide +kernel, by decide +kernel⟩, by decide, by decide⟩⟩
theorem xc_L_law_143 : xLV k_L_law k_X8_owner 143 RX8 yX8_owner (some .long) 0 := ⟨List.forall_mem_cons.mpr ⟨xw1492, List.forall_mem_cons.mpr ⟨xw1493, List.forall_mem_cons.mpr ⟨xw1494, List.forall_mem_cons.mpr ⟨xw60, fun _ h => absurd h List.not_mem_nil⟩⟩⟩⟩, xw1495, ⟨⟨by decide +kernel, by decide +kernel, by decide +kernel⟩, by decide, by decide⟩⟩
theorem xn_L_8 : xNL RL 8 7 [.null, .null, .null, .null, .null, .null, .null, .int 0, .int 0, .long 0] := ⟨RX7, TX7, 10, tyX7, rfl, xin7, xw83, xw84, xw50, tyX7_ok, by decide +kernel, rfl⟩
theorem xc_L_law_81 : xLI k_L_law k_X7_init 81 yX7_init 0 := ⟨List.forall_mem_cons.mpr ⟨xw85, List.forall_mem_cons.mpr ⟨xw86, List.forall_mem_cons.mpr ⟨xw50, fun _ h => absurd h List.not_mem_nil⟩⟩⟩, xw87, rfl, ⟨⟨by decide +kernel, by decide +kernel, by decide +kernel⟩, by decide, by decide⟩⟩
theorem xn_L_82 : xNL RL 82 8 [.int 0, .int 0, .int 0, .null, .null, .null, .null, .null, .null, .null, .null, .int 0, .int 0, .null, .null, .null, .null, .null, .int 0, .null, .null, .null, .null, .null, .null, .null, .null, .null, .null, .null, .null, .null, .null, .null, .null, .null, .null, .null, .null, .int 0] := ⟨RX8, TX8, 40, tyX8, rfl, xin8, xw1209, xw1210, xw60, tyX8_ok, by decide +kernel, rfl⟩
theorem xc_L_law_84 : xLI k_L_law k_X8_init 84 yX8_init 0 := ⟨List.forall_mem_cons.mpr ⟨xw1211, List.forall_mem_cons.mpr ⟨xw1212, List.forall_mem_cons.mpr ⟨xw60, fun _ h => absurd h List.not_mem_nil⟩⟩⟩, xw1213, rfl, ⟨⟨by decide +kernel, by decide +kernel, by decide +kernel⟩, by decide, by decide⟩⟩
