def V_L_does_0 (E : Nat → Nat) (K : Int64 → xT → Prop) (a0 : Nat) (x1 : Int32) (x2 : Int32) (x3 : Int32) (x4 : Int32) (t : xT) (rc rs : Nat) : Prop :=
  ((¬ x1 = 0 → ((¬ x1 = (1 : Int32) → ((¬ x1 = (2 : Int32) → ((¬ x1 = (3 : Int32) → ((¬ x1 = (4 : Int32) → ((¬ x1 = (5 : Int32) → ((¬ x1 = (6 : Int32) → ((¬ x1 = (7 : Int32) → ((¬ x1 = (8 : Int32) → ((¬ x1 = (9 : Int32) → ((¬ x1 = (10 : Int32) → ((¬ x1 = (11 : Int32) → ((¬ x1 = (12 : Int32) → ((¬ x1 = (13 : Int32) → ((¬ x1 = (14 : Int32) → ((¬ x1 = (15 : Int32) → ((¬ x1 = (16 : Int32) → ((¬ x1 = (17 : Int32) → ((¬ x1 = (18 : Int32) → (xis t a0 7 ∧ ∃ m_3 z_4 : Nat, m_3 ≤ rc ∧ z_4 ≤ rs ∧ V_X7_planOf_0 (fun Ex t_5 => (Ex = "java/lang/IndexOutOfBoundsException" ∨ Ex = "java/lang/IllegalArgumentException" ∨ Ex = "java/lang/IllegalStateException") ∧ (Ex = "java/lang/IndexOutOfBoundsException" → K (-9000000000000 : Int64) t_5) ∧ (Ex = "java/lang/IllegalArgumentException" → K (-9000000000000 : Int64) t_5) ∧ (Ex = "java/lang/IllegalStateException" → K (-9000000000000 : Int64) t_5)) (fun x_2 t_1 => K x_2.toInt64 t_1) a0 x2 t m_3 z_4)) ∧ (x1 = (18 : Int32) → (xis t a0 7 ∧ ∃ m_8 z_9 : Nat, m_8 ≤ rc ∧ z_9 ≤ rs ∧ V_X7_points_0 (fun Ex t_10 => (Ex = "java/lang/IndexOutOfBoundsException" ∨ Ex = "java/lang/IllegalArgumentException" ∨ Ex = "java/lang/IllegalStateException") ∧ (Ex = "java/lang/IndexOutOfBoundsException" → K (-9000000000000 : Int64) t_10) ∧ (Ex = "java/lang/IllegalArgumentException" → K (-9000000000000 : Int64) t_10) ∧ (Ex = "java/lang/IllegalStateException" → K (-9000000000000 : Int64) t_10)) (fun x_7 t_6 => K x_7.toInt64 t_6) a0 x2 t m_8 z_9)))) ∧ (x1 = (17 : Int32) → (xis t a0 7 ∧ ∃ m_13 z_14 : Nat, m_13 ≤ rc ∧ z_14 ≤ rs ∧ V_X7_use_0 (fun Ex t_15 => (Ex = "java/lang/IndexOutOfBoundsException" ∨ Ex = "java/lang/IllegalArgumentException" ∨ Ex = "java/lang/IllegalStateException") ∧ (Ex = "java/lang/IndexOutOfBoundsException" → K (-9000000000000 : Int64) t_15) ∧ (Ex = "java/lang/IllegalArgumentException" → K (-9000000000000 : Int64) t_15) ∧ (Ex = "java/lang/IllegalStateException" → K (-9000000000000 : Int64) t_15)) (fun x_12 t_11 => K x_12.toInt64 t_11) a0 x2 x3 t m_13 z_14)))) ∧ (x1 = (16 : Int32) → (xis t a0 7 ∧ ∃ m_18 z_19 : Nat, m_18 ≤ rc ∧ z_19 ≤ rs ∧ V_X7_line_0 E (fun Ex t_20 => (Ex = "java/lang/IndexOutOfBoundsException" ∨ Ex = "java/lang/IllegalArgumentException" ∨ Ex = "java/lang/IllegalStateException") ∧ (Ex = "java/lang/IndexOutOfBoundsException" → K (-9000000000000 : Int64) t_20) ∧ (Ex = "java/lang/IllegalArgumentException" → K (-9000000000000 : Int64) t_20) ∧ (Ex = "java/lang/IllegalStateException" → K (-9000000000000 : Int64) t_20)) (fun x_17 t_16 => K x_17.toInt64 t_16) a0 x2 x3 x4 t m_18 z_19)))) ∧ (x1 = (15 : Int32) → (xis t a0 7 ∧ ∃ m_23 z_24 : Nat, m_23 ≤ rc ∧ z_24 ≤ rs ∧ V_X7_bill_0 (fun Ex t_25 => (Ex = "java/lang/IndexOutOfBoundsException" ∨ Ex = "java/lang/IllegalArgumentException" ∨ Ex = "java/lang/IllegalStateException") ∧ (Ex = "java/lang/IndexOutOfBoundsException" → K (-9000000000000 : Int64) t_25) ∧ (Ex = "java/lang/IllegalArgumentException" → K (-9000000000000 : Int64) t_25) ∧ (Ex = "java/lang/IllegalStateException" → K (-9000000000000 : Int64) t_25)) (fun y_22 t_21 => K y_22 t_21) a0 x2 x3 x4 t m_23 z_24)))) ∧ (x1 = (14 : Int32) → (xis t a0 7 ∧ ∃ m_28 z_29 : Nat, m_28 ≤ rc ∧ z_29 ≤ rs ∧ V_X7_desk_0 (fun Ex t_30 => (Ex = "java/lang/IndexOutOfBoundsException" ∨ Ex = "java/lang/IllegalArgumentException" ∨ Ex = "java/lang/IllegalStateException") ∧ (Ex = "java/lang/IndexOutOfBoundsException" → K (-9000000000000 : Int64) t_30) ∧ (Ex = "java/lang/IllegalArgumentException" → K (-9000000000000 : Int64) t_30) ∧ (Ex = "java/lang/IllegalStateException" → K (-9000000000000 : Int64) t_30)) (fun y_27 t_26 => K y_27 t_26) a0 x2 t m_28 z_29)))) ∧ (x1 = (13 : Int32) → (xis t a0 7 ∧ ∃ m_33 z_34 : Nat, m_33 ≤ rc ∧ z_34 ≤ rs ∧ V_X7_owesAnew_0 (fun Ex t_35 => (Ex = "java/lang/IndexOutOfBoundsException" ∨ Ex = "java/lang/IllegalArgumentException" ∨ Ex = "java/lang/IllegalStateException") ∧ (Ex = "java/lang/IndexOutOfBoundsException" → K (-9000000000000 : Int64) t_35) ∧ (Ex = "java/lang/IllegalArgumentException" → K (-9000000000000 : Int64) t_35) ∧ (Ex = "java/lang/IllegalStateException" → K (-9000000000000 : Int64) t_35)) (fun y_32 t_31 => K y_32 t_31) a0 x2 t m_33 z_34)))) ∧ (x1 = (12 : Int32) → (xis t a0 7 ∧ ∃ m_38 z_39 : Nat, m_38 ≤ rc ∧ z_39 ≤ rs ∧ V_X7_owes_0 (fun Ex t_40 => (Ex = "java/lang/IndexOutOfBoundsException" ∨ Ex = "java/lang/IllegalArgumentException" ∨ Ex = "java/lang/IllegalStateException") ∧ (Ex = "java/lang/IndexOutOfBoundsException" → K (-9000000000000 : Int64) t_40) ∧ (Ex = "java/lang/IllegalArgumentException" → K (-9000000000000 : Int64) t_40) ∧ (Ex = "java/lang/IllegalStateException" → K (-9000000000000 : Int64) t_40)) (fun y_37 t_36 => K y_37 t_36) a0 x2 t m_38 z_39)))) ∧ (x1 = (11 : Int32) → (xis t a0 7 ∧ ∃ m_43 z_44 : Nat, m_43 ≤ rc ∧ z_44 ≤ rs ∧ V_X7_pass_0 (fun Ex t_45 => (Ex = "java/lang/IndexOutOfBoundsException" ∨ Ex = "java/lang/IllegalArgumentException" ∨ Ex = "java/lang/IllegalStateException") ∧ (Ex = "java/lang/IndexOutOfBoundsException" → K (-9000000000000 : Int64) t_45) ∧ (Ex = "java/lang/IllegalArgumentException" → K (-9000000000000 : Int64) t_45) ∧ (Ex = "java/lang/IllegalStateException" → K (-9000000000000 : Int64) t_45)) (fun x_42 t_41 => K x_42.toInt64 t_41) a0 x2 t m_43 z_44)))) ∧ (x1 = (10 : Int32) → (xis t a0 7 ∧ ∃ m_48 z_49 : Nat, m_48 ≤ rc ∧ z_49 ≤ rs ∧ V_X7_plan_0 (fun Ex t_50 => (Ex = "java/lang/IndexOutOfBoundsException" ∨ Ex = "java/lang/IllegalArgumentException" ∨ Ex = "java/lang/IllegalStateException") ∧ (Ex = "java/lang/IndexOutOfBoundsException" → K (-9000000000000 : Int64) t_50) ∧ (Ex = "java/lang/IllegalArgumentException" → K (-9000000000000 : Int64) t_50) ∧ (Ex = "java/lang/IllegalStateException" → K (-9000000000000 : Int64) t_50)) (fun y_47 t_46 => K y_47 t_46) a0 x2 x3 t m_48 z_49)))) ∧ (x1 = (9 : Int32) → (xis t a0 7 ∧ ∃ m_53 z_54 : Nat, m_53 ≤ rc ∧ z_54 ≤ rs ∧ V_X7_pay_0 (fun Ex t_55 => (Ex = "java/lang/IndexOutOfBoundsException" ∨ Ex = "java/lang/IllegalArgumentException" ∨ Ex = "java/lang/IllegalStateException") ∧ (Ex = "java/lang/IndexOutOfBoundsException" → K (-9000000000000 : Int64) t_55) ∧ (Ex = "java/lang/IllegalArgumentException" → K (-9000000000000 : Int64) t_55) ∧ (Ex = "java/lang/IllegalStateException" → K (-9000000000000 : Int64) t_55)) (fun y_52 t_51 => K y_52 t_51) a0 x2 x3 t m_53 z_54)))) ∧ (x1 = (8 : Int32) → (xis t a0 7 ∧ ∃ m_58 z_59 : Nat, m_58 ≤ rc ∧ z_59 ≤ rs ∧ V_X7_income_0 (fun Ex t_60 => (Ex = "java/lang/IndexOutOfBoundsException" ∨ Ex = "java/lang/IllegalArgumentException" ∨ Ex = "java/lang/IllegalStateException") ∧ (Ex = "java/lang/IndexOutOfBoundsException" → K (-9000000000000 : Int64) t_60) ∧ (Ex = "java/lang/IllegalArgumentException" → K (-9000000000000 : Int64) t_60) ∧ (Ex = "java/lang/IllegalStateException" → K (-9000000000000 : Int64) t_60)) (fun y_57 t_56 => K y_57 t_56) a0 x2 x3 x4 t m_58 z_59)))) ∧ (x1 = (7 : Int32) → (xis t a0 7 ∧ ∃ m_63 z_64 : Nat, m_63 ≤ rc ∧ z_64 ≤ rs ∧ V_X7_mend_0 (fun Ex t_65 => (Ex = "java/lang/IndexOutOfBoundsException" ∨ Ex = "java/lang/IllegalArgumentException" ∨ Ex = "java/lang/IllegalStateException") ∧ (Ex = "java/lang/IndexOutOfBoundsException" → K (-9000000000000 : Int64) t_65) ∧ (Ex = "java/lang/IllegalArgumentException" → K (-9000000000000 : Int64) t_65) ∧ (Ex = "java/lang/IllegalStateException" → K (-9000000000000 : Int64) t_65)) (fun x_62 t_61 => K x_62.toInt64 t_61) a0 x2 t m_63 z_64)))) ∧ (x1 = (6 : Int32) → (xis t a0 7 ∧ ∃ m_68 z_69 : Nat, m_68 ≤ rc ∧ z_69 ≤ rs ∧ V_X7_report_0 E (fun Ex t_70 => (Ex = "java/lang/IndexOutOfBoundsException" ∨ Ex = "java/lang/IllegalArgumentException" ∨ Ex = "java/lang/IllegalStateException") ∧ (Ex = "java/lang/IndexOutOfBoundsException" → K (-9000000000000 : Int64) t_70) ∧ (Ex = "java/lang/IllegalArgumentException" → K (-9000000000000 : Int64) t_70) ∧ (Ex = "java/lang/IllegalStateException" → K (-9000000000000 : Int64) t_70)) (fun x_67 t_66 => K x_67.toInt64 t_66) a0 x2 x3 t m_68 z_69)))) ∧ (x1 = (5 : Int32) → (xis t a0 7 ∧ ∃ m_73 z_74 : Nat, m_73 ≤ rc ∧ z_74 ≤ rs ∧ V_X7_heat_0 (fun Ex t_75 => (Ex = "java/lang/IndexOutOfBoundsException" ∨ Ex = "java/lang/IllegalArgumentException" ∨ Ex = "java/lang/IllegalStateException") ∧ (Ex = "java/lang/IndexOutOfBoundsException" → K (-9000000000000 : Int64) t_75) ∧ (Ex = "java/lang/IllegalArgumentException" → K (-9000000000000 : Int64) t_75) ∧ (Ex = "java/lang/IllegalStateException" → K (-9000000000000 : Int64) t_75)) (fun x_72 t_71 => K x_72.toInt64 t_71) a0 x2 t m_73 z_74)))) ∧ (x1 = (4 : Int32) → (xis t a0 7 ∧ ∃ m_78 z_79 : Nat, m_78 ≤ rc ∧ z_79 ≤ rs ∧ V_X7_read_0 (fun Ex t_80 => (Ex = "java/lang/IndexOutOfBoundsException" ∨ Ex = "java/lang/IllegalArgumentException" ∨ Ex = "java/lang/IllegalStateException") ∧ (Ex = "java/lang/IndexOutOfBoundsException" → K (-9000000000000 : Int64) t_80) ∧ (Ex = "java/lang/IllegalArgumentException" → K (-9000000000000 : Int64) t_80) ∧ (Ex = "java/lang/IllegalStateException" → K (-9000000000000 : Int64) t_80)) (fun x_77 t_76 => K x_77.toInt64 t_76) a0 x2 x3 t m_78 z_79)))) ∧ (x1 = (3 : Int32) → (xis t a0 7 ∧ ∃ m_83 z_84 : Nat, m_83 ≤ rc ∧ z_84 ≤ rs ∧ V_X7_index_0 (fun Ex t_85 => (Ex = "java/lang/IndexOutOfBoundsException" ∨ Ex = "java/lang/IllegalArgumentException" ∨ Ex = "java/lang/IllegalStateException") ∧ (Ex = "java/lang/IndexOutOfBoundsException" → K (-9000000000000 : Int64) t_85) ∧ (Ex = "java/lang/IllegalArgumentException" → K (-9000000000000 : Int64) t_85) ∧ (Ex = "java/lang/IllegalStateException" → K (-9000000000000 : Int64) t_85)) (fun x_82 t_81 => K x_82.toInt64 t_81) a0 x2 t m_83 z_84)))) ∧ (x1 = (2 : Int32) → (xis t a0 7 ∧ ∃ m_88 z_89 : Nat, m_88 ≤ rc ∧ z_89 ≤ rs ∧ V_X7_end_0 (fun Ex t_90 => (Ex = "java/lang/IndexOutOfBoundsException" ∨ Ex = "java/lang/IllegalArgumentException" ∨ Ex = "java/lang/IllegalStateException") ∧ (Ex = "java/lang/IndexOutOfBoundsException" → K (-9000000000000 : Int64) t_90) ∧ (Ex = "java/lang/IllegalArgumentException" → K (-9000000000000 : Int64) t_90) ∧ (Ex = "java/lang/IllegalStateException" → K (-9000000000000 : Int64) t_90)) (fun x_87 t_86 => K x_87.toInt64 t_86) a0 x2 t m_88 z_89)))) ∧ (x1 = (1 : Int32) → (xis t a0 7 ∧ ∃ m_93 z_94 : Nat, m_93 ≤ rc ∧ z_94 ≤ rs ∧ V_X7_lease_0 E (fun Ex t_95 => (Ex = "java/lang/IndexOutOfBoundsException" ∨ Ex = "java/lang/IllegalArgumentException" ∨ Ex = "java/lang/IllegalStateException") ∧ (Ex = "java/lang/IndexOutOfBoundsException" → K (-9000000000000 : Int64) t_95) ∧ (Ex = "java/lang/IllegalArgumentException" → K (-9000000000000 : Int64) t_95) ∧ (Ex = "java/lang/IllegalStateException" → K (-9000000000000 : Int64) t_95)) (fun x_92 t_91 => K x_92.toInt64 t_91) a0 x2 x3 t m_93 z_94)))) ∧ (x1 = 0 → (xis t a0 7 ∧ ∃ m_98 z_99 : Nat, m_98 ≤ rc ∧ z_99 ≤ rs ∧ V_X7_flat_0 E (fun Ex t_100 => (Ex = "java/lang/IndexOutOfBoundsException" ∨ Ex = "java/lang/IllegalArgumentException" ∨ Ex = "java/lang/IllegalStateException") ∧ (Ex = "java/lang/IndexOutOfBoundsException" → K (-9000000000000 : Int64) t_100) ∧ (Ex = "java/lang/IllegalArgumentException" → K (-9000000000000 : Int64) t_100) ∧ (Ex = "java/lang/IllegalStateException" → K (-9000000000000 : Int64) t_100)) (fun x_97 t_96 => K x_97.toInt64 t_96) a0 x2 t m_98 z_99)))
set_option maxRecDepth 20000 in
theorem S_L_does_0 {Γ : xΓ} {K : Int64 → xT → Prop} (hl : (gl Γ).stackTraces = false) (ht : (gM Γ).sig.returnType = (some .long)) (hr : xRet Γ (xKl K)) (htab : (gc Γ).exceptionTable.toList = tableOf [(0, 292, 293, 76), (0, 292, 299, 80), (0, 292, 305, 82)]) {a0 : Nat} {x1 : Int32} {x2 : Int32} {x3 : Int32} {x4 : Int32} {t : xT} {rc rs : Nat} (h : V_L_does_0 (gG Γ).2.2.2 K a0 x1 x2 x3 x4 t rc rs) : xX Γ k_L_does 0 [(0, .ref a0), (1, .int x1), (2, .int x2), (3, .int x3), (4, .int x4)] [] t rc rs := by
  unfold V_L_does_0 at h
  refine x_iload_n 1 dL_does_0 rfl rfl ?_
  obtain ⟨h1, h2⟩ := h
  refine x_if_ne (tgt := 13) dL_does_1 (by decide) (fun q => ?_) (fun q => ?_)
  · have h := h1 q
    refine x_iload_n 1 dL_does_13 rfl rfl ?_
    refine x_iconst (v := (1 : Int32)) dL_does_14 (by decide) ?_
    obtain ⟨h1, h2⟩ := h
    refine x_icmp_ne (tgt := 28) dL_does_15 (by decide) (fun q => ?_) (fun q => ?_)
    · have h := h1 q
      refine x_iload_n 1 dL_does_28 rfl rfl ?_
      refine x_iconst (v := (2 : Int32)) dL_does_29 (by decide) ?_
      obtain ⟨h1, h2⟩ := h
      refine x_icmp_ne (tgt := 42) dL_does_30 (by decide) (fun q => ?_) (fun q => ?_)
      · have h := h1 q
        refine x_iload_n 1 dL_does_42 rfl rfl ?_
        refine x_iconst (v := (3 : Int32)) dL_does_43 (by decide) ?_
        obtain ⟨h1, h2⟩ := h
        refine x_icmp_ne (tgt := 56) dL_does_44 (by decide) (fun q => ?_) (fun q => ?_)
        · have h := h1 q
          refine x_iload_n 1 dL_does_56 rfl rfl ?_
          refine x_iconst (v := (4 : Int32)) dL_does_57 (by decide) ?_
          obtain ⟨h1, h2⟩ := h
          refine x_icmp_ne (tgt := 71) dL_does_58 (by decide) (fun q => ?_) (fun q => ?_)
          · have h := h1 q
            refine x_iload_n 1 dL_does_71 rfl rfl ?_
            refine x_iconst (v := (5 : Int32)) dL_does_72 (by decide) ?_
            obtain ⟨h1, h2⟩ := h
            refine x_icmp_ne (tgt := 85) dL_does_73 (by decide) (fun q => ?_) (fun q => ?_)
            · have h := h1 q
              refine x_iload_n 1 dL_does_85 rfl rfl ?_
              refine x_bipush (v := (6 : Int32)) dL_does_86 (by decide) ?_
              obtain ⟨h1, h2⟩ := h
              refine x_icmp_ne (tgt := 101) dL_does_88 (by decide) (fun q => ?_) (fun q => ?_)
              · have h := h1 q
                refine x_iload_n 1 dL_does_101 rfl rfl ?_
                refine x_bipush (v := (7 : Int32)) dL_does_102 (by decide) ?_
                obtain ⟨h1, h2⟩ := h
                refine x_icmp_ne (tgt := 116) dL_does_104 (by decide) (fun q => ?_) (fun q => ?_)
                · have h := h1 q
                  refine x_iload_n 1 dL_does_116 rfl rfl ?_
                  refine x_bipush (v := (8 : Int32)) dL_does_117 (by decide) ?_
                  obtain ⟨h1, h2⟩ := h
                  refine x_icmp_ne (tgt := 133) dL_does_119 (by decide) (fun q => ?_) (fun q => ?_)
                  · have h := h1 q
                    refine x_iload_n 1 dL_does_133 rfl rfl ?_
                    refine x_bipush (v := (9 : Int32)) dL_does_134 (by decide) ?_
                    obtain ⟨h1, h2⟩ := h
                    refine x_icmp_ne (tgt := 148) dL_does_136 (by decide) (fun q => ?_) (fun q => ?_)
                    · have h := h1 q
                      refine x_iload_n 1 dL_does_148 rfl rfl ?_
                      refine x_bipush (v := (10 : Int32)) dL_does_149 (by decide) ?_
                      obtain ⟨h1, h2⟩ := h
                      refine x_icmp_ne (tgt := 163) dL_does_151 (by decide) (fun q => ?_) (fun q => ?_)
                      · have h := h1 q
                        refine x_iload_n 1 dL_does_163 rfl rfl ?_
                        refine x_bipush (v := (11 : Int32)) dL_does_164 (by decide) ?_
                        obtain ⟨h1, h2⟩ := h
                        refine x_icmp_ne (tgt := 178) dL_does_166 (by decide) (fun q => ?_) (fun q => ?_)
                        · have h := h1 q
                          refine x_iload_n 1 dL_does_178 rfl rfl ?_
                          refine x_bipush (v := (12 : Int32)) dL_does_179 (by decide) ?_
                          obtain ⟨h1, h2⟩ := h
                          refine x_icmp_ne (tgt := 192) dL_does_181 (by decide) (fun q => ?_) (fun q => ?_)
                          · have h := h1 q
                            refine x_iload_n 1 dL_does_192 rfl rfl ?_
                            refine x_bipush (v := (13 : Int32)) dL_does_193 (by decide) ?_
                            obtain ⟨h1, h2⟩ := h
                            refine x_icmp_ne (tgt := 206) dL_does_195 (by decide) (fun q => ?_) (fun q => ?_)
                            · have h := h1 q
                              refine x_iload_n 1 dL_does_206 rfl rfl ?_
                              refine x_bipush (v := (14 : Int32)) dL_does_207 (by decide) ?_
                              obtain ⟨h1, h2⟩ := h
                              refine x_icmp_ne (tgt := 220) dL_does_209 (by decide) (fun q => ?_) (fun q => ?_)
                              · have h := h1 q
                                refine x_iload_n 1 dL_does_220 rfl rfl ?_
                                refine x_bipush (v := (15 : Int32)) dL_does_221 (by decide) ?_
                                obtain ⟨h1, h2⟩ := h
                                refine x_icmp_ne (tgt := 237) dL_does_223 (by decide) (fun q => ?_) (fun q => ?_)
                                · have h := h1 q
                                  refine x_iload_n 1 dL_does_237 rfl rfl ?_
                                  refine x_bipush (v := (16 : Int32)) dL_does_238 (by decide) ?_
                                  obtain ⟨h1, h2⟩ := h
                                  refine x_icmp_ne (tgt := 255) dL_does_240 (by decide) (fun q => ?_) (fun q => ?_)
                                  · have h := h1 q
                                    refine x_iload_n 1 dL_does_255 rfl rfl ?_
                                    refine x_bipush (v := (17 : Int32)) dL_does_256 (by decide) ?_
                                    obtain ⟨h1, h2⟩ := h
                                    refine x_icmp_ne (tgt := 271) dL_does_258 (by decide) (fun q => ?_) (fun q => ?_)
                                    · have h := h1 q
                                      refine x_iload_n 1 dL_does_271 rfl rfl ?_
                                      refine x_bipush (v := (18 : Int32)) dL_does_272 (by decide) ?_
                                      obtain ⟨h1, h2⟩ := h
                                      refine x_icmp_ne (tgt := 286) dL_does_274 (by decide) (fun q => ?_) (fun q => ?_)
                                      · have h := h1 q
                                        refine x_aload_n 0 dL_does_286 rfl rfl ?_
                                        refine x_iload_n 2 dL_does_287 rfl rfl ?_
                                        obtain ⟨⟨fs, hf⟩, h⟩ := h
                                        obtain ⟨m_3, z_4, hm, hs, h⟩ := h
                                        refine x_invVX (as := [.int x2]) (rest := []) dL_does_288 (q := (RX7, TX7, 10)) rfl xc_L_does_73 hf (M_X7_planOf hl h) rfl rfl (Nat.le_of_ble_eq_true rfl) hm hs (fun Ex t_5 h => ?_) (xk_i fun x_2 t_1 h => ?_)
                                        · obtain ⟨hE, h1, h2, h3⟩ := h
                                          rcases hE with rfl | rfl | rfl
                                          · have h := h1 rfl
                                            refine x_catch [] (0, 292, 293, 76) [(0, 292, 299, 80), (0, 292, 305, 82)] htab rfl (fun _ h => absurd h List.not_mem_nil) (by decide) rfl (by decide) xw534 (by decide +kernel) (fun q => ?_)
                                            refine x_astore (L' := [(5, .ref q), (0, .ref a0), (1, .int x1), (2, .int x2), (3, .int x3), (4, .int x4)]) dL_does_293 (by decide) rfl ?_
                                            refine x_ldc2 dL_does_295 xw1132 ?_
                                            exact x_lret dL_does_298 hr ht ⟨_, rfl, h⟩
                                          · have h := h2 rfl
                                            refine x_catch [(0, 292, 293, 76)] (0, 292, 299, 80) [(0, 292, 305, 82)] htab rfl (List.forall_mem_cons.mpr ⟨⟨by decide, "java/lang/IndexOutOfBoundsException", xw534, by decide +kernel⟩, fun _ h => absurd h List.not_mem_nil⟩) (by decide) rfl (by decide) xw535 (by decide +kernel) (fun q => ?_)
                                            refine x_astore (L' := [(5, .ref q), (0, .ref a0), (1, .int x1), (2, .int x2), (3, .int x3), (4, .int x4)]) dL_does_299 (by decide) rfl ?_
                                            refine x_ldc2 dL_does_301 xw1132 ?_
                                            exact x_lret dL_does_304 hr ht ⟨_, rfl, h⟩
                                          · have h := h3 rfl
                                            refine x_catch [(0, 292, 293, 76), (0, 292, 299, 80)] (0, 292, 305, 82) [] htab rfl (List.forall_mem_cons.mpr ⟨⟨by decide, "java/lang/IndexOutOfBoundsException", xw534, by decide +kernel⟩, List.forall_mem_cons.mpr ⟨⟨by decide, "java/lang/IllegalArgumentException", xw535, by decide +kernel⟩, fun _ h => absurd h List.not_mem_nil⟩⟩) (by decide) rfl (by decide) xw536 (by decide +kernel) (fun q => ?_)
                                            refine x_astore (L' := [(5, .ref q), (0, .ref a0), (1, .int x1), (2, .int x2), (3, .int x3), (4, .int x4)]) dL_does_305 (by decide) rfl ?_
                                            refine x_ldc2 dL_does_307 xw1132 ?_
                                            exact x_lret dL_does_310 hr ht ⟨_, rfl, h⟩
                                        refine x_i2l dL_does_291 ?_
                                        exact x_lret dL_does_292 hr ht ⟨_, rfl, h⟩
                                      · have h := h2 q
                                        refine x_aload_n 0 dL_does_277 rfl rfl ?_
                                        refine x_iload_n 2 dL_does_278 rfl rfl ?_
                                        obtain ⟨⟨fs, hf⟩, h⟩ := h
                                        obtain ⟨m_8, z_9, hm, hs, h⟩ := h
                                        refine x_invVX (as := [.int x2]) (rest := []) dL_does_279 (q := (RX7, TX7, 10)) rfl xc_L_does_70 hf (M_X7_points hl h) rfl rfl (Nat.le_of_ble_eq_true rfl) hm hs (fun Ex t_10 h => ?_) (xk_i fun x_7 t_6 h => ?_)
                                        · obtain ⟨hE, h1, h2, h3⟩ := h
                                          rcases hE with rfl | rfl | rfl
                                          · have h := h1 rfl
                                            refine x_catch [] (0, 292, 293, 76) [(0, 292, 299, 80), (0, 292, 305, 82)] htab rfl (fun _ h => absurd h List.not_mem_nil) (by decide) rfl (by decide) xw534 (by decide +kernel) (fun q => ?_)
                                            refine x_astore (L' := [(5, .ref q), (0, .ref a0), (1, .int x1), (2, .int x2), (3, .int x3), (4, .int x4)]) dL_does_293 (by decide) rfl ?_
                                            refine x_ldc2 dL_does_295 xw1132 ?_
                                            exact x_lret dL_does_298 hr ht ⟨_, rfl, h⟩
                                          · have h := h2 rfl
                                            refine x_catch [(0, 292, 293, 76)] (0, 292, 299, 80) [(0, 292, 305, 82)] htab rfl (List.forall_mem_cons.mpr ⟨⟨by decide, "java/lang/IndexOutOfBoundsException", xw534, by decide +kernel⟩, fun _ h => absurd h List.not_mem_nil⟩) (by decide) rfl (by decide) xw535 (by decide +kernel) (fun q => ?_)
                                            refine x_astore (L' := [(5, .ref q), (0, .ref a0), (1, .int x1), (2, .int x2), (3, .int x3), (4, .int x4)]) dL_does_299 (by decide) rfl ?_
                                            refine x_ldc2 dL_does_301 xw1132 ?_
                                            exact x_lret dL_does_304 hr ht ⟨_, rfl, h⟩
                                          · have h := h3 rfl
                                            refine x_catch [(0, 292, 293, 76), (0, 292, 299, 80)] (0, 292, 305, 82) [] htab rfl (List.forall_mem_cons.mpr ⟨⟨by decide, "java/lang/IndexOutOfBoundsException", xw534, by decide +kernel⟩, List.forall_mem_cons.mpr ⟨⟨by decide, "java/lang/IllegalArgumentException", xw535, by decide +kernel⟩, fun _ h => absurd h List.not_mem_nil⟩⟩) (by decide) rfl (by decide) xw536 (by decide +kernel) (fun q => ?_)
                                            refine x_astore (L' := [(5, .ref q), (0, .ref a0), (1, .int x1), (2, .int x2), (3, .int x3), (4, .int x4)]) dL_does_305 (by decide) rfl ?_
                                            refine x_ldc2 dL_does_307 xw1132 ?_
                                            exact x_lret dL_does_310 hr ht ⟨_, rfl, h⟩
                                        refine x_i2l dL_does_282 ?_
                                        refine x_goto (tgt := 292) dL_does_283 (by decide) ?_
                                        exact x_lret dL_does_292 hr ht ⟨_, rfl, h⟩
                                    · have h := h2 q
                                      refine x_aload_n 0 dL_does_261 rfl rfl ?_
                                      refine x_iload_n 2 dL_does_262 rfl rfl ?_
                                      refine x_iload_n 3 dL_does_263 rfl rfl ?_
                                      obtain ⟨⟨fs, hf⟩, h⟩ := h
                                      obtain ⟨m_13, z_14, hm, hs, h⟩ := h
                                      refine x_invVX (as := [.int x2, .int x3]) (rest := []) dL_does_264 (q := (RX7, TX7, 10)) rfl xc_L_does_67 hf (M_X7_use hl h) rfl rfl (Nat.le_of_ble_eq_true rfl) hm hs (fun Ex t_15 h => ?_) (xk_i fun x_12 t_11 h => ?_)
                                      · obtain ⟨hE, h1, h2, h3⟩ := h
                                        rcases hE with rfl | rfl | rfl
                                        · have h := h1 rfl
                                          refine x_catch [] (0, 292, 293, 76) [(0, 292, 299, 80), (0, 292, 305, 82)] htab rfl (fun _ h => absurd h List.not_mem_nil) (by decide) rfl (by decide) xw534 (by decide +kernel) (fun q => ?_)
                                          refine x_astore (L' := [(5, .ref q), (0, .ref a0), (1, .int x1), (2, .int x2), (3, .int x3), (4, .int x4)]) dL_does_293 (by decide) rfl ?_
                                          refine x_ldc2 dL_does_295 xw1132 ?_
                                          exact x_lret dL_does_298 hr ht ⟨_, rfl, h⟩
                                        · have h := h2 rfl
                                          refine x_catch [(0, 292, 293, 76)] (0, 292, 299, 80) [(0, 292, 305, 82)] htab rfl (List.forall_mem_cons.mpr ⟨⟨by decide, "java/lang/IndexOutOfBoundsException", xw534, by decide +kernel⟩, fun _ h => absurd h List.not_mem_nil⟩) (by decide) rfl (by decide) xw535 (by decide +kernel) (fun q => ?_)
                                          refine x_astore (L' := [(5, .ref q), (0, .ref a0), (1, .int x1), (2, .int x2), (3, .int x3), (4, .int x4)]) dL_does_299 (by decide) rfl ?_
                                          refine x_ldc2 dL_does_301 xw1132 ?_
                                          exact x_lret dL_does_304 hr ht ⟨_, rfl, h⟩
                                        · have h := h3 rfl
                                          refine x_catch [(0, 292, 293, 76), (0, 292, 299, 80)] (0, 292, 305, 82) [] htab rfl (List.forall_mem_cons.mpr ⟨⟨by decide, "java/lang/IndexOutOfBoundsException", xw534, by decide +kernel⟩, List.forall_mem_cons.mpr ⟨⟨by decide, "java/lang/IllegalArgumentException", xw535, by decide +kernel⟩, fun _ h => absurd h List.not_mem_nil⟩⟩) (by decide) rfl (by decide) xw536 (by decide +kernel) (fun q => ?_)
                                          refine x_astore (L' := [(5, .ref q), (0, .ref a0), (1, .int x1), (2, .int x2), (3, .int x3), (4, .int x4)]) dL_does_305 (by decide) rfl ?_
                                          refine x_ldc2 dL_does_307 xw1132 ?_
                                          exact x_lret dL_does_310 hr ht ⟨_, rfl, h⟩
                                      refine x_i2l dL_does_267 ?_
                                      refine x_goto (tgt := 292) dL_does_268 (by decide) ?_
                                      exact x_lret dL_does_292 hr ht ⟨_, rfl, h⟩
                                  · have h := h2 q
                                    refine x_aload_n 0 dL_does_243 rfl rfl ?_
                                    refine x_iload_n 2 dL_does_244 rfl rfl ?_
                                    refine x_iload_n 3 dL_does_245 rfl rfl ?_
                                    refine x_iload 4 dL_does_246 rfl ?_
                                    obtain ⟨⟨fs, hf⟩, h⟩ := h
                                    obtain ⟨m_18, z_19, hm, hs, h⟩ := h
                                    refine x_invVX (as := [.int x2, .int x3, .int x4]) (rest := []) dL_does_248 (q := (RX7, TX7, 10)) rfl xc_L_does_63 hf (M_X7_line hl h) rfl rfl (Nat.le_of_ble_eq_true rfl) hm hs (fun Ex t_20 h => ?_) (xk_i fun x_17 t_16 h => ?_)
                                    · obtain ⟨hE, h1, h2, h3⟩ := h
                                      rcases hE with rfl | rfl | rfl
                                      · have h := h1 rfl
                                        refine x_catch [] (0, 292, 293, 76) [(0, 292, 299, 80), (0, 292, 305, 82)] htab rfl (fun _ h => absurd h List.not_mem_nil) (by decide) rfl (by decide) xw534 (by decide +kernel) (fun q => ?_)
                                        refine x_astore (L' := [(5, .ref q), (0, .ref a0), (1, .int x1), (2, .int x2), (3, .int x3), (4, .int x4)]) dL_does_293 (by decide) rfl ?_
                                        refine x_ldc2 dL_does_295 xw1132 ?_
                                        exact x_lret dL_does_298 hr ht ⟨_, rfl, h⟩
                                      · have h := h2 rfl
                                        refine x_catch [(0, 292, 293, 76)] (0, 292, 299, 80) [(0, 292, 305, 82)] htab rfl (List.forall_mem_cons.mpr ⟨⟨by decide, "java/lang/IndexOutOfBoundsException", xw534, by decide +kernel⟩, fun _ h => absurd h List.not_mem_nil⟩) (by decide) rfl (by decide) xw535 (by decide +kernel) (fun q => ?_)
                                        refine x_astore (L' := [(5, .ref q), (0, .ref a0), (1, .int x1), (2, .int x2), (3, .int x3), (4, .int x4)]) dL_does_299 (by decide) rfl ?_
                                        refine x_ldc2 dL_does_301 xw1132 ?_
                                        exact x_lret dL_does_304 hr ht ⟨_, rfl, h⟩
                                      · have h := h3 rfl
                                        refine x_catch [(0, 292, 293, 76), (0, 292, 299, 80)] (0, 292, 305, 82) [] htab rfl (List.forall_mem_cons.mpr ⟨⟨by decide, "java/lang/IndexOutOfBoundsException", xw534, by decide +kernel⟩, List.forall_mem_cons.mpr ⟨⟨by decide, "java/lang/IllegalArgumentException", xw535, by decide +kernel⟩, fun _ h => absurd h List.not_mem_nil⟩⟩) (by decide) rfl (by decide) xw536 (by decide +kernel) (fun q => ?_)
                                        refine x_astore (L' := [(5, .ref q), (0, .ref a0), (1, .int x1), (2, .int x2), (3, .int x3), (4, .int x4)]) dL_does_305 (by decide) rfl ?_
                                        refine x_ldc2 dL_does_307 xw1132 ?_
                                        exact x_lret dL_does_310 hr ht ⟨_, rfl, h⟩
                                    refine x_i2l dL_does_251 ?_
                                    refine x_goto (tgt := 292) dL_does_252 (by decide) ?_
                                    exact x_lret dL_does_292 hr ht ⟨_, rfl, h⟩
                                · have h := h2 q
                                  refine x_aload_n 0 dL_does_226 rfl rfl ?_
                                  refine x_iload_n 2 dL_does_227 rfl rfl ?_
                                  refine x_iload_n 3 dL_does_228 rfl rfl ?_
                                  refine x_iload 4 dL_does_229 rfl ?_
                                  obtain ⟨⟨fs, hf⟩, h⟩ := h
                                  obtain ⟨m_23, z_24, hm, hs, h⟩ := h
                                  refine x_invVX (as := [.int x2, .int x3, .int x4]) (rest := []) dL_does_231 (q := (RX7, TX7, 10)) rfl xc_L_does_60 hf (M_X7_bill hl h) rfl rfl (Nat.le_of_ble_eq_true rfl) hm hs (fun Ex t_25 h => ?_) (xk_l fun y_22 t_21 h => ?_)
                                  · obtain ⟨hE, h1, h2, h3⟩ := h
                                    rcases hE with rfl | rfl | rfl
                                    · have h := h1 rfl
                                      refine x_catch [] (0, 292, 293, 76) [(0, 292, 299, 80), (0, 292, 305, 82)] htab rfl (fun _ h => absurd h List.not_mem_nil) (by decide) rfl (by decide) xw534 (by decide +kernel) (fun q => ?_)
                                      refine x_astore (L' := [(5, .ref q), (0, .ref a0), (1, .int x1), (2, .int x2), (3, .int x3), (4, .int x4)]) dL_does_293 (by decide) rfl ?_
                                      refine x_ldc2 dL_does_295 xw1132 ?_
                                      exact x_lret dL_does_298 hr ht ⟨_, rfl, h⟩
                                    · have h := h2 rfl
                                      refine x_catch [(0, 292, 293, 76)] (0, 292, 299, 80) [(0, 292, 305, 82)] htab rfl (List.forall_mem_cons.mpr ⟨⟨by decide, "java/lang/IndexOutOfBoundsException", xw534, by decide +kernel⟩, fun _ h => absurd h List.not_mem_nil⟩) (by decide) rfl (by decide) xw535 (by decide +kernel) (fun q => ?_)
                                      refine x_astore (L' := [(5, .ref q), (0, .ref a0), (1, .int x1), (2, .int x2), (3, .int x3), (4, .int x4)]) dL_does_299 (by decide) rfl ?_
                                      refine x_ldc2 dL_does_301 xw1132 ?_
                                      exact x_lret dL_does_304 hr ht ⟨_, rfl, h⟩
                                    · have h := h3 rfl
                                      refine x_catch [(0, 292, 293, 76), (0, 292, 299, 80)] (0, 292, 305, 82) [] htab rfl (List.forall_mem_cons.mpr ⟨⟨by decide, "java/lang/IndexOutOfBoundsException", xw534, by decide +kernel⟩, List.forall_mem_cons.mpr ⟨⟨by decide, "java/lang/IllegalArgumentException", xw535, by decide +kernel⟩, fun _ h => absurd h List.not_mem_nil⟩⟩) (by decide) rfl (by decide) xw536 (by decide +kernel) (fun q => ?_)
                                      refine x_astore (L' := [(5, .ref q), (0, .ref a0), (1, .int x1), (2, .int x2), (3, .int x3), (4, .int x4)]) dL_does_305 (by decide) rfl ?_
                                      refine x_ldc2 dL_does_307 xw1132 ?_
                                      exact x_lret dL_does_310 hr ht ⟨_, rfl, h⟩
                                  refine x_goto (tgt := 292) dL_does_234 (by decide) ?_
                                  exact x_lret dL_does_292 hr ht ⟨_, rfl, h⟩
                              · have h := h2 q
                                refine x_aload_n 0 dL_does_212 rfl rfl ?_
                                refine x_iload_n 2 dL_does_213 rfl rfl ?_
                                obtain ⟨⟨fs, hf⟩, h⟩ := h
                                obtain ⟨m_28, z_29, hm, hs, h⟩ := h
                                refine x_invVX (as := [.int x2]) (rest := []) dL_does_214 (q := (RX7, TX7, 10)) rfl xc_L_does_57 hf (M_X7_desk hl h) rfl rfl (Nat.le_of_ble_eq_true rfl) hm hs (fun Ex t_30 h => ?_) (xk_l fun y_27 t_26 h => ?_)
                                · obtain ⟨hE, h1, h2, h3⟩ := h
                                  rcases hE with rfl | rfl | rfl
                                  · have h := h1 rfl
                                    refine x_catch [] (0, 292, 293, 76) [(0, 292, 299, 80), (0, 292, 305, 82)] htab rfl (fun _ h => absurd h List.not_mem_nil) (by decide) rfl (by decide) xw534 (by decide +kernel) (fun q => ?_)
                                    refine x_astore (L' := [(5, .ref q), (0, .ref a0), (1, .int x1), (2, .int x2), (3, .int x3), (4, .int x4)]) dL_does_293 (by decide) rfl ?_
                                    refine x_ldc2 dL_does_295 xw1132 ?_
                                    exact x_lret dL_does_298 hr ht ⟨_, rfl, h⟩
                                  · have h := h2 rfl
                                    refine x_catch [(0, 292, 293, 76)] (0, 292, 299, 80) [(0, 292, 305, 82)] htab rfl (List.forall_mem_cons.mpr ⟨⟨by decide, "java/lang/IndexOutOfBoundsException", xw534, by decide +kernel⟩, fun _ h => absurd h List.not_mem_nil⟩) (by decide) rfl (by decide) xw535 (by decide +kernel) (fun q => ?_)
                                    refine x_astore (L' := [(5, .ref q), (0, .ref a0), (1, .int x1), (2, .int x2), (3, .int x3), (4, .int x4)]) dL_does_299 (by decide) rfl ?_
                                    refine x_ldc2 dL_does_301 xw1132 ?_
                                    exact x_lret dL_does_304 hr ht ⟨_, rfl, h⟩
                                  · have h := h3 rfl
                                    refine x_catch [(0, 292, 293, 76), (0, 292, 299, 80)] (0, 292, 305, 82) [] htab rfl (List.forall_mem_cons.mpr ⟨⟨by decide, "java/lang/IndexOutOfBoundsException", xw534, by decide +kernel⟩, List.forall_mem_cons.mpr ⟨⟨by decide, "java/lang/IllegalArgumentException", xw535, by decide +kernel⟩, fun _ h => absurd h List.not_mem_nil⟩⟩) (by decide) rfl (by decide) xw536 (by decide +kernel) (fun q => ?_)
                                    refine x_astore (L' := [(5, .ref q), (0, .ref a0), (1, .int x1), (2, .int x2), (3, .int x3), (4, .int x4)]) dL_does_305 (by decide) rfl ?_
                                    refine x_ldc2 dL_does_307 xw1132 ?_
                                    exact x_lret dL_does_310 hr ht ⟨_, rfl, h⟩
                                refine x_goto (tgt := 292) dL_does_217 (by decide) ?_
                                exact x_lret dL_does_292 hr ht ⟨_, rfl, h⟩
                            · have h := h2 q
                              refine x_aload_n 0 dL_does_198 rfl rfl ?_
                              refine x_iload_n 2 dL_does_199 rfl rfl ?_
                              obtain ⟨⟨fs, hf⟩, h⟩ := h
                              obtain ⟨m_33, z_34, hm, hs, h⟩ := h
                              refine x_invVX (as := [.int x2]) (rest := []) dL_does_200 (q := (RX7, TX7, 10)) rfl xc_L_does_54 hf (M_X7_owesAnew hl h) rfl rfl (Nat.le_of_ble_eq_true rfl) hm hs (fun Ex t_35 h => ?_) (xk_l fun y_32 t_31 h => ?_)
                              · obtain ⟨hE, h1, h2, h3⟩ := h
                                rcases hE with rfl | rfl | rfl
                                · have h := h1 rfl
                                  refine x_catch [] (0, 292, 293, 76) [(0, 292, 299, 80), (0, 292, 305, 82)] htab rfl (fun _ h => absurd h List.not_mem_nil) (by decide) rfl (by decide) xw534 (by decide +kernel) (fun q => ?_)
                                  refine x_astore (L' := [(5, .ref q), (0, .ref a0), (1, .int x1), (2, .int x2), (3, .int x3), (4, .int x4)]) dL_does_293 (by decide) rfl ?_
                                  refine x_ldc2 dL_does_295 xw1132 ?_
                                  exact x_lret dL_does_298 hr ht ⟨_, rfl, h⟩
                                · have h := h2 rfl
                                  refine x_catch [(0, 292, 293, 76)] (0, 292, 299, 80) [(0, 292, 305, 82)] htab rfl (List.forall_mem_cons.mpr ⟨⟨by decide, "java/lang/IndexOutOfBoundsException", xw534, by decide +kernel⟩, fun _ h => absurd h List.not_mem_nil⟩) (by decide) rfl (by decide) xw535 (by decide +kernel) (fun q => ?_)
                                  refine x_astore (L' := [(5, .ref q), (0, .ref a0), (1, .int x1), (2, .int x2), (3, .int x3), (4, .int x4)]) dL_does_299 (by decide) rfl ?_
                                  refine x_ldc2 dL_does_301 xw1132 ?_
                                  exact x_lret dL_does_304 hr ht ⟨_, rfl, h⟩
                                · have h := h3 rfl
                                  refine x_catch [(0, 292, 293, 76), (0, 292, 299, 80)] (0, 292, 305, 82) [] htab rfl (List.forall_mem_cons.mpr ⟨⟨by decide, "java/lang/IndexOutOfBoundsException", xw534, by decide +kernel⟩, List.forall_mem_cons.mpr ⟨⟨by decide, "java/lang/IllegalArgumentException", xw535, by decide +kernel⟩, fun _ h => absurd h List.not_mem_nil⟩⟩) (by decide) rfl (by decide) xw536 (by decide +kernel) (fun q => ?_)
                                  refine x_astore (L' := [(5, .ref q), (0, .ref a0), (1, .int x1), (2, .int x2), (3, .int x3), (4, .int x4)]) dL_does_305 (by decide) rfl ?_
                                  refine x_ldc2 dL_does_307 xw1132 ?_
                                  exact x_lret dL_does_310 hr ht ⟨_, rfl, h⟩
                              refine x_goto (tgt := 292) dL_does_203 (by decide) ?_
                              exact x_lret dL_does_292 hr ht ⟨_, rfl, h⟩
                          · have h := h2 q
                            refine x_aload_n 0 dL_does_184 rfl rfl ?_
                            refine x_iload_n 2 dL_does_185 rfl rfl ?_
                            obtain ⟨⟨fs, hf⟩, h⟩ := h
                            obtain ⟨m_38, z_39, hm, hs, h⟩ := h
                            refine x_invVX (as := [.int x2]) (rest := []) dL_does_186 (q := (RX7, TX7, 10)) rfl xc_L_does_50 hf (M_X7_owes hl h) rfl rfl (Nat.le_of_ble_eq_true rfl) hm hs (fun Ex t_40 h => ?_) (xk_l fun y_37 t_36 h => ?_)
                            · obtain ⟨hE, h1, h2, h3⟩ := h
                              rcases hE with rfl | rfl | rfl
                              · have h := h1 rfl
                                refine x_catch [] (0, 292, 293, 76) [(0, 292, 299, 80), (0, 292, 305, 82)] htab rfl (fun _ h => absurd h List.not_mem_nil) (by decide) rfl (by decide) xw534 (by decide +kernel) (fun q => ?_)
                                refine x_astore (L' := [(5, .ref q), (0, .ref a0), (1, .int x1), (2, .int x2), (3, .int x3), (4, .int x4)]) dL_does_293 (by decide) rfl ?_
                                refine x_ldc2 dL_does_295 xw1132 ?_
                                exact x_lret dL_does_298 hr ht ⟨_, rfl, h⟩
                              · have h := h2 rfl
                                refine x_catch [(0, 292, 293, 76)] (0, 292, 299, 80) [(0, 292, 305, 82)] htab rfl (List.forall_mem_cons.mpr ⟨⟨by decide, "java/lang/IndexOutOfBoundsException", xw534, by decide +kernel⟩, fun _ h => absurd h List.not_mem_nil⟩) (by decide) rfl (by decide) xw535 (by decide +kernel) (fun q => ?_)
                                refine x_astore (L' := [(5, .ref q), (0, .ref a0), (1, .int x1), (2, .int x2), (3, .int x3), (4, .int x4)]) dL_does_299 (by decide) rfl ?_
                                refine x_ldc2 dL_does_301 xw1132 ?_
                                exact x_lret dL_does_304 hr ht ⟨_, rfl, h⟩
                              · have h := h3 rfl
                                refine x_catch [(0, 292, 293, 76), (0, 292, 299, 80)] (0, 292, 305, 82) [] htab rfl (List.forall_mem_cons.mpr ⟨⟨by decide, "java/lang/IndexOutOfBoundsException", xw534, by decide +kernel⟩, List.forall_mem_cons.mpr ⟨⟨by decide, "java/lang/IllegalArgumentException", xw535, by decide +kernel⟩, fun _ h => absurd h List.not_mem_nil⟩⟩) (by decide) rfl (by decide) xw536 (by decide +kernel) (fun q => ?_)
                                refine x_astore (L' := [(5, .ref q), (0, .ref a0), (1, .int x1), (2, .int x2), (3, .int x3), (4, .int x4)]) dL_does_305 (by decide) rfl ?_
                                refine x_ldc2 dL_does_307 xw1132 ?_
                                exact x_lret dL_does_310 hr ht ⟨_, rfl, h⟩
                            refine x_goto (tgt := 292) dL_does_189 (by decide) ?_
                            exact x_lret dL_does_292 hr ht ⟨_, rfl, h⟩
                        · have h := h2 q
                          refine x_aload_n 0 dL_does_169 rfl rfl ?_
                          refine x_iload_n 2 dL_does_170 rfl rfl ?_
                          obtain ⟨⟨fs, hf⟩, h⟩ := h
                          obtain ⟨m_43, z_44, hm, hs, h⟩ := h
                          refine x_invVX (as := [.int x2]) (rest := []) dL_does_171 (q := (RX7, TX7, 10)) rfl xc_L_does_47 hf (M_X7_pass hl h) rfl rfl (Nat.le_of_ble_eq_true rfl) hm hs (fun Ex t_45 h => ?_) (xk_i fun x_42 t_41 h => ?_)
                          · obtain ⟨hE, h1, h2, h3⟩ := h
                            rcases hE with rfl | rfl | rfl
                            · have h := h1 rfl
                              refine x_catch [] (0, 292, 293, 76) [(0, 292, 299, 80), (0, 292, 305, 82)] htab rfl (fun _ h => absurd h List.not_mem_nil) (by decide) rfl (by decide) xw534 (by decide +kernel) (fun q => ?_)
                              refine x_astore (L' := [(5, .ref q), (0, .ref a0), (1, .int x1), (2, .int x2), (3, .int x3), (4, .int x4)]) dL_does_293 (by decide) rfl ?_
                              refine x_ldc2 dL_does_295 xw1132 ?_
                              exact x_lret dL_does_298 hr ht ⟨_, rfl, h⟩
                            · have h := h2 rfl
                              refine x_catch [(0, 292, 293, 76)] (0, 292, 299, 80) [(0, 292, 305, 82)] htab rfl (List.forall_mem_cons.mpr ⟨⟨by decide, "java/lang/IndexOutOfBoundsException", xw534, by decide +kernel⟩, fun _ h => absurd h List.not_mem_nil⟩) (by decide) rfl (by decide) xw535 (by decide +kernel) (fun q => ?_)
                              refine x_astore (L' := [(5, .ref q), (0, .ref a0), (1, .int x1), (2, .int x2), (3, .int x3), (4, .int x4)]) dL_does_299 (by decide) rfl ?_
                              refine x_ldc2 dL_does_301 xw1132 ?_
                              exact x_lret dL_does_304 hr ht ⟨_, rfl, h⟩
                            · have h := h3 rfl
                              refine x_catch [(0, 292, 293, 76), (0, 292, 299, 80)] (0, 292, 305, 82) [] htab rfl (List.forall_mem_cons.mpr ⟨⟨by decide, "java/lang/IndexOutOfBoundsException", xw534, by decide +kernel⟩, List.forall_mem_cons.mpr ⟨⟨by decide, "java/lang/IllegalArgumentException", xw535, by decide +kernel⟩, fun _ h => absurd h List.not_mem_nil⟩⟩) (by decide) rfl (by decide) xw536 (by decide +kernel) (fun q => ?_)
                              refine x_astore (L' := [(5, .ref q), (0, .ref a0), (1, .int x1), (2, .int x2), (3, .int x3), (4, .int x4)]) dL_does_305 (by decide) rfl ?_
                              refine x_ldc2 dL_does_307 xw1132 ?_
                              exact x_lret dL_does_310 hr ht ⟨_, rfl, h⟩
                          refine x_i2l dL_does_174 ?_
                          refine x_goto (tgt := 292) dL_does_175 (by decide) ?_
                          exact x_lret dL_does_292 hr ht ⟨_, rfl, h⟩
                      · have h := h2 q
                        refine x_aload_n 0 dL_does_154 rfl rfl ?_
                        refine x_iload_n 2 dL_does_155 rfl rfl ?_
                        refine x_iload_n 3 dL_does_156 rfl rfl ?_
                        obtain ⟨⟨fs, hf⟩, h⟩ := h
                        obtain ⟨m_48, z_49, hm, hs, h⟩ := h
                        refine x_invVX (as := [.int x2, .int x3]) (rest := []) dL_does_157 (q := (RX7, TX7, 10)) rfl xc_L_does_44 hf (M_X7_plan hl h) rfl rfl (Nat.le_of_ble_eq_true rfl) hm hs (fun Ex t_50 h => ?_) (xk_l fun y_47 t_46 h => ?_)
                        · obtain ⟨hE, h1, h2, h3⟩ := h
                          rcases hE with rfl | rfl | rfl
                          · have h := h1 rfl
                            refine x_catch [] (0, 292, 293, 76) [(0, 292, 299, 80), (0, 292, 305, 82)] htab rfl (fun _ h => absurd h List.not_mem_nil) (by decide) rfl (by decide) xw534 (by decide +kernel) (fun q => ?_)
                            refine x_astore (L' := [(5, .ref q), (0, .ref a0), (1, .int x1), (2, .int x2), (3, .int x3), (4, .int x4)]) dL_does_293 (by decide) rfl ?_
                            refine x_ldc2 dL_does_295 xw1132 ?_
                            exact x_lret dL_does_298 hr ht ⟨_, rfl, h⟩
                          · have h := h2 rfl
                            refine x_catch [(0, 292, 293, 76)] (0, 292, 299, 80) [(0, 292, 305, 82)] htab rfl (List.forall_mem_cons.mpr ⟨⟨by decide, "java/lang/IndexOutOfBoundsException", xw534, by decide +kernel⟩, fun _ h => absurd h List.not_mem_nil⟩) (by decide) rfl (by decide) xw535 (by decide +kernel) (fun q => ?_)
                            refine x_astore (L' := [(5, .ref q), (0, .ref a0), (1, .int x1), (2, .int x2), (3, .int x3), (4, .int x4)]) dL_does_299 (by decide) rfl ?_
                            refine x_ldc2 dL_does_301 xw1132 ?_
                            exact x_lret dL_does_304 hr ht ⟨_, rfl, h⟩
                          · have h := h3 rfl
                            refine x_catch [(0, 292, 293, 76), (0, 292, 299, 80)] (0, 292, 305, 82) [] htab rfl (List.forall_mem_cons.mpr ⟨⟨by decide, "java/lang/IndexOutOfBoundsException", xw534, by decide +kernel⟩, List.forall_mem_cons.mpr ⟨⟨by decide, "java/lang/IllegalArgumentException", xw535, by decide +kernel⟩, fun _ h => absurd h List.not_mem_nil⟩⟩) (by decide) rfl (by decide) xw536 (by decide +kernel) (fun q => ?_)
                            refine x_astore (L' := [(5, .ref q), (0, .ref a0), (1, .int x1), (2, .int x2), (3, .int x3), (4, .int x4)]) dL_does_305 (by decide) rfl ?_
                            refine x_ldc2 dL_does_307 xw1132 ?_
                            exact x_lret dL_does_310 hr ht ⟨_, rfl, h⟩
                        refine x_goto (tgt := 292) dL_does_160 (by decide) ?_
                        exact x_lret dL_does_292 hr ht ⟨_, rfl, h⟩
                    · have h := h2 q
                      refine x_aload_n 0 dL_does_139 rfl rfl ?_
                      refine x_iload_n 2 dL_does_140 rfl rfl ?_
                      refine x_iload_n 3 dL_does_141 rfl rfl ?_
                      obtain ⟨⟨fs, hf⟩, h⟩ := h
                      obtain ⟨m_53, z_54, hm, hs, h⟩ := h
                      refine x_invVX (as := [.int x2, .int x3]) (rest := []) dL_does_142 (q := (RX7, TX7, 10)) rfl xc_L_does_40 hf (M_X7_pay hl h) rfl rfl (Nat.le_of_ble_eq_true rfl) hm hs (fun Ex t_55 h => ?_) (xk_l fun y_52 t_51 h => ?_)
                      · obtain ⟨hE, h1, h2, h3⟩ := h
                        rcases hE with rfl | rfl | rfl
                        · have h := h1 rfl
                          refine x_catch [] (0, 292, 293, 76) [(0, 292, 299, 80), (0, 292, 305, 82)] htab rfl (fun _ h => absurd h List.not_mem_nil) (by decide) rfl (by decide) xw534 (by decide +kernel) (fun q => ?_)
                          refine x_astore (L' := [(5, .ref q), (0, .ref a0), (1, .int x1), (2, .int x2), (3, .int x3), (4, .int x4)]) dL_does_293 (by decide) rfl ?_
                          refine x_ldc2 dL_does_295 xw1132 ?_
                          exact x_lret dL_does_298 hr ht ⟨_, rfl, h⟩
                        · have h := h2 rfl
                          refine x_catch [(0, 292, 293, 76)] (0, 292, 299, 80) [(0, 292, 305, 82)] htab rfl (List.forall_mem_cons.mpr ⟨⟨by decide, "java/lang/IndexOutOfBoundsException", xw534, by decide +kernel⟩, fun _ h => absurd h List.not_mem_nil⟩) (by decide) rfl (by decide) xw535 (by decide +kernel) (fun q => ?_)
                          refine x_astore (L' := [(5, .ref q), (0, .ref a0), (1, .int x1), (2, .int x2), (3, .int x3), (4, .int x4)]) dL_does_299 (by decide) rfl ?_
                          refine x_ldc2 dL_does_301 xw1132 ?_
                          exact x_lret dL_does_304 hr ht ⟨_, rfl, h⟩
                        · have h := h3 rfl
                          refine x_catch [(0, 292, 293, 76), (0, 292, 299, 80)] (0, 292, 305, 82) [] htab rfl (List.forall_mem_cons.mpr ⟨⟨by decide, "java/lang/IndexOutOfBoundsException", xw534, by decide +kernel⟩, List.forall_mem_cons.mpr ⟨⟨by decide, "java/lang/IllegalArgumentException", xw535, by decide +kernel⟩, fun _ h => absurd h List.not_mem_nil⟩⟩) (by decide) rfl (by decide) xw536 (by decide +kernel) (fun q => ?_)
                          refine x_astore (L' := [(5, .ref q), (0, .ref a0), (1, .int x1), (2, .int x2), (3, .int x3), (4, .int x4)]) dL_does_305 (by decide) rfl ?_
                          refine x_ldc2 dL_does_307 xw1132 ?_
                          exact x_lret dL_does_310 hr ht ⟨_, rfl, h⟩
                      refine x_goto (tgt := 292) dL_does_145 (by decide) ?_
                      exact x_lret dL_does_292 hr ht ⟨_, rfl, h⟩
                  · have h := h2 q
                    refine x_aload_n 0 dL_does_122 rfl rfl ?_
                    refine x_iload_n 2 dL_does_123 rfl rfl ?_
                    refine x_iload_n 3 dL_does_124 rfl rfl ?_
                    refine x_iload 4 dL_does_125 rfl ?_
                    obtain ⟨⟨fs, hf⟩, h⟩ := h
                    obtain ⟨m_58, z_59, hm, hs, h⟩ := h
                    refine x_invVX (as := [.int x2, .int x3, .int x4]) (rest := []) dL_does_127 (q := (RX7, TX7, 10)) rfl xc_L_does_36 hf (M_X7_income hl h) rfl rfl (Nat.le_of_ble_eq_true rfl) hm hs (fun Ex t_60 h => ?_) (xk_l fun y_57 t_56 h => ?_)
                    · obtain ⟨hE, h1, h2, h3⟩ := h
                      rcases hE with rfl | rfl | rfl
                      · have h := h1 rfl
                        refine x_catch [] (0, 292, 293, 76) [(0, 292, 299, 80), (0, 292, 305, 82)] htab rfl (fun _ h => absurd h List.not_mem_nil) (by decide) rfl (by decide) xw534 (by decide +kernel) (fun q => ?_)
                        refine x_astore (L' := [(5, .ref q), (0, .ref a0), (1, .int x1), (2, .int x2), (3, .int x3), (4, .int x4)]) dL_does_293 (by decide) rfl ?_
                        refine x_ldc2 dL_does_295 xw1132 ?_
                        exact x_lret dL_does_298 hr ht ⟨_, rfl, h⟩
                      · have h := h2 rfl
                        refine x_catch [(0, 292, 293, 76)] (0, 292, 299, 80) [(0, 292, 305, 82)] htab rfl (List.forall_mem_cons.mpr ⟨⟨by decide, "java/lang/IndexOutOfBoundsException", xw534, by decide +kernel⟩, fun _ h => absurd h List.not_mem_nil⟩) (by decide) rfl (by decide) xw535 (by decide +kernel) (fun q => ?_)
                        refine x_astore (L' := [(5, .ref q), (0, .ref a0), (1, .int x1), (2, .int x2), (3, .int x3), (4, .int x4)]) dL_does_299 (by decide) rfl ?_
                        refine x_ldc2 dL_does_301 xw1132 ?_
                        exact x_lret dL_does_304 hr ht ⟨_, rfl, h⟩
                      · have h := h3 rfl
                        refine x_catch [(0, 292, 293, 76), (0, 292, 299, 80)] (0, 292, 305, 82) [] htab rfl (List.forall_mem_cons.mpr ⟨⟨by decide, "java/lang/IndexOutOfBoundsException", xw534, by decide +kernel⟩, List.forall_mem_cons.mpr ⟨⟨by decide, "java/lang/IllegalArgumentException", xw535, by decide +kernel⟩, fun _ h => absurd h List.not_mem_nil⟩⟩) (by decide) rfl (by decide) xw536 (by decide +kernel) (fun q => ?_)
                        refine x_astore (L' := [(5, .ref q), (0, .ref a0), (1, .int x1), (2, .int x2), (3, .int x3), (4, .int x4)]) dL_does_305 (by decide) rfl ?_
                        refine x_ldc2 dL_does_307 xw1132 ?_
                        exact x_lret dL_does_310 hr ht ⟨_, rfl, h⟩
                    refine x_goto (tgt := 292) dL_does_130 (by decide) ?_
                    exact x_lret dL_does_292 hr ht ⟨_, rfl, h⟩
                · have h := h2 q
                  refine x_aload_n 0 dL_does_107 rfl rfl ?_
                  refine x_iload_n 2 dL_does_108 rfl rfl ?_
                  obtain ⟨⟨fs, hf⟩, h⟩ := h
                  obtain ⟨m_63, z_64, hm, hs, h⟩ := h
                  refine x_invVX (as := [.int x2]) (rest := []) dL_does_109 (q := (RX7, TX7, 10)) rfl xc_L_does_33 hf (M_X7_mend hl h) rfl rfl (Nat.le_of_ble_eq_true rfl) hm hs (fun Ex t_65 h => ?_) (xk_i fun x_62 t_61 h => ?_)
                  · obtain ⟨hE, h1, h2, h3⟩ := h
                    rcases hE with rfl | rfl | rfl
                    · have h := h1 rfl
                      refine x_catch [] (0, 292, 293, 76) [(0, 292, 299, 80), (0, 292, 305, 82)] htab rfl (fun _ h => absurd h List.not_mem_nil) (by decide) rfl (by decide) xw534 (by decide +kernel) (fun q => ?_)
                      refine x_astore (L' := [(5, .ref q), (0, .ref a0), (1, .int x1), (2, .int x2), (3, .int x3), (4, .int x4)]) dL_does_293 (by decide) rfl ?_
                      refine x_ldc2 dL_does_295 xw1132 ?_
                      exact x_lret dL_does_298 hr ht ⟨_, rfl, h⟩
                    · have h := h2 rfl
                      refine x_catch [(0, 292, 293, 76)] (0, 292, 299, 80) [(0, 292, 305, 82)] htab rfl (List.forall_mem_cons.mpr ⟨⟨by decide, "java/lang/IndexOutOfBoundsException", xw534, by decide +kernel⟩, fun _ h => absurd h List.not_mem_nil⟩) (by decide) rfl (by decide) xw535 (by decide +kernel) (fun q => ?_)
                      refine x_astore (L' := [(5, .ref q), (0, .ref a0), (1, .int x1), (2, .int x2), (3, .int x3), (4, .int x4)]) dL_does_299 (by decide) rfl ?_
                      refine x_ldc2 dL_does_301 xw1132 ?_
                      exact x_lret dL_does_304 hr ht ⟨_, rfl, h⟩
                    · have h := h3 rfl
                      refine x_catch [(0, 292, 293, 76), (0, 292, 299, 80)] (0, 292, 305, 82) [] htab rfl (List.forall_mem_cons.mpr ⟨⟨by decide, "java/lang/IndexOutOfBoundsException", xw534, by decide +kernel⟩, List.forall_mem_cons.mpr ⟨⟨by decide, "java/lang/IllegalArgumentException", xw535, by decide +kernel⟩, fun _ h => absurd h List.not_mem_nil⟩⟩) (by decide) rfl (by decide) xw536 (by decide +kernel) (fun q => ?_)
                      refine x_astore (L' := [(5, .ref q), (0, .ref a0), (1, .int x1), (2, .int x2), (3, .int x3), (4, .int x4)]) dL_does_305 (by decide) rfl ?_
                      refine x_ldc2 dL_does_307 xw1132 ?_
                      exact x_lret dL_does_310 hr ht ⟨_, rfl, h⟩
                  refine x_i2l dL_does_112 ?_
                  refine x_goto (tgt := 292) dL_does_113 (by decide) ?_
                  exact x_lret dL_does_292 hr ht ⟨_, rfl, h⟩
              · have h := h2 q
                refine x_aload_n 0 dL_does_91 rfl rfl ?_
                refine x_iload_n 2 dL_does_92 rfl rfl ?_
                refine x_iload_n 3 dL_does_93 rfl rfl ?_
                obtain ⟨⟨fs, hf⟩, h⟩ := h
                obtain ⟨m_68, z_69, hm, hs, h⟩ := h
                refine x_invVX (as := [.int x2, .int x3]) (rest := []) dL_does_94 (q := (RX7, TX7, 10)) rfl xc_L_does_30 hf (M_X7_report hl h) rfl rfl (Nat.le_of_ble_eq_true rfl) hm hs (fun Ex t_70 h => ?_) (xk_i fun x_67 t_66 h => ?_)
                · obtain ⟨hE, h1, h2, h3⟩ := h
                  rcases hE with rfl | rfl | rfl
                  · have h := h1 rfl
                    refine x_catch [] (0, 292, 293, 76) [(0, 292, 299, 80), (0, 292, 305, 82)] htab rfl (fun _ h => absurd h List.not_mem_nil) (by decide) rfl (by decide) xw534 (by decide +kernel) (fun q => ?_)
                    refine x_astore (L' := [(5, .ref q), (0, .ref a0), (1, .int x1), (2, .int x2), (3, .int x3), (4, .int x4)]) dL_does_293 (by decide) rfl ?_
                    refine x_ldc2 dL_does_295 xw1132 ?_
                    exact x_lret dL_does_298 hr ht ⟨_, rfl, h⟩
                  · have h := h2 rfl
                    refine x_catch [(0, 292, 293, 76)] (0, 292, 299, 80) [(0, 292, 305, 82)] htab rfl (List.forall_mem_cons.mpr ⟨⟨by decide, "java/lang/IndexOutOfBoundsException", xw534, by decide +kernel⟩, fun _ h => absurd h List.not_mem_nil⟩) (by decide) rfl (by decide) xw535 (by decide +kernel) (fun q => ?_)
                    refine x_astore (L' := [(5, .ref q), (0, .ref a0), (1, .int x1), (2, .int x2), (3, .int x3), (4, .int x4)]) dL_does_299 (by decide) rfl ?_
                    refine x_ldc2 dL_does_301 xw1132 ?_
                    exact x_lret dL_does_304 hr ht ⟨_, rfl, h⟩
                  · have h := h3 rfl
                    refine x_catch [(0, 292, 293, 76), (0, 292, 299, 80)] (0, 292, 305, 82) [] htab rfl (List.forall_mem_cons.mpr ⟨⟨by decide, "java/lang/IndexOutOfBoundsException", xw534, by decide +kernel⟩, List.forall_mem_cons.mpr ⟨⟨by decide, "java/lang/IllegalArgumentException", xw535, by decide +kernel⟩, fun _ h => absurd h List.not_mem_nil⟩⟩) (by decide) rfl (by decide) xw536 (by decide +kernel) (fun q => ?_)
                    refine x_astore (L' := [(5, .ref q), (0, .ref a0), (1, .int x1), (2, .int x2), (3, .int x3), (4, .int x4)]) dL_does_305 (by decide) rfl ?_
                    refine x_ldc2 dL_does_307 xw1132 ?_
                    exact x_lret dL_does_310 hr ht ⟨_, rfl, h⟩
                refine x_i2l dL_does_97 ?_
                refine x_goto (tgt := 292) dL_does_98 (by decide) ?_
                exact x_lret dL_does_292 hr ht ⟨_, rfl, h⟩
            · have h := h2 q
              refine x_aload_n 0 dL_does_76 rfl rfl ?_
              refine x_iload_n 2 dL_does_77 rfl rfl ?_
              obtain ⟨⟨fs, hf⟩, h⟩ := h
              obtain ⟨m_73, z_74, hm, hs, h⟩ := h
              refine x_invVX (as := [.int x2]) (rest := []) dL_does_78 (q := (RX7, TX7, 10)) rfl xc_L_does_27 hf (M_X7_heat hl h) rfl rfl (Nat.le_of_ble_eq_true rfl) hm hs (fun Ex t_75 h => ?_) (xk_i fun x_72 t_71 h => ?_)
              · obtain ⟨hE, h1, h2, h3⟩ := h
                rcases hE with rfl | rfl | rfl
                · have h := h1 rfl
                  refine x_catch [] (0, 292, 293, 76) [(0, 292, 299, 80), (0, 292, 305, 82)] htab rfl (fun _ h => absurd h List.not_mem_nil) (by decide) rfl (by decide) xw534 (by decide +kernel) (fun q => ?_)
                  refine x_astore (L' := [(5, .ref q), (0, .ref a0), (1, .int x1), (2, .int x2), (3, .int x3), (4, .int x4)]) dL_does_293 (by decide) rfl ?_
                  refine x_ldc2 dL_does_295 xw1132 ?_
                  exact x_lret dL_does_298 hr ht ⟨_, rfl, h⟩
                · have h := h2 rfl
                  refine x_catch [(0, 292, 293, 76)] (0, 292, 299, 80) [(0, 292, 305, 82)] htab rfl (List.forall_mem_cons.mpr ⟨⟨by decide, "java/lang/IndexOutOfBoundsException", xw534, by decide +kernel⟩, fun _ h => absurd h List.not_mem_nil⟩) (by decide) rfl (by decide) xw535 (by decide +kernel) (fun q => ?_)
                  refine x_astore (L' := [(5, .ref q), (0, .ref a0), (1, .int x1), (2, .int x2), (3, .int x3), (4, .int x4)]) dL_does_299 (by decide) rfl ?_
                  refine x_ldc2 dL_does_301 xw1132 ?_
                  exact x_lret dL_does_304 hr ht ⟨_, rfl, h⟩
                · have h := h3 rfl
                  refine x_catch [(0, 292, 293, 76), (0, 292, 299, 80)] (0, 292, 305, 82) [] htab rfl (List.forall_mem_cons.mpr ⟨⟨by decide, "java/lang/IndexOutOfBoundsException", xw534, by decide +kernel⟩, List.forall_mem_cons.mpr ⟨⟨by decide, "java/lang/IllegalArgumentException", xw535, by decide +kernel⟩, fun _ h => absurd h List.not_mem_nil⟩⟩) (by decide) rfl (by decide) xw536 (by decide +kernel) (fun q => ?_)
                  refine x_astore (L' := [(5, .ref q), (0, .ref a0), (1, .int x1), (2, .int x2), (3, .int x3), (4, .int x4)]) dL_does_305 (by decide) rfl ?_
                  refine x_ldc2 dL_does_307 xw1132 ?_
                  exact x_lret dL_does_310 hr ht ⟨_, rfl, h⟩
              refine x_i2l dL_does_81 ?_
              refine x_goto (tgt := 292) dL_does_82 (by decide) ?_
              exact x_lret dL_does_292 hr ht ⟨_, rfl, h⟩
          · have h := h2 q
            refine x_aload_n 0 dL_does_61 rfl rfl ?_
            refine x_iload_n 2 dL_does_62 rfl rfl ?_
            refine x_iload_n 3 dL_does_63 rfl rfl ?_
            obtain ⟨⟨fs, hf⟩, h⟩ := h
            obtain ⟨m_78, z_79, hm, hs, h⟩ := h
            refine x_invVX (as := [.int x2, .int x3]) (rest := []) dL_does_64 (q := (RX7, TX7, 10)) rfl xc_L_does_24 hf (M_X7_read hl h) rfl rfl (Nat.le_of_ble_eq_true rfl) hm hs (fun Ex t_80 h => ?_) (xk_i fun x_77 t_76 h => ?_)
            · obtain ⟨hE, h1, h2, h3⟩ := h
              rcases hE with rfl | rfl | rfl
              · have h := h1 rfl
                refine x_catch [] (0, 292, 293, 76) [(0, 292, 299, 80), (0, 292, 305, 82)] htab rfl (fun _ h => absurd h List.not_mem_nil) (by decide) rfl (by decide) xw534 (by decide +kernel) (fun q => ?_)
                refine x_astore (L' := [(5, .ref q), (0, .ref a0), (1, .int x1), (2, .int x2), (3, .int x3), (4, .int x4)]) dL_does_293 (by decide) rfl ?_
                refine x_ldc2 dL_does_295 xw1132 ?_
                exact x_lret dL_does_298 hr ht ⟨_, rfl, h⟩
              · have h := h2 rfl
                refine x_catch [(0, 292, 293, 76)] (0, 292, 299, 80) [(0, 292, 305, 82)] htab rfl (List.forall_mem_cons.mpr ⟨⟨by decide, "java/lang/IndexOutOfBoundsException", xw534, by decide +kernel⟩, fun _ h => absurd h List.not_mem_nil⟩) (by decide) rfl (by decide) xw535 (by decide +kernel) (fun q => ?_)
                refine x_astore (L' := [(5, .ref q), (0, .ref a0), (1, .int x1), (2, .int x2), (3, .int x3), (4, .int x4)]) dL_does_299 (by decide) rfl ?_
                refine x_ldc2 dL_does_301 xw1132 ?_
                exact x_lret dL_does_304 hr ht ⟨_, rfl, h⟩
              · have h := h3 rfl
                refine x_catch [(0, 292, 293, 76), (0, 292, 299, 80)] (0, 292, 305, 82) [] htab rfl (List.forall_mem_cons.mpr ⟨⟨by decide, "java/lang/IndexOutOfBoundsException", xw534, by decide +kernel⟩, List.forall_mem_cons.mpr ⟨⟨by decide, "java/lang/IllegalArgumentException", xw535, by decide +kernel⟩, fun _ h => absurd h List.not_mem_nil⟩⟩) (by decide) rfl (by decide) xw536 (by decide +kernel) (fun q => ?_)
                refine x_astore (L' := [(5, .ref q), (0, .ref a0), (1, .int x1), (2, .int x2), (3, .int x3), (4, .int x4)]) dL_does_305 (by decide) rfl ?_
                refine x_ldc2 dL_does_307 xw1132 ?_
                exact x_lret dL_does_310 hr ht ⟨_, rfl, h⟩
            refine x_i2l dL_does_67 ?_
            refine x_goto (tgt := 292) dL_does_68 (by decide) ?_
            exact x_lret dL_does_292 hr ht ⟨_, rfl, h⟩
        · have h := h2 q
          refine x_aload_n 0 dL_does_47 rfl rfl ?_
          refine x_iload_n 2 dL_does_48 rfl rfl ?_
          obtain ⟨⟨fs, hf⟩, h⟩ := h
          obtain ⟨m_83, z_84, hm, hs, h⟩ := h
          refine x_invVX (as := [.int x2]) (rest := []) dL_does_49 (q := (RX7, TX7, 10)) rfl xc_L_does_21 hf (M_X7_index hl h) rfl rfl (Nat.le_of_ble_eq_true rfl) hm hs (fun Ex t_85 h => ?_) (xk_i fun x_82 t_81 h => ?_)
          · obtain ⟨hE, h1, h2, h3⟩ := h
            rcases hE with rfl | rfl | rfl
            · have h := h1 rfl
              refine x_catch [] (0, 292, 293, 76) [(0, 292, 299, 80), (0, 292, 305, 82)] htab rfl (fun _ h => absurd h List.not_mem_nil) (by decide) rfl (by decide) xw534 (by decide +kernel) (fun q => ?_)
              refine x_astore (L' := [(5, .ref q), (0, .ref a0), (1, .int x1), (2, .int x2), (3, .int x3), (4, .int x4)]) dL_does_293 (by decide) rfl ?_
              refine x_ldc2 dL_does_295 xw1132 ?_
              exact x_lret dL_does_298 hr ht ⟨_, rfl, h⟩
            · have h := h2 rfl
              refine x_catch [(0, 292, 293, 76)] (0, 292, 299, 80) [(0, 292, 305, 82)] htab rfl (List.forall_mem_cons.mpr ⟨⟨by decide, "java/lang/IndexOutOfBoundsException", xw534, by decide +kernel⟩, fun _ h => absurd h List.not_mem_nil⟩) (by decide) rfl (by decide) xw535 (by decide +kernel) (fun q => ?_)
              refine x_astore (L' := [(5, .ref q), (0, .ref a0), (1, .int x1), (2, .int x2), (3, .int x3), (4, .int x4)]) dL_does_299 (by decide) rfl ?_
              refine x_ldc2 dL_does_301 xw1132 ?_
              exact x_lret dL_does_304 hr ht ⟨_, rfl, h⟩
            · have h := h3 rfl
              refine x_catch [(0, 292, 293, 76), (0, 292, 299, 80)] (0, 292, 305, 82) [] htab rfl (List.forall_mem_cons.mpr ⟨⟨by decide, "java/lang/IndexOutOfBoundsException", xw534, by decide +kernel⟩, List.forall_mem_cons.mpr ⟨⟨by decide, "java/lang/IllegalArgumentException", xw535, by decide +kernel⟩, fun _ h => absurd h List.not_mem_nil⟩⟩) (by decide) rfl (by decide) xw536 (by decide +kernel) (fun q => ?_)
              refine x_astore (L' := [(5, .ref q), (0, .ref a0), (1, .int x1), (2, .int x2), (3, .int x3), (4, .int x4)]) dL_does_305 (by decide) rfl ?_
              refine x_ldc2 dL_does_307 xw1132 ?_
              exact x_lret dL_does_310 hr ht ⟨_, rfl, h⟩
          refine x_i2l dL_does_52 ?_
          refine x_goto (tgt := 292) dL_does_53 (by decide) ?_
          exact x_lret dL_does_292 hr ht ⟨_, rfl, h⟩
      · have h := h2 q
        refine x_aload_n 0 dL_does_33 rfl rfl ?_
        refine x_iload_n 2 dL_does_34 rfl rfl ?_
        obtain ⟨⟨fs, hf⟩, h⟩ := h
        obtain ⟨m_88, z_89, hm, hs, h⟩ := h
        refine x_invVX (as := [.int x2]) (rest := []) dL_does_35 (q := (RX7, TX7, 10)) rfl xc_L_does_18 hf (M_X7_end hl h) rfl rfl (Nat.le_of_ble_eq_true rfl) hm hs (fun Ex t_90 h => ?_) (xk_i fun x_87 t_86 h => ?_)
        · obtain ⟨hE, h1, h2, h3⟩ := h
          rcases hE with rfl | rfl | rfl
          · have h := h1 rfl
            refine x_catch [] (0, 292, 293, 76) [(0, 292, 299, 80), (0, 292, 305, 82)] htab rfl (fun _ h => absurd h List.not_mem_nil) (by decide) rfl (by decide) xw534 (by decide +kernel) (fun q => ?_)
            refine x_astore (L' := [(5, .ref q), (0, .ref a0), (1, .int x1), (2, .int x2), (3, .int x3), (4, .int x4)]) dL_does_293 (by decide) rfl ?_
            refine x_ldc2 dL_does_295 xw1132 ?_
            exact x_lret dL_does_298 hr ht ⟨_, rfl, h⟩
          · have h := h2 rfl
            refine x_catch [(0, 292, 293, 76)] (0, 292, 299, 80) [(0, 292, 305, 82)] htab rfl (List.forall_mem_cons.mpr ⟨⟨by decide, "java/lang/IndexOutOfBoundsException", xw534, by decide +kernel⟩, fun _ h => absurd h List.not_mem_nil⟩) (by decide) rfl (by decide) xw535 (by decide +kernel) (fun q => ?_)
            refine x_astore (L' := [(5, .ref q), (0, .ref a0), (1, .int x1), (2, .int x2), (3, .int x3), (4, .int x4)]) dL_does_299 (by decide) rfl ?_
            refine x_ldc2 dL_does_301 xw1132 ?_
            exact x_lret dL_does_304 hr ht ⟨_, rfl, h⟩
          · have h := h3 rfl
            refine x_catch [(0, 292, 293, 76), (0, 292, 299, 80)] (0, 292, 305, 82) [] htab rfl (List.forall_mem_cons.mpr ⟨⟨by decide, "java/lang/IndexOutOfBoundsException", xw534, by decide +kernel⟩, List.forall_mem_cons.mpr ⟨⟨by decide, "java/lang/IllegalArgumentException", xw535, by decide +kernel⟩, fun _ h => absurd h List.not_mem_nil⟩⟩) (by decide) rfl (by decide) xw536 (by decide +kernel) (fun q => ?_)
            refine x_astore (L' := [(5, .ref q), (0, .ref a0), (1, .int x1), (2, .int x2), (3, .int x3), (4, .int x4)]) dL_does_305 (by decide) rfl ?_
            refine x_ldc2 dL_does_307 xw1132 ?_
            exact x_lret dL_does_310 hr ht ⟨_, rfl, h⟩
        refine x_i2l dL_does_38 ?_
        refine x_goto (tgt := 292) dL_does_39 (by decide) ?_
        exact x_lret dL_does_292 hr ht ⟨_, rfl, h⟩
    · have h := h2 q
      refine x_aload_n 0 dL_does_18 rfl rfl ?_
      refine x_iload_n 2 dL_does_19 rfl rfl ?_
      refine x_iload_n 3 dL_does_20 rfl rfl ?_
      obtain ⟨⟨fs, hf⟩, h⟩ := h
      obtain ⟨m_93, z_94, hm, hs, h⟩ := h
      refine x_invVX (as := [.int x2, .int x3]) (rest := []) dL_does_21 (q := (RX7, TX7, 10)) rfl xc_L_does_14 hf (M_X7_lease hl h) rfl rfl (Nat.le_of_ble_eq_true rfl) hm hs (fun Ex t_95 h => ?_) (xk_i fun x_92 t_91 h => ?_)
      · obtain ⟨hE, h1, h2, h3⟩ := h
        rcases hE with rfl | rfl | rfl
        · have h := h1 rfl
          refine x_catch [] (0, 292, 293, 76) [(0, 292, 299, 80), (0, 292, 305, 82)] htab rfl (fun _ h => absurd h List.not_mem_nil) (by decide) rfl (by decide) xw534 (by decide +kernel) (fun q => ?_)
          refine x_astore (L' := [(5, .ref q), (0, .ref a0), (1, .int x1), (2, .int x2), (3, .int x3), (4, .int x4)]) dL_does_293 (by decide) rfl ?_
          refine x_ldc2 dL_does_295 xw1132 ?_
          exact x_lret dL_does_298 hr ht ⟨_, rfl, h⟩
        · have h := h2 rfl
          refine x_catch [(0, 292, 293, 76)] (0, 292, 299, 80) [(0, 292, 305, 82)] htab rfl (List.forall_mem_cons.mpr ⟨⟨by decide, "java/lang/IndexOutOfBoundsException", xw534, by decide +kernel⟩, fun _ h => absurd h List.not_mem_nil⟩) (by decide) rfl (by decide) xw535 (by decide +kernel) (fun q => ?_)
          refine x_astore (L' := [(5, .ref q), (0, .ref a0), (1, .int x1), (2, .int x2), (3, .int x3), (4, .int x4)]) dL_does_299 (by decide) rfl ?_
          refine x_ldc2 dL_does_301 xw1132 ?_
          exact x_lret dL_does_304 hr ht ⟨_, rfl, h⟩
        · have h := h3 rfl
          refine x_catch [(0, 292, 293, 76), (0, 292, 299, 80)] (0, 292, 305, 82) [] htab rfl (List.forall_mem_cons.mpr ⟨⟨by decide, "java/lang/IndexOutOfBoundsException", xw534, by decide +kernel⟩, List.forall_mem_cons.mpr ⟨⟨by decide, "java/lang/IllegalArgumentException", xw535, by decide +kernel⟩, fun _ h => absurd h List.not_mem_nil⟩⟩) (by decide) rfl (by decide) xw536 (by decide +kernel) (fun q => ?_)
          refine x_astore (L' := [(5, .ref q), (0, .ref a0), (1, .int x1), (2, .int x2), (3, .int x3), (4, .int x4)]) dL_does_305 (by decide) rfl ?_
          refine x_ldc2 dL_does_307 xw1132 ?_
          exact x_lret dL_does_310 hr ht ⟨_, rfl, h⟩
      refine x_i2l dL_does_24 ?_
      refine x_goto (tgt := 292) dL_does_25 (by decide) ?_
      exact x_lret dL_does_292 hr ht ⟨_, rfl, h⟩
  · have h := h2 q
    refine x_aload_n 0 dL_does_4 rfl rfl ?_
    refine x_iload_n 2 dL_does_5 rfl rfl ?_
    obtain ⟨⟨fs, hf⟩, h⟩ := h
    obtain ⟨m_98, z_99, hm, hs, h⟩ := h
    refine x_invVX (as := [.int x2]) (rest := []) dL_does_6 (q := (RX7, TX7, 10)) rfl xc_L_does_8 hf (M_X7_flat hl h) rfl rfl (Nat.le_of_ble_eq_true rfl) hm hs (fun Ex t_100 h => ?_) (xk_i fun x_97 t_96 h => ?_)
    · obtain ⟨hE, h1, h2, h3⟩ := h
      rcases hE with rfl | rfl | rfl
      · have h := h1 rfl
        refine x_catch [] (0, 292, 293, 76) [(0, 292, 299, 80), (0, 292, 305, 82)] htab rfl (fun _ h => absurd h List.not_mem_nil) (by decide) rfl (by decide) xw534 (by decide +kernel) (fun q => ?_)
        refine x_astore (L' := [(5, .ref q), (0, .ref a0), (1, .int x1), (2, .int x2), (3, .int x3), (4, .int x4)]) dL_does_293 (by decide) rfl ?_
        refine x_ldc2 dL_does_295 xw1132 ?_
        exact x_lret dL_does_298 hr ht ⟨_, rfl, h⟩
      · have h := h2 rfl
        refine x_catch [(0, 292, 293, 76)] (0, 292, 299, 80) [(0, 292, 305, 82)] htab rfl (List.forall_mem_cons.mpr ⟨⟨by decide, "java/lang/IndexOutOfBoundsException", xw534, by decide +kernel⟩, fun _ h => absurd h List.not_mem_nil⟩) (by decide) rfl (by decide) xw535 (by decide +kernel) (fun q => ?_)
        refine x_astore (L' := [(5, .ref q), (0, .ref a0), (1, .int x1), (2, .int x2), (3, .int x3), (4, .int x4)]) dL_does_299 (by decide) rfl ?_
        refine x_ldc2 dL_does_301 xw1132 ?_
        exact x_lret dL_does_304 hr ht ⟨_, rfl, h⟩
      · have h := h3 rfl
        refine x_catch [(0, 292, 293, 76), (0, 292, 299, 80)] (0, 292, 305, 82) [] htab rfl (List.forall_mem_cons.mpr ⟨⟨by decide, "java/lang/IndexOutOfBoundsException", xw534, by decide +kernel⟩, List.forall_mem_cons.mpr ⟨⟨by decide, "java/lang/IllegalArgumentException", xw535, by decide +kernel⟩, fun _ h => absurd h List.not_mem_nil⟩⟩) (by decide) rfl (by decide) xw536 (by decide +kernel) (fun q => ?_)
        refine x_astore (L' := [(5, .ref q), (0, .ref a0), (1, .int x1), (2, .int x2), (3, .int x3), (4, .int x4)]) dL_does_305 (by decide) rfl ?_
        refine x_ldc2 dL_does_307 xw1132 ?_
        exact x_lret dL_does_310 hr ht ⟨_, rfl, h⟩
    refine x_i2l dL_does_9 ?_
    refine x_goto (tgt := 292) dL_does_10 (by decide) ?_
    exact x_lret dL_does_292 hr ht ⟨_, rfl, h⟩
theorem M_L_does {l : Launch} {G : xG} (hl : l.stackTraces = false) {a0 : Nat} {x1 : Int32} {x2 : Int32} {x3 : Int32} {x4 : Int32} {t : xT} {K : Int64 → xT → Prop} {rc rs : Nat} (h : V_L_does_0 G.2.2.2 K a0 x1 x2 x3 x4 t rc rs) : xMetH l G yL_does k_L_does (some .long) [(0, 292, 293, 76), (0, 292, 299, 80), (0, 292, 305, 82)] [.ref a0, .int x1, .int x2, .int x3, .int x4] t (xKl K) rc rs := xMetH.of (by decide +kernel) rfl hl (Nat.le_of_ble_eq_true rfl) (fun Γ e1 e2 ht htab hr => by subst e1; subst e2; exact S_L_does_0 hl ht hr htab h)
def V_L_low_0 (K : Int32 → xT → Prop) (x0 : Int32) (x1 : Int32) (t : xT) : Prop :=
  (¬ x1 = 0 ∧ K (xrem (x0 &&& (2147483647 : Int32)) x1) t)
set_option maxRecDepth 20000 in
theorem S_L_low_0 {Γ : xΓ} {K : Int32 → xT → Prop} (hl : (gl Γ).stackTraces = false) (ht : (gM Γ).sig.returnType = (some .int)) (hr : xRet Γ (xKi K)) {x0 : Int32} {x1 : Int32} {t : xT} {rc rs : Nat} (h : V_L_low_0 K x0 x1 t) : xX Γ k_L_low 0 [(0, .int x0), (1, .int x1)] [] t rc rs := by
  unfold V_L_low_0 at h
  refine x_iload_n 0 dL_low_0 rfl rfl ?_
  refine x_ldc dL_low_1 xw530 ?_
  refine x_iand dL_low_3 ?_
  refine x_iload_n 1 dL_low_4 rfl rfl ?_
  obtain ⟨q, h⟩ := h
  refine x_irem dL_low_5 q ?_
  exact x_zret dL_low_6 hr ht rfl ⟨_, rfl, h⟩
theorem M_L_low {l : Launch} {G : xG} (hl : l.stackTraces = false) {x0 : Int32} {x1 : Int32} {t : xT} {K : Int32 → xT → Prop} (h : V_L_low_0 K x0 x1 t) : xMet l G yL_low k_L_low (some .int) [.int x0, .int x1] t (xKi K) 0 0 := xMet.of (by decide +kernel) rfl hl (Nat.le_of_ble_eq_true rfl) (fun Γ e1 e2 ht hn hr => by subst e1; subst e2; exact S_L_low_0 hl ht hr h)
def V_L_act_107 (E : Nat → Nat) (K : Int64 → xT → Prop) (a0 : Nat) (x2 : Int32) (x3 : Int32) (x4 : Int32) (x5 : Int32) (x6 : Int32) (xs0 : Int32) (t : xT) (rc rs : Nat) : Prop :=
  (((12 : Int32) ≤ x3 → (((28 : Int32) ≤ x3 → ((x2 = 0 → ((¬ ((x4 >>> ((6 : Int32) &&& 31)) &&& (1 : Int32)) = 0 → (V_L_low_0 (fun x_2 t_1 => (∃ m_5 z_6 : Nat, m_5 ≤ rc ∧ z_6 ≤ rs ∧ V_L_does_0 E (fun y_4 t_3 => K y_4 t_3) a0 (11 : Int32) ((1 : Int32) + x_2) (0 : Int32) (0 : Int32) t_1 m_5 z_6)) x4 (32 : Int32) t)) ∧ (((x4 >>> ((6 : Int32) &&& 31)) &&& (1 : Int32)) = 0 → (V_L_low_0 (fun x_8 t_7 => (∃ m_11 z_12 : Nat, m_11 ≤ rc ∧ z_12 ≤ rs ∧ V_L_does_0 E (fun y_10 t_9 => K y_10 t_9) a0 (11 : Int32) ((1 : Int32) + x_8) (0 : Int32) (0 : Int32) t_7 m_11 z_12)) x4 (12 : Int32) t)))) ∧ (¬ x2 = 0 → (V_L_low_0 (fun x_14 t_13 => (∃ m_17 z_18 : Nat, m_17 ≤ rc ∧ z_18 ≤ rs ∧ V_L_does_0 E (fun y_16 t_15 => K y_16 t_15) a0 (11 : Int32) x_14 (0 : Int32) (0 : Int32) t_13 m_17 z_18)) x4 (80 : Int32) t)))) ∧ (¬ (28 : Int32) ≤ x3 → (((15 : Int32) ≤ x3 → (((17 : Int32) ≤ x3 → (((22 : Int32) ≤ x3 → (((26 : Int32) ≤ x3 → ((x2 = 0 → (V_L_low_0 (fun x_20 t_19 => (∃ m_23 z_24 : Nat, m_23 ≤ rc ∧ z_24 ≤ rs ∧ V_L_does_0 E (fun y_22 t_21 => K y_22 t_21) a0 (10 : Int32) x6 ((1 : Int32) + x_20) (0 : Int32) t_19 m_23 z_24)) (x4 >>> ((3 : Int32) &&& 31)) (12 : Int32) t)) ∧ (¬ x2 = 0 → (V_L_low_0 (fun x_26 t_25 => (∃ m_29 z_30 : Nat, m_29 ≤ rc ∧ z_30 ≤ rs ∧ V_L_does_0 E (fun y_28 t_27 => K y_28 t_27) a0 (10 : Int32) x6 x_26 (0 : Int32) t_25 m_29 z_30)) x4 (16 : Int32) t)))) ∧ (¬ (26 : Int32) ≤ x3 → ((x2 = 0 → ((¬ ((x4 >>> ((9 : Int32) &&& 31)) &&& (1 : Int32)) = 0 → (V_L_low_0 (fun x_32 t_31 => (∃ m_35 z_36 : Nat, m_35 ≤ rc ∧ z_36 ≤ rs ∧ V_L_does_0 E (fun y_34 t_33 => K y_34 t_33) a0 (9 : Int32) x6 ((1 : Int32) + x_32) (0 : Int32) t_31 m_35 z_36)) (x4 >>> ((2 : Int32) &&& 31)) (9000 : Int32) t)) ∧ (((x4 >>> ((9 : Int32) &&& 31)) &&& (1 : Int32)) = 0 → (V_L_low_0 (fun x_38 t_37 => (∃ m_41 z_42 : Nat, m_41 ≤ rc ∧ z_42 ≤ rs ∧ V_L_does_0 E (fun y_40 t_39 => K y_40 t_39) a0 (9 : Int32) x6 ((1 : Int32) + x_38) (0 : Int32) t_37 m_41 z_42)) (x4 >>> ((2 : Int32) &&& 31)) (200000 : Int32) t)))) ∧ (¬ x2 = 0 → (∃ m_45 z_46 : Nat, m_45 ≤ rc ∧ z_46 ≤ rs ∧ V_L_does_0 E (fun y_44 t_43 => K y_44 t_43) a0 (9 : Int32) x6 x4 (0 : Int32) t m_45 z_46)))))) ∧ (¬ (22 : Int32) ≤ x3 → ((x2 = 0 → ((¬ ((x4 >>> ((4 : Int32) &&& 31)) &&& (3 : Int32)) = 0 → (V_L_low_0 (fun x_48 t_47 => (∃ m_51 z_52 : Nat, m_51 ≤ rc ∧ z_52 ≤ rs ∧ V_L_does_0 E (fun y_50 t_49 => K y_50 t_49) a0 (8 : Int32) x6 xs0 x_48 t_47 m_51 z_52)) (x4 >>> ((6 : Int32) &&& 31)) (200000 : Int32) t)) ∧ (((x4 >>> ((4 : Int32) &&& 31)) &&& (3 : Int32)) = 0 → (V_L_low_0 (fun x_54 t_53 => (∃ m_57 z_58 : Nat, m_57 ≤ rc ∧ z_58 ≤ rs ∧ V_L_does_0 E (fun y_56 t_55 => K y_56 t_55) a0 (8 : Int32) x6 xs0 x_54 t_53 m_57 z_58)) (x4 >>> ((6 : Int32) &&& 31)) (1000001 : Int32) t)))) ∧ (¬ x2 = 0 → (∃ m_61 z_62 : Nat, m_61 ≤ rc ∧ z_62 ≤ rs ∧ V_L_does_0 E (fun y_60 t_59 => K y_60 t_59) a0 (8 : Int32) x6 xs0 x4 t m_61 z_62)))))) ∧ (¬ (17 : Int32) ≤ x3 → (V_L_low_0 (fun x_64 t_63 => (∃ m_67 z_68 : Nat, m_67 ≤ rc ∧ z_68 ≤ rs ∧ V_L_does_0 E (fun y_66 t_65 => K y_66 t_65) a0 (7 : Int32) x_64 (0 : Int32) (0 : Int32) t_63 m_67 z_68)) x4 (12 : Int32) t)))) ∧ (¬ (15 : Int32) ≤ x3 → ((x2 = 0 → (V_L_low_0 (fun x_70 t_69 => (∃ m_73 z_74 : Nat, m_73 ≤ rc ∧ z_74 ≤ rs ∧ V_L_does_0 E (fun y_72 t_71 => K y_72 t_71) a0 (6 : Int32) x5 x_70 (0 : Int32) t_69 m_73 z_74)) (x4 >>> ((2 : Int32) &&& 31)) (3 : Int32) t)) ∧ (¬ x2 = 0 → (V_L_low_0 (fun x_76 t_75 => (∃ m_79 z_80 : Nat, m_79 ≤ rc ∧ z_80 ≤ rs ∧ V_L_does_0 E (fun y_78 t_77 => K y_78 t_77) a0 (6 : Int32) x5 x_76 (0 : Int32) t_75 m_79 z_80)) (x4 >>> ((2 : Int32) &&& 31)) (5 : Int32) t)))))))) ∧ (¬ (12 : Int32) ≤ x3 → (((3 : Int32) ≤ x3 → ((¬ x3 = (3 : Int32) → ((¬ x3 = (4 : Int32) → (((9 : Int32) ≤ x3 → ((x2 = 0 → ((¬ ((x4 >>> ((9 : Int32) &&& 31)) &&& (1 : Int32)) = 0 → (V_L_low_0 (fun x_82 t_81 => (∃ m_85 z_86 : Nat, m_85 ≤ rc ∧ z_86 ≤ rs ∧ V_L_does_0 E (fun y_84 t_83 => K y_84 t_83) a0 (5 : Int32) ((1 : Int32) + x_82) (0 : Int32) (0 : Int32) t_81 m_85 z_86)) (x4 >>> ((2 : Int32) &&& 31)) (50 : Int32) t)) ∧ (((x4 >>> ((9 : Int32) &&& 31)) &&& (1 : Int32)) = 0 → (V_L_low_0 (fun x_88 t_87 => (∃ m_91 z_92 : Nat, m_91 ≤ rc ∧ z_92 ≤ rs ∧ V_L_does_0 E (fun y_90 t_89 => K y_90 t_89) a0 (5 : Int32) ((1 : Int32) + x_88) (0 : Int32) (0 : Int32) t_87 m_91 z_92)) (x4 >>> ((2 : Int32) &&& 31)) (100000 : Int32) t)))) ∧ (¬ x2 = 0 → (∃ m_95 z_96 : Nat, m_95 ≤ rc ∧ z_96 ≤ rs ∧ V_L_does_0 E (fun y_94 t_93 => K y_94 t_93) a0 (5 : Int32) x4 (0 : Int32) (0 : Int32) t m_95 z_96)))) ∧ (¬ (9 : Int32) ≤ x3 → (V_L_low_0 (fun x_98 t_97 => (∃ m_101 z_102 : Nat, m_101 ≤ rc ∧ z_102 ≤ rs ∧ V_L_does_0 E (fun y_100 t_99 => K y_100 t_99) a0 (4 : Int32) x5 x_98 (0 : Int32) t_97 m_101 z_102)) (x4 >>> ((2 : Int32) &&& 31)) (400 : Int32) t)))) ∧ (x3 = (4 : Int32) → ((x2 = 0 → (V_L_low_0 (fun x_104 t_103 => (∃ m_107 z_108 : Nat, m_107 ≤ rc ∧ z_108 ≤ rs ∧ V_L_does_0 E (fun y_106 t_105 => K y_106 t_105) a0 (3 : Int32) ((50 : Int32) + x_104) (0 : Int32) (0 : Int32) t_103 m_107 z_108)) x4 (151 : Int32) t)) ∧ (¬ x2 = 0 → (V_L_low_0 (fun x_110 t_109 => (∃ m_113 z_114 : Nat, m_113 ≤ rc ∧ z_114 ≤ rs ∧ V_L_does_0 E (fun y_112 t_111 => K y_112 t_111) a0 (3 : Int32) ((50 : Int32) + x_110) (0 : Int32) (0 : Int32) t_109 m_113 z_114)) x4 (190 : Int32) t)))))) ∧ (x3 = (3 : Int32) → (∃ m_117 z_118 : Nat, m_117 ≤ rc ∧ z_118 ≤ rs ∧ V_L_does_0 E (fun y_116 t_115 => K y_116 t_115) a0 (2 : Int32) x6 (0 : Int32) (0 : Int32) t m_117 z_118)))) ∧ (¬ (3 : Int32) ≤ x3 → ((x2 = 0 → ((¬ ((x4 >>> ((3 : Int32) &&& 31)) &&& (3 : Int32)) = 0 → (V_L_low_0 (fun x_120 t_119 => (∃ m_123 z_124 : Nat, m_123 ≤ rc ∧ z_124 ≤ rs ∧ V_L_does_0 E (fun y_122 t_121 => K y_122 t_121) a0 (1 : Int32) x5 x_120 (0 : Int32) t_119 m_123 z_124)) (x4 >>> ((5 : Int32) &&& 31)) (90000 : Int32) t)) ∧ (((x4 >>> ((3 : Int32) &&& 31)) &&& (3 : Int32)) = 0 → (V_L_low_0 (fun x_126 t_125 => (∃ m_129 z_130 : Nat, m_129 ≤ rc ∧ z_130 ≤ rs ∧ V_L_does_0 E (fun y_128 t_127 => K y_128 t_127) a0 (1 : Int32) x5 x_126 (0 : Int32) t_125 m_129 z_130)) (x4 >>> ((5 : Int32) &&& 31)) (500001 : Int32) t)))) ∧ (¬ x2 = 0 → (∃ m_133 z_134 : Nat, m_133 ≤ rc ∧ z_134 ≤ rs ∧ V_L_does_0 E (fun y_132 t_131 => K y_132 t_131) a0 (1 : Int32) x5 x4 (0 : Int32) t m_133 z_134)))))))
set_option maxRecDepth 20000 in
theorem S_L_act_107 {Γ : xΓ} {K : Int64 → xT → Prop} (hl : (gl Γ).stackTraces = false) (ht : (gM Γ).sig.returnType = (some .long)) (hr : xRet Γ (xKl K)) {a0 : Nat} {x2 : Int32} {x3 : Int32} {x4 : Int32} {x5 : Int32} {x6 : Int32} {xs0 : Int32} {t : xT} {rc rs : Nat} (h : V_L_act_107 (gG Γ).2.2.2 K a0 x2 x3 x4 x5 x6 xs0 t rc rs) : xX Γ k_L_act 107 [(0, .ref a0), (2, .int x2), (3, .int x3), (4, .int x4), (5, .int x5), (6, .int x6)] [.int xs0] t rc rs := by
  unfold V_L_act_107 at h
  refine x_istore (L' := [(7, .int xs0), (0, .ref a0), (2, .int x2), (3, .int x3), (4, .int x4), (5, .int x5), (6, .int x6)]) dL_act_107 (by decide) rfl ?_
  refine x_iload_n 3 dL_act_109 rfl rfl ?_
  refine x_bipush (v := (12 : Int32)) dL_act_110 (by decide) ?_
  obtain ⟨h1, h2⟩ := h
  refine x_icmp_ge (tgt := 293) dL_act_112 (by decide) (fun q => ?_) (fun q => ?_)
  · have h := h1 q
    refine x_iload_n 3 dL_act_293 rfl rfl ?_
    refine x_bipush (v := (28 : Int32)) dL_act_294 (by decide) ?_
    obtain ⟨h1, h2⟩ := h
    refine x_icmp_ge (tgt := 498) dL_act_296 (by decide) (fun q => ?_) (fun q => ?_)
    · have h := h1 q
      refine x_aload_n 1 dL_act_498 rfl rfl ?_
      refine x_bipush (v := (11 : Int32)) dL_act_499 (by decide) ?_
      refine x_iload_n 2 dL_act_501 rfl rfl ?_
      obtain ⟨h1, h2⟩ := h
      refine x_if_eq (tgt := 515) dL_act_502 (by decide) (fun q => ?_) (fun q => ?_)
      · have h := h1 q
        refine x_iconst (v := (1 : Int32)) dL_act_515 (by decide) ?_
        refine x_iload 4 dL_act_516 rfl ?_
        refine x_iload 4 dL_act_518 rfl ?_
        refine x_bipush (v := (6 : Int32)) dL_act_520 (by decide) ?_
        refine x_ishr dL_act_522 ?_
        refine x_iconst (v := (1 : Int32)) dL_act_523 (by decide) ?_
        refine x_iand dL_act_524 ?_
        obtain ⟨h1, h2⟩ := h
        refine x_if_ne (tgt := 533) dL_act_525 (by decide) (fun q => ?_) (fun q => ?_)
        · have h := h1 q
          refine x_bipush (v := (32 : Int32)) dL_act_533 (by decide) ?_
          refine x_invS (as := [.int x4, .int (32 : Int32)]) (rest := [.int (1 : Int32), .int (11 : Int32), .ref a0]) dL_act_535 xc_L_act_84 (M_L_low hl h) rfl rfl (Nat.le_of_ble_eq_true rfl) (Nat.zero_le _) (Nat.zero_le _) (xk_i fun x_2 t_1 h => ?_)
          refine x_iadd dL_act_538 ?_
          refine x_iconst (v := (0 : Int32)) dL_act_539 (by decide) ?_
          refine x_iconst (v := (0 : Int32)) dL_act_540 (by decide) ?_
          obtain ⟨m_5, z_6, hm, hs, h⟩ := h
          refine x_invSH (as := [.ref a0, .int (11 : Int32), .int ((1 : Int32) + x_2), .int (0 : Int32), .int (0 : Int32)]) (rest := []) dL_act_541 xc_L_act_91 (M_L_does hl h) rfl rfl (Nat.le_of_ble_eq_true rfl) hm hs (xk_l fun y_4 t_3 h => ?_)
          exact x_lret dL_act_544 hr ht ⟨_, rfl, h⟩
        · have h := h2 q
          refine x_bipush (v := (12 : Int32)) dL_act_528 (by decide) ?_
          refine x_goto (tgt := 535) dL_act_530 (by decide) ?_
          refine x_invS (as := [.int x4, .int (12 : Int32)]) (rest := [.int (1 : Int32), .int (11 : Int32), .ref a0]) dL_act_535 xc_L_act_84 (M_L_low hl h) rfl rfl (Nat.le_of_ble_eq_true rfl) (Nat.zero_le _) (Nat.zero_le _) (xk_i fun x_8 t_7 h => ?_)
          refine x_iadd dL_act_538 ?_
          refine x_iconst (v := (0 : Int32)) dL_act_539 (by decide) ?_
          refine x_iconst (v := (0 : Int32)) dL_act_540 (by decide) ?_
          obtain ⟨m_11, z_12, hm, hs, h⟩ := h
          refine x_invSH (as := [.ref a0, .int (11 : Int32), .int ((1 : Int32) + x_8), .int (0 : Int32), .int (0 : Int32)]) (rest := []) dL_act_541 xc_L_act_91 (M_L_does hl h) rfl rfl (Nat.le_of_ble_eq_true rfl) hm hs (xk_l fun y_10 t_9 h => ?_)
          exact x_lret dL_act_544 hr ht ⟨_, rfl, h⟩
      · have h := h2 q
        refine x_iload 4 dL_act_505 rfl ?_
        refine x_bipush (v := (80 : Int32)) dL_act_507 (by decide) ?_
        refine x_invS (as := [.int x4, .int (80 : Int32)]) (rest := [.int (11 : Int32), .ref a0]) dL_act_509 xc_L_act_84 (M_L_low hl h) rfl rfl (Nat.le_of_ble_eq_true rfl) (Nat.zero_le _) (Nat.zero_le _) (xk_i fun x_14 t_13 h => ?_)
        refine x_goto (tgt := 539) dL_act_512 (by decide) ?_
        refine x_iconst (v := (0 : Int32)) dL_act_539 (by decide) ?_
        refine x_iconst (v := (0 : Int32)) dL_act_540 (by decide) ?_
        obtain ⟨m_17, z_18, hm, hs, h⟩ := h
        refine x_invSH (as := [.ref a0, .int (11 : Int32), .int x_14, .int (0 : Int32), .int (0 : Int32)]) (rest := []) dL_act_541 xc_L_act_91 (M_L_does hl h) rfl rfl (Nat.le_of_ble_eq_true rfl) hm hs (xk_l fun y_16 t_15 h => ?_)
        exact x_lret dL_act_544 hr ht ⟨_, rfl, h⟩
    · have h := h2 q
      refine x_iload_n 3 dL_act_299 rfl rfl ?_
      refine x_bipush (v := (15 : Int32)) dL_act_300 (by decide) ?_
      obtain ⟨h1, h2⟩ := h
      refine x_icmp_ge (tgt := 333) dL_act_302 (by decide) (fun q => ?_) (fun q => ?_)
      · have h := h1 q
        refine x_iload_n 3 dL_act_333 rfl rfl ?_
        refine x_bipush (v := (17 : Int32)) dL_act_334 (by decide) ?_
        obtain ⟨h1, h2⟩ := h
        refine x_icmp_ge (tgt := 357) dL_act_336 (by decide) (fun q => ?_) (fun q => ?_)
        · have h := h1 q
          refine x_iload_n 3 dL_act_357 rfl rfl ?_
          refine x_bipush (v := (22 : Int32)) dL_act_358 (by decide) ?_
          obtain ⟨h1, h2⟩ := h
          refine x_icmp_ge (tgt := 409) dL_act_360 (by decide) (fun q => ?_) (fun q => ?_)
          · have h := h1 q
            refine x_iload_n 3 dL_act_409 rfl rfl ?_
            refine x_bipush (v := (26 : Int32)) dL_act_410 (by decide) ?_
            obtain ⟨h1, h2⟩ := h
            refine x_icmp_ge (tgt := 463) dL_act_412 (by decide) (fun q => ?_) (fun q => ?_)
            · have h := h1 q
              refine x_aload_n 1 dL_act_463 rfl rfl ?_
              refine x_bipush (v := (10 : Int32)) dL_act_464 (by decide) ?_
              refine x_iload 6 dL_act_466 rfl ?_
              refine x_iload_n 2 dL_act_468 rfl rfl ?_
              obtain ⟨h1, h2⟩ := h
              refine x_if_eq (tgt := 482) dL_act_469 (by decide) (fun q => ?_) (fun q => ?_)
              · have h := h1 q
                refine x_iconst (v := (1 : Int32)) dL_act_482 (by decide) ?_
                refine x_iload 4 dL_act_483 rfl ?_
                refine x_iconst (v := (3 : Int32)) dL_act_485 (by decide) ?_
                refine x_ishr dL_act_486 ?_
                refine x_bipush (v := (12 : Int32)) dL_act_487 (by decide) ?_
                refine x_invS (as := [.int (x4 >>> ((3 : Int32) &&& 31)), .int (12 : Int32)]) (rest := [.int (1 : Int32), .int x6, .int (10 : Int32), .ref a0]) dL_act_489 xc_L_act_84 (M_L_low hl h) rfl rfl (Nat.le_of_ble_eq_true rfl) (Nat.zero_le _) (Nat.zero_le _) (xk_i fun x_20 t_19 h => ?_)
                refine x_iadd dL_act_492 ?_
                refine x_iconst (v := (0 : Int32)) dL_act_493 (by decide) ?_
                obtain ⟨m_23, z_24, hm, hs, h⟩ := h
                refine x_invSH (as := [.ref a0, .int (10 : Int32), .int x6, .int ((1 : Int32) + x_20), .int (0 : Int32)]) (rest := []) dL_act_494 xc_L_act_91 (M_L_does hl h) rfl rfl (Nat.le_of_ble_eq_true rfl) hm hs (xk_l fun y_22 t_21 h => ?_)
                exact x_lret dL_act_497 hr ht ⟨_, rfl, h⟩
              · have h := h2 q
                refine x_iload 4 dL_act_472 rfl ?_
                refine x_bipush (v := (16 : Int32)) dL_act_474 (by decide) ?_
                refine x_invS (as := [.int x4, .int (16 : Int32)]) (rest := [.int x6, .int (10 : Int32), .ref a0]) dL_act_476 xc_L_act_84 (M_L_low hl h) rfl rfl (Nat.le_of_ble_eq_true rfl) (Nat.zero_le _) (Nat.zero_le _) (xk_i fun x_26 t_25 h => ?_)
                refine x_goto (tgt := 493) dL_act_479 (by decide) ?_
                refine x_iconst (v := (0 : Int32)) dL_act_493 (by decide) ?_
                obtain ⟨m_29, z_30, hm, hs, h⟩ := h
                refine x_invSH (as := [.ref a0, .int (10 : Int32), .int x6, .int x_26, .int (0 : Int32)]) (rest := []) dL_act_494 xc_L_act_91 (M_L_does hl h) rfl rfl (Nat.le_of_ble_eq_true rfl) hm hs (xk_l fun y_28 t_27 h => ?_)
                exact x_lret dL_act_497 hr ht ⟨_, rfl, h⟩
            · have h := h2 q
              refine x_aload_n 1 dL_act_415 rfl rfl ?_
              refine x_bipush (v := (9 : Int32)) dL_act_416 (by decide) ?_
              refine x_iload 6 dL_act_418 rfl ?_
              refine x_iload_n 2 dL_act_420 rfl rfl ?_
              obtain ⟨h1, h2⟩ := h
              refine x_if_eq (tgt := 429) dL_act_421 (by decide) (fun q => ?_) (fun q => ?_)
              · have h := h1 q
                refine x_iconst (v := (1 : Int32)) dL_act_429 (by decide) ?_
                refine x_iload 4 dL_act_430 rfl ?_
                refine x_iconst (v := (2 : Int32)) dL_act_432 (by decide) ?_
                refine x_ishr dL_act_433 ?_
                refine x_iload 4 dL_act_434 rfl ?_
                refine x_bipush (v := (9 : Int32)) dL_act_436 (by decide) ?_
                refine x_ishr dL_act_438 ?_
                refine x_iconst (v := (1 : Int32)) dL_act_439 (by decide) ?_
                refine x_iand dL_act_440 ?_
                obtain ⟨h1, h2⟩ := h
                refine x_if_ne (tgt := 449) dL_act_441 (by decide) (fun q => ?_) (fun q => ?_)
                · have h := h1 q
                  refine x_sipush (v := (9000 : Int32)) dL_act_449 (by decide) ?_
                  refine x_invS (as := [.int (x4 >>> ((2 : Int32) &&& 31)), .int (9000 : Int32)]) (rest := [.int (1 : Int32), .int x6, .int (9 : Int32), .ref a0]) dL_act_452 xc_L_act_84 (M_L_low hl h) rfl rfl (Nat.le_of_ble_eq_true rfl) (Nat.zero_le _) (Nat.zero_le _) (xk_i fun x_32 t_31 h => ?_)
                  refine x_iadd dL_act_455 ?_
                  refine x_iconst (v := (0 : Int32)) dL_act_456 (by decide) ?_
                  obtain ⟨m_35, z_36, hm, hs, h⟩ := h
                  refine x_invSH (as := [.ref a0, .int (9 : Int32), .int x6, .int ((1 : Int32) + x_32), .int (0 : Int32)]) (rest := []) dL_act_457 xc_L_act_91 (M_L_does hl h) rfl rfl (Nat.le_of_ble_eq_true rfl) hm hs (xk_l fun y_34 t_33 h => ?_)
                  refine x_goto (tgt := 497) dL_act_460 (by decide) ?_
                  exact x_lret dL_act_497 hr ht ⟨_, rfl, h⟩
                · have h := h2 q
                  refine x_ldc dL_act_444 xw1140 ?_
                  refine x_goto (tgt := 452) dL_act_446 (by decide) ?_
                  refine x_invS (as := [.int (x4 >>> ((2 : Int32) &&& 31)), .int (200000 : Int32)]) (rest := [.int (1 : Int32), .int x6, .int (9 : Int32), .ref a0]) dL_act_452 xc_L_act_84 (M_L_low hl h) rfl rfl (Nat.le_of_ble_eq_true rfl) (Nat.zero_le _) (Nat.zero_le _) (xk_i fun x_38 t_37 h => ?_)
                  refine x_iadd dL_act_455 ?_
                  refine x_iconst (v := (0 : Int32)) dL_act_456 (by decide) ?_
                  obtain ⟨m_41, z_42, hm, hs, h⟩ := h
                  refine x_invSH (as := [.ref a0, .int (9 : Int32), .int x6, .int ((1 : Int32) + x_38), .int (0 : Int32)]) (rest := []) dL_act_457 xc_L_act_91 (M_L_does hl h) rfl rfl (Nat.le_of_ble_eq_true rfl) hm hs (xk_l fun y_40 t_39 h => ?_)
                  refine x_goto (tgt := 497) dL_act_460 (by decide) ?_
                  exact x_lret dL_act_497 hr ht ⟨_, rfl, h⟩
              · have h := h2 q
                refine x_iload 4 dL_act_424 rfl ?_
                refine x_goto (tgt := 456) dL_act_426 (by decide) ?_
                refine x_iconst (v := (0 : Int32)) dL_act_456 (by decide) ?_
                obtain ⟨m_45, z_46, hm, hs, h⟩ := h
                refine x_invSH (as := [.ref a0, .int (9 : Int32), .int x6, .int x4, .int (0 : Int32)]) (rest := []) dL_act_457 xc_L_act_91 (M_L_does hl h) rfl rfl (Nat.le_of_ble_eq_true rfl) hm hs (xk_l fun y_44 t_43 h => ?_)
                refine x_goto (tgt := 497) dL_act_460 (by decide) ?_
                exact x_lret dL_act_497 hr ht ⟨_, rfl, h⟩
          · have h := h2 q
            refine x_aload_n 1 dL_act_363 rfl rfl ?_
            refine x_bipush (v := (8 : Int32)) dL_act_364 (by decide) ?_
            refine x_iload 6 dL_act_366 rfl ?_
            refine x_iload 0 dL_act_368 rfl ?_
            refine x_iload_n 2 dL_act_370 rfl rfl ?_
            obtain ⟨h1, h2⟩ := h
            refine x_if_eq (tgt := 379) dL_act_371 (by decide) (fun q => ?_) (fun q => ?_)
            · have h := h1 q
              refine x_iload 4 dL_act_379 rfl ?_
              refine x_bipush (v := (6 : Int32)) dL_act_381 (by decide) ?_
              refine x_ishr dL_act_383 ?_
              refine x_iload 4 dL_act_384 rfl ?_
              refine x_iconst (v := (4 : Int32)) dL_act_386 (by decide) ?_
              refine x_ishr dL_act_387 ?_
              refine x_iconst (v := (3 : Int32)) dL_act_388 (by decide) ?_
              refine x_iand dL_act_389 ?_
              obtain ⟨h1, h2⟩ := h
              refine x_if_ne (tgt := 398) dL_act_390 (by decide) (fun q => ?_) (fun q => ?_)
              · have h := h1 q
                refine x_ldc dL_act_398 xw1140 ?_
                refine x_invS (as := [.int (x4 >>> ((6 : Int32) &&& 31)), .int (200000 : Int32)]) (rest := [.int xs0, .int x6, .int (8 : Int32), .ref a0]) dL_act_400 xc_L_act_84 (M_L_low hl h) rfl rfl (Nat.le_of_ble_eq_true rfl) (Nat.zero_le _) (Nat.zero_le _) (xk_i fun x_48 t_47 h => ?_)
                obtain ⟨m_51, z_52, hm, hs, h⟩ := h
                refine x_invSH (as := [.ref a0, .int (8 : Int32), .int x6, .int xs0, .int x_48]) (rest := []) dL_act_403 xc_L_act_91 (M_L_does hl h) rfl rfl (Nat.le_of_ble_eq_true rfl) hm hs (xk_l fun y_50 t_49 h => ?_)
                refine x_goto (tgt := 497) dL_act_406 (by decide) ?_
                exact x_lret dL_act_497 hr ht ⟨_, rfl, h⟩
              · have h := h2 q
                refine x_ldc dL_act_393 xw1139 ?_
                refine x_goto (tgt := 400) dL_act_395 (by decide) ?_
                refine x_invS (as := [.int (x4 >>> ((6 : Int32) &&& 31)), .int (1000001 : Int32)]) (rest := [.int xs0, .int x6, .int (8 : Int32), .ref a0]) dL_act_400 xc_L_act_84 (M_L_low hl h) rfl rfl (Nat.le_of_ble_eq_true rfl) (Nat.zero_le _) (Nat.zero_le _) (xk_i fun x_54 t_53 h => ?_)
                obtain ⟨m_57, z_58, hm, hs, h⟩ := h
                refine x_invSH (as := [.ref a0, .int (8 : Int32), .int x6, .int xs0, .int x_54]) (rest := []) dL_act_403 xc_L_act_91 (M_L_does hl h) rfl rfl (Nat.le_of_ble_eq_true rfl) hm hs (xk_l fun y_56 t_55 h => ?_)
                refine x_goto (tgt := 497) dL_act_406 (by decide) ?_
                exact x_lret dL_act_497 hr ht ⟨_, rfl, h⟩
            · have h := h2 q
              refine x_iload 4 dL_act_374 rfl ?_
              refine x_goto (tgt := 403) dL_act_376 (by decide) ?_
              obtain ⟨m_61, z_62, hm, hs, h⟩ := h
              refine x_invSH (as := [.ref a0, .int (8 : Int32), .int x6, .int xs0, .int x4]) (rest := []) dL_act_403 xc_L_act_91 (M_L_does hl h) rfl rfl (Nat.le_of_ble_eq_true rfl) hm hs (xk_l fun y_60 t_59 h => ?_)
              refine x_goto (tgt := 497) dL_act_406 (by decide) ?_
              exact x_lret dL_act_497 hr ht ⟨_, rfl, h⟩
        · have h := h2 q
          refine x_aload_n 1 dL_act_339 rfl rfl ?_
          refine x_bipush (v := (7 : Int32)) dL_act_340 (by decide) ?_
          refine x_iload 4 dL_act_342 rfl ?_
          refine x_bipush (v := (12 : Int32)) dL_act_344 (by decide) ?_
          refine x_invS (as := [.int x4, .int (12 : Int32)]) (rest := [.int (7 : Int32), .ref a0]) dL_act_346 xc_L_act_84 (M_L_low hl h) rfl rfl (Nat.le_of_ble_eq_true rfl) (Nat.zero_le _) (Nat.zero_le _) (xk_i fun x_64 t_63 h => ?_)
          refine x_iconst (v := (0 : Int32)) dL_act_349 (by decide) ?_
          refine x_iconst (v := (0 : Int32)) dL_act_350 (by decide) ?_
          obtain ⟨m_67, z_68, hm, hs, h⟩ := h
          refine x_invSH (as := [.ref a0, .int (7 : Int32), .int x_64, .int (0 : Int32), .int (0 : Int32)]) (rest := []) dL_act_351 xc_L_act_91 (M_L_does hl h) rfl rfl (Nat.le_of_ble_eq_true rfl) hm hs (xk_l fun y_66 t_65 h => ?_)
          refine x_goto (tgt := 497) dL_act_354 (by decide) ?_
          exact x_lret dL_act_497 hr ht ⟨_, rfl, h⟩
      · have h := h2 q
        refine x_aload_n 1 dL_act_305 rfl rfl ?_
        refine x_bipush (v := (6 : Int32)) dL_act_306 (by decide) ?_
        refine x_iload 5 dL_act_308 rfl ?_
        refine x_iload 4 dL_act_310 rfl ?_
        refine x_iconst (v := (2 : Int32)) dL_act_312 (by decide) ?_
        refine x_ishr dL_act_313 ?_
        refine x_iload_n 2 dL_act_314 rfl rfl ?_
        obtain ⟨h1, h2⟩ := h
        refine x_if_eq (tgt := 322) dL_act_315 (by decide) (fun q => ?_) (fun q => ?_)
        · have h := h1 q
          refine x_iconst (v := (3 : Int32)) dL_act_322 (by decide) ?_
          refine x_invS (as := [.int (x4 >>> ((2 : Int32) &&& 31)), .int (3 : Int32)]) (rest := [.int x5, .int (6 : Int32), .ref a0]) dL_act_323 xc_L_act_84 (M_L_low hl h) rfl rfl (Nat.le_of_ble_eq_true rfl) (Nat.zero_le _) (Nat.zero_le _) (xk_i fun x_70 t_69 h => ?_)
          refine x_iconst (v := (0 : Int32)) dL_act_326 (by decide) ?_
          obtain ⟨m_73, z_74, hm, hs, h⟩ := h
          refine x_invSH (as := [.ref a0, .int (6 : Int32), .int x5, .int x_70, .int (0 : Int32)]) (rest := []) dL_act_327 xc_L_act_91 (M_L_does hl h) rfl rfl (Nat.le_of_ble_eq_true rfl) hm hs (xk_l fun y_72 t_71 h => ?_)
          refine x_goto (tgt := 497) dL_act_330 (by decide) ?_
          exact x_lret dL_act_497 hr ht ⟨_, rfl, h⟩
        · have h := h2 q
          refine x_iconst (v := (5 : Int32)) dL_act_318 (by decide) ?_
          refine x_goto (tgt := 323) dL_act_319 (by decide) ?_
          refine x_invS (as := [.int (x4 >>> ((2 : Int32) &&& 31)), .int (5 : Int32)]) (rest := [.int x5, .int (6 : Int32), .ref a0]) dL_act_323 xc_L_act_84 (M_L_low hl h) rfl rfl (Nat.le_of_ble_eq_true rfl) (Nat.zero_le _) (Nat.zero_le _) (xk_i fun x_76 t_75 h => ?_)
          refine x_iconst (v := (0 : Int32)) dL_act_326 (by decide) ?_
          obtain ⟨m_79, z_80, hm, hs, h⟩ := h
          refine x_invSH (as := [.ref a0, .int (6 : Int32), .int x5, .int x_76, .int (0 : Int32)]) (rest := []) dL_act_327 xc_L_act_91 (M_L_does hl h) rfl rfl (Nat.le_of_ble_eq_true rfl) hm hs (xk_l fun y_78 t_77 h => ?_)
          refine x_goto (tgt := 497) dL_act_330 (by decide) ?_
          exact x_lret dL_act_497 hr ht ⟨_, rfl, h⟩
  · have h := h2 q
    refine x_iload_n 3 dL_act_115 rfl rfl ?_
    refine x_iconst (v := (3 : Int32)) dL_act_116 (by decide) ?_
    obtain ⟨h1, h2⟩ := h
    refine x_icmp_ge (tgt := 170) dL_act_117 (by decide) (fun q => ?_) (fun q => ?_)
    · have h := h1 q
      refine x_iload_n 3 dL_act_170 rfl rfl ?_
      refine x_iconst (v := (3 : Int32)) dL_act_171 (by decide) ?_
      obtain ⟨h1, h2⟩ := h
      refine x_icmp_ne (tgt := 187) dL_act_172 (by decide) (fun q => ?_) (fun q => ?_)
      · have h := h1 q
        refine x_iload_n 3 dL_act_187 rfl rfl ?_
        refine x_iconst (v := (4 : Int32)) dL_act_188 (by decide) ?_
        obtain ⟨h1, h2⟩ := h
        refine x_icmp_ne (tgt := 223) dL_act_189 (by decide) (fun q => ?_) (fun q => ?_)
        · have h := h1 q
          refine x_iload_n 3 dL_act_223 rfl rfl ?_
          refine x_bipush (v := (9 : Int32)) dL_act_224 (by decide) ?_
          obtain ⟨h1, h2⟩ := h
          refine x_icmp_ge (tgt := 250) dL_act_226 (by decide) (fun q => ?_) (fun q => ?_)
          · have h := h1 q
            refine x_aload_n 1 dL_act_250 rfl rfl ?_
            refine x_iconst (v := (5 : Int32)) dL_act_251 (by decide) ?_
            refine x_iload_n 2 dL_act_252 rfl rfl ?_
            obtain ⟨h1, h2⟩ := h
            refine x_if_eq (tgt := 261) dL_act_253 (by decide) (fun q => ?_) (fun q => ?_)
            · have h := h1 q
              refine x_iconst (v := (1 : Int32)) dL_act_261 (by decide) ?_
              refine x_iload 4 dL_act_262 rfl ?_
              refine x_iconst (v := (2 : Int32)) dL_act_264 (by decide) ?_
              refine x_ishr dL_act_265 ?_
              refine x_iload 4 dL_act_266 rfl ?_
              refine x_bipush (v := (9 : Int32)) dL_act_268 (by decide) ?_
              refine x_ishr dL_act_270 ?_
              refine x_iconst (v := (1 : Int32)) dL_act_271 (by decide) ?_
              refine x_iand dL_act_272 ?_
              obtain ⟨h1, h2⟩ := h
              refine x_if_ne (tgt := 281) dL_act_273 (by decide) (fun q => ?_) (fun q => ?_)
              · have h := h1 q
                refine x_bipush (v := (50 : Int32)) dL_act_281 (by decide) ?_
                refine x_invS (as := [.int (x4 >>> ((2 : Int32) &&& 31)), .int (50 : Int32)]) (rest := [.int (1 : Int32), .int (5 : Int32), .ref a0]) dL_act_283 xc_L_act_84 (M_L_low hl h) rfl rfl (Nat.le_of_ble_eq_true rfl) (Nat.zero_le _) (Nat.zero_le _) (xk_i fun x_82 t_81 h => ?_)
                refine x_iadd dL_act_286 ?_
                refine x_iconst (v := (0 : Int32)) dL_act_287 (by decide) ?_
                refine x_iconst (v := (0 : Int32)) dL_act_288 (by decide) ?_
                obtain ⟨m_85, z_86, hm, hs, h⟩ := h
                refine x_invSH (as := [.ref a0, .int (5 : Int32), .int ((1 : Int32) + x_82), .int (0 : Int32), .int (0 : Int32)]) (rest := []) dL_act_289 xc_L_act_91 (M_L_does hl h) rfl rfl (Nat.le_of_ble_eq_true rfl) hm hs (xk_l fun y_84 t_83 h => ?_)
                exact x_lret dL_act_292 hr ht ⟨_, rfl, h⟩
              · have h := h2 q
                refine x_ldc dL_act_276 xw1138 ?_
                refine x_goto (tgt := 283) dL_act_278 (by decide) ?_
                refine x_invS (as := [.int (x4 >>> ((2 : Int32) &&& 31)), .int (100000 : Int32)]) (rest := [.int (1 : Int32), .int (5 : Int32), .ref a0]) dL_act_283 xc_L_act_84 (M_L_low hl h) rfl rfl (Nat.le_of_ble_eq_true rfl) (Nat.zero_le _) (Nat.zero_le _) (xk_i fun x_88 t_87 h => ?_)
                refine x_iadd dL_act_286 ?_
                refine x_iconst (v := (0 : Int32)) dL_act_287 (by decide) ?_
                refine x_iconst (v := (0 : Int32)) dL_act_288 (by decide) ?_
                obtain ⟨m_91, z_92, hm, hs, h⟩ := h
                refine x_invSH (as := [.ref a0, .int (5 : Int32), .int ((1 : Int32) + x_88), .int (0 : Int32), .int (0 : Int32)]) (rest := []) dL_act_289 xc_L_act_91 (M_L_does hl h) rfl rfl (Nat.le_of_ble_eq_true rfl) hm hs (xk_l fun y_90 t_89 h => ?_)
                exact x_lret dL_act_292 hr ht ⟨_, rfl, h⟩
            · have h := h2 q
              refine x_iload 4 dL_act_256 rfl ?_
              refine x_goto (tgt := 287) dL_act_258 (by decide) ?_
              refine x_iconst (v := (0 : Int32)) dL_act_287 (by decide) ?_
              refine x_iconst (v := (0 : Int32)) dL_act_288 (by decide) ?_
              obtain ⟨m_95, z_96, hm, hs, h⟩ := h
              refine x_invSH (as := [.ref a0, .int (5 : Int32), .int x4, .int (0 : Int32), .int (0 : Int32)]) (rest := []) dL_act_289 xc_L_act_91 (M_L_does hl h) rfl rfl (Nat.le_of_ble_eq_true rfl) hm hs (xk_l fun y_94 t_93 h => ?_)
              exact x_lret dL_act_292 hr ht ⟨_, rfl, h⟩
          · have h := h2 q
            refine x_aload_n 1 dL_act_229 rfl rfl ?_
            refine x_iconst (v := (4 : Int32)) dL_act_230 (by decide) ?_
            refine x_iload 5 dL_act_231 rfl ?_
            refine x_iload 4 dL_act_233 rfl ?_
            refine x_iconst (v := (2 : Int32)) dL_act_235 (by decide) ?_
            refine x_ishr dL_act_236 ?_
            refine x_sipush (v := (400 : Int32)) dL_act_237 (by decide) ?_
            refine x_invS (as := [.int (x4 >>> ((2 : Int32) &&& 31)), .int (400 : Int32)]) (rest := [.int x5, .int (4 : Int32), .ref a0]) dL_act_240 xc_L_act_84 (M_L_low hl h) rfl rfl (Nat.le_of_ble_eq_true rfl) (Nat.zero_le _) (Nat.zero_le _) (xk_i fun x_98 t_97 h => ?_)
            refine x_iconst (v := (0 : Int32)) dL_act_243 (by decide) ?_
            obtain ⟨m_101, z_102, hm, hs, h⟩ := h
            refine x_invSH (as := [.ref a0, .int (4 : Int32), .int x5, .int x_98, .int (0 : Int32)]) (rest := []) dL_act_244 xc_L_act_91 (M_L_does hl h) rfl rfl (Nat.le_of_ble_eq_true rfl) hm hs (xk_l fun y_100 t_99 h => ?_)
            refine x_goto (tgt := 292) dL_act_247 (by decide) ?_
            exact x_lret dL_act_292 hr ht ⟨_, rfl, h⟩
        · have h := h2 q
          refine x_aload_n 1 dL_act_192 rfl rfl ?_
          refine x_iconst (v := (3 : Int32)) dL_act_193 (by decide) ?_
          refine x_bipush (v := (50 : Int32)) dL_act_194 (by decide) ?_
          refine x_iload 4 dL_act_196 rfl ?_
          refine x_iload_n 2 dL_act_198 rfl rfl ?_
          obtain ⟨h1, h2⟩ := h
          refine x_if_eq (tgt := 208) dL_act_199 (by decide) (fun q => ?_) (fun q => ?_)
          · have h := h1 q
            refine x_sipush (v := (151 : Int32)) dL_act_208 (by decide) ?_
            refine x_invS (as := [.int x4, .int (151 : Int32)]) (rest := [.int (50 : Int32), .int (3 : Int32), .ref a0]) dL_act_211 xc_L_act_84 (M_L_low hl h) rfl rfl (Nat.le_of_ble_eq_true rfl) (Nat.zero_le _) (Nat.zero_le _) (xk_i fun x_104 t_103 h => ?_)
            refine x_iadd dL_act_214 ?_
            refine x_iconst (v := (0 : Int32)) dL_act_215 (by decide) ?_
            refine x_iconst (v := (0 : Int32)) dL_act_216 (by decide) ?_
            obtain ⟨m_107, z_108, hm, hs, h⟩ := h
            refine x_invSH (as := [.ref a0, .int (3 : Int32), .int ((50 : Int32) + x_104), .int (0 : Int32), .int (0 : Int32)]) (rest := []) dL_act_217 xc_L_act_91 (M_L_does hl h) rfl rfl (Nat.le_of_ble_eq_true rfl) hm hs (xk_l fun y_106 t_105 h => ?_)
            refine x_goto (tgt := 292) dL_act_220 (by decide) ?_
            exact x_lret dL_act_292 hr ht ⟨_, rfl, h⟩
          · have h := h2 q
            refine x_sipush (v := (190 : Int32)) dL_act_202 (by decide) ?_
            refine x_goto (tgt := 211) dL_act_205 (by decide) ?_
            refine x_invS (as := [.int x4, .int (190 : Int32)]) (rest := [.int (50 : Int32), .int (3 : Int32), .ref a0]) dL_act_211 xc_L_act_84 (M_L_low hl h) rfl rfl (Nat.le_of_ble_eq_true rfl) (Nat.zero_le _) (Nat.zero_le _) (xk_i fun x_110 t_109 h => ?_)
            refine x_iadd dL_act_214 ?_
            refine x_iconst (v := (0 : Int32)) dL_act_215 (by decide) ?_
            refine x_iconst (v := (0 : Int32)) dL_act_216 (by decide) ?_
            obtain ⟨m_113, z_114, hm, hs, h⟩ := h
            refine x_invSH (as := [.ref a0, .int (3 : Int32), .int ((50 : Int32) + x_110), .int (0 : Int32), .int (0 : Int32)]) (rest := []) dL_act_217 xc_L_act_91 (M_L_does hl h) rfl rfl (Nat.le_of_ble_eq_true rfl) hm hs (xk_l fun y_112 t_111 h => ?_)
            refine x_goto (tgt := 292) dL_act_220 (by decide) ?_
            exact x_lret dL_act_292 hr ht ⟨_, rfl, h⟩
      · have h := h2 q
        refine x_aload_n 1 dL_act_175 rfl rfl ?_
        refine x_iconst (v := (2 : Int32)) dL_act_176 (by decide) ?_
        refine x_iload 6 dL_act_177 rfl ?_
        refine x_iconst (v := (0 : Int32)) dL_act_179 (by decide) ?_
        refine x_iconst (v := (0 : Int32)) dL_act_180 (by decide) ?_
        obtain ⟨m_117, z_118, hm, hs, h⟩ := h
        refine x_invSH (as := [.ref a0, .int (2 : Int32), .int x6, .int (0 : Int32), .int (0 : Int32)]) (rest := []) dL_act_181 xc_L_act_91 (M_L_does hl h) rfl rfl (Nat.le_of_ble_eq_true rfl) hm hs (xk_l fun y_116 t_115 h => ?_)
        refine x_goto (tgt := 292) dL_act_184 (by decide) ?_
        exact x_lret dL_act_292 hr ht ⟨_, rfl, h⟩
    · have h := h2 q
      refine x_aload_n 1 dL_act_120 rfl rfl ?_
      refine x_iconst (v := (1 : Int32)) dL_act_121 (by decide) ?_
      refine x_iload 5 dL_act_122 rfl ?_
      refine x_iload_n 2 dL_act_124 rfl rfl ?_
      obtain ⟨h1, h2⟩ := h
      refine x_if_eq (tgt := 133) dL_act_125 (by decide) (fun q => ?_) (fun q => ?_)
      · have h := h1 q
        refine x_iload 4 dL_act_133 rfl ?_
        refine x_iconst (v := (3 : Int32)) dL_act_135 (by decide) ?_
        refine x_ishr dL_act_136 ?_
        refine x_iconst (v := (3 : Int32)) dL_act_137 (by decide) ?_
        refine x_iand dL_act_138 ?_
        obtain ⟨h1, h2⟩ := h
        refine x_if_ne (tgt := 154) dL_act_139 (by decide) (fun q => ?_) (fun q => ?_)
        · have h := h1 q
          refine x_iload 4 dL_act_154 rfl ?_
          refine x_iconst (v := (5 : Int32)) dL_act_156 (by decide) ?_
          refine x_ishr dL_act_157 ?_
          refine x_ldc dL_act_158 xw1137 ?_
          refine x_invS (as := [.int (x4 >>> ((5 : Int32) &&& 31)), .int (90000 : Int32)]) (rest := [.int x5, .int (1 : Int32), .ref a0]) dL_act_160 xc_L_act_84 (M_L_low hl h) rfl rfl (Nat.le_of_ble_eq_true rfl) (Nat.zero_le _) (Nat.zero_le _) (xk_i fun x_120 t_119 h => ?_)
          refine x_iconst (v := (0 : Int32)) dL_act_163 (by decide) ?_
          obtain ⟨m_123, z_124, hm, hs, h⟩ := h
          refine x_invSH (as := [.ref a0, .int (1 : Int32), .int x5, .int x_120, .int (0 : Int32)]) (rest := []) dL_act_164 xc_L_act_91 (M_L_does hl h) rfl rfl (Nat.le_of_ble_eq_true rfl) hm hs (xk_l fun y_122 t_121 h => ?_)
          refine x_goto (tgt := 292) dL_act_167 (by decide) ?_
          exact x_lret dL_act_292 hr ht ⟨_, rfl, h⟩
        · have h := h2 q
          refine x_iload 4 dL_act_142 rfl ?_
          refine x_iconst (v := (5 : Int32)) dL_act_144 (by decide) ?_
          refine x_ishr dL_act_145 ?_
          refine x_ldc dL_act_146 xw1136 ?_
          refine x_invS (as := [.int (x4 >>> ((5 : Int32) &&& 31)), .int (500001 : Int32)]) (rest := [.int x5, .int (1 : Int32), .ref a0]) dL_act_148 xc_L_act_84 (M_L_low hl h) rfl rfl (Nat.le_of_ble_eq_true rfl) (Nat.zero_le _) (Nat.zero_le _) (xk_i fun x_126 t_125 h => ?_)
          refine x_goto (tgt := 163) dL_act_151 (by decide) ?_
          refine x_iconst (v := (0 : Int32)) dL_act_163 (by decide) ?_
          obtain ⟨m_129, z_130, hm, hs, h⟩ := h
          refine x_invSH (as := [.ref a0, .int (1 : Int32), .int x5, .int x_126, .int (0 : Int32)]) (rest := []) dL_act_164 xc_L_act_91 (M_L_does hl h) rfl rfl (Nat.le_of_ble_eq_true rfl) hm hs (xk_l fun y_128 t_127 h => ?_)
          refine x_goto (tgt := 292) dL_act_167 (by decide) ?_
          exact x_lret dL_act_292 hr ht ⟨_, rfl, h⟩
      · have h := h2 q
        refine x_iload 4 dL_act_128 rfl ?_
        refine x_goto (tgt := 163) dL_act_130 (by decide) ?_
        refine x_iconst (v := (0 : Int32)) dL_act_163 (by decide) ?_
        obtain ⟨m_133, z_134, hm, hs, h⟩ := h
        refine x_invSH (as := [.ref a0, .int (1 : Int32), .int x5, .int x4, .int (0 : Int32)]) (rest := []) dL_act_164 xc_L_act_91 (M_L_does hl h) rfl rfl (Nat.le_of_ble_eq_true rfl) hm hs (xk_l fun y_132 t_131 h => ?_)
        refine x_goto (tgt := 292) dL_act_167 (by decide) ?_
        exact x_lret dL_act_292 hr ht ⟨_, rfl, h⟩
def V_L_act_78 (E : Nat → Nat) (K : Int64 → xT → Prop) (a0 : Nat) (x2 : Int32) (x3 : Int32) (x4 : Int32) (x5 : Int32) (xs0 : Int32) (t : xT) (rc rs : Nat) : Prop :=
  ((x2 = 0 → (V_L_low_0 (fun x_2 t_1 => V_L_act_107 E K a0 x2 x3 x4 x5 xs0 x_2 t_1 rc rs) (x4 >>> ((3 : Int32) &&& 31)) (9 : Int32) t)) ∧ (¬ x2 = 0 → (V_L_low_0 (fun x_4 t_3 => V_L_act_107 E K a0 x2 x3 x4 x5 xs0 (x_4 - (1 : Int32)) t_3 rc rs) (x4 >>> ((3 : Int32) &&& 31)) (30 : Int32) t)))
set_option maxRecDepth 20000 in
theorem S_L_act_78 {Γ : xΓ} {K : Int64 → xT → Prop} (hl : (gl Γ).stackTraces = false) (ht : (gM Γ).sig.returnType = (some .long)) (hr : xRet Γ (xKl K)) {a0 : Nat} {x2 : Int32} {x3 : Int32} {x4 : Int32} {x5 : Int32} {xs0 : Int32} {t : xT} {rc rs : Nat} (h : V_L_act_78 (gG Γ).2.2.2 K a0 x2 x3 x4 x5 xs0 t rc rs) : xX Γ k_L_act 78 [(0, .ref a0), (2, .int x2), (3, .int x3), (4, .int x4), (5, .int x5)] [.int xs0] t rc rs := by
  unfold V_L_act_78 at h
  refine x_istore (L' := [(6, .int xs0), (0, .ref a0), (2, .int x2), (3, .int x3), (4, .int x4), (5, .int x5)]) dL_act_78 (by decide) rfl ?_
  refine x_iload_n 2 dL_act_80 rfl rfl ?_
  obtain ⟨h1, h2⟩ := h
  refine x_if_eq (tgt := 98) dL_act_81 (by decide) (fun q => ?_) (fun q => ?_)
  · have h := h1 q
    refine x_iload 4 dL_act_98 rfl ?_
    refine x_iconst (v := (3 : Int32)) dL_act_100 (by decide) ?_
    refine x_ishr dL_act_101 ?_
    refine x_bipush (v := (9 : Int32)) dL_act_102 (by decide) ?_
    refine x_invS (as := [.int (x4 >>> ((3 : Int32) &&& 31)), .int (9 : Int32)]) (rest := []) dL_act_104 xc_L_act_84 (M_L_low hl h) rfl rfl (Nat.le_of_ble_eq_true rfl) (Nat.zero_le _) (Nat.zero_le _) (xk_i fun x_2 t_1 h => ?_)
    refine x_sub (L' := [(0, .ref a0), (2, .int x2), (3, .int x3), (4, .int x4), (5, .int x5), (6, .int xs0)]) [1, 2, 3, 4, 5, 0] rfl ?_
    exact S_L_act_107 hl ht hr  h
  · have h := h2 q
    refine x_iload 4 dL_act_84 rfl ?_
    refine x_iconst (v := (3 : Int32)) dL_act_86 (by decide) ?_
    refine x_ishr dL_act_87 ?_
    refine x_bipush (v := (30 : Int32)) dL_act_88 (by decide) ?_
    refine x_invS (as := [.int (x4 >>> ((3 : Int32) &&& 31)), .int (30 : Int32)]) (rest := []) dL_act_90 xc_L_act_84 (M_L_low hl h) rfl rfl (Nat.le_of_ble_eq_true rfl) (Nat.zero_le _) (Nat.zero_le _) (xk_i fun x_4 t_3 h => ?_)
    refine x_iconst (v := (1 : Int32)) dL_act_93 (by decide) ?_
    refine x_isub dL_act_94 ?_
    refine x_goto (tgt := 107) dL_act_95 (by decide) ?_
    refine x_sub (L' := [(0, .ref a0), (2, .int x2), (3, .int x3), (4, .int x4), (5, .int x5), (6, .int xs0)]) [1, 2, 3, 4, 5, 0] rfl ?_
    exact S_L_act_107 hl ht hr  h
def V_L_act_17 (E : Nat → Nat) (K : Int64 → xT → Prop) (a0 : Nat) (x1 : Int32) (xs0 : Int32) (t : xT) (rc rs : Nat) : Prop :=
  (V_L_low_0 (fun x_2 t_1 => ((xs0 = 0 → (V_L_low_0 (fun x_4 t_3 => ((xs0 = 0 → (V_L_low_0 (fun x_6 t_5 => V_L_act_78 E K a0 xs0 x_2 (x1 >>> ((6 : Int32) &&& 31)) x_4 x_6 t_5 rc rs) (x1 >>> ((6 : Int32) &&& 31)) (6 : Int32) t_3)) ∧ (¬ xs0 = 0 → (V_L_low_0 (fun x_8 t_7 => V_L_act_78 E K a0 xs0 x_2 (x1 >>> ((6 : Int32) &&& 31)) x_4 (x_8 - (1 : Int32)) t_7 rc rs) (x1 >>> ((6 : Int32) &&& 31)) (14 : Int32) t_3)))) (x1 >>> ((6 : Int32) &&& 31)) (4 : Int32) t_1)) ∧ (¬ xs0 = 0 → (V_L_low_0 (fun x_10 t_9 => ((xs0 = 0 → (V_L_low_0 (fun x_12 t_11 => V_L_act_78 E K a0 xs0 x_2 (x1 >>> ((6 : Int32) &&& 31)) (x_10 - (1 : Int32)) x_12 t_11 rc rs) (x1 >>> ((6 : Int32) &&& 31)) (6 : Int32) t_9)) ∧ (¬ xs0 = 0 → (V_L_low_0 (fun x_14 t_13 => V_L_act_78 E K a0 xs0 x_2 (x1 >>> ((6 : Int32) &&& 31)) (x_10 - (1 : Int32)) (x_14 - (1 : Int32)) t_13 rc rs) (x1 >>> ((6 : Int32) &&& 31)) (14 : Int32) t_9)))) (x1 >>> ((6 : Int32) &&& 31)) (8 : Int32) t_1)))) x1 (40 : Int32) t)
set_option maxRecDepth 20000 in
theorem S_L_act_17 {Γ : xΓ} {K : Int64 → xT → Prop} (hl : (gl Γ).stackTraces = false) (ht : (gM Γ).sig.returnType = (some .long)) (hr : xRet Γ (xKl K)) {a0 : Nat} {x1 : Int32} {xs0 : Int32} {t : xT} {rc rs : Nat} (h : V_L_act_17 (gG Γ).2.2.2 K a0 x1 xs0 t rc rs) : xX Γ k_L_act 17 [(0, .ref a0), (1, .int x1)] [.int xs0] t rc rs := by
  unfold V_L_act_17 at h
  refine x_istore_n (L' := [(2, .int xs0), (0, .ref a0), (1, .int x1)]) dL_act_17 rfl (by decide) rfl ?_
  refine x_iload_n 2 dL_act_18 rfl rfl ?_
  refine x_bipush (v := (40 : Int32)) dL_act_19 (by decide) ?_
  refine x_invS (as := [.int x1, .int (40 : Int32)]) (rest := []) dL_act_21 xc_L_act_84 (M_L_low hl h) rfl rfl (Nat.le_of_ble_eq_true rfl) (Nat.zero_le _) (Nat.zero_le _) (xk_i fun x_2 t_1 h => ?_)
  refine x_istore_n (L' := [(3, .int x_2), (2, .int xs0), (0, .ref a0), (1, .int x1)]) dL_act_24 rfl (by decide) rfl ?_
  refine x_iload_n 3 dL_act_25 rfl rfl ?_
  refine x_bipush (v := (6 : Int32)) dL_act_26 (by decide) ?_
  refine x_ishr dL_act_28 ?_
  refine x_istore (L' := [(4, .int (x1 >>> ((6 : Int32) &&& 31))), (3, .int x_2), (2, .int xs0), (0, .ref a0), (1, .int x1)]) dL_act_29 (by decide) rfl ?_
  refine x_iload_n 2 dL_act_31 rfl rfl ?_
  obtain ⟨h1, h2⟩ := h
  refine x_if_eq (tgt := 47) dL_act_32 (by decide) (fun q => ?_) (fun q => ?_)
  · have h := h1 q
    refine x_iload 0 dL_act_47 rfl ?_
    refine x_iconst (v := (4 : Int32)) dL_act_49 (by decide) ?_
    refine x_invS (as := [.int (x1 >>> ((6 : Int32) &&& 31)), .int (4 : Int32)]) (rest := []) dL_act_50 xc_L_act_84 (M_L_low hl h) rfl rfl (Nat.le_of_ble_eq_true rfl) (Nat.zero_le _) (Nat.zero_le _) (xk_i fun x_4 t_3 h => ?_)
    refine x_istore (L' := [(5, .int x_4), (4, .int (x1 >>> ((6 : Int32) &&& 31))), (3, .int x_2), (2, .int xs0), (0, .ref a0), (1, .int x1)]) dL_act_53 (by decide) rfl ?_
    refine x_iload_n 3 dL_act_55 rfl rfl ?_
    obtain ⟨h1, h2⟩ := h
    refine x_if_eq (tgt := 71) dL_act_56 (by decide) (fun q => ?_) (fun q => ?_)
    · have h := h1 q
      refine x_iload 1 dL_act_71 rfl ?_
      refine x_bipush (v := (6 : Int32)) dL_act_73 (by decide) ?_
      refine x_invS (as := [.int (x1 >>> ((6 : Int32) &&& 31)), .int (6 : Int32)]) (rest := []) dL_act_75 xc_L_act_84 (M_L_low hl h) rfl rfl (Nat.le_of_ble_eq_true rfl) (Nat.zero_le _) (Nat.zero_le _) (xk_i fun x_6 t_5 h => ?_)
      refine x_sub (L' := [(0, .ref a0), (2, .int xs0), (3, .int x_2), (4, .int (x1 >>> ((6 : Int32) &&& 31))), (5, .int x_4)]) [4, 3, 2, 1, 0] rfl ?_
      exact S_L_act_78 hl ht hr  h
    · have h := h2 q
      refine x_iload 1 dL_act_59 rfl ?_
      refine x_bipush (v := (14 : Int32)) dL_act_61 (by decide) ?_
      refine x_invS (as := [.int (x1 >>> ((6 : Int32) &&& 31)), .int (14 : Int32)]) (rest := []) dL_act_63 xc_L_act_84 (M_L_low hl h) rfl rfl (Nat.le_of_ble_eq_true rfl) (Nat.zero_le _) (Nat.zero_le _) (xk_i fun x_8 t_7 h => ?_)
      refine x_iconst (v := (1 : Int32)) dL_act_66 (by decide) ?_
      refine x_isub dL_act_67 ?_
      refine x_goto (tgt := 78) dL_act_68 (by decide) ?_
      refine x_sub (L' := [(0, .ref a0), (2, .int xs0), (3, .int x_2), (4, .int (x1 >>> ((6 : Int32) &&& 31))), (5, .int x_4)]) [4, 3, 2, 1, 0] rfl ?_
      exact S_L_act_78 hl ht hr  h
  · have h := h2 q
    refine x_iload 0 dL_act_35 rfl ?_
    refine x_bipush (v := (8 : Int32)) dL_act_37 (by decide) ?_
    refine x_invS (as := [.int (x1 >>> ((6 : Int32) &&& 31)), .int (8 : Int32)]) (rest := []) dL_act_39 xc_L_act_84 (M_L_low hl h) rfl rfl (Nat.le_of_ble_eq_true rfl) (Nat.zero_le _) (Nat.zero_le _) (xk_i fun x_10 t_9 h => ?_)
    refine x_iconst (v := (1 : Int32)) dL_act_42 (by decide) ?_
    refine x_isub dL_act_43 ?_
    refine x_goto (tgt := 53) dL_act_44 (by decide) ?_
    refine x_istore (L' := [(5, .int (x_10 - (1 : Int32))), (4, .int (x1 >>> ((6 : Int32) &&& 31))), (3, .int x_2), (2, .int xs0), (0, .ref a0), (1, .int x1)]) dL_act_53 (by decide) rfl ?_
    refine x_iload_n 3 dL_act_55 rfl rfl ?_
    obtain ⟨h1, h2⟩ := h
    refine x_if_eq (tgt := 71) dL_act_56 (by decide) (fun q => ?_) (fun q => ?_)
    · have h := h1 q
      refine x_iload 1 dL_act_71 rfl ?_
      refine x_bipush (v := (6 : Int32)) dL_act_73 (by decide) ?_
      refine x_invS (as := [.int (x1 >>> ((6 : Int32) &&& 31)), .int (6 : Int32)]) (rest := []) dL_act_75 xc_L_act_84 (M_L_low hl h) rfl rfl (Nat.le_of_ble_eq_true rfl) (Nat.zero_le _) (Nat.zero_le _) (xk_i fun x_12 t_11 h => ?_)
      refine x_sub (L' := [(0, .ref a0), (2, .int xs0), (3, .int x_2), (4, .int (x1 >>> ((6 : Int32) &&& 31))), (5, .int (x_10 - (1 : Int32)))]) [4, 3, 2, 1, 0] rfl ?_
      exact S_L_act_78 hl ht hr  h
    · have h := h2 q
      refine x_iload 1 dL_act_59 rfl ?_
      refine x_bipush (v := (14 : Int32)) dL_act_61 (by decide) ?_
      refine x_invS (as := [.int (x1 >>> ((6 : Int32) &&& 31)), .int (14 : Int32)]) (rest := []) dL_act_63 xc_L_act_84 (M_L_low hl h) rfl rfl (Nat.le_of_ble_eq_true rfl) (Nat.zero_le _) (Nat.zero_le _) (xk_i fun x_14 t_13 h => ?_)
      refine x_iconst (v := (1 : Int32)) dL_act_66 (by decide) ?_
      refine x_isub dL_act_67 ?_
      refine x_goto (tgt := 78) dL_act_68 (by decide) ?_
      refine x_sub (L' := [(0, .ref a0), (2, .int xs0), (3, .int x_2), (4, .int (x1 >>> ((6 : Int32) &&& 31))), (5, .int (x_10 - (1 : Int32)))]) [4, 3, 2, 1, 0] rfl ?_
      exact S_L_act_78 hl ht hr  h
def V_L_act_0 (E : Nat → Nat) (K : Int64 → xT → Prop) (a0 : Nat) (x1 : Int32) (t : xT) (rc rs : Nat) : Prop :=
  ((¬ ((x1 >>> ((18 : Int32) &&& 31)) &&& (7 : Int32)) = (7 : Int32) → V_L_act_17 E K a0 x1 (0 : Int32) t rc rs) ∧ (((x1 >>> ((18 : Int32) &&& 31)) &&& (7 : Int32)) = (7 : Int32) → V_L_act_17 E K a0 x1 (1 : Int32) t rc rs))
set_option maxRecDepth 20000 in
theorem S_L_act_0 {Γ : xΓ} {K : Int64 → xT → Prop} (hl : (gl Γ).stackTraces = false) (ht : (gM Γ).sig.returnType = (some .long)) (hr : xRet Γ (xKl K)) {a0 : Nat} {x1 : Int32} {t : xT} {rc rs : Nat} (h : V_L_act_0 (gG Γ).2.2.2 K a0 x1 t rc rs) : xX Γ k_L_act 0 [(0, .ref a0), (1, .int x1)] [] t rc rs := by
  unfold V_L_act_0 at h
  refine x_iload_n 1 dL_act_0 rfl rfl ?_
  refine x_bipush (v := (18 : Int32)) dL_act_1 (by decide) ?_
  refine x_ishr dL_act_3 ?_
  refine x_bipush (v := (7 : Int32)) dL_act_4 (by decide) ?_
  refine x_iand dL_act_6 ?_
  refine x_bipush (v := (7 : Int32)) dL_act_7 (by decide) ?_
  obtain ⟨h1, h2⟩ := h
  refine x_icmp_ne (tgt := 16) dL_act_9 (by decide) (fun q => ?_) (fun q => ?_)
  · have h := h1 q
    refine x_iconst (v := (0 : Int32)) dL_act_16 (by decide) ?_
    exact S_L_act_17 hl ht hr  h
  · have h := h2 q
    refine x_iconst (v := (1 : Int32)) dL_act_12 (by decide) ?_
    refine x_goto (tgt := 17) dL_act_13 (by decide) ?_
    exact S_L_act_17 hl ht hr  h
theorem M_L_act {l : Launch} {G : xG} (hl : l.stackTraces = false) {a0 : Nat} {x1 : Int32} {t : xT} {K : Int64 → xT → Prop} {rc rs : Nat} (h : V_L_act_0 G.2.2.2 K a0 x1 t rc rs) : xMet l G yL_act k_L_act (some .long) [.ref a0, .int x1] t (xKl K) rc rs := xMet.of (by decide +kernel) rfl hl (Nat.le_of_ble_eq_true rfl) (fun Γ e1 e2 ht hn hr => by subst e1; subst e2; exact S_L_act_0 hl ht hr h)
def VS_L_areAlike_171 (E : Nat → Nat) (R29 : Nat → Nat → Int32 → Int32 → Int32 → Int32 → xT → Nat → Nat → Prop) (R171 : Nat → Nat → Int32 → Int32 → Int32 → Int32 → Int32 → xT → Nat → Nat → Prop) (K : Int32 → xT → Prop) (a0 : Nat) (a1 : Nat) (x2 : Int32) (x3 : Int32) (x4 : Int32) (x5 : Int32) (x6 : Int32) (t : xT) (rc rs : Nat) : Prop :=
  (((4 : Int32) ≤ x6 → R29 a0 a1 x2 x3 x4 (x5 + 1) t rc rs) ∧ (¬ (4 : Int32) ≤ x6 → ((x3 = 0 → R29 a0 a1 x2 x3 x4 (x5 + 1) t rc rs) ∧ (¬ x3 = 0 → (∃ m_3 z_4 : Nat, m_3 ≤ rc ∧ z_4 ≤ rs ∧ V_L_does_0 E (fun y_2 t_1 => (∃ m_7 z_8 : Nat, m_7 ≤ (rc - m_3) ∧ z_8 ≤ (rs - z_4) ∧ V_L_does_0 E (fun y_6 t_5 => ((¬ y_2 = y_6 → R171 a0 a1 x2 (0 : Int32) x4 x5 (x6 + 1) t_5 ((rc - m_3) - m_7) ((rs - z_4) - z_8)) ∧ (y_2 = y_6 → (V_L_low_0 (fun x_10 t_9 => (∃ m_13 z_14 : Nat, m_13 ≤ ((rc - m_3) - m_7) ∧ z_14 ≤ ((rs - z_4) - z_8) ∧ V_L_does_0 E (fun y_12 t_11 => (V_L_low_0 (fun x_16 t_15 => (∃ m_19 z_20 : Nat, m_19 ≤ (((rc - m_3) - m_7) - m_13) ∧ z_20 ≤ (((rs - z_4) - z_8) - z_14) ∧ V_L_does_0 E (fun y_18 t_17 => ((¬ y_12 = y_18 → R171 a0 a1 x2 (0 : Int32) x4 x5 (x6 + 1) t_17 ((((rc - m_3) - m_7) - m_13) - m_19) ((((rs - z_4) - z_8) - z_14) - z_20)) ∧ (y_12 = y_18 → R171 a0 a1 x2 (1 : Int32) x4 x5 (x6 + 1) t_17 ((((rc - m_3) - m_7) - m_13) - m_19) ((((rs - z_4) - z_8) - z_14) - z_20)))) a1 (16 : Int32) x5 x4 x_16 t_15 m_19 z_20)) (x2 + ((7 : Int32) * x6)) (60 : Int32) t_11)) a0 (16 : Int32) x5 x4 x_10 t_9 m_13 z_14)) (x2 + ((7 : Int32) * x6)) (60 : Int32) t_5)))) a1 (15 : Int32) x5 x4 x6 t_1 m_7 z_8)) a0 (15 : Int32) x5 x4 x6 t m_3 z_4)))))
def V_L_areAlike_171 (E : Nat → Nat) (R29 : Nat → Nat → Int32 → Int32 → Int32 → Int32 → xT → Nat → Nat → Prop) (K : Int32 → xT → Prop) (n : Nat) : Nat → Nat → Int32 → Int32 → Int32 → Int32 → Int32 → xT → Nat → Nat → Prop := Nat.rec (fun _ _ _ _ _ _ _ _ _ _ => False) (fun _ ih => VS_L_areAlike_171 E R29 ih K) n
set_option maxRecDepth 20000 in
theorem S_L_areAlike_171 {Γ : xΓ} {R29 : Nat → Nat → Int32 → Int32 → Int32 → Int32 → xT → Nat → Nat → Prop} {K : Int32 → xT → Prop} (hl : (gl Γ).stackTraces = false) (ht : (gM Γ).sig.returnType = (some .boolean)) (hr : xRet Γ (xKi K)) (hR29 : ∀ (a0 : Nat) (a1 : Nat) (x2 : Int32) (x3 : Int32) (x4 : Int32) (x5 : Int32) (t : xT) (rc rs : Nat), R29 a0 a1 x2 x3 x4 x5 t rc rs → xX Γ k_L_areAlike 29 [(0, .ref a0), (1, .ref a1), (2, .int x2), (3, .int x3), (4, .int x4), (5, .int x5)] [] t rc rs) : ∀ (n : Nat) (a0 : Nat) (a1 : Nat) (x2 : Int32) (x3 : Int32) (x4 : Int32) (x5 : Int32) (x6 : Int32) (t : xT) (rc rs : Nat), V_L_areAlike_171 (gG Γ).2.2.2 R29 K n a0 a1 x2 x3 x4 x5 x6 t rc rs → xX Γ k_L_areAlike 171 [(0, .ref a0), (1, .ref a1), (2, .int x2), (3, .int x3), (4, .int x4), (5, .int x5), (6, .int x6)] [] t rc rs := by
  intro n
  induction n with
  | zero =>
    intro a0 a1 x2 x3 x4 x5 x6 t rc rs h
    exact h.elim
  | succ n ih =>
    intro a0 a1 x2 x3 x4 x5 x6 t rc rs h
    replace h : VS_L_areAlike_171 (gG Γ).2.2.2 R29 (V_L_areAlike_171 (gG Γ).2.2.2 R29 K n) K a0 a1 x2 x3 x4 x5 x6 t rc rs := h
    unfold VS_L_areAlike_171 at h
    refine x_iload 6 dL_areAlike_171 rfl ?_
    refine x_iconst (v := (4 : Int32)) dL_areAlike_173 (by decide) ?_
    obtain ⟨h1, h2⟩ := h
    refine x_icmp_ge (tgt := 269) dL_areAlike_174 (by decide) (fun q => ?_) (fun q => ?_)
    · have h := h1 q
      refine x_iinc (v := (x5 + 1)) (L' := [(5, .int (x5 + 1)), (0, .ref a0), (1, .ref a1), (2, .int x2), (3, .int x3), (4, .int x4), (6, .int x6)]) (j := 5) dL_areAlike_269 rfl rfl (by decide) rfl ?_
      refine x_goto (tgt := 29) dL_areAlike_272 (by decide) ?_
      refine x_sub (L' := [(0, .ref a0), (1, .ref a1), (2, .int x2), (3, .int x3), (4, .int x4), (5, .int (x5 + 1))]) [1, 2, 3, 4, 5, 0] rfl ?_
      exact hR29 a0 a1 x2 x3 x4 (x5 + 1) t rc rs h
    · have h := h2 q
      refine x_iload_n 3 dL_areAlike_177 rfl rfl ?_
      obtain ⟨h1, h2⟩ := h
      refine x_if_eq (tgt := 269) dL_areAlike_178 (by decide) (fun q => ?_) (fun q => ?_)
      · have h := h1 q
        refine x_iinc (v := (x5 + 1)) (L' := [(5, .int (x5 + 1)), (0, .ref a0), (1, .ref a1), (2, .int x2), (3, .int x3), (4, .int x4), (6, .int x6)]) (j := 5) dL_areAlike_269 rfl rfl (by decide) rfl ?_
        refine x_goto (tgt := 29) dL_areAlike_272 (by decide) ?_
        refine x_sub (L' := [(0, .ref a0), (1, .ref a1), (2, .int x2), (3, .int x3), (4, .int x4), (5, .int (x5 + 1))]) [1, 2, 3, 4, 5, 0] rfl ?_
        exact hR29 a0 a1 x2 x3 x4 (x5 + 1) t rc rs h
      · have h := h2 q
        refine x_aload_n 0 dL_areAlike_181 rfl rfl ?_
        refine x_bipush (v := (15 : Int32)) dL_areAlike_182 (by decide) ?_
        refine x_iload 5 dL_areAlike_184 rfl ?_
        refine x_iload 4 dL_areAlike_186 rfl ?_
        refine x_iload 6 dL_areAlike_188 rfl ?_
        obtain ⟨m_3, z_4, hm, hs, h⟩ := h
        refine x_invSH (as := [.ref a0, .int (15 : Int32), .int x5, .int x4, .int x6]) (rest := []) dL_areAlike_190 xc_L_areAlike_91 (M_L_does hl h) rfl rfl (Nat.le_of_ble_eq_true rfl) hm hs (xk_l fun y_2 t_1 h => ?_)
        refine x_aload_n 1 dL_areAlike_193 rfl rfl ?_
        refine x_bipush (v := (15 : Int32)) dL_areAlike_194 (by decide) ?_
        refine x_iload 5 dL_areAlike_196 rfl ?_
        refine x_iload 4 dL_areAlike_198 rfl ?_
        refine x_iload 6 dL_areAlike_200 rfl ?_
        obtain ⟨m_7, z_8, hm, hs, h⟩ := h
        refine x_invSH (as := [.ref a1, .int (15 : Int32), .int x5, .int x4, .int x6]) (rest := [.long y_2]) dL_areAlike_202 xc_L_areAlike_91 (M_L_does hl h) rfl rfl (Nat.le_of_ble_eq_true rfl) hm hs (xk_l fun y_6 t_5 h => ?_)
        obtain ⟨h1, h2⟩ := h
        refine x_lcmp_ne (tgt := 261) dL_areAlike_205 dL_areAlike_206 (by decide) (fun q => ?_) (fun q => ?_)
        · have h := h1 q
          refine x_iconst (v := (0 : Int32)) dL_areAlike_261 (by decide) ?_
          refine x_istore_n (L' := [(3, .int (0 : Int32)), (0, .ref a0), (1, .ref a1), (2, .int x2), (4, .int x4), (5, .int x5), (6, .int x6)]) dL_areAlike_262 rfl (by decide) rfl ?_
          refine x_iinc (v := (x6 + 1)) (L' := [(6, .int (x6 + 1)), (3, .int (0 : Int32)), (0, .ref a0), (1, .ref a1), (2, .int x2), (4, .int x4), (5, .int x5)]) (j := 6) dL_areAlike_263 rfl rfl (by decide) rfl ?_
          refine x_goto (tgt := 171) dL_areAlike_266 (by decide) ?_
          refine x_sub (L' := [(0, .ref a0), (1, .ref a1), (2, .int x2), (3, .int (0 : Int32)), (4, .int x4), (5, .int x5), (6, .int (x6 + 1))]) [2, 3, 4, 1, 5, 6, 0] rfl ?_
          exact ih a0 a1 x2 (0 : Int32) x4 x5 (x6 + 1) t_5 ((rc - m_3) - m_7) ((rs - z_4) - z_8) h
        · have h := h2 q
          refine x_aload_n 0 dL_areAlike_209 rfl rfl ?_
          refine x_bipush (v := (16 : Int32)) dL_areAlike_210 (by decide) ?_
          refine x_iload 5 dL_areAlike_212 rfl ?_
          refine x_iload 4 dL_areAlike_214 rfl ?_
          refine x_iload_n 2 dL_areAlike_216 rfl rfl ?_
          refine x_bipush (v := (7 : Int32)) dL_areAlike_217 (by decide) ?_
          refine x_iload 6 dL_areAlike_219 rfl ?_
          refine x_imul dL_areAlike_221 ?_
          refine x_iadd dL_areAlike_222 ?_
          refine x_bipush (v := (60 : Int32)) dL_areAlike_223 (by decide) ?_
          refine x_invS (as := [.int (x2 + ((7 : Int32) * x6)), .int (60 : Int32)]) (rest := [.int x4, .int x5, .int (16 : Int32), .ref a0]) dL_areAlike_225 xc_L_areAlike_84 (M_L_low hl h) rfl rfl (Nat.le_of_ble_eq_true rfl) (Nat.zero_le _) (Nat.zero_le _) (xk_i fun x_10 t_9 h => ?_)
          obtain ⟨m_13, z_14, hm, hs, h⟩ := h
          refine x_invSH (as := [.ref a0, .int (16 : Int32), .int x5, .int x4, .int x_10]) (rest := []) dL_areAlike_228 xc_L_areAlike_91 (M_L_does hl h) rfl rfl (Nat.le_of_ble_eq_true rfl) hm hs (xk_l fun y_12 t_11 h => ?_)
          refine x_aload_n 1 dL_areAlike_231 rfl rfl ?_
          refine x_bipush (v := (16 : Int32)) dL_areAlike_232 (by decide) ?_
          refine x_iload 5 dL_areAlike_234 rfl ?_
          refine x_iload 4 dL_areAlike_236 rfl ?_
          refine x_iload_n 2 dL_areAlike_238 rfl rfl ?_
          refine x_bipush (v := (7 : Int32)) dL_areAlike_239 (by decide) ?_
          refine x_iload 6 dL_areAlike_241 rfl ?_
          refine x_imul dL_areAlike_243 ?_
          refine x_iadd dL_areAlike_244 ?_
          refine x_bipush (v := (60 : Int32)) dL_areAlike_245 (by decide) ?_
          refine x_invS (as := [.int (x2 + ((7 : Int32) * x6)), .int (60 : Int32)]) (rest := [.int x4, .int x5, .int (16 : Int32), .ref a1, .long y_12]) dL_areAlike_247 xc_L_areAlike_84 (M_L_low hl h) rfl rfl (Nat.le_of_ble_eq_true rfl) (Nat.zero_le _) (Nat.zero_le _) (xk_i fun x_16 t_15 h => ?_)
          obtain ⟨m_19, z_20, hm, hs, h⟩ := h
          refine x_invSH (as := [.ref a1, .int (16 : Int32), .int x5, .int x4, .int x_16]) (rest := [.long y_12]) dL_areAlike_250 xc_L_areAlike_91 (M_L_does hl h) rfl rfl (Nat.le_of_ble_eq_true rfl) hm hs (xk_l fun y_18 t_17 h => ?_)
          obtain ⟨h1, h2⟩ := h
          refine x_lcmp_ne (tgt := 261) dL_areAlike_253 dL_areAlike_254 (by decide) (fun q => ?_) (fun q => ?_)
          · have h := h1 q
            refine x_iconst (v := (0 : Int32)) dL_areAlike_261 (by decide) ?_
            refine x_istore_n (L' := [(3, .int (0 : Int32)), (0, .ref a0), (1, .ref a1), (2, .int x2), (4, .int x4), (5, .int x5), (6, .int x6)]) dL_areAlike_262 rfl (by decide) rfl ?_
            refine x_iinc (v := (x6 + 1)) (L' := [(6, .int (x6 + 1)), (3, .int (0 : Int32)), (0, .ref a0), (1, .ref a1), (2, .int x2), (4, .int x4), (5, .int x5)]) (j := 6) dL_areAlike_263 rfl rfl (by decide) rfl ?_
            refine x_goto (tgt := 171) dL_areAlike_266 (by decide) ?_
            refine x_sub (L' := [(0, .ref a0), (1, .ref a1), (2, .int x2), (3, .int (0 : Int32)), (4, .int x4), (5, .int x5), (6, .int (x6 + 1))]) [2, 3, 4, 1, 5, 6, 0] rfl ?_
            exact ih a0 a1 x2 (0 : Int32) x4 x5 (x6 + 1) t_17 ((((rc - m_3) - m_7) - m_13) - m_19) ((((rs - z_4) - z_8) - z_14) - z_20) h
          · have h := h2 q
            refine x_iconst (v := (1 : Int32)) dL_areAlike_257 (by decide) ?_
            refine x_goto (tgt := 262) dL_areAlike_258 (by decide) ?_
            refine x_istore_n (L' := [(3, .int (1 : Int32)), (0, .ref a0), (1, .ref a1), (2, .int x2), (4, .int x4), (5, .int x5), (6, .int x6)]) dL_areAlike_262 rfl (by decide) rfl ?_
            refine x_iinc (v := (x6 + 1)) (L' := [(6, .int (x6 + 1)), (3, .int (1 : Int32)), (0, .ref a0), (1, .ref a1), (2, .int x2), (4, .int x4), (5, .int x5)]) (j := 6) dL_areAlike_263 rfl rfl (by decide) rfl ?_
            refine x_goto (tgt := 171) dL_areAlike_266 (by decide) ?_
            refine x_sub (L' := [(0, .ref a0), (1, .ref a1), (2, .int x2), (3, .int (1 : Int32)), (4, .int x4), (5, .int x5), (6, .int (x6 + 1))]) [2, 3, 4, 1, 5, 6, 0] rfl ?_
            exact ih a0 a1 x2 (1 : Int32) x4 x5 (x6 + 1) t_17 ((((rc - m_3) - m_7) - m_13) - m_19) ((((rs - z_4) - z_8) - z_14) - z_20) h
def VS_L_areAlike_29 (E : Nat → Nat) (R29 : Nat → Nat → Int32 → Int32 → Int32 → Int32 → xT → Nat → Nat → Prop) (K : Int32 → xT → Prop) (a0 : Nat) (a1 : Nat) (x2 : Int32) (x3 : Int32) (x4 : Int32) (x5 : Int32) (t : xT) (rc rs : Nat) : Prop :=
  (((12 : Int32) ≤ x5 → (narrow .boolean (.int x3) = .int x3 ∧ K x3 t)) ∧ (¬ (12 : Int32) ≤ x5 → ((x3 = 0 → (narrow .boolean (.int x3) = .int x3 ∧ K x3 t)) ∧ (¬ x3 = 0 → (∃ m_3 z_4 : Nat, m_3 ≤ rc ∧ z_4 ≤ rs ∧ V_L_does_0 E (fun y_2 t_1 => (∃ m_7 z_8 : Nat, m_7 ≤ (rc - m_3) ∧ z_8 ≤ (rs - z_4) ∧ V_L_does_0 E (fun y_6 t_5 => ((¬ y_2 = y_6 → ∃ f_9 : Nat, V_L_areAlike_171 E R29 K f_9 a0 a1 x2 (0 : Int32) x4 x5 (0 : Int32) t_5 ((rc - m_3) - m_7) ((rs - z_4) - z_8)) ∧ (y_2 = y_6 → (∃ m_12 z_13 : Nat, m_12 ≤ ((rc - m_3) - m_7) ∧ z_13 ≤ ((rs - z_4) - z_8) ∧ V_L_does_0 E (fun y_11 t_10 => (∃ m_16 z_17 : Nat, m_16 ≤ (((rc - m_3) - m_7) - m_12) ∧ z_17 ≤ (((rs - z_4) - z_8) - z_13) ∧ V_L_does_0 E (fun y_15 t_14 => ((¬ y_11 = y_15 → ∃ f_18 : Nat, V_L_areAlike_171 E R29 K f_18 a0 a1 x2 (0 : Int32) x4 x5 (0 : Int32) t_14 ((((rc - m_3) - m_7) - m_12) - m_16) ((((rs - z_4) - z_8) - z_13) - z_17)) ∧ (y_11 = y_15 → (∃ m_21 z_22 : Nat, m_21 ≤ ((((rc - m_3) - m_7) - m_12) - m_16) ∧ z_22 ≤ ((((rs - z_4) - z_8) - z_13) - z_17) ∧ V_L_does_0 E (fun y_20 t_19 => (∃ m_25 z_26 : Nat, m_25 ≤ (((((rc - m_3) - m_7) - m_12) - m_16) - m_21) ∧ z_26 ≤ (((((rs - z_4) - z_8) - z_13) - z_17) - z_22) ∧ V_L_does_0 E (fun y_24 t_23 => ((¬ y_20 = y_24 → ∃ f_27 : Nat, V_L_areAlike_171 E R29 K f_27 a0 a1 x2 (0 : Int32) x4 x5 (0 : Int32) t_23 ((((((rc - m_3) - m_7) - m_12) - m_16) - m_21) - m_25) ((((((rs - z_4) - z_8) - z_13) - z_17) - z_22) - z_26)) ∧ (y_20 = y_24 → (∃ m_30 z_31 : Nat, m_30 ≤ ((((((rc - m_3) - m_7) - m_12) - m_16) - m_21) - m_25) ∧ z_31 ≤ ((((((rs - z_4) - z_8) - z_13) - z_17) - z_22) - z_26) ∧ V_L_does_0 E (fun y_29 t_28 => (∃ m_34 z_35 : Nat, m_34 ≤ (((((((rc - m_3) - m_7) - m_12) - m_16) - m_21) - m_25) - m_30) ∧ z_35 ≤ (((((((rs - z_4) - z_8) - z_13) - z_17) - z_22) - z_26) - z_31) ∧ V_L_does_0 E (fun y_33 t_32 => ((¬ y_29 = y_33 → ∃ f_36 : Nat, V_L_areAlike_171 E R29 K f_36 a0 a1 x2 (0 : Int32) x4 x5 (0 : Int32) t_32 ((((((((rc - m_3) - m_7) - m_12) - m_16) - m_21) - m_25) - m_30) - m_34) ((((((((rs - z_4) - z_8) - z_13) - z_17) - z_22) - z_26) - z_31) - z_35)) ∧ (y_29 = y_33 → (∃ m_39 z_40 : Nat, m_39 ≤ ((((((((rc - m_3) - m_7) - m_12) - m_16) - m_21) - m_25) - m_30) - m_34) ∧ z_40 ≤ ((((((((rs - z_4) - z_8) - z_13) - z_17) - z_22) - z_26) - z_31) - z_35) ∧ V_L_does_0 E (fun y_38 t_37 => (∃ m_43 z_44 : Nat, m_43 ≤ (((((((((rc - m_3) - m_7) - m_12) - m_16) - m_21) - m_25) - m_30) - m_34) - m_39) ∧ z_44 ≤ (((((((((rs - z_4) - z_8) - z_13) - z_17) - z_22) - z_26) - z_31) - z_35) - z_40) ∧ V_L_does_0 E (fun y_42 t_41 => ((¬ y_38 = y_42 → ∃ f_45 : Nat, V_L_areAlike_171 E R29 K f_45 a0 a1 x2 (0 : Int32) x4 x5 (0 : Int32) t_41 ((((((((((rc - m_3) - m_7) - m_12) - m_16) - m_21) - m_25) - m_30) - m_34) - m_39) - m_43) ((((((((((rs - z_4) - z_8) - z_13) - z_17) - z_22) - z_26) - z_31) - z_35) - z_40) - z_44)) ∧ (y_38 = y_42 → ∃ f_46 : Nat, V_L_areAlike_171 E R29 K f_46 a0 a1 x2 (1 : Int32) x4 x5 (0 : Int32) t_41 ((((((((((rc - m_3) - m_7) - m_12) - m_16) - m_21) - m_25) - m_30) - m_34) - m_39) - m_43) ((((((((((rs - z_4) - z_8) - z_13) - z_17) - z_22) - z_26) - z_31) - z_35) - z_40) - z_44)))) a1 (18 : Int32) x5 (0 : Int32) (0 : Int32) t_37 m_43 z_44)) a0 (18 : Int32) x5 (0 : Int32) (0 : Int32) t_32 m_39 z_40)))) a1 (17 : Int32) x5 x4 (0 : Int32) t_28 m_34 z_35)) a0 (17 : Int32) x5 x4 (0 : Int32) t_23 m_30 z_31)))) a1 (19 : Int32) x5 (0 : Int32) (0 : Int32) t_19 m_25 z_26)) a0 (19 : Int32) x5 (0 : Int32) (0 : Int32) t_14 m_21 z_22)))) a1 (14 : Int32) x5 (0 : Int32) (0 : Int32) t_10 m_16 z_17)) a0 (14 : Int32) x5 (0 : Int32) (0 : Int32) t_5 m_12 z_13)))) a1 (12 : Int32) x5 (0 : Int32) (0 : Int32) t_1 m_7 z_8)) a0 (12 : Int32) x5 (0 : Int32) (0 : Int32) t m_3 z_4)))))
def V_L_areAlike_29 (E : Nat → Nat) (K : Int32 → xT → Prop) (n : Nat) : Nat → Nat → Int32 → Int32 → Int32 → Int32 → xT → Nat → Nat → Prop := Nat.rec (fun _ _ _ _ _ _ _ _ _ => False) (fun _ ih => VS_L_areAlike_29 E ih K) n
set_option maxRecDepth 20000 in
theorem S_L_areAlike_29 {Γ : xΓ} {K : Int32 → xT → Prop} (hl : (gl Γ).stackTraces = false) (ht : (gM Γ).sig.returnType = (some .boolean)) (hr : xRet Γ (xKi K)) : ∀ (n : Nat) (a0 : Nat) (a1 : Nat) (x2 : Int32) (x3 : Int32) (x4 : Int32) (x5 : Int32) (t : xT) (rc rs : Nat), V_L_areAlike_29 (gG Γ).2.2.2 K n a0 a1 x2 x3 x4 x5 t rc rs → xX Γ k_L_areAlike 29 [(0, .ref a0), (1, .ref a1), (2, .int x2), (3, .int x3), (4, .int x4), (5, .int x5)] [] t rc rs := by
  intro n
  induction n with
  | zero =>
    intro a0 a1 x2 x3 x4 x5 t rc rs h
    exact h.elim
  | succ n ih =>
    intro a0 a1 x2 x3 x4 x5 t rc rs h
    replace h : VS_L_areAlike_29 (gG Γ).2.2.2 (V_L_areAlike_29 (gG Γ).2.2.2 K n) K a0 a1 x2 x3 x4 x5 t rc rs := h
    unfold VS_L_areAlike_29 at h
    refine x_iload 5 dL_areAlike_29 rfl ?_
    refine x_bipush (v := (12 : Int32)) dL_areAlike_31 (by decide) ?_
    obtain ⟨h1, h2⟩ := h
    refine x_icmp_ge (tgt := 275) dL_areAlike_33 (by decide) (fun q => ?_) (fun q => ?_)
    · have h := h1 q
      refine x_iload_n 3 dL_areAlike_275 rfl rfl ?_
      obtain ⟨hn, h⟩ := h
      exact x_zret dL_areAlike_276 hr ht hn ⟨_, rfl, h⟩
    · have h := h2 q
      refine x_iload_n 3 dL_areAlike_36 rfl rfl ?_
      obtain ⟨h1, h2⟩ := h
      refine x_if_eq (tgt := 275) dL_areAlike_37 (by decide) (fun q => ?_) (fun q => ?_)
      · have h := h1 q
        refine x_iload_n 3 dL_areAlike_275 rfl rfl ?_
        obtain ⟨hn, h⟩ := h
        exact x_zret dL_areAlike_276 hr ht hn ⟨_, rfl, h⟩
      · have h := h2 q
        refine x_aload_n 0 dL_areAlike_40 rfl rfl ?_
        refine x_bipush (v := (12 : Int32)) dL_areAlike_41 (by decide) ?_
        refine x_iload 5 dL_areAlike_43 rfl ?_
        refine x_iconst (v := (0 : Int32)) dL_areAlike_45 (by decide) ?_
        refine x_iconst (v := (0 : Int32)) dL_areAlike_46 (by decide) ?_
        obtain ⟨m_3, z_4, hm, hs, h⟩ := h
        refine x_invSH (as := [.ref a0, .int (12 : Int32), .int x5, .int (0 : Int32), .int (0 : Int32)]) (rest := []) dL_areAlike_47 xc_L_areAlike_91 (M_L_does hl h) rfl rfl (Nat.le_of_ble_eq_true rfl) hm hs (xk_l fun y_2 t_1 h => ?_)
        refine x_aload_n 1 dL_areAlike_50 rfl rfl ?_
        refine x_bipush (v := (12 : Int32)) dL_areAlike_51 (by decide) ?_
        refine x_iload 5 dL_areAlike_53 rfl ?_
        refine x_iconst (v := (0 : Int32)) dL_areAlike_55 (by decide) ?_
        refine x_iconst (v := (0 : Int32)) dL_areAlike_56 (by decide) ?_
        obtain ⟨m_7, z_8, hm, hs, h⟩ := h
        refine x_invSH (as := [.ref a1, .int (12 : Int32), .int x5, .int (0 : Int32), .int (0 : Int32)]) (rest := [.long y_2]) dL_areAlike_57 xc_L_areAlike_91 (M_L_does hl h) rfl rfl (Nat.le_of_ble_eq_true rfl) hm hs (xk_l fun y_6 t_5 h => ?_)
        obtain ⟨h1, h2⟩ := h
        refine x_lcmp_ne (tgt := 166) dL_areAlike_60 dL_areAlike_61 (by decide) (fun q => ?_) (fun q => ?_)
        · have h := h1 q
          refine x_iconst (v := (0 : Int32)) dL_areAlike_166 (by decide) ?_
          refine x_istore_n (L' := [(3, .int (0 : Int32)), (0, .ref a0), (1, .ref a1), (2, .int x2), (4, .int x4), (5, .int x5)]) dL_areAlike_167 rfl (by decide) rfl ?_
          refine x_iconst (v := (0 : Int32)) dL_areAlike_168 (by decide) ?_
          refine x_istore (L' := [(6, .int (0 : Int32)), (3, .int (0 : Int32)), (0, .ref a0), (1, .ref a1), (2, .int x2), (4, .int x4), (5, .int x5)]) dL_areAlike_169 (by decide) rfl ?_
          obtain ⟨f_9, h⟩ := h
          refine x_sub (L' := [(0, .ref a0), (1, .ref a1), (2, .int x2), (3, .int (0 : Int32)), (4, .int x4), (5, .int x5), (6, .int (0 : Int32))]) [2, 3, 4, 1, 5, 6, 0] rfl ?_
          exact S_L_areAlike_171 hl ht hr (fun p0 p1 p2 p3 p4 p5 p6 p7 p8 h => ih p0 p1 p2 p3 p4 p5 p6 p7 p8 h) f_9 a0 a1 x2 (0 : Int32) x4 x5 (0 : Int32) t_5 ((rc - m_3) - m_7) ((rs - z_4) - z_8) h
        · have h := h2 q
          refine x_aload_n 0 dL_areAlike_64 rfl rfl ?_
          refine x_bipush (v := (14 : Int32)) dL_areAlike_65 (by decide) ?_
          refine x_iload 5 dL_areAlike_67 rfl ?_
          refine x_iconst (v := (0 : Int32)) dL_areAlike_69 (by decide) ?_
          refine x_iconst (v := (0 : Int32)) dL_areAlike_70 (by decide) ?_
          obtain ⟨m_12, z_13, hm, hs, h⟩ := h
          refine x_invSH (as := [.ref a0, .int (14 : Int32), .int x5, .int (0 : Int32), .int (0 : Int32)]) (rest := []) dL_areAlike_71 xc_L_areAlike_91 (M_L_does hl h) rfl rfl (Nat.le_of_ble_eq_true rfl) hm hs (xk_l fun y_11 t_10 h => ?_)
          refine x_aload_n 1 dL_areAlike_74 rfl rfl ?_
          refine x_bipush (v := (14 : Int32)) dL_areAlike_75 (by decide) ?_
          refine x_iload 5 dL_areAlike_77 rfl ?_
          refine x_iconst (v := (0 : Int32)) dL_areAlike_79 (by decide) ?_
          refine x_iconst (v := (0 : Int32)) dL_areAlike_80 (by decide) ?_
          obtain ⟨m_16, z_17, hm, hs, h⟩ := h
          refine x_invSH (as := [.ref a1, .int (14 : Int32), .int x5, .int (0 : Int32), .int (0 : Int32)]) (rest := [.long y_11]) dL_areAlike_81 xc_L_areAlike_91 (M_L_does hl h) rfl rfl (Nat.le_of_ble_eq_true rfl) hm hs (xk_l fun y_15 t_14 h => ?_)
          obtain ⟨h1, h2⟩ := h
          refine x_lcmp_ne (tgt := 166) dL_areAlike_84 dL_areAlike_85 (by decide) (fun q => ?_) (fun q => ?_)
          · have h := h1 q
            refine x_iconst (v := (0 : Int32)) dL_areAlike_166 (by decide) ?_
            refine x_istore_n (L' := [(3, .int (0 : Int32)), (0, .ref a0), (1, .ref a1), (2, .int x2), (4, .int x4), (5, .int x5)]) dL_areAlike_167 rfl (by decide) rfl ?_
            refine x_iconst (v := (0 : Int32)) dL_areAlike_168 (by decide) ?_
            refine x_istore (L' := [(6, .int (0 : Int32)), (3, .int (0 : Int32)), (0, .ref a0), (1, .ref a1), (2, .int x2), (4, .int x4), (5, .int x5)]) dL_areAlike_169 (by decide) rfl ?_
            obtain ⟨f_18, h⟩ := h
            refine x_sub (L' := [(0, .ref a0), (1, .ref a1), (2, .int x2), (3, .int (0 : Int32)), (4, .int x4), (5, .int x5), (6, .int (0 : Int32))]) [2, 3, 4, 1, 5, 6, 0] rfl ?_
            exact S_L_areAlike_171 hl ht hr (fun p0 p1 p2 p3 p4 p5 p6 p7 p8 h => ih p0 p1 p2 p3 p4 p5 p6 p7 p8 h) f_18 a0 a1 x2 (0 : Int32) x4 x5 (0 : Int32) t_14 ((((rc - m_3) - m_7) - m_12) - m_16) ((((rs - z_4) - z_8) - z_13) - z_17) h
          · have h := h2 q
            refine x_aload_n 0 dL_areAlike_88 rfl rfl ?_
            refine x_bipush (v := (19 : Int32)) dL_areAlike_89 (by decide) ?_
            refine x_iload 5 dL_areAlike_91 rfl ?_
            refine x_iconst (v := (0 : Int32)) dL_areAlike_93 (by decide) ?_
            refine x_iconst (v := (0 : Int32)) dL_areAlike_94 (by decide) ?_
            obtain ⟨m_21, z_22, hm, hs, h⟩ := h
            refine x_invSH (as := [.ref a0, .int (19 : Int32), .int x5, .int (0 : Int32), .int (0 : Int32)]) (rest := []) dL_areAlike_95 xc_L_areAlike_91 (M_L_does hl h) rfl rfl (Nat.le_of_ble_eq_true rfl) hm hs (xk_l fun y_20 t_19 h => ?_)
            refine x_aload_n 1 dL_areAlike_98 rfl rfl ?_
            refine x_bipush (v := (19 : Int32)) dL_areAlike_99 (by decide) ?_
            refine x_iload 5 dL_areAlike_101 rfl ?_
            refine x_iconst (v := (0 : Int32)) dL_areAlike_103 (by decide) ?_
            refine x_iconst (v := (0 : Int32)) dL_areAlike_104 (by decide) ?_
            obtain ⟨m_25, z_26, hm, hs, h⟩ := h
            refine x_invSH (as := [.ref a1, .int (19 : Int32), .int x5, .int (0 : Int32), .int (0 : Int32)]) (rest := [.long y_20]) dL_areAlike_105 xc_L_areAlike_91 (M_L_does hl h) rfl rfl (Nat.le_of_ble_eq_true rfl) hm hs (xk_l fun y_24 t_23 h => ?_)
            obtain ⟨h1, h2⟩ := h
            refine x_lcmp_ne (tgt := 166) dL_areAlike_108 dL_areAlike_109 (by decide) (fun q => ?_) (fun q => ?_)
            · have h := h1 q
              refine x_iconst (v := (0 : Int32)) dL_areAlike_166 (by decide) ?_
              refine x_istore_n (L' := [(3, .int (0 : Int32)), (0, .ref a0), (1, .ref a1), (2, .int x2), (4, .int x4), (5, .int x5)]) dL_areAlike_167 rfl (by decide) rfl ?_
              refine x_iconst (v := (0 : Int32)) dL_areAlike_168 (by decide) ?_
              refine x_istore (L' := [(6, .int (0 : Int32)), (3, .int (0 : Int32)), (0, .ref a0), (1, .ref a1), (2, .int x2), (4, .int x4), (5, .int x5)]) dL_areAlike_169 (by decide) rfl ?_
              obtain ⟨f_27, h⟩ := h
              refine x_sub (L' := [(0, .ref a0), (1, .ref a1), (2, .int x2), (3, .int (0 : Int32)), (4, .int x4), (5, .int x5), (6, .int (0 : Int32))]) [2, 3, 4, 1, 5, 6, 0] rfl ?_
              exact S_L_areAlike_171 hl ht hr (fun p0 p1 p2 p3 p4 p5 p6 p7 p8 h => ih p0 p1 p2 p3 p4 p5 p6 p7 p8 h) f_27 a0 a1 x2 (0 : Int32) x4 x5 (0 : Int32) t_23 ((((((rc - m_3) - m_7) - m_12) - m_16) - m_21) - m_25) ((((((rs - z_4) - z_8) - z_13) - z_17) - z_22) - z_26) h
            · have h := h2 q
              refine x_aload_n 0 dL_areAlike_112 rfl rfl ?_
              refine x_bipush (v := (17 : Int32)) dL_areAlike_113 (by decide) ?_
              refine x_iload 5 dL_areAlike_115 rfl ?_
              refine x_iload 4 dL_areAlike_117 rfl ?_
              refine x_iconst (v := (0 : Int32)) dL_areAlike_119 (by decide) ?_
              obtain ⟨m_30, z_31, hm, hs, h⟩ := h
              refine x_invSH (as := [.ref a0, .int (17 : Int32), .int x5, .int x4, .int (0 : Int32)]) (rest := []) dL_areAlike_120 xc_L_areAlike_91 (M_L_does hl h) rfl rfl (Nat.le_of_ble_eq_true rfl) hm hs (xk_l fun y_29 t_28 h => ?_)
              refine x_aload_n 1 dL_areAlike_123 rfl rfl ?_
              refine x_bipush (v := (17 : Int32)) dL_areAlike_124 (by decide) ?_
              refine x_iload 5 dL_areAlike_126 rfl ?_
              refine x_iload 4 dL_areAlike_128 rfl ?_
              refine x_iconst (v := (0 : Int32)) dL_areAlike_130 (by decide) ?_
              obtain ⟨m_34, z_35, hm, hs, h⟩ := h
              refine x_invSH (as := [.ref a1, .int (17 : Int32), .int x5, .int x4, .int (0 : Int32)]) (rest := [.long y_29]) dL_areAlike_131 xc_L_areAlike_91 (M_L_does hl h) rfl rfl (Nat.le_of_ble_eq_true rfl) hm hs (xk_l fun y_33 t_32 h => ?_)
              obtain ⟨h1, h2⟩ := h
              refine x_lcmp_ne (tgt := 166) dL_areAlike_134 dL_areAlike_135 (by decide) (fun q => ?_) (fun q => ?_)
              · have h := h1 q
                refine x_iconst (v := (0 : Int32)) dL_areAlike_166 (by decide) ?_
                refine x_istore_n (L' := [(3, .int (0 : Int32)), (0, .ref a0), (1, .ref a1), (2, .int x2), (4, .int x4), (5, .int x5)]) dL_areAlike_167 rfl (by decide) rfl ?_
                refine x_iconst (v := (0 : Int32)) dL_areAlike_168 (by decide) ?_
                refine x_istore (L' := [(6, .int (0 : Int32)), (3, .int (0 : Int32)), (0, .ref a0), (1, .ref a1), (2, .int x2), (4, .int x4), (5, .int x5)]) dL_areAlike_169 (by decide) rfl ?_
                obtain ⟨f_36, h⟩ := h
                refine x_sub (L' := [(0, .ref a0), (1, .ref a1), (2, .int x2), (3, .int (0 : Int32)), (4, .int x4), (5, .int x5), (6, .int (0 : Int32))]) [2, 3, 4, 1, 5, 6, 0] rfl ?_
                exact S_L_areAlike_171 hl ht hr (fun p0 p1 p2 p3 p4 p5 p6 p7 p8 h => ih p0 p1 p2 p3 p4 p5 p6 p7 p8 h) f_36 a0 a1 x2 (0 : Int32) x4 x5 (0 : Int32) t_32 ((((((((rc - m_3) - m_7) - m_12) - m_16) - m_21) - m_25) - m_30) - m_34) ((((((((rs - z_4) - z_8) - z_13) - z_17) - z_22) - z_26) - z_31) - z_35) h
              · have h := h2 q
                refine x_aload_n 0 dL_areAlike_138 rfl rfl ?_
                refine x_bipush (v := (18 : Int32)) dL_areAlike_139 (by decide) ?_
                refine x_iload 5 dL_areAlike_141 rfl ?_
                refine x_iconst (v := (0 : Int32)) dL_areAlike_143 (by decide) ?_
                refine x_iconst (v := (0 : Int32)) dL_areAlike_144 (by decide) ?_
                obtain ⟨m_39, z_40, hm, hs, h⟩ := h
                refine x_invSH (as := [.ref a0, .int (18 : Int32), .int x5, .int (0 : Int32), .int (0 : Int32)]) (rest := []) dL_areAlike_145 xc_L_areAlike_91 (M_L_does hl h) rfl rfl (Nat.le_of_ble_eq_true rfl) hm hs (xk_l fun y_38 t_37 h => ?_)
                refine x_aload_n 1 dL_areAlike_148 rfl rfl ?_
                refine x_bipush (v := (18 : Int32)) dL_areAlike_149 (by decide) ?_
                refine x_iload 5 dL_areAlike_151 rfl ?_
                refine x_iconst (v := (0 : Int32)) dL_areAlike_153 (by decide) ?_
                refine x_iconst (v := (0 : Int32)) dL_areAlike_154 (by decide) ?_
                obtain ⟨m_43, z_44, hm, hs, h⟩ := h
                refine x_invSH (as := [.ref a1, .int (18 : Int32), .int x5, .int (0 : Int32), .int (0 : Int32)]) (rest := [.long y_38]) dL_areAlike_155 xc_L_areAlike_91 (M_L_does hl h) rfl rfl (Nat.le_of_ble_eq_true rfl) hm hs (xk_l fun y_42 t_41 h => ?_)
                obtain ⟨h1, h2⟩ := h
                refine x_lcmp_ne (tgt := 166) dL_areAlike_158 dL_areAlike_159 (by decide) (fun q => ?_) (fun q => ?_)
                · have h := h1 q
                  refine x_iconst (v := (0 : Int32)) dL_areAlike_166 (by decide) ?_
                  refine x_istore_n (L' := [(3, .int (0 : Int32)), (0, .ref a0), (1, .ref a1), (2, .int x2), (4, .int x4), (5, .int x5)]) dL_areAlike_167 rfl (by decide) rfl ?_
                  refine x_iconst (v := (0 : Int32)) dL_areAlike_168 (by decide) ?_
                  refine x_istore (L' := [(6, .int (0 : Int32)), (3, .int (0 : Int32)), (0, .ref a0), (1, .ref a1), (2, .int x2), (4, .int x4), (5, .int x5)]) dL_areAlike_169 (by decide) rfl ?_
                  obtain ⟨f_45, h⟩ := h
                  refine x_sub (L' := [(0, .ref a0), (1, .ref a1), (2, .int x2), (3, .int (0 : Int32)), (4, .int x4), (5, .int x5), (6, .int (0 : Int32))]) [2, 3, 4, 1, 5, 6, 0] rfl ?_
                  exact S_L_areAlike_171 hl ht hr (fun p0 p1 p2 p3 p4 p5 p6 p7 p8 h => ih p0 p1 p2 p3 p4 p5 p6 p7 p8 h) f_45 a0 a1 x2 (0 : Int32) x4 x5 (0 : Int32) t_41 ((((((((((rc - m_3) - m_7) - m_12) - m_16) - m_21) - m_25) - m_30) - m_34) - m_39) - m_43) ((((((((((rs - z_4) - z_8) - z_13) - z_17) - z_22) - z_26) - z_31) - z_35) - z_40) - z_44) h
                · have h := h2 q
                  refine x_iconst (v := (1 : Int32)) dL_areAlike_162 (by decide) ?_
                  refine x_goto (tgt := 167) dL_areAlike_163 (by decide) ?_
                  refine x_istore_n (L' := [(3, .int (1 : Int32)), (0, .ref a0), (1, .ref a1), (2, .int x2), (4, .int x4), (5, .int x5)]) dL_areAlike_167 rfl (by decide) rfl ?_
                  refine x_iconst (v := (0 : Int32)) dL_areAlike_168 (by decide) ?_
                  refine x_istore (L' := [(6, .int (0 : Int32)), (3, .int (1 : Int32)), (0, .ref a0), (1, .ref a1), (2, .int x2), (4, .int x4), (5, .int x5)]) dL_areAlike_169 (by decide) rfl ?_
                  obtain ⟨f_46, h⟩ := h
                  refine x_sub (L' := [(0, .ref a0), (1, .ref a1), (2, .int x2), (3, .int (1 : Int32)), (4, .int x4), (5, .int x5), (6, .int (0 : Int32))]) [2, 3, 4, 1, 5, 6, 0] rfl ?_
                  exact S_L_areAlike_171 hl ht hr (fun p0 p1 p2 p3 p4 p5 p6 p7 p8 h => ih p0 p1 p2 p3 p4 p5 p6 p7 p8 h) f_46 a0 a1 x2 (1 : Int32) x4 x5 (0 : Int32) t_41 ((((((((((rc - m_3) - m_7) - m_12) - m_16) - m_21) - m_25) - m_30) - m_34) - m_39) - m_43) ((((((((((rs - z_4) - z_8) - z_13) - z_17) - z_22) - z_26) - z_31) - z_35) - z_40) - z_44) h
def V_L_areAlike_0 (E : Nat → Nat) (K : Int32 → xT → Prop) (a0 : Nat) (a1 : Nat) (x2 : Int32) (t : xT) (rc rs : Nat) : Prop :=
  (xis t a0 7 ∧ V_X7_owner_0 (fun y_2 t_1 => (xis t_1 a1 7 ∧ V_X7_owner_0 (fun y_4 t_3 => ((¬ y_2 = y_4 → (V_L_low_0 (fun x_6 t_5 => ∃ f_7 : Nat, V_L_areAlike_29 E K f_7 a0 a1 x2 (0 : Int32) x_6 (0 : Int32) t_5 rc rs) x2 (20 : Int32) t_3)) ∧ (y_2 = y_4 → (V_L_low_0 (fun x_9 t_8 => ∃ f_10 : Nat, V_L_areAlike_29 E K f_10 a0 a1 x2 (1 : Int32) x_9 (0 : Int32) t_8 rc rs) x2 (20 : Int32) t_3)))) a1 t_1)) a0 t)
set_option maxRecDepth 20000 in
theorem S_L_areAlike_0 {Γ : xΓ} {K : Int32 → xT → Prop} (hl : (gl Γ).stackTraces = false) (ht : (gM Γ).sig.returnType = (some .boolean)) (hr : xRet Γ (xKi K)) {a0 : Nat} {a1 : Nat} {x2 : Int32} {t : xT} {rc rs : Nat} (h : V_L_areAlike_0 (gG Γ).2.2.2 K a0 a1 x2 t rc rs) : xX Γ k_L_areAlike 0 [(0, .ref a0), (1, .ref a1), (2, .int x2)] [] t rc rs := by
  unfold V_L_areAlike_0 at h
  refine x_aload_n 0 dL_areAlike_0 rfl rfl ?_
  obtain ⟨⟨fs, hf⟩, h⟩ := h
  refine x_invV (as := []) (rest := []) dL_areAlike_1 (q := (RX7, TX7, 10)) rfl xc_L_areAlike_98 hf (M_X7_owner hl h) rfl rfl (Nat.le_of_ble_eq_true rfl) (Nat.zero_le _) (Nat.zero_le _) (xk_l fun y_2 t_1 h => ?_)
  refine x_aload_n 1 dL_areAlike_4 rfl rfl ?_
  obtain ⟨⟨fs, hf⟩, h⟩ := h
  refine x_invV (as := []) (rest := [.long y_2]) dL_areAlike_5 (q := (RX7, TX7, 10)) rfl xc_L_areAlike_98 hf (M_X7_owner hl h) rfl rfl (Nat.le_of_ble_eq_true rfl) (Nat.zero_le _) (Nat.zero_le _) (xk_l fun y_4 t_3 h => ?_)
  obtain ⟨h1, h2⟩ := h
  refine x_lcmp_ne (tgt := 16) dL_areAlike_8 dL_areAlike_9 (by decide) (fun q => ?_) (fun q => ?_)
  · have h := h1 q
    refine x_iconst (v := (0 : Int32)) dL_areAlike_16 (by decide) ?_
    refine x_istore_n (L' := [(3, .int (0 : Int32)), (0, .ref a0), (1, .ref a1), (2, .int x2)]) dL_areAlike_17 rfl (by decide) rfl ?_
    refine x_iload_n 3 dL_areAlike_18 rfl rfl ?_
    refine x_bipush (v := (20 : Int32)) dL_areAlike_19 (by decide) ?_
    refine x_invS (as := [.int x2, .int (20 : Int32)]) (rest := []) dL_areAlike_21 xc_L_areAlike_84 (M_L_low hl h) rfl rfl (Nat.le_of_ble_eq_true rfl) (Nat.zero_le _) (Nat.zero_le _) (xk_i fun x_6 t_5 h => ?_)
    refine x_istore (L' := [(4, .int x_6), (3, .int (0 : Int32)), (0, .ref a0), (1, .ref a1), (2, .int x2)]) dL_areAlike_24 (by decide) rfl ?_
    refine x_iconst (v := (0 : Int32)) dL_areAlike_26 (by decide) ?_
    refine x_istore (L' := [(5, .int (0 : Int32)), (4, .int x_6), (3, .int (0 : Int32)), (0, .ref a0), (1, .ref a1), (2, .int x2)]) dL_areAlike_27 (by decide) rfl ?_
    obtain ⟨f_7, h⟩ := h
    refine x_sub (L' := [(0, .ref a0), (1, .ref a1), (2, .int x2), (3, .int (0 : Int32)), (4, .int x_6), (5, .int (0 : Int32))]) [3, 4, 5, 2, 1, 0] rfl ?_
    exact S_L_areAlike_29 hl ht hr  f_7 a0 a1 x2 (0 : Int32) x_6 (0 : Int32) t_5 rc rs h
  · have h := h2 q
    refine x_iconst (v := (1 : Int32)) dL_areAlike_12 (by decide) ?_
    refine x_goto (tgt := 17) dL_areAlike_13 (by decide) ?_
    refine x_istore_n (L' := [(3, .int (1 : Int32)), (0, .ref a0), (1, .ref a1), (2, .int x2)]) dL_areAlike_17 rfl (by decide) rfl ?_
    refine x_iload_n 3 dL_areAlike_18 rfl rfl ?_
    refine x_bipush (v := (20 : Int32)) dL_areAlike_19 (by decide) ?_
    refine x_invS (as := [.int x2, .int (20 : Int32)]) (rest := []) dL_areAlike_21 xc_L_areAlike_84 (M_L_low hl h) rfl rfl (Nat.le_of_ble_eq_true rfl) (Nat.zero_le _) (Nat.zero_le _) (xk_i fun x_9 t_8 h => ?_)
    refine x_istore (L' := [(4, .int x_9), (3, .int (1 : Int32)), (0, .ref a0), (1, .ref a1), (2, .int x2)]) dL_areAlike_24 (by decide) rfl ?_
    refine x_iconst (v := (0 : Int32)) dL_areAlike_26 (by decide) ?_
    refine x_istore (L' := [(5, .int (0 : Int32)), (4, .int x_9), (3, .int (1 : Int32)), (0, .ref a0), (1, .ref a1), (2, .int x2)]) dL_areAlike_27 (by decide) rfl ?_
    obtain ⟨f_10, h⟩ := h
    refine x_sub (L' := [(0, .ref a0), (1, .ref a1), (2, .int x2), (3, .int (1 : Int32)), (4, .int x_9), (5, .int (0 : Int32))]) [3, 4, 5, 2, 1, 0] rfl ?_
    exact S_L_areAlike_29 hl ht hr  f_10 a0 a1 x2 (1 : Int32) x_9 (0 : Int32) t_8 rc rs h
theorem M_L_areAlike {l : Launch} {G : xG} (hl : l.stackTraces = false) {a0 : Nat} {a1 : Nat} {x2 : Int32} {t : xT} {K : Int32 → xT → Prop} {rc rs : Nat} (h : V_L_areAlike_0 G.2.2.2 K a0 a1 x2 t rc rs) : xMet l G yL_areAlike k_L_areAlike (some .boolean) [.ref a0, .ref a1, .int x2] t (xKi K) rc rs := xMet.of (by decide +kernel) rfl hl (Nat.le_of_ble_eq_true rfl) (fun Γ e1 e2 ht hn hr => by subst e1; subst e2; exact S_L_areAlike_0 hl ht hr h)
def V_L_cell_0 (K : Int32 → xT → Prop) (a0 : Nat) (x1 : Int32) (t : xT) : Prop :=
  xal t a0 fun x_1 => ((x_1 ≤ x1 → K (((7919 : Int32) * (x1 + (1663 : Int32))) * (x1 + (4177 : Int32))) t) ∧ (¬ x_1 ≤ x1 → xaI 9 t a0 x1 fun x_2 => K x_2 t))
set_option maxRecDepth 20000 in
theorem S_L_cell_0 {Γ : xΓ} {K : Int32 → xT → Prop} (hl : (gl Γ).stackTraces = false) (ht : (gM Γ).sig.returnType = (some .int)) (hr : xRet Γ (xKi K)) {a0 : Nat} {x1 : Int32} {t : xT} {rc rs : Nat} (h : V_L_cell_0 K a0 x1 t) : xX Γ k_L_cell 0 [(0, .ref a0), (1, .int x1)] [] t rc rs := by
  unfold V_L_cell_0 at h
  refine x_iload_n 1 dL_cell_0 rfl rfl ?_
  refine x_aload_n 0 dL_cell_1 rfl rfl ?_
  obtain ⟨k, z, hf, h⟩ := h
  refine x_alen dL_cell_2 hf ?_
  generalize Int32.ofNat z.1 = x_1 at h ⊢
  obtain ⟨h1, h2⟩ := h
  refine x_icmp_ge (tgt := 12) dL_cell_3 (by decide) (fun q => ?_) (fun q => ?_)
  · have h := h1 q
    refine x_sipush (v := (7919 : Int32)) dL_cell_12 (by decide) ?_
    refine x_iload_n 1 dL_cell_15 rfl rfl ?_
    refine x_sipush (v := (1663 : Int32)) dL_cell_16 (by decide) ?_
    refine x_iadd dL_cell_19 ?_
    refine x_imul dL_cell_20 ?_
    refine x_iload_n 1 dL_cell_21 rfl rfl ?_
    refine x_sipush (v := (4177 : Int32)) dL_cell_22 (by decide) ?_
    refine x_iadd dL_cell_25 ?_
    refine x_imul dL_cell_26 ?_
    exact x_zret dL_cell_27 hr ht rfl ⟨_, rfl, h⟩
  · have h := h2 q
    refine x_aload_n 0 dL_cell_6 rfl rfl ?_
    refine x_iload_n 1 dL_cell_7 rfl rfl ?_
    obtain ⟨n, f, hf, hi, h⟩ := h
    refine x_iald9 dL_cell_8 hf hi ?_
    generalize f _ = x_2 at h ⊢
    refine x_goto (tgt := 27) dL_cell_9 (by decide) ?_
    exact x_zret dL_cell_27 hr ht rfl ⟨_, rfl, h⟩
theorem M_L_cell {l : Launch} {G : xG} (hl : l.stackTraces = false) {a0 : Nat} {x1 : Int32} {t : xT} {K : Int32 → xT → Prop} (h : V_L_cell_0 K a0 x1 t) : xMet l G yL_cell k_L_cell (some .int) [.ref a0, .int x1] t (xKi K) 0 0 := xMet.of (by decide +kernel) rfl hl (Nat.le_of_ble_eq_true rfl) (fun Γ e1 e2 ht hn hr => by subst e1; subst e2; exact S_L_cell_0 hl ht hr h)
def V_L_isBack_171 (E : Nat → Nat) (K : Int32 → xT → Prop) (a1 : Nat) (x2 : Int32) (x3 : Int32) (x4 : Int32) (y5 : Int64) (xs0 : Int32) (t : xT) (rc rs : Nat) : Prop :=
  ((xs0 = 0 → K (0 : Int32) t) ∧ (¬ xs0 = 0 → (V_L_low_0 (fun x_2 t_1 => (∃ m_5 z_6 : Nat, m_5 ≤ rc ∧ z_6 ≤ rs ∧ V_L_does_0 E (fun y_4 t_3 => ((¬ y_4 = y5 → K (0 : Int32) t_3) ∧ (y_4 = y5 → K (1 : Int32) t_3))) a1 (8 : Int32) x3 x4 x_2 t_1 m_5 z_6)) (x2 >>> ((3 : Int32) &&& 31)) (200000 : Int32) t)))
set_option maxRecDepth 20000 in
theorem S_L_isBack_171 {Γ : xΓ} {K : Int32 → xT → Prop} (hl : (gl Γ).stackTraces = false) (ht : (gM Γ).sig.returnType = (some .boolean)) (hr : xRet Γ (xKi K)) {a1 : Nat} {x2 : Int32} {x3 : Int32} {x4 : Int32} {y5 : Int64} {xs0 : Int32} {t : xT} {rc rs : Nat} (h : V_L_isBack_171 (gG Γ).2.2.2 K a1 x2 x3 x4 y5 xs0 t rc rs) : xX Γ k_L_isBack 171 [(1, .ref a1), (2, .int x2), (3, .int x3), (4, .int x4), (5, .long y5)] [.int xs0] t rc rs := by
  unfold V_L_isBack_171 at h
  refine x_istore (L' := [(13, .int xs0), (1, .ref a1), (2, .int x2), (3, .int x3), (4, .int x4), (5, .long y5)]) dL_isBack_171 (by decide) rfl ?_
  refine x_iload 0 dL_isBack_173 rfl ?_
  obtain ⟨h1, h2⟩ := h
  refine x_if_eq (tgt := 205) dL_isBack_175 (by decide) (fun q => ?_) (fun q => ?_)
  · have h := h1 q
    refine x_iconst (v := (0 : Int32)) dL_isBack_205 (by decide) ?_
    exact x_zret dL_isBack_206 hr ht (by decide) ⟨_, rfl, h⟩
  · have h := h2 q
    refine x_aload_n 1 dL_isBack_178 rfl rfl ?_
    refine x_bipush (v := (8 : Int32)) dL_isBack_179 (by decide) ?_
    refine x_iload_n 3 dL_isBack_181 rfl rfl ?_
    refine x_iload 4 dL_isBack_182 rfl ?_
    refine x_iload_n 2 dL_isBack_184 rfl rfl ?_
    refine x_iconst (v := (3 : Int32)) dL_isBack_185 (by decide) ?_
    refine x_ishr dL_isBack_186 ?_
    refine x_ldc dL_isBack_187 xw1140 ?_
    refine x_invS (as := [.int (x2 >>> ((3 : Int32) &&& 31)), .int (200000 : Int32)]) (rest := [.int x4, .int x3, .int (8 : Int32), .ref a1]) dL_isBack_189 xc_L_isBack_84 (M_L_low hl h) rfl rfl (Nat.le_of_ble_eq_true rfl) (Nat.zero_le _) (Nat.zero_le _) (xk_i fun x_2 t_1 h => ?_)
    obtain ⟨m_5, z_6, hm, hs, h⟩ := h
    refine x_invSH (as := [.ref a1, .int (8 : Int32), .int x3, .int x4, .int x_2]) (rest := []) dL_isBack_192 xc_L_isBack_91 (M_L_does hl h) rfl rfl (Nat.le_of_ble_eq_true rfl) hm hs (xk_l fun y_4 t_3 h => ?_)
    refine x_lload 5 dL_isBack_195 rfl ?_
    obtain ⟨h1, h2⟩ := h
    refine x_lcmp_ne (tgt := 205) dL_isBack_197 dL_isBack_198 (by decide) (fun q => ?_) (fun q => ?_)
    · have h := h1 q
      refine x_iconst (v := (0 : Int32)) dL_isBack_205 (by decide) ?_
      exact x_zret dL_isBack_206 hr ht (by decide) ⟨_, rfl, h⟩
    · have h := h2 q
      refine x_iconst (v := (1 : Int32)) dL_isBack_201 (by decide) ?_
      refine x_goto (tgt := 206) dL_isBack_202 (by decide) ?_
      exact x_zret dL_isBack_206 hr ht (by decide) ⟨_, rfl, h⟩
def V_L_isBack_126 (E : Nat → Nat) (K : Int32 → xT → Prop) (a0 : Nat) (a1 : Nat) (x2 : Int32) (x3 : Int32) (x4 : Int32) (y5 : Int64) (y11 : Int64) (xs0 : Int32) (t : xT) (rc rs : Nat) : Prop :=
  ((xs0 = 0 → V_L_isBack_171 E K a1 x2 x3 x4 y5 (0 : Int32) t rc rs) ∧ (¬ xs0 = 0 → ((y5 = (-9000000000000 : Int64) → V_L_isBack_171 E K a1 x2 x3 x4 y5 (1 : Int32) t rc rs) ∧ (¬ y5 = (-9000000000000 : Int64) → (V_L_low_0 (fun x_2 t_1 => (∃ m_5 z_6 : Nat, m_5 ≤ rc ∧ z_6 ≤ rs ∧ V_L_does_0 E (fun y_4 t_3 => ((¬ y_4 = (-y11) → V_L_isBack_171 E K a1 x2 x3 x4 y5 (0 : Int32) t_3 (rc - m_5) (rs - z_6)) ∧ (y_4 = (-y11) → V_L_isBack_171 E K a1 x2 x3 x4 y5 (1 : Int32) t_3 (rc - m_5) (rs - z_6)))) a0 (8 : Int32) x3 x4 x_2 t_1 m_5 z_6)) (x2 >>> ((3 : Int32) &&& 31)) (200000 : Int32) t)))))
set_option maxRecDepth 20000 in
theorem S_L_isBack_126 {Γ : xΓ} {K : Int32 → xT → Prop} (hl : (gl Γ).stackTraces = false) (ht : (gM Γ).sig.returnType = (some .boolean)) (hr : xRet Γ (xKi K)) {a0 : Nat} {a1 : Nat} {x2 : Int32} {x3 : Int32} {x4 : Int32} {y5 : Int64} {y11 : Int64} {xs0 : Int32} {t : xT} {rc rs : Nat} (h : V_L_isBack_126 (gG Γ).2.2.2 K a0 a1 x2 x3 x4 y5 y11 xs0 t rc rs) : xX Γ k_L_isBack 126 [(0, .ref a0), (1, .ref a1), (2, .int x2), (3, .int x3), (4, .int x4), (5, .long y5), (11, .long y11)] [.int xs0] t rc rs := by
  unfold V_L_isBack_126 at h
  refine x_istore (L' := [(13, .int xs0), (0, .ref a0), (1, .ref a1), (2, .int x2), (3, .int x3), (4, .int x4), (5, .long y5), (11, .long y11)]) dL_isBack_126 (by decide) rfl ?_
  refine x_iload 0 dL_isBack_128 rfl ?_
  obtain ⟨h1, h2⟩ := h
  refine x_if_eq (tgt := 170) dL_isBack_130 (by decide) (fun q => ?_) (fun q => ?_)
  · have h := h1 q
    refine x_iconst (v := (0 : Int32)) dL_isBack_170 (by decide) ?_
    refine x_sub (L' := [(1, .ref a1), (2, .int x2), (3, .int x3), (4, .int x4), (5, .long y5)]) [2, 3, 4, 5, 6] rfl ?_
    exact S_L_isBack_171 hl ht hr  h
  · have h := h2 q
    refine x_lload 6 dL_isBack_133 rfl ?_
    refine x_ldc2 dL_isBack_135 xw1132 ?_
    obtain ⟨h1, h2⟩ := h
    refine x_lcmp_eq (tgt := 166) dL_isBack_138 dL_isBack_139 (by decide) (fun q => ?_) (fun q => ?_)
    · have h := h1 q
      refine x_iconst (v := (1 : Int32)) dL_isBack_166 (by decide) ?_
      refine x_goto (tgt := 171) dL_isBack_167 (by decide) ?_
      refine x_sub (L' := [(1, .ref a1), (2, .int x2), (3, .int x3), (4, .int x4), (5, .long y5)]) [2, 3, 4, 5, 6] rfl ?_
      exact S_L_isBack_171 hl ht hr  h
    · have h := h2 q
      refine x_aload_n 1 dL_isBack_142 rfl rfl ?_
      refine x_bipush (v := (8 : Int32)) dL_isBack_143 (by decide) ?_
      refine x_iload_n 4 dL_isBack_145 rfl rfl ?_
      refine x_iload 5 dL_isBack_146 rfl ?_
      refine x_iload_n 3 dL_isBack_148 rfl rfl ?_
      refine x_iconst (v := (3 : Int32)) dL_isBack_149 (by decide) ?_
      refine x_ishr dL_isBack_150 ?_
      refine x_ldc dL_isBack_151 xw1140 ?_
      refine x_invS (as := [.int (x2 >>> ((3 : Int32) &&& 31)), .int (200000 : Int32)]) (rest := [.int x4, .int x3, .int (8 : Int32), .ref a0]) dL_isBack_153 xc_L_isBack_84 (M_L_low hl h) rfl rfl (Nat.le_of_ble_eq_true rfl) (Nat.zero_le _) (Nat.zero_le _) (xk_i fun x_2 t_1 h => ?_)
      obtain ⟨m_5, z_6, hm, hs, h⟩ := h
      refine x_invSH (as := [.ref a0, .int (8 : Int32), .int x3, .int x4, .int x_2]) (rest := []) dL_isBack_156 xc_L_isBack_91 (M_L_does hl h) rfl rfl (Nat.le_of_ble_eq_true rfl) hm hs (xk_l fun y_4 t_3 h => ?_)
      refine x_lload 7 dL_isBack_159 rfl ?_
      refine x_lneg dL_isBack_161 ?_
      obtain ⟨h1, h2⟩ := h
      refine x_lcmp_ne (tgt := 170) dL_isBack_162 dL_isBack_163 (by decide) (fun q => ?_) (fun q => ?_)
      · have h := h1 q
        refine x_iconst (v := (0 : Int32)) dL_isBack_170 (by decide) ?_
        refine x_sub (L' := [(1, .ref a1), (2, .int x2), (3, .int x3), (4, .int x4), (5, .long y5)]) [2, 3, 4, 5, 6] rfl ?_
        exact S_L_isBack_171 hl ht hr  h
      · have h := h2 q
        refine x_iconst (v := (1 : Int32)) dL_isBack_166 (by decide) ?_
        refine x_goto (tgt := 171) dL_isBack_167 (by decide) ?_
        refine x_sub (L' := [(1, .ref a1), (2, .int x2), (3, .int x3), (4, .int x4), (5, .long y5)]) [2, 3, 4, 5, 6] rfl ?_
        exact S_L_isBack_171 hl ht hr  h
def V_L_isBack_0 (E : Nat → Nat) (K : Int32 → xT → Prop) (a0 : Nat) (a1 : Nat) (x2 : Int32) (t : xT) (rc rs : Nat) : Prop :=
  (V_L_low_0 (fun x_2 t_1 => (V_L_low_0 (fun x_4 t_3 => (V_L_low_0 (fun x_6 t_5 => (∃ m_9 z_10 : Nat, m_9 ≤ rc ∧ z_10 ≤ rs ∧ V_L_does_0 E (fun y_8 t_7 => (∃ m_13 z_14 : Nat, m_13 ≤ (rc - m_9) ∧ z_14 ≤ (rs - z_10) ∧ V_L_does_0 E (fun y_12 t_11 => (∃ m_17 z_18 : Nat, m_17 ≤ ((rc - m_9) - m_13) ∧ z_18 ≤ ((rs - z_10) - z_14) ∧ V_L_does_0 E (fun y_16 t_15 => (V_L_low_0 (fun x_20 t_19 => (∃ m_23 z_24 : Nat, m_23 ≤ (((rc - m_9) - m_13) - m_17) ∧ z_24 ≤ (((rs - z_10) - z_14) - z_18) ∧ V_L_does_0 E (fun y_22 t_21 => ((y_8 = (-9000000000000 : Int64) → V_L_isBack_126 E K a0 a1 x2 x_2 x_4 y_8 y_22 (1 : Int32) t_21 ((((rc - m_9) - m_13) - m_17) - m_23) ((((rs - z_10) - z_14) - z_18) - z_24)) ∧ (¬ y_8 = (-9000000000000 : Int64) → (∃ m_27 z_28 : Nat, m_27 ≤ ((((rc - m_9) - m_13) - m_17) - m_23) ∧ z_28 ≤ ((((rs - z_10) - z_14) - z_18) - z_24) ∧ V_L_does_0 E (fun y_26 t_25 => ((¬ y_26 = (y_12 + y_22) → V_L_isBack_126 E K a0 a1 x2 x_2 x_4 y_8 y_22 (0 : Int32) t_25 (((((rc - m_9) - m_13) - m_17) - m_23) - m_27) (((((rs - z_10) - z_14) - z_18) - z_24) - z_28)) ∧ (y_26 = (y_12 + y_22) → (∃ m_31 z_32 : Nat, m_31 ≤ (((((rc - m_9) - m_13) - m_17) - m_23) - m_27) ∧ z_32 ≤ (((((rs - z_10) - z_14) - z_18) - z_24) - z_28) ∧ V_L_does_0 E (fun y_30 t_29 => ((¬ y_30 = (y_16 - y_22) → V_L_isBack_126 E K a0 a1 x2 x_2 x_4 y_8 y_22 (0 : Int32) t_29 ((((((rc - m_9) - m_13) - m_17) - m_23) - m_27) - m_31) ((((((rs - z_10) - z_14) - z_18) - z_24) - z_28) - z_32)) ∧ (y_30 = (y_16 - y_22) → V_L_isBack_126 E K a0 a1 x2 x_2 x_4 y_8 y_22 (1 : Int32) t_29 ((((((rc - m_9) - m_13) - m_17) - m_23) - m_27) - m_31) ((((((rs - z_10) - z_14) - z_18) - z_24) - z_28) - z_32)))) a0 (14 : Int32) x_2 (0 : Int32) (0 : Int32) t_25 m_31 z_32)))) a0 (12 : Int32) x_2 (0 : Int32) (0 : Int32) t_21 m_27 z_28)))) a0 (8 : Int32) x_2 x_4 x_20 t_19 m_23 z_24)) (x2 >>> ((5 : Int32) &&& 31)) (300000 : Int32) t_15)) a0 (14 : Int32) x_2 (0 : Int32) (0 : Int32) t_11 m_17 z_18)) a0 (12 : Int32) x_2 (0 : Int32) (0 : Int32) t_7 m_13 z_14)) a0 (8 : Int32) x_2 x_4 x_6 t_5 m_9 z_10)) (x2 >>> ((3 : Int32) &&& 31)) (200000 : Int32) t_3)) (x2 >>> ((2 : Int32) &&& 31)) (6 : Int32) t_1)) x2 (4 : Int32) t)
set_option maxRecDepth 20000 in
theorem S_L_isBack_0 {Γ : xΓ} {K : Int32 → xT → Prop} (hl : (gl Γ).stackTraces = false) (ht : (gM Γ).sig.returnType = (some .boolean)) (hr : xRet Γ (xKi K)) {a0 : Nat} {a1 : Nat} {x2 : Int32} {t : xT} {rc rs : Nat} (h : V_L_isBack_0 (gG Γ).2.2.2 K a0 a1 x2 t rc rs) : xX Γ k_L_isBack 0 [(0, .ref a0), (1, .ref a1), (2, .int x2)] [] t rc rs := by
  unfold V_L_isBack_0 at h
  refine x_iload_n 2 dL_isBack_0 rfl rfl ?_
  refine x_iconst (v := (4 : Int32)) dL_isBack_1 (by decide) ?_
  refine x_invS (as := [.int x2, .int (4 : Int32)]) (rest := []) dL_isBack_2 xc_L_isBack_84 (M_L_low hl h) rfl rfl (Nat.le_of_ble_eq_true rfl) (Nat.zero_le _) (Nat.zero_le _) (xk_i fun x_2 t_1 h => ?_)
  refine x_istore_n (L' := [(3, .int x_2), (0, .ref a0), (1, .ref a1), (2, .int x2)]) dL_isBack_5 rfl (by decide) rfl ?_
  refine x_iload_n 3 dL_isBack_6 rfl rfl ?_
  refine x_iconst (v := (2 : Int32)) dL_isBack_7 (by decide) ?_
  refine x_ishr dL_isBack_8 ?_
  refine x_bipush (v := (6 : Int32)) dL_isBack_9 (by decide) ?_
  refine x_invS (as := [.int (x2 >>> ((2 : Int32) &&& 31)), .int (6 : Int32)]) (rest := []) dL_isBack_11 xc_L_isBack_84 (M_L_low hl h) rfl rfl (Nat.le_of_ble_eq_true rfl) (Nat.zero_le _) (Nat.zero_le _) (xk_i fun x_4 t_3 h => ?_)
  refine x_istore (L' := [(4, .int x_4), (3, .int x_2), (0, .ref a0), (1, .ref a1), (2, .int x2)]) dL_isBack_14 (by decide) rfl ?_
  refine x_aload_n 2 dL_isBack_16 rfl rfl ?_
  refine x_bipush (v := (8 : Int32)) dL_isBack_17 (by decide) ?_
  refine x_iload_n 1 dL_isBack_19 rfl rfl ?_
  refine x_iload 0 dL_isBack_20 rfl ?_
  refine x_iload_n 4 dL_isBack_22 rfl rfl ?_
  refine x_iconst (v := (3 : Int32)) dL_isBack_23 (by decide) ?_
  refine x_ishr dL_isBack_24 ?_
  refine x_ldc dL_isBack_25 xw1140 ?_
  refine x_invS (as := [.int (x2 >>> ((3 : Int32) &&& 31)), .int (200000 : Int32)]) (rest := [.int x_4, .int x_2, .int (8 : Int32), .ref a0]) dL_isBack_27 xc_L_isBack_84 (M_L_low hl h) rfl rfl (Nat.le_of_ble_eq_true rfl) (Nat.zero_le _) (Nat.zero_le _) (xk_i fun x_6 t_5 h => ?_)
  obtain ⟨m_9, z_10, hm, hs, h⟩ := h
  refine x_invSH (as := [.ref a0, .int (8 : Int32), .int x_2, .int x_4, .int x_6]) (rest := []) dL_isBack_30 xc_L_isBack_91 (M_L_does hl h) rfl rfl (Nat.le_of_ble_eq_true rfl) hm hs (xk_l fun y_8 t_7 h => ?_)
  refine x_lstore (L' := [(5, .long y_8), (4, .int x_4), (3, .int x_2), (0, .ref a0), (1, .ref a1), (2, .int x2)]) dL_isBack_33 (by decide) rfl ?_
  refine x_aload_n 3 dL_isBack_35 rfl rfl ?_
  refine x_bipush (v := (12 : Int32)) dL_isBack_36 (by decide) ?_
  refine x_iload_n 2 dL_isBack_38 rfl rfl ?_
  refine x_iconst (v := (0 : Int32)) dL_isBack_39 (by decide) ?_
  refine x_iconst (v := (0 : Int32)) dL_isBack_40 (by decide) ?_
  obtain ⟨m_13, z_14, hm, hs, h⟩ := h
  refine x_invSH (as := [.ref a0, .int (12 : Int32), .int x_2, .int (0 : Int32), .int (0 : Int32)]) (rest := []) dL_isBack_41 xc_L_isBack_91 (M_L_does hl h) rfl rfl (Nat.le_of_ble_eq_true rfl) hm hs (xk_l fun y_12 t_11 h => ?_)
  refine x_lstore (L' := [(7, .long y_12), (5, .long y_8), (4, .int x_4), (3, .int x_2), (0, .ref a0), (1, .ref a1), (2, .int x2)]) dL_isBack_44 (by decide) rfl ?_
  refine x_aload_n 4 dL_isBack_46 rfl rfl ?_
  refine x_bipush (v := (14 : Int32)) dL_isBack_47 (by decide) ?_
  refine x_iload_n 3 dL_isBack_49 rfl rfl ?_
  refine x_iconst (v := (0 : Int32)) dL_isBack_50 (by decide) ?_
  refine x_iconst (v := (0 : Int32)) dL_isBack_51 (by decide) ?_
  obtain ⟨m_17, z_18, hm, hs, h⟩ := h
  refine x_invSH (as := [.ref a0, .int (14 : Int32), .int x_2, .int (0 : Int32), .int (0 : Int32)]) (rest := []) dL_isBack_52 xc_L_isBack_91 (M_L_does hl h) rfl rfl (Nat.le_of_ble_eq_true rfl) hm hs (xk_l fun y_16 t_15 h => ?_)
  refine x_lstore (L' := [(9, .long y_16), (7, .long y_12), (5, .long y_8), (4, .int x_4), (3, .int x_2), (0, .ref a0), (1, .ref a1), (2, .int x2)]) dL_isBack_55 (by decide) rfl ?_
  refine x_aload_n 5 dL_isBack_57 rfl rfl ?_
  refine x_bipush (v := (8 : Int32)) dL_isBack_58 (by decide) ?_
  refine x_iload_n 4 dL_isBack_60 rfl rfl ?_
  refine x_iload 3 dL_isBack_61 rfl ?_
  refine x_iload_n 7 dL_isBack_63 rfl rfl ?_
  refine x_iconst (v := (5 : Int32)) dL_isBack_64 (by decide) ?_
  refine x_ishr dL_isBack_65 ?_
  refine x_ldc dL_isBack_66 xw1157 ?_
  refine x_invS (as := [.int (x2 >>> ((5 : Int32) &&& 31)), .int (300000 : Int32)]) (rest := [.int x_4, .int x_2, .int (8 : Int32), .ref a0]) dL_isBack_68 xc_L_isBack_84 (M_L_low hl h) rfl rfl (Nat.le_of_ble_eq_true rfl) (Nat.zero_le _) (Nat.zero_le _) (xk_i fun x_20 t_19 h => ?_)
  obtain ⟨m_23, z_24, hm, hs, h⟩ := h
  refine x_invSH (as := [.ref a0, .int (8 : Int32), .int x_2, .int x_4, .int x_20]) (rest := []) dL_isBack_71 xc_L_isBack_91 (M_L_does hl h) rfl rfl (Nat.le_of_ble_eq_true rfl) hm hs (xk_l fun y_22 t_21 h => ?_)
  refine x_lstore (L' := [(11, .long y_22), (9, .long y_16), (7, .long y_12), (5, .long y_8), (4, .int x_4), (3, .int x_2), (0, .ref a0), (1, .ref a1), (2, .int x2)]) dL_isBack_74 (by decide) rfl ?_
  refine x_lload 3 dL_isBack_76 rfl ?_
  refine x_ldc2 dL_isBack_78 xw1132 ?_
  obtain ⟨h1, h2⟩ := h
  refine x_lcmp_eq (tgt := 121) dL_isBack_81 dL_isBack_82 (by decide) (fun q => ?_) (fun q => ?_)
  · have h := h1 q
    refine x_iconst (v := (1 : Int32)) dL_isBack_121 (by decide) ?_
    refine x_goto (tgt := 126) dL_isBack_122 (by decide) ?_
    refine x_sub (L' := [(0, .ref a0), (1, .ref a1), (2, .int x2), (3, .int x_2), (4, .int x_4), (5, .long y_8), (11, .long y_22)]) [6, 7, 8, 5, 4, 3, 0] rfl ?_
    exact S_L_isBack_126 hl ht hr  h
  · have h := h2 q
    refine x_aload_n 6 dL_isBack_85 rfl rfl ?_
    refine x_bipush (v := (12 : Int32)) dL_isBack_86 (by decide) ?_
    refine x_iload_n 5 dL_isBack_88 rfl rfl ?_
    refine x_iconst (v := (0 : Int32)) dL_isBack_89 (by decide) ?_
    refine x_iconst (v := (0 : Int32)) dL_isBack_90 (by decide) ?_
    obtain ⟨m_27, z_28, hm, hs, h⟩ := h
    refine x_invSH (as := [.ref a0, .int (12 : Int32), .int x_2, .int (0 : Int32), .int (0 : Int32)]) (rest := []) dL_isBack_91 xc_L_isBack_91 (M_L_does hl h) rfl rfl (Nat.le_of_ble_eq_true rfl) hm hs (xk_l fun y_26 t_25 h => ?_)
    refine x_lload 2 dL_isBack_94 rfl ?_
    refine x_lload 0 dL_isBack_96 rfl ?_
    refine x_ladd dL_isBack_98 ?_
    obtain ⟨h1, h2⟩ := h
    refine x_lcmp_ne (tgt := 125) dL_isBack_99 dL_isBack_100 (by decide) (fun q => ?_) (fun q => ?_)
    · have h := h1 q
      refine x_iconst (v := (0 : Int32)) dL_isBack_125 (by decide) ?_
      refine x_sub (L' := [(0, .ref a0), (1, .ref a1), (2, .int x2), (3, .int x_2), (4, .int x_4), (5, .long y_8), (11, .long y_22)]) [6, 7, 8, 5, 4, 3, 0] rfl ?_
      exact S_L_isBack_126 hl ht hr  h
    · have h := h2 q
      refine x_aload_n 6 dL_isBack_103 rfl rfl ?_
      refine x_bipush (v := (14 : Int32)) dL_isBack_104 (by decide) ?_
      refine x_iload_n 5 dL_isBack_106 rfl rfl ?_
      refine x_iconst (v := (0 : Int32)) dL_isBack_107 (by decide) ?_
      refine x_iconst (v := (0 : Int32)) dL_isBack_108 (by decide) ?_
      obtain ⟨m_31, z_32, hm, hs, h⟩ := h
      refine x_invSH (as := [.ref a0, .int (14 : Int32), .int x_2, .int (0 : Int32), .int (0 : Int32)]) (rest := []) dL_isBack_109 xc_L_isBack_91 (M_L_does hl h) rfl rfl (Nat.le_of_ble_eq_true rfl) hm hs (xk_l fun y_30 t_29 h => ?_)
      refine x_lload 1 dL_isBack_112 rfl ?_
      refine x_lload 0 dL_isBack_114 rfl ?_
      refine x_lsub dL_isBack_116 ?_
      obtain ⟨h1, h2⟩ := h
      refine x_lcmp_ne (tgt := 125) dL_isBack_117 dL_isBack_118 (by decide) (fun q => ?_) (fun q => ?_)
      · have h := h1 q
        refine x_iconst (v := (0 : Int32)) dL_isBack_125 (by decide) ?_
        refine x_sub (L' := [(0, .ref a0), (1, .ref a1), (2, .int x2), (3, .int x_2), (4, .int x_4), (5, .long y_8), (11, .long y_22)]) [6, 7, 8, 5, 4, 3, 0] rfl ?_
        exact S_L_isBack_126 hl ht hr  h
      · have h := h2 q
        refine x_iconst (v := (1 : Int32)) dL_isBack_121 (by decide) ?_
        refine x_goto (tgt := 126) dL_isBack_122 (by decide) ?_
        refine x_sub (L' := [(0, .ref a0), (1, .ref a1), (2, .int x2), (3, .int x_2), (4, .int x_4), (5, .long y_8), (11, .long y_22)]) [6, 7, 8, 5, 4, 3, 0] rfl ?_
        exact S_L_isBack_126 hl ht hr  h
theorem M_L_isBack {l : Launch} {G : xG} (hl : l.stackTraces = false) {a0 : Nat} {a1 : Nat} {x2 : Int32} {t : xT} {K : Int32 → xT → Prop} {rc rs : Nat} (h : V_L_isBack_0 G.2.2.2 K a0 a1 x2 t rc rs) : xMet l G yL_isBack k_L_isBack (some .boolean) [.ref a0, .ref a1, .int x2] t (xKi K) rc rs := xMet.of (by decide +kernel) rfl hl (Nat.le_of_ble_eq_true rfl) (fun Γ e1 e2 ht hn hr => by subst e1; subst e2; exact S_L_isBack_0 hl ht hr h)
def V_L_isInOrder_330 (E : Nat → Nat) (KX : String → xT → Prop) (K : Int32 → xT → Prop) (a0 : Nat) (y2 : Int64) (x4 : Int32) (t : xT) (rc rs : Nat) : Prop :=
  ((x4 = 0 → K (0 : Int32) t) ∧ (¬ x4 = 0 → (xis t a0 7 ∧ V_X7_owner_0 (fun y_2 t_1 => ((¬ y_2 = (-y2) → K (0 : Int32) t_1) ∧ (y_2 = (-y2) → K (1 : Int32) t_1))) a0 t)))
set_option maxRecDepth 20000 in
theorem S_L_isInOrder_330 {Γ : xΓ} {KX : String → xT → Prop} {K : Int32 → xT → Prop} (hl : (gl Γ).stackTraces = false) (ht : (gM Γ).sig.returnType = (some .boolean)) (hr : xRet Γ (xKi K)) (hx : xThr Γ KX) {a0 : Nat} {y2 : Int64} {x4 : Int32} {t : xT} {rc rs : Nat} (h : V_L_isInOrder_330 (gG Γ).2.2.2 KX K a0 y2 x4 t rc rs) : xX Γ k_L_isInOrder 330 [(0, .ref a0), (2, .long y2), (4, .int x4)] [] t rc rs := by
  unfold V_L_isInOrder_330 at h
  refine x_iload 2 dL_isInOrder_330 rfl ?_
  obtain ⟨h1, h2⟩ := h
  refine x_if_eq (tgt := 349) dL_isInOrder_332 (by decide) (fun q => ?_) (fun q => ?_)
  · have h := h1 q
    refine x_iconst (v := (0 : Int32)) dL_isInOrder_349 (by decide) ?_
    exact x_zret dL_isInOrder_350 hr ht (by decide) ⟨_, rfl, h⟩
  · have h := h2 q
    refine x_aload_n 0 dL_isInOrder_335 rfl rfl ?_
    obtain ⟨⟨fs, hf⟩, h⟩ := h
    refine x_invV (as := []) (rest := []) dL_isInOrder_336 (q := (RX7, TX7, 10)) rfl xc_L_isInOrder_98 hf (M_X7_owner hl h) rfl rfl (Nat.le_of_ble_eq_true rfl) (Nat.zero_le _) (Nat.zero_le _) (xk_l fun y_2 t_1 h => ?_)
    refine x_lload_n 1 dL_isInOrder_339 rfl rfl ?_
    refine x_lneg dL_isInOrder_340 ?_
    obtain ⟨h1, h2⟩ := h
    refine x_lcmp_ne (tgt := 349) dL_isInOrder_341 dL_isInOrder_342 (by decide) (fun q => ?_) (fun q => ?_)
    · have h := h1 q
      refine x_iconst (v := (0 : Int32)) dL_isInOrder_349 (by decide) ?_
      exact x_zret dL_isInOrder_350 hr ht (by decide) ⟨_, rfl, h⟩
    · have h := h2 q
      refine x_iconst (v := (1 : Int32)) dL_isInOrder_345 (by decide) ?_
      refine x_goto (tgt := 350) dL_isInOrder_346 (by decide) ?_
      exact x_zret dL_isInOrder_350 hr ht (by decide) ⟨_, rfl, h⟩
def V_L_isInOrder_280 (E : Nat → Nat) (R8 : Nat → Nat → Int64 → Int32 → Int32 → xT → Nat → Nat → Prop) (KX : String → xT → Prop) (K : Int32 → xT → Prop) (a0 : Nat) (a1 : Nat) (y2 : Int64) (x4 : Int32) (x5 : Int32) (y6 : Int64) (y8 : Int64) (t : xT) (rc rs : Nat) : Prop :=
  ((x4 = 0 → (xis t a0 7 ∧ ∃ m_3 z_4 : Nat, m_3 ≤ rc ∧ z_4 ≤ rs ∧ V_X7_desk_0 KX (fun y_2 t_1 => R8 a0 a1 (y2 + (y6 + y_2)) (0 : Int32) (x5 + 1) t_1 (rc - m_3) (rs - z_4)) a0 x5 t m_3 z_4)) ∧ (¬ x4 = 0 → ((¬ y8 = y6 → (xis t a0 7 ∧ ∃ m_7 z_8 : Nat, m_7 ≤ rc ∧ z_8 ≤ rs ∧ V_X7_desk_0 KX (fun y_6 t_5 => R8 a0 a1 (y2 + (y6 + y_6)) (0 : Int32) (x5 + 1) t_5 (rc - m_7) (rs - z_8)) a0 x5 t m_7 z_8)) ∧ (y8 = y6 → (xis t a0 7 ∧ ∃ m_11 z_12 : Nat, m_11 ≤ rc ∧ z_12 ≤ rs ∧ V_X7_owesAnew_0 KX (fun y_10 t_9 => ((¬ y_10 = y6 → (xis t_9 a0 7 ∧ ∃ m_15 z_16 : Nat, m_15 ≤ (rc - m_11) ∧ z_16 ≤ (rs - z_12) ∧ V_X7_desk_0 KX (fun y_14 t_13 => R8 a0 a1 (y2 + (y6 + y_14)) (0 : Int32) (x5 + 1) t_13 ((rc - m_11) - m_15) ((rs - z_12) - z_16)) a0 x5 t_9 m_15 z_16)) ∧ (y_10 = y6 → (xis t_9 a0 7 ∧ ∃ m_19 z_20 : Nat, m_19 ≤ (rc - m_11) ∧ z_20 ≤ (rs - z_12) ∧ V_X7_desk_0 KX (fun y_18 t_17 => R8 a0 a1 (y2 + (y6 + y_18)) (1 : Int32) (x5 + 1) t_17 ((rc - m_11) - m_19) ((rs - z_12) - z_20)) a0 x5 t_9 m_19 z_20)))) a0 x5 t m_11 z_12)))))
set_option maxRecDepth 20000 in
theorem S_L_isInOrder_280 {Γ : xΓ} {R8 : Nat → Nat → Int64 → Int32 → Int32 → xT → Nat → Nat → Prop} {KX : String → xT → Prop} {K : Int32 → xT → Prop} (hl : (gl Γ).stackTraces = false) (ht : (gM Γ).sig.returnType = (some .boolean)) (hr : xRet Γ (xKi K)) (hx : xThr Γ KX) (hR8 : ∀ (a0 : Nat) (a1 : Nat) (y2 : Int64) (x4 : Int32) (x5 : Int32) (t : xT) (rc rs : Nat), R8 a0 a1 y2 x4 x5 t rc rs → xX Γ k_L_isInOrder 8 [(0, .ref a0), (1, .ref a1), (2, .long y2), (4, .int x4), (5, .int x5)] [] t rc rs) {a0 : Nat} {a1 : Nat} {y2 : Int64} {x4 : Int32} {x5 : Int32} {y6 : Int64} {y8 : Int64} {t : xT} {rc rs : Nat} (h : V_L_isInOrder_280 (gG Γ).2.2.2 R8 KX K a0 a1 y2 x4 x5 y6 y8 t rc rs) : xX Γ k_L_isInOrder 280 [(0, .ref a0), (1, .ref a1), (2, .long y2), (4, .int x4), (5, .int x5), (6, .long y6), (8, .long y8)] [] t rc rs := by
  unfold V_L_isInOrder_280 at h
  refine x_iload 3 dL_isInOrder_280 rfl ?_
  obtain ⟨h1, h2⟩ := h
  refine x_if_eq (tgt := 309) dL_isInOrder_282 (by decide) (fun q => ?_) (fun q => ?_)
  · have h := h1 q
    refine x_iconst (v := (0 : Int32)) dL_isInOrder_309 (by decide) ?_
    refine x_istore (L' := [(4, .int (0 : Int32)), (0, .ref a0), (1, .ref a1), (2, .long y2), (5, .int x5), (6, .long y6), (8, .long y8)]) dL_isInOrder_310 (by decide) rfl ?_
    refine x_lload_n 3 dL_isInOrder_312 rfl rfl ?_
    refine x_lload 5 dL_isInOrder_313 rfl ?_
    refine x_aload_n 1 dL_isInOrder_315 rfl rfl ?_
    refine x_iload 4 dL_isInOrder_316 rfl ?_
    obtain ⟨⟨fs, hf⟩, h⟩ := h
    obtain ⟨m_3, z_4, hm, hs, h⟩ := h
    refine x_invVX (as := [.int x5]) (rest := [.long y6, .long y2]) dL_isInOrder_318 (q := (RX7, TX7, 10)) rfl xc_L_isInOrder_57 hf (M_X7_desk hl h) rfl rfl (Nat.le_of_ble_eq_true rfl) hm hs (fun _ _ h => x_thrown hx h) (xk_l fun y_2 t_1 h => ?_)
    refine x_ladd dL_isInOrder_321 ?_
    refine x_ladd dL_isInOrder_322 ?_
    refine x_lstore_n (L' := [(2, .long (y2 + (y6 + y_2))), (4, .int (0 : Int32)), (0, .ref a0), (1, .ref a1), (5, .int x5), (6, .long y6), (8, .long y8)]) dL_isInOrder_323 rfl (by decide) rfl ?_
    refine x_iinc (v := (x5 + 1)) (L' := [(5, .int (x5 + 1)), (2, .long (y2 + (y6 + y_2))), (4, .int (0 : Int32)), (0, .ref a0), (1, .ref a1), (6, .long y6), (8, .long y8)]) (j := 4) dL_isInOrder_324 rfl rfl (by decide) rfl ?_
    refine x_goto (tgt := 8) dL_isInOrder_327 (by decide) ?_
    refine x_sub (L' := [(0, .ref a0), (1, .ref a1), (2, .long (y2 + (y6 + y_2))), (4, .int (0 : Int32)), (5, .int (x5 + 1))]) [3, 4, 1, 2, 0] rfl ?_
    exact hR8 a0 a1 (y2 + (y6 + y_2)) (0 : Int32) (x5 + 1) t_1 (rc - m_3) (rs - z_4) h
  · have h := h2 q
    refine x_lload 6 dL_isInOrder_285 rfl ?_
    refine x_lload 5 dL_isInOrder_287 rfl ?_
    obtain ⟨h1, h2⟩ := h
    refine x_lcmp_ne (tgt := 309) dL_isInOrder_289 dL_isInOrder_290 (by decide) (fun q => ?_) (fun q => ?_)
    · have h := h1 q
      refine x_iconst (v := (0 : Int32)) dL_isInOrder_309 (by decide) ?_
      refine x_istore (L' := [(4, .int (0 : Int32)), (0, .ref a0), (1, .ref a1), (2, .long y2), (5, .int x5), (6, .long y6), (8, .long y8)]) dL_isInOrder_310 (by decide) rfl ?_
      refine x_lload_n 3 dL_isInOrder_312 rfl rfl ?_
      refine x_lload 5 dL_isInOrder_313 rfl ?_
      refine x_aload_n 1 dL_isInOrder_315 rfl rfl ?_
      refine x_iload 4 dL_isInOrder_316 rfl ?_
      obtain ⟨⟨fs, hf⟩, h⟩ := h
      obtain ⟨m_7, z_8, hm, hs, h⟩ := h
      refine x_invVX (as := [.int x5]) (rest := [.long y6, .long y2]) dL_isInOrder_318 (q := (RX7, TX7, 10)) rfl xc_L_isInOrder_57 hf (M_X7_desk hl h) rfl rfl (Nat.le_of_ble_eq_true rfl) hm hs (fun _ _ h => x_thrown hx h) (xk_l fun y_6 t_5 h => ?_)
      refine x_ladd dL_isInOrder_321 ?_
      refine x_ladd dL_isInOrder_322 ?_
      refine x_lstore_n (L' := [(2, .long (y2 + (y6 + y_6))), (4, .int (0 : Int32)), (0, .ref a0), (1, .ref a1), (5, .int x5), (6, .long y6), (8, .long y8)]) dL_isInOrder_323 rfl (by decide) rfl ?_
      refine x_iinc (v := (x5 + 1)) (L' := [(5, .int (x5 + 1)), (2, .long (y2 + (y6 + y_6))), (4, .int (0 : Int32)), (0, .ref a0), (1, .ref a1), (6, .long y6), (8, .long y8)]) (j := 4) dL_isInOrder_324 rfl rfl (by decide) rfl ?_
      refine x_goto (tgt := 8) dL_isInOrder_327 (by decide) ?_
      refine x_sub (L' := [(0, .ref a0), (1, .ref a1), (2, .long (y2 + (y6 + y_6))), (4, .int (0 : Int32)), (5, .int (x5 + 1))]) [3, 4, 1, 2, 0] rfl ?_
      exact hR8 a0 a1 (y2 + (y6 + y_6)) (0 : Int32) (x5 + 1) t_5 (rc - m_7) (rs - z_8) h
    · have h := h2 q
      refine x_aload_n 0 dL_isInOrder_293 rfl rfl ?_
      refine x_iload 4 dL_isInOrder_294 rfl ?_
      obtain ⟨⟨fs, hf⟩, h⟩ := h
      obtain ⟨m_11, z_12, hm, hs, h⟩ := h
      refine x_invVX (as := [.int x5]) (rest := []) dL_isInOrder_296 (q := (RX7, TX7, 10)) rfl xc_L_isInOrder_54 hf (M_X7_owesAnew hl h) rfl rfl (Nat.le_of_ble_eq_true rfl) hm hs (fun _ _ h => x_thrown hx h) (xk_l fun y_10 t_9 h => ?_)
      refine x_lload 5 dL_isInOrder_299 rfl ?_
      obtain ⟨h1, h2⟩ := h
      refine x_lcmp_ne (tgt := 309) dL_isInOrder_301 dL_isInOrder_302 (by decide) (fun q => ?_) (fun q => ?_)
      · have h := h1 q
        refine x_iconst (v := (0 : Int32)) dL_isInOrder_309 (by decide) ?_
        refine x_istore (L' := [(4, .int (0 : Int32)), (0, .ref a0), (1, .ref a1), (2, .long y2), (5, .int x5), (6, .long y6), (8, .long y8)]) dL_isInOrder_310 (by decide) rfl ?_
        refine x_lload_n 3 dL_isInOrder_312 rfl rfl ?_
        refine x_lload 5 dL_isInOrder_313 rfl ?_
        refine x_aload_n 1 dL_isInOrder_315 rfl rfl ?_
        refine x_iload 4 dL_isInOrder_316 rfl ?_
        obtain ⟨⟨fs, hf⟩, h⟩ := h
        obtain ⟨m_15, z_16, hm, hs, h⟩ := h
        refine x_invVX (as := [.int x5]) (rest := [.long y6, .long y2]) dL_isInOrder_318 (q := (RX7, TX7, 10)) rfl xc_L_isInOrder_57 hf (M_X7_desk hl h) rfl rfl (Nat.le_of_ble_eq_true rfl) hm hs (fun _ _ h => x_thrown hx h) (xk_l fun y_14 t_13 h => ?_)
        refine x_ladd dL_isInOrder_321 ?_
        refine x_ladd dL_isInOrder_322 ?_
        refine x_lstore_n (L' := [(2, .long (y2 + (y6 + y_14))), (4, .int (0 : Int32)), (0, .ref a0), (1, .ref a1), (5, .int x5), (6, .long y6), (8, .long y8)]) dL_isInOrder_323 rfl (by decide) rfl ?_
        refine x_iinc (v := (x5 + 1)) (L' := [(5, .int (x5 + 1)), (2, .long (y2 + (y6 + y_14))), (4, .int (0 : Int32)), (0, .ref a0), (1, .ref a1), (6, .long y6), (8, .long y8)]) (j := 4) dL_isInOrder_324 rfl rfl (by decide) rfl ?_
        refine x_goto (tgt := 8) dL_isInOrder_327 (by decide) ?_
        refine x_sub (L' := [(0, .ref a0), (1, .ref a1), (2, .long (y2 + (y6 + y_14))), (4, .int (0 : Int32)), (5, .int (x5 + 1))]) [3, 4, 1, 2, 0] rfl ?_
        exact hR8 a0 a1 (y2 + (y6 + y_14)) (0 : Int32) (x5 + 1) t_13 ((rc - m_11) - m_15) ((rs - z_12) - z_16) h
      · have h := h2 q
        refine x_iconst (v := (1 : Int32)) dL_isInOrder_305 (by decide) ?_
        refine x_goto (tgt := 310) dL_isInOrder_306 (by decide) ?_
        refine x_istore (L' := [(4, .int (1 : Int32)), (0, .ref a0), (1, .ref a1), (2, .long y2), (5, .int x5), (6, .long y6), (8, .long y8)]) dL_isInOrder_310 (by decide) rfl ?_
        refine x_lload_n 3 dL_isInOrder_312 rfl rfl ?_
        refine x_lload 5 dL_isInOrder_313 rfl ?_
        refine x_aload_n 1 dL_isInOrder_315 rfl rfl ?_
        refine x_iload 4 dL_isInOrder_316 rfl ?_
        obtain ⟨⟨fs, hf⟩, h⟩ := h
        obtain ⟨m_19, z_20, hm, hs, h⟩ := h
        refine x_invVX (as := [.int x5]) (rest := [.long y6, .long y2]) dL_isInOrder_318 (q := (RX7, TX7, 10)) rfl xc_L_isInOrder_57 hf (M_X7_desk hl h) rfl rfl (Nat.le_of_ble_eq_true rfl) hm hs (fun _ _ h => x_thrown hx h) (xk_l fun y_18 t_17 h => ?_)
        refine x_ladd dL_isInOrder_321 ?_
        refine x_ladd dL_isInOrder_322 ?_
        refine x_lstore_n (L' := [(2, .long (y2 + (y6 + y_18))), (4, .int (1 : Int32)), (0, .ref a0), (1, .ref a1), (5, .int x5), (6, .long y6), (8, .long y8)]) dL_isInOrder_323 rfl (by decide) rfl ?_
        refine x_iinc (v := (x5 + 1)) (L' := [(5, .int (x5 + 1)), (2, .long (y2 + (y6 + y_18))), (4, .int (1 : Int32)), (0, .ref a0), (1, .ref a1), (6, .long y6), (8, .long y8)]) (j := 4) dL_isInOrder_324 rfl rfl (by decide) rfl ?_
        refine x_goto (tgt := 8) dL_isInOrder_327 (by decide) ?_
        refine x_sub (L' := [(0, .ref a0), (1, .ref a1), (2, .long (y2 + (y6 + y_18))), (4, .int (1 : Int32)), (5, .int (x5 + 1))]) [3, 4, 1, 2, 0] rfl ?_
        exact hR8 a0 a1 (y2 + (y6 + y_18)) (1 : Int32) (x5 + 1) t_17 ((rc - m_11) - m_19) ((rs - z_12) - z_20) h
def V_L_isInOrder_243 (E : Nat → Nat) (R8 : Nat → Nat → Int64 → Int32 → Int32 → xT → Nat → Nat → Prop) (R51 : Nat → Nat → Int64 → Int32 → Int32 → Int64 → Int64 → Int32 → xT → Nat → Nat → Prop) (KX : String → xT → Prop) (K : Int32 → xT → Prop) (a0 : Nat) (a1 : Nat) (y2 : Int64) (x5 : Int32) (y6 : Int64) (y8 : Int64) (x10 : Int32) (y11 : Int64) (y13 : Int64) (y15 : Int64) (y17 : Int64) (xs0 : Int32) (t : xT) (rc rs : Nat) : Prop :=
  ((¬ y11 = (-1 : Int64) → R51 a0 a1 y2 xs0 x5 y6 (y8 + (((y11 - y13) - y15) + y17)) (x10 + 1) t rc rs) ∧ (y11 = (-1 : Int64) → R51 a0 a1 y2 xs0 x5 y6 (y8 + (0 : Int64)) (x10 + 1) t rc rs))
set_option maxRecDepth 20000 in
theorem S_L_isInOrder_243 {Γ : xΓ} {R8 : Nat → Nat → Int64 → Int32 → Int32 → xT → Nat → Nat → Prop} {R51 : Nat → Nat → Int64 → Int32 → Int32 → Int64 → Int64 → Int32 → xT → Nat → Nat → Prop} {KX : String → xT → Prop} {K : Int32 → xT → Prop} (hl : (gl Γ).stackTraces = false) (ht : (gM Γ).sig.returnType = (some .boolean)) (hr : xRet Γ (xKi K)) (hx : xThr Γ KX) (hR8 : ∀ (a0 : Nat) (a1 : Nat) (y2 : Int64) (x4 : Int32) (x5 : Int32) (t : xT) (rc rs : Nat), R8 a0 a1 y2 x4 x5 t rc rs → xX Γ k_L_isInOrder 8 [(0, .ref a0), (1, .ref a1), (2, .long y2), (4, .int x4), (5, .int x5)] [] t rc rs) (hR51 : ∀ (a0 : Nat) (a1 : Nat) (y2 : Int64) (x4 : Int32) (x5 : Int32) (y6 : Int64) (y8 : Int64) (x10 : Int32) (t : xT) (rc rs : Nat), R51 a0 a1 y2 x4 x5 y6 y8 x10 t rc rs → xX Γ k_L_isInOrder 51 [(0, .ref a0), (1, .ref a1), (2, .long y2), (4, .int x4), (5, .int x5), (6, .long y6), (8, .long y8), (10, .int x10)] [] t rc rs) {a0 : Nat} {a1 : Nat} {y2 : Int64} {x5 : Int32} {y6 : Int64} {y8 : Int64} {x10 : Int32} {y11 : Int64} {y13 : Int64} {y15 : Int64} {y17 : Int64} {xs0 : Int32} {t : xT} {rc rs : Nat} (h : V_L_isInOrder_243 (gG Γ).2.2.2 R8 R51 KX K a0 a1 y2 x5 y6 y8 x10 y11 y13 y15 y17 xs0 t rc rs) : xX Γ k_L_isInOrder 243 [(0, .ref a0), (1, .ref a1), (2, .long y2), (5, .int x5), (6, .long y6), (8, .long y8), (10, .int x10), (11, .long y11), (13, .long y13), (15, .long y15), (17, .long y17)] [.int xs0] t rc rs := by
  unfold V_L_isInOrder_243 at h
  refine x_istore (L' := [(4, .int xs0), (0, .ref a0), (1, .ref a1), (2, .long y2), (5, .int x5), (6, .long y6), (8, .long y8), (10, .int x10), (11, .long y11), (13, .long y13), (15, .long y15), (17, .long y17)]) dL_isInOrder_243 (by decide) rfl ?_
  refine x_lload 6 dL_isInOrder_245 rfl ?_
  refine x_lload 8 dL_isInOrder_247 rfl ?_
  refine x_ldc2 dL_isInOrder_249 xw1151 ?_
  obtain ⟨h1, h2⟩ := h
  refine x_lcmp_ne (tgt := 260) dL_isInOrder_252 dL_isInOrder_253 (by decide) (fun q => ?_) (fun q => ?_)
  · have h := h1 q
    refine x_lload 8 dL_isInOrder_260 rfl ?_
    refine x_lload 9 dL_isInOrder_262 rfl ?_
    refine x_lsub dL_isInOrder_264 ?_
    refine x_lload 10 dL_isInOrder_265 rfl ?_
    refine x_lsub dL_isInOrder_267 ?_
    refine x_lload 11 dL_isInOrder_268 rfl ?_
    refine x_ladd dL_isInOrder_270 ?_
    refine x_ladd dL_isInOrder_271 ?_
    refine x_lstore (L' := [(8, .long (y8 + (((y11 - y13) - y15) + y17))), (4, .int xs0), (0, .ref a0), (1, .ref a1), (2, .long y2), (5, .int x5), (6, .long y6), (10, .int x10), (11, .long y11), (13, .long y13), (15, .long y15), (17, .long y17)]) dL_isInOrder_272 (by decide) rfl ?_
    refine x_iinc (v := (x10 + 1)) (L' := [(10, .int (x10 + 1)), (8, .long (y8 + (((y11 - y13) - y15) + y17))), (4, .int xs0), (0, .ref a0), (1, .ref a1), (2, .long y2), (5, .int x5), (6, .long y6), (11, .long y11), (13, .long y13), (15, .long y15), (17, .long y17)]) (j := 7) dL_isInOrder_274 rfl rfl (by decide) rfl ?_
    refine x_goto (tgt := 51) dL_isInOrder_277 (by decide) ?_
    refine x_sub (L' := [(0, .ref a0), (1, .ref a1), (2, .long y2), (4, .int xs0), (5, .int x5), (6, .long y6), (8, .long (y8 + (((y11 - y13) - y15) + y17))), (10, .int (x10 + 1))]) [3, 4, 5, 2, 6, 7, 1, 0] rfl ?_
    exact hR51 a0 a1 y2 xs0 x5 y6 (y8 + (((y11 - y13) - y15) + y17)) (x10 + 1) t rc rs h
  · have h := h2 q
    refine x_lconst (v := (0 : Int64)) dL_isInOrder_256 (by decide) ?_
    refine x_goto (tgt := 271) dL_isInOrder_257 (by decide) ?_
    refine x_ladd dL_isInOrder_271 ?_
    refine x_lstore (L' := [(8, .long (y8 + (0 : Int64))), (4, .int xs0), (0, .ref a0), (1, .ref a1), (2, .long y2), (5, .int x5), (6, .long y6), (10, .int x10), (11, .long y11), (13, .long y13), (15, .long y15), (17, .long y17)]) dL_isInOrder_272 (by decide) rfl ?_
    refine x_iinc (v := (x10 + 1)) (L' := [(10, .int (x10 + 1)), (8, .long (y8 + (0 : Int64))), (4, .int xs0), (0, .ref a0), (1, .ref a1), (2, .long y2), (5, .int x5), (6, .long y6), (11, .long y11), (13, .long y13), (15, .long y15), (17, .long y17)]) (j := 7) dL_isInOrder_274 rfl rfl (by decide) rfl ?_
    refine x_goto (tgt := 51) dL_isInOrder_277 (by decide) ?_
    refine x_sub (L' := [(0, .ref a0), (1, .ref a1), (2, .long y2), (4, .int xs0), (5, .int x5), (6, .long y6), (8, .long (y8 + (0 : Int64))), (10, .int (x10 + 1))]) [3, 4, 5, 2, 6, 7, 1, 0] rfl ?_
    exact hR51 a0 a1 y2 xs0 x5 y6 (y8 + (0 : Int64)) (x10 + 1) t rc rs h
def VS_L_isInOrder_51 (E : Nat → Nat) (R8 : Nat → Nat → Int64 → Int32 → Int32 → xT → Nat → Nat → Prop) (R51 : Nat → Nat → Int64 → Int32 → Int32 → Int64 → Int64 → Int32 → xT → Nat → Nat → Prop) (KX : String → xT → Prop) (K : Int32 → xT → Prop) (a0 : Nat) (a1 : Nat) (y2 : Int64) (x4 : Int32) (x5 : Int32) (y6 : Int64) (y8 : Int64) (x10 : Int32) (t : xT) (rc rs : Nat) : Prop :=
  (∃ m_3 z_4 : Nat, m_3 ≤ rc ∧ z_4 ≤ rs ∧ V_L_does_0 E (fun y_2 t_1 => ((y_2 = (-9000000000000 : Int64) → V_L_isInOrder_280 E R8 KX K a0 a1 y2 x4 x5 y6 y8 t_1 (rc - m_3) (rs - z_4)) ∧ (¬ y_2 = (-9000000000000 : Int64) → ((x4 = 0 → V_L_isInOrder_280 E R8 KX K a0 a1 y2 x4 x5 y6 y8 t_1 (rc - m_3) (rs - z_4)) ∧ (¬ x4 = 0 → (xis t_1 a0 7 ∧ ∃ m_7 z_8 : Nat, m_7 ≤ (rc - m_3) ∧ z_8 ≤ (rs - z_4) ∧ V_X7_bill_0 KX (fun y_6 t_5 => (xis t_5 a0 7 ∧ ∃ m_11 z_12 : Nat, m_11 ≤ ((rc - m_3) - m_7) ∧ z_12 ≤ ((rs - z_4) - z_8) ∧ V_X7_bill_0 KX (fun y_10 t_9 => (xis t_9 a0 7 ∧ ∃ m_15 z_16 : Nat, m_15 ≤ (((rc - m_3) - m_7) - m_11) ∧ z_16 ≤ (((rs - z_4) - z_8) - z_12) ∧ V_X7_bill_0 KX (fun y_14 t_13 => (xis t_13 a0 7 ∧ ∃ m_19 z_20 : Nat, m_19 ≤ ((((rc - m_3) - m_7) - m_11) - m_15) ∧ z_20 ≤ ((((rs - z_4) - z_8) - z_12) - z_16) ∧ V_X7_bill_0 KX (fun y_18 t_17 => ((¬ y_6 = (-1 : Int64) → ((y_10 < (0 : Int64) → V_L_isInOrder_243 E R8 R51 KX K a0 a1 y2 x5 y6 y8 x10 y_6 y_10 y_14 y_18 (0 : Int32) t_17 (((((rc - m_3) - m_7) - m_11) - m_15) - m_19) (((((rs - z_4) - z_8) - z_12) - z_16) - z_20)) ∧ (¬ y_10 < (0 : Int64) → ((y_6 < y_10 → V_L_isInOrder_243 E R8 R51 KX K a0 a1 y2 x5 y6 y8 x10 y_6 y_10 y_14 y_18 (0 : Int32) t_17 (((((rc - m_3) - m_7) - m_11) - m_15) - m_19) (((((rs - z_4) - z_8) - z_12) - z_16) - z_20)) ∧ (¬ y_6 < y_10 → ((y_14 < (0 : Int64) → V_L_isInOrder_243 E R8 R51 KX K a0 a1 y2 x5 y6 y8 x10 y_6 y_10 y_14 y_18 (0 : Int32) t_17 (((((rc - m_3) - m_7) - m_11) - m_15) - m_19) (((((rs - z_4) - z_8) - z_12) - z_16) - z_20)) ∧ (¬ y_14 < (0 : Int64) → (¬ (10 : Int64) = 0 ∧ (((((y_6 - y_10) * (8 : Int64)) / (10 : Int64)) < y_14 → V_L_isInOrder_243 E R8 R51 KX K a0 a1 y2 x5 y6 y8 x10 y_6 y_10 y_14 y_18 (0 : Int32) t_17 (((((rc - m_3) - m_7) - m_11) - m_15) - m_19) (((((rs - z_4) - z_8) - z_12) - z_16) - z_20)) ∧ (¬ (((y_6 - y_10) * (8 : Int64)) / (10 : Int64)) < y_14 → ((y_18 < (0 : Int64) → V_L_isInOrder_243 E R8 R51 KX K a0 a1 y2 x5 y6 y8 x10 y_6 y_10 y_14 y_18 (0 : Int32) t_17 (((((rc - m_3) - m_7) - m_11) - m_15) - m_19) (((((rs - z_4) - z_8) - z_12) - z_16) - z_20)) ∧ (¬ y_18 < (0 : Int64) → (xis t_17 a0 7 ∧ ∃ m_23 z_24 : Nat, m_23 ≤ (((((rc - m_3) - m_7) - m_11) - m_15) - m_19) ∧ z_24 ≤ (((((rs - z_4) - z_8) - z_12) - z_16) - z_20) ∧ V_X7_line_0 E KX (fun x_22 t_21 => ((¬ x_22 = (76 : Int32) → V_L_isInOrder_243 E R8 R51 KX K a0 a1 y2 x5 y6 y8 x10 y_6 y_10 y_14 y_18 (0 : Int32) t_21 ((((((rc - m_3) - m_7) - m_11) - m_15) - m_19) - m_23) ((((((rs - z_4) - z_8) - z_12) - z_16) - z_20) - z_24)) ∧ (x_22 = (76 : Int32) → V_L_isInOrder_243 E R8 R51 KX K a0 a1 y2 x5 y6 y8 x10 y_6 y_10 y_14 y_18 (1 : Int32) t_21 ((((((rc - m_3) - m_7) - m_11) - m_15) - m_19) - m_23) ((((((rs - z_4) - z_8) - z_12) - z_16) - z_20) - z_24)))) a0 x5 x10 (0 : Int32) t_17 m_23 z_24))))))))))))) ∧ (y_6 = (-1 : Int64) → ((¬ y_10 = (-1 : Int64) → V_L_isInOrder_243 E R8 R51 KX K a0 a1 y2 x5 y6 y8 x10 y_6 y_10 y_14 y_18 (0 : Int32) t_17 (((((rc - m_3) - m_7) - m_11) - m_15) - m_19) (((((rs - z_4) - z_8) - z_12) - z_16) - z_20)) ∧ (y_10 = (-1 : Int64) → ((¬ y_14 = (-1 : Int64) → V_L_isInOrder_243 E R8 R51 KX K a0 a1 y2 x5 y6 y8 x10 y_6 y_10 y_14 y_18 (0 : Int32) t_17 (((((rc - m_3) - m_7) - m_11) - m_15) - m_19) (((((rs - z_4) - z_8) - z_12) - z_16) - z_20)) ∧ (y_14 = (-1 : Int64) → ((¬ y_18 = (-1 : Int64) → V_L_isInOrder_243 E R8 R51 KX K a0 a1 y2 x5 y6 y8 x10 y_6 y_10 y_14 y_18 (0 : Int32) t_17 (((((rc - m_3) - m_7) - m_11) - m_15) - m_19) (((((rs - z_4) - z_8) - z_12) - z_16) - z_20)) ∧ (y_18 = (-1 : Int64) → (xis t_17 a0 7 ∧ ∃ m_27 z_28 : Nat, m_27 ≤ (((((rc - m_3) - m_7) - m_11) - m_15) - m_19) ∧ z_28 ≤ (((((rs - z_4) - z_8) - z_12) - z_16) - z_20) ∧ V_X7_line_0 E KX (fun x_26 t_25 => ((¬ x_26 = (32 : Int32) → V_L_isInOrder_243 E R8 R51 KX K a0 a1 y2 x5 y6 y8 x10 y_6 y_10 y_14 y_18 (0 : Int32) t_25 ((((((rc - m_3) - m_7) - m_11) - m_15) - m_19) - m_27) ((((((rs - z_4) - z_8) - z_12) - z_16) - z_20) - z_28)) ∧ (x_26 = (32 : Int32) → V_L_isInOrder_243 E R8 R51 KX K a0 a1 y2 x5 y6 y8 x10 y_6 y_10 y_14 y_18 (1 : Int32) t_25 ((((((rc - m_3) - m_7) - m_11) - m_15) - m_19) - m_27) ((((((rs - z_4) - z_8) - z_12) - z_16) - z_20) - z_28)))) a0 x5 x10 (0 : Int32) t_17 m_27 z_28)))))))))) a0 x5 x10 (3 : Int32) t_13 m_19 z_20)) a0 x5 x10 (2 : Int32) t_9 m_15 z_16)) a0 x5 x10 (1 : Int32) t_5 m_11 z_12)) a0 x5 x10 (0 : Int32) t_1 m_7 z_8)))))) a0 (15 : Int32) x5 x10 (0 : Int32) t m_3 z_4)
def V_L_isInOrder_51 (E : Nat → Nat) (R8 : Nat → Nat → Int64 → Int32 → Int32 → xT → Nat → Nat → Prop) (KX : String → xT → Prop) (K : Int32 → xT → Prop) (n : Nat) : Nat → Nat → Int64 → Int32 → Int32 → Int64 → Int64 → Int32 → xT → Nat → Nat → Prop := Nat.rec (fun _ _ _ _ _ _ _ _ _ _ _ => False) (fun _ ih => VS_L_isInOrder_51 E R8 ih KX K) n
set_option maxRecDepth 20000 in
theorem S_L_isInOrder_51 {Γ : xΓ} {R8 : Nat → Nat → Int64 → Int32 → Int32 → xT → Nat → Nat → Prop} {KX : String → xT → Prop} {K : Int32 → xT → Prop} (hl : (gl Γ).stackTraces = false) (ht : (gM Γ).sig.returnType = (some .boolean)) (hr : xRet Γ (xKi K)) (hx : xThr Γ KX) (hR8 : ∀ (a0 : Nat) (a1 : Nat) (y2 : Int64) (x4 : Int32) (x5 : Int32) (t : xT) (rc rs : Nat), R8 a0 a1 y2 x4 x5 t rc rs → xX Γ k_L_isInOrder 8 [(0, .ref a0), (1, .ref a1), (2, .long y2), (4, .int x4), (5, .int x5)] [] t rc rs) : ∀ (n : Nat) (a0 : Nat) (a1 : Nat) (y2 : Int64) (x4 : Int32) (x5 : Int32) (y6 : Int64) (y8 : Int64) (x10 : Int32) (t : xT) (rc rs : Nat), V_L_isInOrder_51 (gG Γ).2.2.2 R8 KX K n a0 a1 y2 x4 x5 y6 y8 x10 t rc rs → xX Γ k_L_isInOrder 51 [(0, .ref a0), (1, .ref a1), (2, .long y2), (4, .int x4), (5, .int x5), (6, .long y6), (8, .long y8), (10, .int x10)] [] t rc rs := by
  intro n
  induction n with
  | zero =>
    intro a0 a1 y2 x4 x5 y6 y8 x10 t rc rs h
    exact h.elim
  | succ n ih =>
    intro a0 a1 y2 x4 x5 y6 y8 x10 t rc rs h
    replace h : VS_L_isInOrder_51 (gG Γ).2.2.2 R8 (V_L_isInOrder_51 (gG Γ).2.2.2 R8 KX K n) KX K a0 a1 y2 x4 x5 y6 y8 x10 t rc rs := h
    unfold VS_L_isInOrder_51 at h
    refine x_aload_n 0 dL_isInOrder_51 rfl rfl ?_
    refine x_bipush (v := (15 : Int32)) dL_isInOrder_52 (by decide) ?_
    refine x_iload 4 dL_isInOrder_54 rfl ?_
    refine x_iload 7 dL_isInOrder_56 rfl ?_
    refine x_iconst (v := (0 : Int32)) dL_isInOrder_58 (by decide) ?_
    obtain ⟨m_3, z_4, hm, hs, h⟩ := h
    refine x_invSH (as := [.ref a0, .int (15 : Int32), .int x5, .int x10, .int (0 : Int32)]) (rest := []) dL_isInOrder_59 xc_L_isInOrder_91 (M_L_does hl h) rfl rfl (Nat.le_of_ble_eq_true rfl) hm hs (xk_l fun y_2 t_1 h => ?_)
    refine x_ldc2 dL_isInOrder_62 xw1132 ?_
    obtain ⟨h1, h2⟩ := h
    refine x_lcmp_eq (tgt := 280) dL_isInOrder_65 dL_isInOrder_66 (by decide) (fun q => ?_) (fun q => ?_)
    · have h := h1 q
      refine x_sub (L' := [(0, .ref a0), (1, .ref a1), (2, .long y2), (4, .int x4), (5, .int x5), (6, .long y6), (8, .long y8)]) [0, 1, 2, 3, 4, 5, 6] rfl ?_
      exact S_L_isInOrder_280 hl ht hr hx hR8 h
    · have h := h2 q
      refine x_iload 3 dL_isInOrder_69 rfl ?_
      obtain ⟨h1, h2⟩ := h
      refine x_if_eq (tgt := 280) dL_isInOrder_71 (by decide) (fun q => ?_) (fun q => ?_)
      · have h := h1 q
        refine x_sub (L' := [(0, .ref a0), (1, .ref a1), (2, .long y2), (4, .int x4), (5, .int x5), (6, .long y6), (8, .long y8)]) [0, 1, 2, 3, 4, 5, 6] rfl ?_
        exact S_L_isInOrder_280 hl ht hr hx hR8 h
      · have h := h2 q
        refine x_aload_n 0 dL_isInOrder_74 rfl rfl ?_
        refine x_iload 4 dL_isInOrder_75 rfl ?_
        refine x_iload 7 dL_isInOrder_77 rfl ?_
        refine x_iconst (v := (0 : Int32)) dL_isInOrder_79 (by decide) ?_
        obtain ⟨⟨fs, hf⟩, h⟩ := h
        obtain ⟨m_7, z_8, hm, hs, h⟩ := h
        refine x_invVX (as := [.int x5, .int x10, .int (0 : Int32)]) (rest := []) dL_isInOrder_80 (q := (RX7, TX7, 10)) rfl xc_L_isInOrder_60 hf (M_X7_bill hl h) rfl rfl (Nat.le_of_ble_eq_true rfl) hm hs (fun _ _ h => x_thrown hx h) (xk_l fun y_6 t_5 h => ?_)
        refine x_lstore (L' := [(11, .long y_6), (0, .ref a0), (1, .ref a1), (2, .long y2), (4, .int x4), (5, .int x5), (6, .long y6), (8, .long y8), (10, .int x10)]) dL_isInOrder_83 (by decide) rfl ?_
        refine x_aload_n 1 dL_isInOrder_85 rfl rfl ?_
        refine x_iload 5 dL_isInOrder_86 rfl ?_
        refine x_iload 8 dL_isInOrder_88 rfl ?_
        refine x_iconst (v := (1 : Int32)) dL_isInOrder_90 (by decide) ?_
        obtain ⟨⟨fs, hf⟩, h⟩ := h
        obtain ⟨m_11, z_12, hm, hs, h⟩ := h
        refine x_invVX (as := [.int x5, .int x10, .int (1 : Int32)]) (rest := []) dL_isInOrder_91 (q := (RX7, TX7, 10)) rfl xc_L_isInOrder_60 hf (M_X7_bill hl h) rfl rfl (Nat.le_of_ble_eq_true rfl) hm hs (fun _ _ h => x_thrown hx h) (xk_l fun y_10 t_9 h => ?_)
        refine x_lstore (L' := [(13, .long y_10), (11, .long y_6), (0, .ref a0), (1, .ref a1), (2, .long y2), (4, .int x4), (5, .int x5), (6, .long y6), (8, .long y8), (10, .int x10)]) dL_isInOrder_94 (by decide) rfl ?_
        refine x_aload_n 2 dL_isInOrder_96 rfl rfl ?_
        refine x_iload 6 dL_isInOrder_97 rfl ?_
        refine x_iload 9 dL_isInOrder_99 rfl ?_
        refine x_iconst (v := (2 : Int32)) dL_isInOrder_101 (by decide) ?_
        obtain ⟨⟨fs, hf⟩, h⟩ := h
        obtain ⟨m_15, z_16, hm, hs, h⟩ := h
        refine x_invVX (as := [.int x5, .int x10, .int (2 : Int32)]) (rest := []) dL_isInOrder_102 (q := (RX7, TX7, 10)) rfl xc_L_isInOrder_60 hf (M_X7_bill hl h) rfl rfl (Nat.le_of_ble_eq_true rfl) hm hs (fun _ _ h => x_thrown hx h) (xk_l fun y_14 t_13 h => ?_)
        refine x_lstore (L' := [(15, .long y_14), (13, .long y_10), (11, .long y_6), (0, .ref a0), (1, .ref a1), (2, .long y2), (4, .int x4), (5, .int x5), (6, .long y6), (8, .long y8), (10, .int x10)]) dL_isInOrder_105 (by decide) rfl ?_
        refine x_aload_n 3 dL_isInOrder_107 rfl rfl ?_
        refine x_iload 7 dL_isInOrder_108 rfl ?_
        refine x_iload 10 dL_isInOrder_110 rfl ?_
        refine x_iconst (v := (3 : Int32)) dL_isInOrder_112 (by decide) ?_
        obtain ⟨⟨fs, hf⟩, h⟩ := h
        obtain ⟨m_19, z_20, hm, hs, h⟩ := h
        refine x_invVX (as := [.int x5, .int x10, .int (3 : Int32)]) (rest := []) dL_isInOrder_113 (q := (RX7, TX7, 10)) rfl xc_L_isInOrder_60 hf (M_X7_bill hl h) rfl rfl (Nat.le_of_ble_eq_true rfl) hm hs (fun _ _ h => x_thrown hx h) (xk_l fun y_18 t_17 h => ?_)
        refine x_lstore (L' := [(17, .long y_18), (15, .long y_14), (13, .long y_10), (11, .long y_6), (0, .ref a0), (1, .ref a1), (2, .long y2), (4, .int x4), (5, .int x5), (6, .long y6), (8, .long y8), (10, .int x10)]) dL_isInOrder_116 (by decide) rfl ?_
        refine x_lload 3 dL_isInOrder_118 rfl ?_
        refine x_ldc2 dL_isInOrder_120 xw1151 ?_
        obtain ⟨h1, h2⟩ := h
        refine x_lcmp_ne (tgt := 176) dL_isInOrder_123 dL_isInOrder_124 (by decide) (fun q => ?_) (fun q => ?_)
        · have h := h1 q
          refine x_lload 2 dL_isInOrder_176 rfl ?_
          refine x_lconst (v := (0 : Int64)) dL_isInOrder_178 (by decide) ?_
          obtain ⟨h1, h2⟩ := h
          refine x_lcmp_lt (tgt := 242) dL_isInOrder_179 dL_isInOrder_180 (by decide) (fun q => ?_) (fun q => ?_)
          · have h := h1 q
            refine x_iconst (v := (0 : Int32)) dL_isInOrder_242 (by decide) ?_
            refine x_sub (L' := [(0, .ref a0), (1, .ref a1), (2, .long y2), (5, .int x5), (6, .long y6), (8, .long y8), (10, .int x10), (11, .long y_6), (13, .long y_10), (15, .long y_14), (17, .long y_18)]) [4, 5, 6, 8, 9, 10, 11, 3, 2, 1, 0] rfl ?_
            exact S_L_isInOrder_243 hl ht hr hx hR8 (fun p0 p1 p2 p3 p4 p5 p6 p7 p8 p9 p10 h => ih p0 p1 p2 p3 p4 p5 p6 p7 p8 p9 p10 h) h
          · have h := h2 q
            refine x_lload 2 dL_isInOrder_183 rfl ?_
            refine x_lload 3 dL_isInOrder_185 rfl ?_
            obtain ⟨h1, h2⟩ := h
            refine x_lcmp_gt (tgt := 242) dL_isInOrder_187 dL_isInOrder_188 (by decide) (fun q => ?_) (fun q => ?_)
            · have h := h1 q
              refine x_iconst (v := (0 : Int32)) dL_isInOrder_242 (by decide) ?_
              refine x_sub (L' := [(0, .ref a0), (1, .ref a1), (2, .long y2), (5, .int x5), (6, .long y6), (8, .long y8), (10, .int x10), (11, .long y_6), (13, .long y_10), (15, .long y_14), (17, .long y_18)]) [4, 5, 6, 8, 9, 10, 11, 3, 2, 1, 0] rfl ?_
              exact S_L_isInOrder_243 hl ht hr hx hR8 (fun p0 p1 p2 p3 p4 p5 p6 p7 p8 p9 p10 h => ih p0 p1 p2 p3 p4 p5 p6 p7 p8 p9 p10 h) h
            · have h := h2 q
              refine x_lload 1 dL_isInOrder_191 rfl ?_
              refine x_lconst (v := (0 : Int64)) dL_isInOrder_193 (by decide) ?_
              obtain ⟨h1, h2⟩ := h
              refine x_lcmp_lt (tgt := 242) dL_isInOrder_194 dL_isInOrder_195 (by decide) (fun q => ?_) (fun q => ?_)
              · have h := h1 q
                refine x_iconst (v := (0 : Int32)) dL_isInOrder_242 (by decide) ?_
                refine x_sub (L' := [(0, .ref a0), (1, .ref a1), (2, .long y2), (5, .int x5), (6, .long y6), (8, .long y8), (10, .int x10), (11, .long y_6), (13, .long y_10), (15, .long y_14), (17, .long y_18)]) [4, 5, 6, 8, 9, 10, 11, 3, 2, 1, 0] rfl ?_
                exact S_L_isInOrder_243 hl ht hr hx hR8 (fun p0 p1 p2 p3 p4 p5 p6 p7 p8 p9 p10 h => ih p0 p1 p2 p3 p4 p5 p6 p7 p8 p9 p10 h) h
              · have h := h2 q
                refine x_lload 1 dL_isInOrder_198 rfl ?_
                refine x_lload 3 dL_isInOrder_200 rfl ?_
                refine x_lload 2 dL_isInOrder_202 rfl ?_
                refine x_lsub dL_isInOrder_204 ?_
                refine x_ldc2 dL_isInOrder_205 xw1152 ?_
                refine x_lmul dL_isInOrder_208 ?_
                refine x_ldc2 dL_isInOrder_209 xw1153 ?_
                obtain ⟨q, h⟩ := h
                refine x_ldiv dL_isInOrder_212 q ?_
                obtain ⟨h1, h2⟩ := h
                refine x_lcmp_gt (tgt := 242) dL_isInOrder_213 dL_isInOrder_214 (by decide) (fun q => ?_) (fun q => ?_)
                · have h := h1 q
                  refine x_iconst (v := (0 : Int32)) dL_isInOrder_242 (by decide) ?_
                  refine x_sub (L' := [(0, .ref a0), (1, .ref a1), (2, .long y2), (5, .int x5), (6, .long y6), (8, .long y8), (10, .int x10), (11, .long y_6), (13, .long y_10), (15, .long y_14), (17, .long y_18)]) [4, 5, 6, 8, 9, 10, 11, 3, 2, 1, 0] rfl ?_
                  exact S_L_isInOrder_243 hl ht hr hx hR8 (fun p0 p1 p2 p3 p4 p5 p6 p7 p8 p9 p10 h => ih p0 p1 p2 p3 p4 p5 p6 p7 p8 p9 p10 h) h
                · have h := h2 q
                  refine x_lload 0 dL_isInOrder_217 rfl ?_
                  refine x_lconst (v := (0 : Int64)) dL_isInOrder_219 (by decide) ?_
                  obtain ⟨h1, h2⟩ := h
                  refine x_lcmp_lt (tgt := 242) dL_isInOrder_220 dL_isInOrder_221 (by decide) (fun q => ?_) (fun q => ?_)
                  · have h := h1 q
                    refine x_iconst (v := (0 : Int32)) dL_isInOrder_242 (by decide) ?_
                    refine x_sub (L' := [(0, .ref a0), (1, .ref a1), (2, .long y2), (5, .int x5), (6, .long y6), (8, .long y8), (10, .int x10), (11, .long y_6), (13, .long y_10), (15, .long y_14), (17, .long y_18)]) [4, 5, 6, 8, 9, 10, 11, 3, 2, 1, 0] rfl ?_
                    exact S_L_isInOrder_243 hl ht hr hx hR8 (fun p0 p1 p2 p3 p4 p5 p6 p7 p8 p9 p10 h => ih p0 p1 p2 p3 p4 p5 p6 p7 p8 p9 p10 h) h
                  · have h := h2 q
                    refine x_aload_n 4 dL_isInOrder_224 rfl rfl ?_
                    refine x_iload 8 dL_isInOrder_225 rfl ?_
                    refine x_iload 11 dL_isInOrder_227 rfl ?_
                    refine x_iconst (v := (0 : Int32)) dL_isInOrder_229 (by decide) ?_
                    obtain ⟨⟨fs, hf⟩, h⟩ := h
                    obtain ⟨m_23, z_24, hm, hs, h⟩ := h
                    refine x_invVX (as := [.int x5, .int x10, .int (0 : Int32)]) (rest := []) dL_isInOrder_230 (q := (RX7, TX7, 10)) rfl xc_L_isInOrder_63 hf (M_X7_line hl h) rfl rfl (Nat.le_of_ble_eq_true rfl) hm hs (fun _ _ h => x_thrown hx h) (xk_i fun x_22 t_21 h => ?_)
                    refine x_bipush (v := (76 : Int32)) dL_isInOrder_233 (by decide) ?_
                    obtain ⟨h1, h2⟩ := h
                    refine x_icmp_ne (tgt := 242) dL_isInOrder_235 (by decide) (fun q => ?_) (fun q => ?_)
                    · have h := h1 q
                      refine x_iconst (v := (0 : Int32)) dL_isInOrder_242 (by decide) ?_
                      refine x_sub (L' := [(0, .ref a0), (1, .ref a1), (2, .long y2), (5, .int x5), (6, .long y6), (8, .long y8), (10, .int x10), (11, .long y_6), (13, .long y_10), (15, .long y_14), (17, .long y_18)]) [4, 5, 6, 8, 9, 10, 11, 3, 2, 1, 0] rfl ?_
                      exact S_L_isInOrder_243 hl ht hr hx hR8 (fun p0 p1 p2 p3 p4 p5 p6 p7 p8 p9 p10 h => ih p0 p1 p2 p3 p4 p5 p6 p7 p8 p9 p10 h) h
                    · have h := h2 q
                      refine x_iconst (v := (1 : Int32)) dL_isInOrder_238 (by decide) ?_
                      refine x_goto (tgt := 243) dL_isInOrder_239 (by decide) ?_
                      refine x_sub (L' := [(0, .ref a0), (1, .ref a1), (2, .long y2), (5, .int x5), (6, .long y6), (8, .long y8), (10, .int x10), (11, .long y_6), (13, .long y_10), (15, .long y_14), (17, .long y_18)]) [4, 5, 6, 8, 9, 10, 11, 3, 2, 1, 0] rfl ?_
                      exact S_L_isInOrder_243 hl ht hr hx hR8 (fun p0 p1 p2 p3 p4 p5 p6 p7 p8 p9 p10 h => ih p0 p1 p2 p3 p4 p5 p6 p7 p8 p9 p10 h) h
        · have h := h2 q
          refine x_lload 2 dL_isInOrder_127 rfl ?_
          refine x_ldc2 dL_isInOrder_129 xw1151 ?_
          obtain ⟨h1, h2⟩ := h
          refine x_lcmp_ne (tgt := 172) dL_isInOrder_132 dL_isInOrder_133 (by decide) (fun q => ?_) (fun q => ?_)
          · have h := h1 q
            refine x_iconst (v := (0 : Int32)) dL_isInOrder_172 (by decide) ?_
            refine x_goto (tgt := 243) dL_isInOrder_173 (by decide) ?_
            refine x_sub (L' := [(0, .ref a0), (1, .ref a1), (2, .long y2), (5, .int x5), (6, .long y6), (8, .long y8), (10, .int x10), (11, .long y_6), (13, .long y_10), (15, .long y_14), (17, .long y_18)]) [4, 5, 6, 8, 9, 10, 11, 3, 2, 1, 0] rfl ?_
            exact S_L_isInOrder_243 hl ht hr hx hR8 (fun p0 p1 p2 p3 p4 p5 p6 p7 p8 p9 p10 h => ih p0 p1 p2 p3 p4 p5 p6 p7 p8 p9 p10 h) h
          · have h := h2 q
            refine x_lload 1 dL_isInOrder_136 rfl ?_
            refine x_ldc2 dL_isInOrder_138 xw1151 ?_
            obtain ⟨h1, h2⟩ := h
            refine x_lcmp_ne (tgt := 172) dL_isInOrder_141 dL_isInOrder_142 (by decide) (fun q => ?_) (fun q => ?_)
            · have h := h1 q
              refine x_iconst (v := (0 : Int32)) dL_isInOrder_172 (by decide) ?_
              refine x_goto (tgt := 243) dL_isInOrder_173 (by decide) ?_
              refine x_sub (L' := [(0, .ref a0), (1, .ref a1), (2, .long y2), (5, .int x5), (6, .long y6), (8, .long y8), (10, .int x10), (11, .long y_6), (13, .long y_10), (15, .long y_14), (17, .long y_18)]) [4, 5, 6, 8, 9, 10, 11, 3, 2, 1, 0] rfl ?_
              exact S_L_isInOrder_243 hl ht hr hx hR8 (fun p0 p1 p2 p3 p4 p5 p6 p7 p8 p9 p10 h => ih p0 p1 p2 p3 p4 p5 p6 p7 p8 p9 p10 h) h
            · have h := h2 q
              refine x_lload 0 dL_isInOrder_145 rfl ?_
              refine x_ldc2 dL_isInOrder_147 xw1151 ?_
              obtain ⟨h1, h2⟩ := h
              refine x_lcmp_ne (tgt := 172) dL_isInOrder_150 dL_isInOrder_151 (by decide) (fun q => ?_) (fun q => ?_)
              · have h := h1 q
                refine x_iconst (v := (0 : Int32)) dL_isInOrder_172 (by decide) ?_
                refine x_goto (tgt := 243) dL_isInOrder_173 (by decide) ?_
                refine x_sub (L' := [(0, .ref a0), (1, .ref a1), (2, .long y2), (5, .int x5), (6, .long y6), (8, .long y8), (10, .int x10), (11, .long y_6), (13, .long y_10), (15, .long y_14), (17, .long y_18)]) [4, 5, 6, 8, 9, 10, 11, 3, 2, 1, 0] rfl ?_
                exact S_L_isInOrder_243 hl ht hr hx hR8 (fun p0 p1 p2 p3 p4 p5 p6 p7 p8 p9 p10 h => ih p0 p1 p2 p3 p4 p5 p6 p7 p8 p9 p10 h) h
              · have h := h2 q
                refine x_aload_n 4 dL_isInOrder_154 rfl rfl ?_
                refine x_iload 8 dL_isInOrder_155 rfl ?_
                refine x_iload 11 dL_isInOrder_157 rfl ?_
                refine x_iconst (v := (0 : Int32)) dL_isInOrder_159 (by decide) ?_
                obtain ⟨⟨fs, hf⟩, h⟩ := h
                obtain ⟨m_27, z_28, hm, hs, h⟩ := h
                refine x_invVX (as := [.int x5, .int x10, .int (0 : Int32)]) (rest := []) dL_isInOrder_160 (q := (RX7, TX7, 10)) rfl xc_L_isInOrder_63 hf (M_X7_line hl h) rfl rfl (Nat.le_of_ble_eq_true rfl) hm hs (fun _ _ h => x_thrown hx h) (xk_i fun x_26 t_25 h => ?_)
                refine x_bipush (v := (32 : Int32)) dL_isInOrder_163 (by decide) ?_
                obtain ⟨h1, h2⟩ := h
                refine x_icmp_ne (tgt := 172) dL_isInOrder_165 (by decide) (fun q => ?_) (fun q => ?_)
                · have h := h1 q
                  refine x_iconst (v := (0 : Int32)) dL_isInOrder_172 (by decide) ?_
                  refine x_goto (tgt := 243) dL_isInOrder_173 (by decide) ?_
                  refine x_sub (L' := [(0, .ref a0), (1, .ref a1), (2, .long y2), (5, .int x5), (6, .long y6), (8, .long y8), (10, .int x10), (11, .long y_6), (13, .long y_10), (15, .long y_14), (17, .long y_18)]) [4, 5, 6, 8, 9, 10, 11, 3, 2, 1, 0] rfl ?_
                  exact S_L_isInOrder_243 hl ht hr hx hR8 (fun p0 p1 p2 p3 p4 p5 p6 p7 p8 p9 p10 h => ih p0 p1 p2 p3 p4 p5 p6 p7 p8 p9 p10 h) h
                · have h := h2 q
                  refine x_iconst (v := (1 : Int32)) dL_isInOrder_168 (by decide) ?_
                  refine x_goto (tgt := 243) dL_isInOrder_169 (by decide) ?_
                  refine x_sub (L' := [(0, .ref a0), (1, .ref a1), (2, .long y2), (5, .int x5), (6, .long y6), (8, .long y8), (10, .int x10), (11, .long y_6), (13, .long y_10), (15, .long y_14), (17, .long y_18)]) [4, 5, 6, 8, 9, 10, 11, 3, 2, 1, 0] rfl ?_
                  exact S_L_isInOrder_243 hl ht hr hx hR8 (fun p0 p1 p2 p3 p4 p5 p6 p7 p8 p9 p10 h => ih p0 p1 p2 p3 p4 p5 p6 p7 p8 p9 p10 h) h
def VS_L_isInOrder_8 (E : Nat → Nat) (R8 : Nat → Nat → Int64 → Int32 → Int32 → xT → Nat → Nat → Prop) (KX : String → xT → Prop) (K : Int32 → xT → Prop) (a0 : Nat) (a1 : Nat) (y2 : Int64) (x4 : Int32) (x5 : Int32) (t : xT) (rc rs : Nat) : Prop :=
  (((12 : Int32) ≤ x5 → V_L_isInOrder_330 E KX K a0 y2 x4 t rc rs) ∧ (¬ (12 : Int32) ≤ x5 → ((x4 = 0 → V_L_isInOrder_330 E KX K a0 y2 x4 t rc rs) ∧ (¬ x4 = 0 → (∃ m_3 z_4 : Nat, m_3 ≤ rc ∧ z_4 ≤ rs ∧ V_L_does_0 E (fun y_2 t_1 => ((y_2 = (-9000000000000 : Int64) → R8 a0 a1 y2 x4 (x5 + 1) t_1 (rc - m_3) (rs - z_4)) ∧ (¬ y_2 = (-9000000000000 : Int64) → xaJ t_1 a1 x5 fun y_5 => ∃ f_6 : Nat, V_L_isInOrder_51 E R8 KX K f_6 a0 a1 y2 x4 x5 y_2 (-y_5) (0 : Int32) t_1 (rc - m_3) (rs - z_4)))) a0 (12 : Int32) x5 (0 : Int32) (0 : Int32) t m_3 z_4)))))
def V_L_isInOrder_8 (E : Nat → Nat) (KX : String → xT → Prop) (K : Int32 → xT → Prop) (n : Nat) : Nat → Nat → Int64 → Int32 → Int32 → xT → Nat → Nat → Prop := Nat.rec (fun _ _ _ _ _ _ _ _ => False) (fun _ ih => VS_L_isInOrder_8 E ih KX K) n
set_option maxRecDepth 20000 in
theorem S_L_isInOrder_8 {Γ : xΓ} {KX : String → xT → Prop} {K : Int32 → xT → Prop} (hl : (gl Γ).stackTraces = false) (ht : (gM Γ).sig.returnType = (some .boolean)) (hr : xRet Γ (xKi K)) (hx : xThr Γ KX) : ∀ (n : Nat) (a0 : Nat) (a1 : Nat) (y2 : Int64) (x4 : Int32) (x5 : Int32) (t : xT) (rc rs : Nat), V_L_isInOrder_8 (gG Γ).2.2.2 KX K n a0 a1 y2 x4 x5 t rc rs → xX Γ k_L_isInOrder 8 [(0, .ref a0), (1, .ref a1), (2, .long y2), (4, .int x4), (5, .int x5)] [] t rc rs := by
  intro n
  induction n with
  | zero =>
    intro a0 a1 y2 x4 x5 t rc rs h
    exact h.elim
  | succ n ih =>
    intro a0 a1 y2 x4 x5 t rc rs h
    replace h : VS_L_isInOrder_8 (gG Γ).2.2.2 (V_L_isInOrder_8 (gG Γ).2.2.2 KX K n) KX K a0 a1 y2 x4 x5 t rc rs := h
    unfold VS_L_isInOrder_8 at h
    refine x_iload 4 dL_isInOrder_8 rfl ?_
    refine x_bipush (v := (12 : Int32)) dL_isInOrder_10 (by decide) ?_
    obtain ⟨h1, h2⟩ := h
    refine x_icmp_ge (tgt := 330) dL_isInOrder_12 (by decide) (fun q => ?_) (fun q => ?_)
    · have h := h1 q
      refine x_sub (L' := [(0, .ref a0), (2, .long y2), (4, .int x4)]) [0, 2, 3] rfl ?_
      exact S_L_isInOrder_330 hl ht hr hx  h
    · have h := h2 q
      refine x_iload 3 dL_isInOrder_15 rfl ?_
      obtain ⟨h1, h2⟩ := h
      refine x_if_eq (tgt := 330) dL_isInOrder_17 (by decide) (fun q => ?_) (fun q => ?_)
      · have h := h1 q
        refine x_sub (L' := [(0, .ref a0), (2, .long y2), (4, .int x4)]) [0, 2, 3] rfl ?_
        exact S_L_isInOrder_330 hl ht hr hx  h
      · have h := h2 q
        refine x_aload_n 0 dL_isInOrder_20 rfl rfl ?_
        refine x_bipush (v := (12 : Int32)) dL_isInOrder_21 (by decide) ?_
        refine x_iload 4 dL_isInOrder_23 rfl ?_
        refine x_iconst (v := (0 : Int32)) dL_isInOrder_25 (by decide) ?_
        refine x_iconst (v := (0 : Int32)) dL_isInOrder_26 (by decide) ?_
        obtain ⟨m_3, z_4, hm, hs, h⟩ := h
        refine x_invSH (as := [.ref a0, .int (12 : Int32), .int x5, .int (0 : Int32), .int (0 : Int32)]) (rest := []) dL_isInOrder_27 xc_L_isInOrder_91 (M_L_does hl h) rfl rfl (Nat.le_of_ble_eq_true rfl) hm hs (xk_l fun y_2 t_1 h => ?_)
        refine x_lstore (L' := [(6, .long y_2), (0, .ref a0), (1, .ref a1), (2, .long y2), (4, .int x4), (5, .int x5)]) dL_isInOrder_30 (by decide) rfl ?_
        refine x_lload 0 dL_isInOrder_32 rfl ?_
        refine x_ldc2 dL_isInOrder_34 xw1132 ?_
        obtain ⟨h1, h2⟩ := h
        refine x_lcmp_eq (tgt := 324) dL_isInOrder_37 dL_isInOrder_38 (by decide) (fun q => ?_) (fun q => ?_)
        · have h := h1 q
          refine x_iinc (v := (x5 + 1)) (L' := [(5, .int (x5 + 1)), (6, .long y_2), (0, .ref a0), (1, .ref a1), (2, .long y2), (4, .int x4)]) (j := 5) dL_isInOrder_324 rfl rfl (by decide) rfl ?_
          refine x_goto (tgt := 8) dL_isInOrder_327 (by decide) ?_
          refine x_sub (L' := [(0, .ref a0), (1, .ref a1), (2, .long y2), (4, .int x4), (5, .int (x5 + 1))]) [2, 3, 4, 5, 0] rfl ?_
          exact ih a0 a1 y2 x4 (x5 + 1) t_1 (rc - m_3) (rs - z_4) h
        · have h := h2 q
          refine x_aload_n 2 dL_isInOrder_41 rfl rfl ?_
          refine x_iload 5 dL_isInOrder_42 rfl ?_
          obtain ⟨n, f, hf, hi, h⟩ := h
          refine x_lald dL_isInOrder_44 hf hi ?_
          generalize f _ = y_5 at h ⊢
          refine x_lneg dL_isInOrder_45 ?_
          refine x_lstore (L' := [(8, .long (-y_5)), (6, .long y_2), (0, .ref a0), (1, .ref a1), (2, .long y2), (4, .int x4), (5, .int x5)]) dL_isInOrder_46 (by decide) rfl ?_
          refine x_iconst (v := (0 : Int32)) dL_isInOrder_48 (by decide) ?_
          refine x_istore (L' := [(10, .int (0 : Int32)), (8, .long (-y_5)), (6, .long y_2), (0, .ref a0), (1, .ref a1), (2, .long y2), (4, .int x4), (5, .int x5)]) dL_isInOrder_49 (by decide) rfl ?_
          obtain ⟨f_6, h⟩ := h
          refine x_sub (L' := [(0, .ref a0), (1, .ref a1), (2, .long y2), (4, .int x4), (5, .int x5), (6, .long y_2), (8, .long (-y_5)), (10, .int (0 : Int32))]) [3, 4, 5, 6, 7, 2, 1, 0] rfl ?_
          exact S_L_isInOrder_51 hl ht hr hx (fun p0 p1 p2 p3 p4 p5 p6 p7 h => ih p0 p1 p2 p3 p4 p5 p6 p7 h) f_6 a0 a1 y2 x4 x5 y_2 (-y_5) (0 : Int32) t_1 (rc - m_3) (rs - z_4) h
def V_L_isInOrder_0 (E : Nat → Nat) (KX : String → xT → Prop) (K : Int32 → xT → Prop) (a0 : Nat) (a1 : Nat) (t : xT) (rc rs : Nat) : Prop :=
  ∃ f_1 : Nat, V_L_isInOrder_8 E KX K f_1 a0 a1 (0 : Int64) (1 : Int32) (0 : Int32) t rc rs
set_option maxRecDepth 20000 in
theorem S_L_isInOrder_0 {Γ : xΓ} {KX : String → xT → Prop} {K : Int32 → xT → Prop} (hl : (gl Γ).stackTraces = false) (ht : (gM Γ).sig.returnType = (some .boolean)) (hr : xRet Γ (xKi K)) (hx : xThr Γ KX) {a0 : Nat} {a1 : Nat} {t : xT} {rc rs : Nat} (h : V_L_isInOrder_0 (gG Γ).2.2.2 KX K a0 a1 t rc rs) : xX Γ k_L_isInOrder 0 [(0, .ref a0), (1, .ref a1)] [] t rc rs := by
  unfold V_L_isInOrder_0 at h
  refine x_lconst (v := (0 : Int64)) dL_isInOrder_0 (by decide) ?_
  refine x_lstore_n (L' := [(2, .long (0 : Int64)), (0, .ref a0), (1, .ref a1)]) dL_isInOrder_1 rfl (by decide) rfl ?_
  refine x_iconst (v := (1 : Int32)) dL_isInOrder_2 (by decide) ?_
  refine x_istore (L' := [(4, .int (1 : Int32)), (2, .long (0 : Int64)), (0, .ref a0), (1, .ref a1)]) dL_isInOrder_3 (by decide) rfl ?_
  refine x_iconst (v := (0 : Int32)) dL_isInOrder_5 (by decide) ?_
  refine x_istore (L' := [(5, .int (0 : Int32)), (4, .int (1 : Int32)), (2, .long (0 : Int64)), (0, .ref a0), (1, .ref a1)]) dL_isInOrder_6 (by decide) rfl ?_
  obtain ⟨f_1, h⟩ := h
  refine x_sub (L' := [(0, .ref a0), (1, .ref a1), (2, .long (0 : Int64)), (4, .int (1 : Int32)), (5, .int (0 : Int32))]) [3, 4, 2, 1, 0] rfl ?_
  exact S_L_isInOrder_8 hl ht hr hx  f_1 a0 a1 (0 : Int64) (1 : Int32) (0 : Int32) t rc rs h
theorem M_L_isInOrder {l : Launch} {G : xG} (hl : l.stackTraces = false) {a0 : Nat} {a1 : Nat} {t : xT} {KX : String → xT → Prop} {K : Int32 → xT → Prop} {rc rs : Nat} (h : V_L_isInOrder_0 G.2.2.2 KX K a0 a1 t rc rs) : xMetX l G yL_isInOrder k_L_isInOrder (some .boolean) [.ref a0, .ref a1] t (xKi K) KX rc rs := xMetX.of (by decide +kernel) rfl hl (Nat.le_of_ble_eq_true rfl) (fun Γ e1 e2 ht hn hr hx => by subst e1; subst e2; exact S_L_isInOrder_0 hl ht hr hx h)
def V_L_law_548 (E : Nat → Nat)  (a1 : Nat) (a2 : Nat) (a3 : Nat) (x5 : Int32) (t : xT) (rc rs : Nat) : Prop :=
  ((x5 = 0 → ((0 : Int32) = 1)) ∧ (¬ x5 = 0 → (∃ m_3 z_4 : Nat, m_3 ≤ rc ∧ z_4 ≤ rs ∧ V_L_areAlike_0 E (fun x_2 t_1 => ((x_2 = 0 → ((0 : Int32) = 1)) ∧ (¬ x_2 = 0 → (∃ m_7 z_8 : Nat, m_7 ≤ (rc - m_3) ∧ z_8 ≤ (rs - z_4) ∧ V_L_isInOrder_0 E (fun _ _ => False) (fun x_6 t_5 => ((x_6 = 0 → ((0 : Int32) = 1)) ∧ (¬ x_6 = 0 → ((1 : Int32) = 1)))) a2 a3 t_1 m_7 z_8)))) a1 a2 (5 : Int32) t m_3 z_4)))
set_option maxRecDepth 20000 in
theorem S_L_law_548 {Γ : xΓ} (hl : (gl Γ).stackTraces = false) (hz : xLw Γ) {a1 : Nat} {a2 : Nat} {a3 : Nat} {x5 : Int32} {t : xT} {rc rs : Nat} (h : V_L_law_548 (gG Γ).2.2.2 a1 a2 a3 x5 t rc rs) : xX Γ k_L_law 548 [(1, .ref a1), (2, .ref a2), (3, .ref a3), (5, .int x5)] [] t rc rs := by
  unfold V_L_law_548 at h
  refine x_iload 3 dL_law_548 rfl ?_
  obtain ⟨h1, h2⟩ := h
  refine x_if_eq (tgt := 574) dL_law_550 (by decide) (fun q => ?_) (fun q => ?_)
  · have h := h1 q
    refine x_iconst (v := (0 : Int32)) dL_law_574 (by decide) ?_
    exact x_lawret hz rfl dL_law_575 h
  · have h := h2 q
    refine x_aload_n 0 dL_law_553 rfl rfl ?_
    refine x_aload_n 1 dL_law_554 rfl rfl ?_
    refine x_iconst (v := (5 : Int32)) dL_law_555 (by decide) ?_
    obtain ⟨m_3, z_4, hm, hs, h⟩ := h
    refine x_invS (as := [.ref a1, .ref a2, .int (5 : Int32)]) (rest := []) dL_law_556 xc_L_law_120 (M_L_areAlike hl h) rfl rfl (Nat.le_of_ble_eq_true rfl) hm hs (xk_i fun x_2 t_1 h => ?_)
    obtain ⟨h1, h2⟩ := h
    refine x_if_eq (tgt := 574) dL_law_559 (by decide) (fun q => ?_) (fun q => ?_)
    · have h := h1 q
      refine x_iconst (v := (0 : Int32)) dL_law_574 (by decide) ?_
      exact x_lawret hz rfl dL_law_575 h
    · have h := h2 q
      refine x_aload_n 1 dL_law_562 rfl rfl ?_
      refine x_aload_n 2 dL_law_563 rfl rfl ?_
      obtain ⟨m_7, z_8, hm, hs, h⟩ := h
      refine x_invSX (as := [.ref a2, .ref a3]) (rest := []) dL_law_564 xc_L_law_124 (M_L_isInOrder hl h) rfl rfl (Nat.le_of_ble_eq_true rfl) hm hs (fun _ _ h => h.elim) (xk_i fun x_6 t_5 h => ?_)
      obtain ⟨h1, h2⟩ := h
      refine x_if_eq (tgt := 574) dL_law_567 (by decide) (fun q => ?_) (fun q => ?_)
      · have h := h1 q
        refine x_iconst (v := (0 : Int32)) dL_law_574 (by decide) ?_
        exact x_lawret hz rfl dL_law_575 h
      · have h := h2 q
        refine x_iconst (v := (1 : Int32)) dL_law_570 (by decide) ?_
        refine x_goto (tgt := 575) dL_law_571 (by decide) ?_
        exact x_lawret hz rfl dL_law_575 h
def V_L_law_513 (E : Nat → Nat) (R164 : Nat → Nat → Nat → Nat → Int32 → Int32 → Int32 → xT → Nat → Nat → Prop)  (a0 : Nat) (a1 : Nat) (a2 : Nat) (a3 : Nat) (x6 : Int32) (x7 : Int32) (x8 : Int32) (t : xT) (rc rs : Nat) : Prop :=
  (¬ (12 : Int32) = 0 ∧ ((¬ (xrem x7 (12 : Int32)) = (7 : Int32) → R164 a0 a1 a2 a3 (1 : Int32) x6 (x7 + 1) t rc rs) ∧ ((xrem x7 (12 : Int32)) = (7 : Int32) → (∃ m_3 z_4 : Nat, m_3 ≤ rc ∧ z_4 ≤ rs ∧ V_L_isBack_0 E (fun x_2 t_1 => ((x_2 = 0 → R164 a0 a1 a2 a3 (0 : Int32) x6 (x7 + 1) t_1 (rc - m_3) (rs - z_4)) ∧ (¬ x_2 = 0 → R164 a0 a1 a2 a3 (1 : Int32) x6 (x7 + 1) t_1 (rc - m_3) (rs - z_4)))) a1 a2 (x8 >>> ((5 : Int32) &&& 31)) t m_3 z_4))))
set_option maxRecDepth 20000 in
theorem S_L_law_513 {Γ : xΓ} {R164 : Nat → Nat → Nat → Nat → Int32 → Int32 → Int32 → xT → Nat → Nat → Prop} (hl : (gl Γ).stackTraces = false) (hz : xLw Γ) (hR164 : ∀ (a0 : Nat) (a1 : Nat) (a2 : Nat) (a3 : Nat) (x5 : Int32) (x6 : Int32) (x7 : Int32) (t : xT) (rc rs : Nat), R164 a0 a1 a2 a3 x5 x6 x7 t rc rs → xX Γ k_L_law 164 [(0, .ref a0), (1, .ref a1), (2, .ref a2), (3, .ref a3), (5, .int x5), (6, .int x6), (7, .int x7)] [] t rc rs) {a0 : Nat} {a1 : Nat} {a2 : Nat} {a3 : Nat} {x6 : Int32} {x7 : Int32} {x8 : Int32} {t : xT} {rc rs : Nat} (h : V_L_law_513 (gG Γ).2.2.2 R164 a0 a1 a2 a3 x6 x7 x8 t rc rs) : xX Γ k_L_law 513 [(0, .ref a0), (1, .ref a1), (2, .ref a2), (3, .ref a3), (6, .int x6), (7, .int x7), (8, .int x8)] [] t rc rs := by
  unfold V_L_law_513 at h
  refine x_iload 5 dL_law_513 rfl ?_
  refine x_bipush (v := (12 : Int32)) dL_law_515 (by decide) ?_
  obtain ⟨q, h⟩ := h
  refine x_irem dL_law_517 q ?_
  refine x_bipush (v := (7 : Int32)) dL_law_518 (by decide) ?_
  obtain ⟨h1, h2⟩ := h
  refine x_icmp_ne (tgt := 535) dL_law_520 (by decide) (fun q => ?_) (fun q => ?_)
  · have h := h1 q
    refine x_iconst (v := (1 : Int32)) dL_law_535 (by decide) ?_
    refine x_goto (tgt := 540) dL_law_536 (by decide) ?_
    refine x_istore (L' := [(5, .int (1 : Int32)), (0, .ref a0), (1, .ref a1), (2, .ref a2), (3, .ref a3), (6, .int x6), (7, .int x7), (8, .int x8)]) dL_law_540 (by decide) rfl ?_
    refine x_iinc (v := (x7 + 1)) (L' := [(7, .int (x7 + 1)), (5, .int (1 : Int32)), (0, .ref a0), (1, .ref a1), (2, .ref a2), (3, .ref a3), (6, .int x6), (8, .int x8)]) (j := 6) dL_law_542 rfl rfl (by decide) rfl ?_
    refine x_goto (tgt := 164) dL_law_545 (by decide) ?_
    refine x_sub (L' := [(0, .ref a0), (1, .ref a1), (2, .ref a2), (3, .ref a3), (5, .int (1 : Int32)), (6, .int x6), (7, .int (x7 + 1))]) [2, 3, 4, 5, 1, 6, 0] rfl ?_
    exact hR164 a0 a1 a2 a3 (1 : Int32) x6 (x7 + 1) t rc rs h
  · have h := h2 q
    refine x_aload_n 1 dL_law_523 rfl rfl ?_
    refine x_aload_n 2 dL_law_524 rfl rfl ?_
    refine x_iload 6 dL_law_525 rfl ?_
    refine x_iconst (v := (5 : Int32)) dL_law_527 (by decide) ?_
    refine x_ishr dL_law_528 ?_
    obtain ⟨m_3, z_4, hm, hs, h⟩ := h
    refine x_invS (as := [.ref a1, .ref a2, .int (x8 >>> ((5 : Int32) &&& 31))]) (rest := []) dL_law_529 xc_L_law_128 (M_L_isBack hl h) rfl rfl (Nat.le_of_ble_eq_true rfl) hm hs (xk_i fun x_2 t_1 h => ?_)
    obtain ⟨h1, h2⟩ := h
    refine x_if_eq (tgt := 539) dL_law_532 (by decide) (fun q => ?_) (fun q => ?_)
    · have h := h1 q
      refine x_iconst (v := (0 : Int32)) dL_law_539 (by decide) ?_
      refine x_istore (L' := [(5, .int (0 : Int32)), (0, .ref a0), (1, .ref a1), (2, .ref a2), (3, .ref a3), (6, .int x6), (7, .int x7), (8, .int x8)]) dL_law_540 (by decide) rfl ?_
      refine x_iinc (v := (x7 + 1)) (L' := [(7, .int (x7 + 1)), (5, .int (0 : Int32)), (0, .ref a0), (1, .ref a1), (2, .ref a2), (3, .ref a3), (6, .int x6), (8, .int x8)]) (j := 6) dL_law_542 rfl rfl (by decide) rfl ?_
      refine x_goto (tgt := 164) dL_law_545 (by decide) ?_
      refine x_sub (L' := [(0, .ref a0), (1, .ref a1), (2, .ref a2), (3, .ref a3), (5, .int (0 : Int32)), (6, .int x6), (7, .int (x7 + 1))]) [2, 3, 4, 5, 1, 6, 0] rfl ?_
      exact hR164 a0 a1 a2 a3 (0 : Int32) x6 (x7 + 1) t_1 (rc - m_3) (rs - z_4) h
    · have h := h2 q
      refine x_iconst (v := (1 : Int32)) dL_law_535 (by decide) ?_
      refine x_goto (tgt := 540) dL_law_536 (by decide) ?_
      refine x_istore (L' := [(5, .int (1 : Int32)), (0, .ref a0), (1, .ref a1), (2, .ref a2), (3, .ref a3), (6, .int x6), (7, .int x7), (8, .int x8)]) dL_law_540 (by decide) rfl ?_
      refine x_iinc (v := (x7 + 1)) (L' := [(7, .int (x7 + 1)), (5, .int (1 : Int32)), (0, .ref a0), (1, .ref a1), (2, .ref a2), (3, .ref a3), (6, .int x6), (8, .int x8)]) (j := 6) dL_law_542 rfl rfl (by decide) rfl ?_
      refine x_goto (tgt := 164) dL_law_545 (by decide) ?_
      refine x_sub (L' := [(0, .ref a0), (1, .ref a1), (2, .ref a2), (3, .ref a3), (5, .int (1 : Int32)), (6, .int x6), (7, .int (x7 + 1))]) [2, 3, 4, 5, 1, 6, 0] rfl ?_
      exact hR164 a0 a1 a2 a3 (1 : Int32) x6 (x7 + 1) t_1 (rc - m_3) (rs - z_4) h
def V_L_law_496 (E : Nat → Nat) (R164 : Nat → Nat → Nat → Nat → Int32 → Int32 → Int32 → xT → Nat → Nat → Prop)  (a0 : Nat) (a1 : Nat) (a2 : Nat) (a3 : Nat) (x6 : Int32) (x7 : Int32) (x8 : Int32) (t : xT) (rc rs : Nat) : Prop :=
  (¬ (9 : Int32) = 0 ∧ ((¬ (xrem x7 (9 : Int32)) = (4 : Int32) → V_L_law_513 E R164 a0 a1 a2 a3 x6 x7 x8 t rc rs) ∧ ((xrem x7 (9 : Int32)) = (4 : Int32) → (∃ m_3 z_4 : Nat, m_3 ≤ rc ∧ z_4 ≤ rs ∧ V_L_isInOrder_0 E (fun _ _ => False) (fun x_2 t_1 => ((x_2 = 0 → R164 a0 a1 a2 a3 (0 : Int32) x6 (x7 + 1) t_1 (rc - m_3) (rs - z_4)) ∧ (¬ x_2 = 0 → V_L_law_513 E R164 a0 a1 a2 a3 x6 x7 x8 t_1 (rc - m_3) (rs - z_4)))) a1 a3 t m_3 z_4))))
set_option maxRecDepth 20000 in
theorem S_L_law_496 {Γ : xΓ} {R164 : Nat → Nat → Nat → Nat → Int32 → Int32 → Int32 → xT → Nat → Nat → Prop} (hl : (gl Γ).stackTraces = false) (hz : xLw Γ) (hR164 : ∀ (a0 : Nat) (a1 : Nat) (a2 : Nat) (a3 : Nat) (x5 : Int32) (x6 : Int32) (x7 : Int32) (t : xT) (rc rs : Nat), R164 a0 a1 a2 a3 x5 x6 x7 t rc rs → xX Γ k_L_law 164 [(0, .ref a0), (1, .ref a1), (2, .ref a2), (3, .ref a3), (5, .int x5), (6, .int x6), (7, .int x7)] [] t rc rs) {a0 : Nat} {a1 : Nat} {a2 : Nat} {a3 : Nat} {x6 : Int32} {x7 : Int32} {x8 : Int32} {t : xT} {rc rs : Nat} (h : V_L_law_496 (gG Γ).2.2.2 R164 a0 a1 a2 a3 x6 x7 x8 t rc rs) : xX Γ k_L_law 496 [(0, .ref a0), (1, .ref a1), (2, .ref a2), (3, .ref a3), (6, .int x6), (7, .int x7), (8, .int x8)] [] t rc rs := by
  unfold V_L_law_496 at h
  refine x_iload 5 dL_law_496 rfl ?_
  refine x_bipush (v := (9 : Int32)) dL_law_498 (by decide) ?_
  obtain ⟨q, h⟩ := h
  refine x_irem dL_law_500 q ?_
  refine x_iconst (v := (4 : Int32)) dL_law_501 (by decide) ?_
  obtain ⟨h1, h2⟩ := h
  refine x_icmp_ne (tgt := 513) dL_law_502 (by decide) (fun q => ?_) (fun q => ?_)
  · have h := h1 q
    exact S_L_law_513 hl hz hR164 h
  · have h := h2 q
    refine x_aload_n 1 dL_law_505 rfl rfl ?_
    refine x_aload_n 3 dL_law_506 rfl rfl ?_
    obtain ⟨m_3, z_4, hm, hs, h⟩ := h
    refine x_invSX (as := [.ref a1, .ref a3]) (rest := []) dL_law_507 xc_L_law_124 (M_L_isInOrder hl h) rfl rfl (Nat.le_of_ble_eq_true rfl) hm hs (fun _ _ h => h.elim) (xk_i fun x_2 t_1 h => ?_)
    obtain ⟨h1, h2⟩ := h
    refine x_if_eq (tgt := 539) dL_law_510 (by decide) (fun q => ?_) (fun q => ?_)
    · have h := h1 q
      refine x_iconst (v := (0 : Int32)) dL_law_539 (by decide) ?_
      refine x_istore (L' := [(5, .int (0 : Int32)), (0, .ref a0), (1, .ref a1), (2, .ref a2), (3, .ref a3), (6, .int x6), (7, .int x7), (8, .int x8)]) dL_law_540 (by decide) rfl ?_
      refine x_iinc (v := (x7 + 1)) (L' := [(7, .int (x7 + 1)), (5, .int (0 : Int32)), (0, .ref a0), (1, .ref a1), (2, .ref a2), (3, .ref a3), (6, .int x6), (8, .int x8)]) (j := 6) dL_law_542 rfl rfl (by decide) rfl ?_
      refine x_goto (tgt := 164) dL_law_545 (by decide) ?_
      refine x_sub (L' := [(0, .ref a0), (1, .ref a1), (2, .ref a2), (3, .ref a3), (5, .int (0 : Int32)), (6, .int x6), (7, .int (x7 + 1))]) [2, 3, 4, 5, 1, 6, 0] rfl ?_
      exact hR164 a0 a1 a2 a3 (0 : Int32) x6 (x7 + 1) t_1 (rc - m_3) (rs - z_4) h
    · have h := h2 q
      exact S_L_law_513 hl hz hR164 h
def V_L_law_465 (E : Nat → Nat) (R164 : Nat → Nat → Nat → Nat → Int32 → Int32 → Int32 → xT → Nat → Nat → Prop)  (a0 : Nat) (a1 : Nat) (a2 : Nat) (a3 : Nat) (x5 : Int32) (x6 : Int32) (x7 : Int32) (x8 : Int32) (t : xT) (rc rs : Nat) : Prop :=
  ((x5 = 0 → R164 a0 a1 a2 a3 (0 : Int32) x6 (x7 + 1) t rc rs) ∧ (¬ x5 = 0 → (¬ (10 : Int32) = 0 ∧ ((¬ (xrem x7 (10 : Int32)) = (9 : Int32) → V_L_law_496 E R164 a0 a1 a2 a3 x6 x7 x8 t rc rs) ∧ ((xrem x7 (10 : Int32)) = (9 : Int32) → (∃ m_3 z_4 : Nat, m_3 ≤ rc ∧ z_4 ≤ rs ∧ V_L_areAlike_0 E (fun x_2 t_1 => ((x_2 = 0 → R164 a0 a1 a2 a3 (0 : Int32) x6 (x7 + 1) t_1 (rc - m_3) (rs - z_4)) ∧ (¬ x_2 = 0 → V_L_law_496 E R164 a0 a1 a2 a3 x6 x7 x8 t_1 (rc - m_3) (rs - z_4)))) a1 a2 ((x8 >>> ((3 : Int32) &&& 31)) &&& (1023 : Int32)) t m_3 z_4))))))
set_option maxRecDepth 20000 in
theorem S_L_law_465 {Γ : xΓ} {R164 : Nat → Nat → Nat → Nat → Int32 → Int32 → Int32 → xT → Nat → Nat → Prop} (hl : (gl Γ).stackTraces = false) (hz : xLw Γ) (hR164 : ∀ (a0 : Nat) (a1 : Nat) (a2 : Nat) (a3 : Nat) (x5 : Int32) (x6 : Int32) (x7 : Int32) (t : xT) (rc rs : Nat), R164 a0 a1 a2 a3 x5 x6 x7 t rc rs → xX Γ k_L_law 164 [(0, .ref a0), (1, .ref a1), (2, .ref a2), (3, .ref a3), (5, .int x5), (6, .int x6), (7, .int x7)] [] t rc rs) {a0 : Nat} {a1 : Nat} {a2 : Nat} {a3 : Nat} {x5 : Int32} {x6 : Int32} {x7 : Int32} {x8 : Int32} {t : xT} {rc rs : Nat} (h : V_L_law_465 (gG Γ).2.2.2 R164 a0 a1 a2 a3 x5 x6 x7 x8 t rc rs) : xX Γ k_L_law 465 [(0, .ref a0), (1, .ref a1), (2, .ref a2), (3, .ref a3), (5, .int x5), (6, .int x6), (7, .int x7), (8, .int x8)] [] t rc rs := by
  unfold V_L_law_465 at h
  refine x_iload 4 dL_law_465 rfl ?_
  obtain ⟨h1, h2⟩ := h
  refine x_if_eq (tgt := 539) dL_law_467 (by decide) (fun q => ?_) (fun q => ?_)
  · have h := h1 q
    refine x_iconst (v := (0 : Int32)) dL_law_539 (by decide) ?_
    refine x_istore (L' := [(5, .int (0 : Int32)), (0, .ref a0), (1, .ref a1), (2, .ref a2), (3, .ref a3), (6, .int x6), (7, .int x7), (8, .int x8)]) dL_law_540 (by decide) rfl ?_
    refine x_iinc (v := (x7 + 1)) (L' := [(7, .int (x7 + 1)), (5, .int (0 : Int32)), (0, .ref a0), (1, .ref a1), (2, .ref a2), (3, .ref a3), (6, .int x6), (8, .int x8)]) (j := 6) dL_law_542 rfl rfl (by decide) rfl ?_
    refine x_goto (tgt := 164) dL_law_545 (by decide) ?_
    refine x_sub (L' := [(0, .ref a0), (1, .ref a1), (2, .ref a2), (3, .ref a3), (5, .int (0 : Int32)), (6, .int x6), (7, .int (x7 + 1))]) [2, 3, 4, 5, 1, 6, 0] rfl ?_
    exact hR164 a0 a1 a2 a3 (0 : Int32) x6 (x7 + 1) t rc rs h
  · have h := h2 q
    refine x_iload 6 dL_law_470 rfl ?_
    refine x_bipush (v := (10 : Int32)) dL_law_472 (by decide) ?_
    obtain ⟨q, h⟩ := h
    refine x_irem dL_law_474 q ?_
    refine x_bipush (v := (9 : Int32)) dL_law_475 (by decide) ?_
    obtain ⟨h1, h2⟩ := h
    refine x_icmp_ne (tgt := 496) dL_law_477 (by decide) (fun q => ?_) (fun q => ?_)
    · have h := h1 q
      refine x_sub (L' := [(0, .ref a0), (1, .ref a1), (2, .ref a2), (3, .ref a3), (6, .int x6), (7, .int x7), (8, .int x8)]) [0, 1, 2, 3, 5, 6, 7] rfl ?_
      exact S_L_law_496 hl hz hR164 h
    · have h := h2 q
      refine x_aload_n 1 dL_law_480 rfl rfl ?_
      refine x_aload_n 2 dL_law_481 rfl rfl ?_
      refine x_iload 7 dL_law_482 rfl ?_
      refine x_iconst (v := (3 : Int32)) dL_law_484 (by decide) ?_
      refine x_ishr dL_law_485 ?_
      refine x_sipush (v := (1023 : Int32)) dL_law_486 (by decide) ?_
      refine x_iand dL_law_489 ?_
      obtain ⟨m_3, z_4, hm, hs, h⟩ := h
      refine x_invS (as := [.ref a1, .ref a2, .int ((x8 >>> ((3 : Int32) &&& 31)) &&& (1023 : Int32))]) (rest := []) dL_law_490 xc_L_law_120 (M_L_areAlike hl h) rfl rfl (Nat.le_of_ble_eq_true rfl) hm hs (xk_i fun x_2 t_1 h => ?_)
      obtain ⟨h1, h2⟩ := h
      refine x_if_eq (tgt := 539) dL_law_493 (by decide) (fun q => ?_) (fun q => ?_)
      · have h := h1 q
        refine x_iconst (v := (0 : Int32)) dL_law_539 (by decide) ?_
        refine x_istore (L' := [(5, .int (0 : Int32)), (0, .ref a0), (1, .ref a1), (2, .ref a2), (3, .ref a3), (6, .int x6), (7, .int x7), (8, .int x8)]) dL_law_540 (by decide) rfl ?_
        refine x_iinc (v := (x7 + 1)) (L' := [(7, .int (x7 + 1)), (5, .int (0 : Int32)), (0, .ref a0), (1, .ref a1), (2, .ref a2), (3, .ref a3), (6, .int x6), (8, .int x8)]) (j := 6) dL_law_542 rfl rfl (by decide) rfl ?_
        refine x_goto (tgt := 164) dL_law_545 (by decide) ?_
        refine x_sub (L' := [(0, .ref a0), (1, .ref a1), (2, .ref a2), (3, .ref a3), (5, .int (0 : Int32)), (6, .int x6), (7, .int (x7 + 1))]) [2, 3, 4, 5, 1, 6, 0] rfl ?_
        exact hR164 a0 a1 a2 a3 (0 : Int32) x6 (x7 + 1) t_1 (rc - m_3) (rs - z_4) h
      · have h := h2 q
        refine x_sub (L' := [(0, .ref a0), (1, .ref a1), (2, .ref a2), (3, .ref a3), (6, .int x6), (7, .int x7), (8, .int x8)]) [0, 1, 2, 3, 5, 6, 7] rfl ?_
        exact S_L_law_496 hl hz hR164 h
def V_L_law_396 (E : Nat → Nat) (R164 : Nat → Nat → Nat → Nat → Int32 → Int32 → Int32 → xT → Nat → Nat → Prop)  (a0 : Nat) (a1 : Nat) (a2 : Nat) (a3 : Nat) (x5 : Int32) (x6 : Int32) (x7 : Int32) (x8 : Int32) (y14 : Int64) (t : xT) (rc rs : Nat) : Prop :=
  ((¬ ((x8 >>> ((18 : Int32) &&& 31)) &&& (7 : Int32)) = (7 : Int32) → V_L_law_465 E R164 a0 a1 a2 a3 x5 x6 x7 x8 t rc rs) ∧ (((x8 >>> ((18 : Int32) &&& 31)) &&& (7 : Int32)) = (7 : Int32) → (V_L_low_0 (fun x_2 t_1 => ((x_2 < (22 : Int32) → V_L_law_465 E R164 a0 a1 a2 a3 x5 x6 x7 x8 t_1 rc rs) ∧ (¬ x_2 < (22 : Int32) → (V_L_low_0 (fun x_4 t_3 => (((26 : Int32) ≤ x_4 → V_L_law_465 E R164 a0 a1 a2 a3 x5 x6 x7 x8 t_3 rc rs) ∧ (¬ (26 : Int32) ≤ x_4 → ((y14 = (-9000000000000 : Int64) → V_L_law_465 E R164 a0 a1 a2 a3 x5 x6 x7 x8 t_3 rc rs) ∧ (¬ y14 = (-9000000000000 : Int64) → (V_L_low_0 (fun x_6 t_5 => xaJ t_5 a3 (x_6 - (1 : Int32)) fun y_7 => xsJ t_5 a3 (x_6 - (1 : Int32)) (y_7 + ((x8 >>> ((6 : Int32) &&& 31))).toInt64) fun t_8 => V_L_law_465 E R164 a0 a1 a2 a3 x5 x6 x7 x8 t_8 rc rs) (x8 >>> ((6 : Int32) &&& 31)) (14 : Int32) t_3)))))) x8 (40 : Int32) t_1)))) x8 (40 : Int32) t)))
set_option maxRecDepth 20000 in
theorem S_L_law_396 {Γ : xΓ} {R164 : Nat → Nat → Nat → Nat → Int32 → Int32 → Int32 → xT → Nat → Nat → Prop} (hl : (gl Γ).stackTraces = false) (hz : xLw Γ) (hR164 : ∀ (a0 : Nat) (a1 : Nat) (a2 : Nat) (a3 : Nat) (x5 : Int32) (x6 : Int32) (x7 : Int32) (t : xT) (rc rs : Nat), R164 a0 a1 a2 a3 x5 x6 x7 t rc rs → xX Γ k_L_law 164 [(0, .ref a0), (1, .ref a1), (2, .ref a2), (3, .ref a3), (5, .int x5), (6, .int x6), (7, .int x7)] [] t rc rs) {a0 : Nat} {a1 : Nat} {a2 : Nat} {a3 : Nat} {x5 : Int32} {x6 : Int32} {x7 : Int32} {x8 : Int32} {y14 : Int64} {t : xT} {rc rs : Nat} (h : V_L_law_396 (gG Γ).2.2.2 R164 a0 a1 a2 a3 x5 x6 x7 x8 y14 t rc rs) : xX Γ k_L_law 396 [(0, .ref a0), (1, .ref a1), (2, .ref a2), (3, .ref a3), (5, .int x5), (6, .int x6), (7, .int x7), (8, .int x8), (14, .long y14)] [] t rc rs := by
  unfold V_L_law_396 at h
  refine x_iload 7 dL_law_396 rfl ?_
  refine x_bipush (v := (18 : Int32)) dL_law_398 (by decide) ?_
  refine x_ishr dL_law_400 ?_
  refine x_bipush (v := (7 : Int32)) dL_law_401 (by decide) ?_
  refine x_iand dL_law_403 ?_
  refine x_bipush (v := (7 : Int32)) dL_law_404 (by decide) ?_
  obtain ⟨h1, h2⟩ := h
  refine x_icmp_ne (tgt := 465) dL_law_406 (by decide) (fun q => ?_) (fun q => ?_)
  · have h := h1 q
    refine x_sub (L' := [(0, .ref a0), (1, .ref a1), (2, .ref a2), (3, .ref a3), (5, .int x5), (6, .int x6), (7, .int x7), (8, .int x8)]) [0, 1, 2, 3, 4, 5, 6, 7] rfl ?_
    exact S_L_law_465 hl hz hR164 h
  · have h := h2 q
    refine x_iload 7 dL_law_409 rfl ?_
    refine x_bipush (v := (40 : Int32)) dL_law_411 (by decide) ?_
    refine x_invS (as := [.int x8, .int (40 : Int32)]) (rest := []) dL_law_413 xc_L_law_84 (M_L_low hl h) rfl rfl (Nat.le_of_ble_eq_true rfl) (Nat.zero_le _) (Nat.zero_le _) (xk_i fun x_2 t_1 h => ?_)
    refine x_bipush (v := (22 : Int32)) dL_law_416 (by decide) ?_
    obtain ⟨h1, h2⟩ := h
    refine x_icmp_lt (tgt := 465) dL_law_418 (by decide) (fun q => ?_) (fun q => ?_)
    · have h := h1 q
      refine x_sub (L' := [(0, .ref a0), (1, .ref a1), (2, .ref a2), (3, .ref a3), (5, .int x5), (6, .int x6), (7, .int x7), (8, .int x8)]) [0, 1, 2, 3, 4, 5, 6, 7] rfl ?_
      exact S_L_law_465 hl hz hR164 h
    · have h := h2 q
      refine x_iload 7 dL_law_421 rfl ?_
      refine x_bipush (v := (40 : Int32)) dL_law_423 (by decide) ?_
      refine x_invS (as := [.int x8, .int (40 : Int32)]) (rest := []) dL_law_425 xc_L_law_84 (M_L_low hl h) rfl rfl (Nat.le_of_ble_eq_true rfl) (Nat.zero_le _) (Nat.zero_le _) (xk_i fun x_4 t_3 h => ?_)
      refine x_bipush (v := (26 : Int32)) dL_law_428 (by decide) ?_
      obtain ⟨h1, h2⟩ := h
      refine x_icmp_ge (tgt := 465) dL_law_430 (by decide) (fun q => ?_) (fun q => ?_)
      · have h := h1 q
        refine x_sub (L' := [(0, .ref a0), (1, .ref a1), (2, .ref a2), (3, .ref a3), (5, .int x5), (6, .int x6), (7, .int x7), (8, .int x8)]) [0, 1, 2, 3, 4, 5, 6, 7] rfl ?_
        exact S_L_law_465 hl hz hR164 h
      · have h := h2 q
        refine x_lload 8 dL_law_433 rfl ?_
        refine x_ldc2 dL_law_435 xw1132 ?_
        obtain ⟨h1, h2⟩ := h
        refine x_lcmp_eq (tgt := 465) dL_law_438 dL_law_439 (by decide) (fun q => ?_) (fun q => ?_)
        · have h := h1 q
          refine x_sub (L' := [(0, .ref a0), (1, .ref a1), (2, .ref a2), (3, .ref a3), (5, .int x5), (6, .int x6), (7, .int x7), (8, .int x8)]) [0, 1, 2, 3, 4, 5, 6, 7] rfl ?_
          exact S_L_law_465 hl hz hR164 h
        · have h := h2 q
          refine x_aload_n 3 dL_law_442 rfl rfl ?_
          refine x_iload 7 dL_law_443 rfl ?_
          refine x_bipush (v := (6 : Int32)) dL_law_445 (by decide) ?_
          refine x_ishr dL_law_447 ?_
          refine x_bipush (v := (14 : Int32)) dL_law_448 (by decide) ?_
          refine x_invS (as := [.int (x8 >>> ((6 : Int32) &&& 31)), .int (14 : Int32)]) (rest := [.ref a3]) dL_law_450 xc_L_law_84 (M_L_low hl h) rfl rfl (Nat.le_of_ble_eq_true rfl) (Nat.zero_le _) (Nat.zero_le _) (xk_i fun x_6 t_5 h => ?_)
          refine x_iconst (v := (1 : Int32)) dL_law_453 (by decide) ?_
          refine x_isub dL_law_454 ?_
          refine x_dup2_11 dL_law_455 rfl rfl ?_
          obtain ⟨n, f, hf, hi, h⟩ := h
          refine x_lald dL_law_456 hf hi ?_
          generalize f _ = y_7 at h ⊢
          refine x_iload 7 dL_law_457 rfl ?_
          refine x_bipush (v := (6 : Int32)) dL_law_459 (by decide) ?_
          refine x_ishr dL_law_461 ?_
          refine x_i2l dL_law_462 ?_
          refine x_ladd dL_law_463 ?_
          obtain ⟨n, f, hf, hi, h⟩ := h
          refine x_last dL_law_464 hf hi ?_
          generalize hT : xup t_5 a3 _ = t_8 at h ⊢
          clear hT
          refine x_sub (L' := [(0, .ref a0), (1, .ref a1), (2, .ref a2), (3, .ref a3), (5, .int x5), (6, .int x6), (7, .int x7), (8, .int x8)]) [0, 1, 2, 3, 4, 5, 6, 7] rfl ?_
          exact S_L_law_465 hl hz hR164 h
def V_L_law_368 (E : Nat → Nat) (R164 : Nat → Nat → Nat → Nat → Int32 → Int32 → Int32 → xT → Nat → Nat → Prop)  (a0 : Nat) (a1 : Nat) (a2 : Nat) (a3 : Nat) (x5 : Int32) (x7 : Int32) (x8 : Int32) (x10 : Int32) (x11 : Int32) (y12 : Int64) (y14 : Int64) (xs0 : Int32) (t : xT) (rc rs : Nat) : Prop :=
  ((x10 = 0 → V_L_law_396 E R164 a0 a1 a2 a3 x5 xs0 x7 x8 y14 t rc rs) ∧ (¬ x10 = 0 → ((y14 = (-9000000000000 : Int64) → V_L_law_396 E R164 a0 a1 a2 a3 x5 xs0 x7 x8 y14 t rc rs) ∧ (¬ y14 = (-9000000000000 : Int64) → xaJ t a3 x11 fun y_1 => xsJ t a3 x11 (y_1 + (y12 - y14)) fun t_2 => V_L_law_396 E R164 a0 a1 a2 a3 x5 xs0 x7 x8 y14 t_2 rc rs))))
set_option maxRecDepth 20000 in
theorem S_L_law_368 {Γ : xΓ} {R164 : Nat → Nat → Nat → Nat → Int32 → Int32 → Int32 → xT → Nat → Nat → Prop} (hl : (gl Γ).stackTraces = false) (hz : xLw Γ) (hR164 : ∀ (a0 : Nat) (a1 : Nat) (a2 : Nat) (a3 : Nat) (x5 : Int32) (x6 : Int32) (x7 : Int32) (t : xT) (rc rs : Nat), R164 a0 a1 a2 a3 x5 x6 x7 t rc rs → xX Γ k_L_law 164 [(0, .ref a0), (1, .ref a1), (2, .ref a2), (3, .ref a3), (5, .int x5), (6, .int x6), (7, .int x7)] [] t rc rs) {a0 : Nat} {a1 : Nat} {a2 : Nat} {a3 : Nat} {x5 : Int32} {x7 : Int32} {x8 : Int32} {x10 : Int32} {x11 : Int32} {y12 : Int64} {y14 : Int64} {xs0 : Int32} {t : xT} {rc rs : Nat} (h : V_L_law_368 (gG Γ).2.2.2 R164 a0 a1 a2 a3 x5 x7 x8 x10 x11 y12 y14 xs0 t rc rs) : xX Γ k_L_law 368 [(0, .ref a0), (1, .ref a1), (2, .ref a2), (3, .ref a3), (5, .int x5), (7, .int x7), (8, .int x8), (10, .int x10), (11, .int x11), (12, .long y12), (14, .long y14)] [.int xs0] t rc rs := by
  unfold V_L_law_368 at h
  refine x_istore (L' := [(6, .int xs0), (0, .ref a0), (1, .ref a1), (2, .ref a2), (3, .ref a3), (5, .int x5), (7, .int x7), (8, .int x8), (10, .int x10), (11, .int x11), (12, .long y12), (14, .long y14)]) dL_law_368 (by decide) rfl ?_
  refine x_iload 8 dL_law_370 rfl ?_
  obtain ⟨h1, h2⟩ := h
  refine x_if_eq (tgt := 396) dL_law_372 (by decide) (fun q => ?_) (fun q => ?_)
  · have h := h1 q
    refine x_sub (L' := [(0, .ref a0), (1, .ref a1), (2, .ref a2), (3, .ref a3), (5, .int x5), (6, .int xs0), (7, .int x7), (8, .int x8), (14, .long y14)]) [1, 2, 3, 4, 5, 0, 6, 7, 11] rfl ?_
    exact S_L_law_396 hl hz hR164 h
  · have h := h2 q
    refine x_lload 11 dL_law_375 rfl ?_
    refine x_ldc2 dL_law_377 xw1132 ?_
    obtain ⟨h1, h2⟩ := h
    refine x_lcmp_eq (tgt := 396) dL_law_380 dL_law_381 (by decide) (fun q => ?_) (fun q => ?_)
    · have h := h1 q
      refine x_sub (L' := [(0, .ref a0), (1, .ref a1), (2, .ref a2), (3, .ref a3), (5, .int x5), (6, .int xs0), (7, .int x7), (8, .int x8), (14, .long y14)]) [1, 2, 3, 4, 5, 0, 6, 7, 11] rfl ?_
      exact S_L_law_396 hl hz hR164 h
    · have h := h2 q
      refine x_aload_n 4 dL_law_384 rfl rfl ?_
      refine x_iload 9 dL_law_385 rfl ?_
      refine x_dup2_11 dL_law_387 rfl rfl ?_
      obtain ⟨n, f, hf, hi, h⟩ := h
      refine x_lald dL_law_388 hf hi ?_
      generalize f _ = y_1 at h ⊢
      refine x_lload 10 dL_law_389 rfl ?_
      refine x_lload 11 dL_law_391 rfl ?_
      refine x_lsub dL_law_393 ?_
      refine x_ladd dL_law_394 ?_
      obtain ⟨n, f, hf, hi, h⟩ := h
      refine x_last dL_law_395 hf hi ?_
      generalize hT : xup t a3 _ = t_2 at h ⊢
      clear hT
      refine x_sub (L' := [(0, .ref a0), (1, .ref a1), (2, .ref a2), (3, .ref a3), (5, .int x5), (6, .int xs0), (7, .int x7), (8, .int x8), (14, .long y14)]) [1, 2, 3, 4, 5, 0, 6, 7, 11] rfl ?_
      exact S_L_law_396 hl hz hR164 h
def V_L_law_346 (E : Nat → Nat) (R164 : Nat → Nat → Nat → Nat → Int32 → Int32 → Int32 → xT → Nat → Nat → Prop)  (a0 : Nat) (a1 : Nat) (a2 : Nat) (a3 : Nat) (x6 : Int32) (x7 : Int32) (x8 : Int32) (x9 : Int32) (x10 : Int32) (x11 : Int32) (y12 : Int64) (y14 : Int64) (xs0 : Int32) (t : xT) (rc rs : Nat) : Prop :=
  ((x9 = 0 → V_L_law_368 E R164 a0 a1 a2 a3 xs0 x7 x8 x10 x11 y12 y14 x6 t rc rs) ∧ (¬ x9 = 0 → ((y14 ≤ (0 : Int64) → V_L_law_368 E R164 a0 a1 a2 a3 xs0 x7 x8 x10 x11 y12 y14 x6 t rc rs) ∧ (¬ y14 ≤ (0 : Int64) → V_L_law_368 E R164 a0 a1 a2 a3 xs0 x7 x8 x10 x11 y12 y14 y14.toInt32 t rc rs))))
set_option maxRecDepth 20000 in
theorem S_L_law_346 {Γ : xΓ} {R164 : Nat → Nat → Nat → Nat → Int32 → Int32 → Int32 → xT → Nat → Nat → Prop} (hl : (gl Γ).stackTraces = false) (hz : xLw Γ) (hR164 : ∀ (a0 : Nat) (a1 : Nat) (a2 : Nat) (a3 : Nat) (x5 : Int32) (x6 : Int32) (x7 : Int32) (t : xT) (rc rs : Nat), R164 a0 a1 a2 a3 x5 x6 x7 t rc rs → xX Γ k_L_law 164 [(0, .ref a0), (1, .ref a1), (2, .ref a2), (3, .ref a3), (5, .int x5), (6, .int x6), (7, .int x7)] [] t rc rs) {a0 : Nat} {a1 : Nat} {a2 : Nat} {a3 : Nat} {x6 : Int32} {x7 : Int32} {x8 : Int32} {x9 : Int32} {x10 : Int32} {x11 : Int32} {y12 : Int64} {y14 : Int64} {xs0 : Int32} {t : xT} {rc rs : Nat} (h : V_L_law_346 (gG Γ).2.2.2 R164 a0 a1 a2 a3 x6 x7 x8 x9 x10 x11 y12 y14 xs0 t rc rs) : xX Γ k_L_law 346 [(0, .ref a0), (1, .ref a1), (2, .ref a2), (3, .ref a3), (6, .int x6), (7, .int x7), (8, .int x8), (9, .int x9), (10, .int x10), (11, .int x11), (12, .long y12), (14, .long y14)] [.int xs0] t rc rs := by
  unfold V_L_law_346 at h
  refine x_istore (L' := [(5, .int xs0), (0, .ref a0), (1, .ref a1), (2, .ref a2), (3, .ref a3), (6, .int x6), (7, .int x7), (8, .int x8), (9, .int x9), (10, .int x10), (11, .int x11), (12, .long y12), (14, .long y14)]) dL_law_346 (by decide) rfl ?_
  refine x_iload 8 dL_law_348 rfl ?_
  obtain ⟨h1, h2⟩ := h
  refine x_if_eq (tgt := 366) dL_law_350 (by decide) (fun q => ?_) (fun q => ?_)
  · have h := h1 q
    refine x_iload 5 dL_law_366 rfl ?_
    refine x_sub (L' := [(0, .ref a0), (1, .ref a1), (2, .ref a2), (3, .ref a3), (5, .int xs0), (7, .int x7), (8, .int x8), (10, .int x10), (11, .int x11), (12, .long y12), (14, .long y14)]) [1, 2, 3, 4, 0, 6, 7, 9, 10, 11, 12] rfl ?_
    exact S_L_law_368 hl hz hR164 h
  · have h := h2 q
    refine x_lload 12 dL_law_353 rfl ?_
    refine x_lconst (v := (0 : Int64)) dL_law_355 (by decide) ?_
    obtain ⟨h1, h2⟩ := h
    refine x_lcmp_le (tgt := 366) dL_law_356 dL_law_357 (by decide) (fun q => ?_) (fun q => ?_)
    · have h := h1 q
      refine x_iload 5 dL_law_366 rfl ?_
      refine x_sub (L' := [(0, .ref a0), (1, .ref a1), (2, .ref a2), (3, .ref a3), (5, .int xs0), (7, .int x7), (8, .int x8), (10, .int x10), (11, .int x11), (12, .long y12), (14, .long y14)]) [1, 2, 3, 4, 0, 6, 7, 9, 10, 11, 12] rfl ?_
      exact S_L_law_368 hl hz hR164 h
    · have h := h2 q
      refine x_lload 12 dL_law_360 rfl ?_
      refine x_l2i dL_law_362 ?_
      refine x_goto (tgt := 368) dL_law_363 (by decide) ?_
      refine x_sub (L' := [(0, .ref a0), (1, .ref a1), (2, .ref a2), (3, .ref a3), (5, .int xs0), (7, .int x7), (8, .int x8), (10, .int x10), (11, .int x11), (12, .long y12), (14, .long y14)]) [1, 2, 3, 4, 0, 6, 7, 9, 10, 11, 12] rfl ?_
      exact S_L_law_368 hl hz hR164 h
def V_L_law_310 (E : Nat → Nat) (R164 : Nat → Nat → Nat → Nat → Int32 → Int32 → Int32 → xT → Nat → Nat → Prop)  (a0 : Nat) (a1 : Nat) (a2 : Nat) (a3 : Nat) (x6 : Int32) (x7 : Int32) (x8 : Int32) (x9 : Int32) (x10 : Int32) (x11 : Int32) (ys0 : Int64) (t : xT) (rc rs : Nat) : Prop :=
  (∃ m_3 z_4 : Nat, m_3 ≤ rc ∧ z_4 ≤ rs ∧ V_L_act_0 E (fun y_2 t_1 => ((y_2 = (-9000000000000 : Int64) → V_L_law_346 E R164 a0 a1 a2 a3 x6 x7 x8 x9 x10 x11 ys0 y_2 (1 : Int32) t_1 (rc - m_3) (rs - z_4)) ∧ (¬ y_2 = (-9000000000000 : Int64) → (∃ m_7 z_8 : Nat, m_7 ≤ (rc - m_3) ∧ z_8 ≤ (rs - z_4) ∧ V_L_act_0 E (fun y_6 t_5 => ((¬ y_6 = y_2 → V_L_law_346 E R164 a0 a1 a2 a3 x6 x7 x8 x9 x10 x11 ys0 y_2 (0 : Int32) t_5 ((rc - m_3) - m_7) ((rs - z_4) - z_8)) ∧ (y_6 = y_2 → V_L_law_346 E R164 a0 a1 a2 a3 x6 x7 x8 x9 x10 x11 ys0 y_2 (1 : Int32) t_5 ((rc - m_3) - m_7) ((rs - z_4) - z_8)))) a2 x8 t_1 m_7 z_8)))) a1 x8 t m_3 z_4)
set_option maxRecDepth 20000 in
theorem S_L_law_310 {Γ : xΓ} {R164 : Nat → Nat → Nat → Nat → Int32 → Int32 → Int32 → xT → Nat → Nat → Prop} (hl : (gl Γ).stackTraces = false) (hz : xLw Γ) (hR164 : ∀ (a0 : Nat) (a1 : Nat) (a2 : Nat) (a3 : Nat) (x5 : Int32) (x6 : Int32) (x7 : Int32) (t : xT) (rc rs : Nat), R164 a0 a1 a2 a3 x5 x6 x7 t rc rs → xX Γ k_L_law 164 [(0, .ref a0), (1, .ref a1), (2, .ref a2), (3, .ref a3), (5, .int x5), (6, .int x6), (7, .int x7)] [] t rc rs) {a0 : Nat} {a1 : Nat} {a2 : Nat} {a3 : Nat} {x6 : Int32} {x7 : Int32} {x8 : Int32} {x9 : Int32} {x10 : Int32} {x11 : Int32} {ys0 : Int64} {t : xT} {rc rs : Nat} (h : V_L_law_310 (gG Γ).2.2.2 R164 a0 a1 a2 a3 x6 x7 x8 x9 x10 x11 ys0 t rc rs) : xX Γ k_L_law 310 [(0, .ref a0), (1, .ref a1), (2, .ref a2), (3, .ref a3), (6, .int x6), (7, .int x7), (8, .int x8), (9, .int x9), (10, .int x10), (11, .int x11)] [.long ys0] t rc rs := by
  unfold V_L_law_310 at h
  refine x_lstore (L' := [(12, .long ys0), (0, .ref a0), (1, .ref a1), (2, .ref a2), (3, .ref a3), (6, .int x6), (7, .int x7), (8, .int x8), (9, .int x9), (10, .int x10), (11, .int x11)]) dL_law_310 (by decide) rfl ?_
  refine x_aload_n 2 dL_law_312 rfl rfl ?_
  refine x_iload 7 dL_law_313 rfl ?_
  obtain ⟨m_3, z_4, hm, hs, h⟩ := h
  refine x_invS (as := [.ref a1, .int x8]) (rest := []) dL_law_315 xc_L_law_116 (M_L_act hl h) rfl rfl (Nat.le_of_ble_eq_true rfl) hm hs (xk_l fun y_2 t_1 h => ?_)
  refine x_lstore (L' := [(14, .long y_2), (12, .long ys0), (0, .ref a0), (1, .ref a1), (2, .ref a2), (3, .ref a3), (6, .int x6), (7, .int x7), (8, .int x8), (9, .int x9), (10, .int x10), (11, .int x11)]) dL_law_318 (by decide) rfl ?_
  refine x_lload 0 dL_law_320 rfl ?_
  refine x_ldc2 dL_law_322 xw1132 ?_
  obtain ⟨h1, h2⟩ := h
  refine x_lcmp_eq (tgt := 341) dL_law_325 dL_law_326 (by decide) (fun q => ?_) (fun q => ?_)
  · have h := h1 q
    refine x_iconst (v := (1 : Int32)) dL_law_341 (by decide) ?_
    refine x_goto (tgt := 346) dL_law_342 (by decide) ?_
    refine x_sub (L' := [(0, .ref a0), (1, .ref a1), (2, .ref a2), (3, .ref a3), (6, .int x6), (7, .int x7), (8, .int x8), (9, .int x9), (10, .int x10), (11, .int x11), (12, .long ys0), (14, .long y_2)]) [2, 3, 4, 5, 6, 7, 8, 9, 10, 11, 1, 0] rfl ?_
    exact S_L_law_346 hl hz hR164 h
  · have h := h2 q
    refine x_aload_n 4 dL_law_329 rfl rfl ?_
    refine x_iload 8 dL_law_330 rfl ?_
    obtain ⟨m_7, z_8, hm, hs, h⟩ := h
    refine x_invS (as := [.ref a2, .int x8]) (rest := []) dL_law_332 xc_L_law_116 (M_L_act hl h) rfl rfl (Nat.le_of_ble_eq_true rfl) hm hs (xk_l fun y_6 t_5 h => ?_)
    refine x_lload 0 dL_law_335 rfl ?_
    obtain ⟨h1, h2⟩ := h
    refine x_lcmp_ne (tgt := 345) dL_law_337 dL_law_338 (by decide) (fun q => ?_) (fun q => ?_)
    · have h := h1 q
      refine x_iconst (v := (0 : Int32)) dL_law_345 (by decide) ?_
      refine x_sub (L' := [(0, .ref a0), (1, .ref a1), (2, .ref a2), (3, .ref a3), (6, .int x6), (7, .int x7), (8, .int x8), (9, .int x9), (10, .int x10), (11, .int x11), (12, .long ys0), (14, .long y_2)]) [2, 3, 4, 5, 6, 7, 8, 9, 10, 11, 1, 0] rfl ?_
      exact S_L_law_346 hl hz hR164 h
    · have h := h2 q
      refine x_iconst (v := (1 : Int32)) dL_law_341 (by decide) ?_
      refine x_goto (tgt := 346) dL_law_342 (by decide) ?_
      refine x_sub (L' := [(0, .ref a0), (1, .ref a1), (2, .ref a2), (3, .ref a3), (6, .int x6), (7, .int x7), (8, .int x8), (9, .int x9), (10, .int x10), (11, .int x11), (12, .long ys0), (14, .long y_2)]) [2, 3, 4, 5, 6, 7, 8, 9, 10, 11, 1, 0] rfl ?_
      exact S_L_law_346 hl hz hR164 h
def V_L_law_277 (E : Nat → Nat) (R164 : Nat → Nat → Nat → Nat → Int32 → Int32 → Int32 → xT → Nat → Nat → Prop)  (a0 : Nat) (a1 : Nat) (a2 : Nat) (a3 : Nat) (x6 : Int32) (x7 : Int32) (x8 : Int32) (x9 : Int32) (xs0 : Int32) (t : xT) (rc rs : Nat) : Prop :=
  (V_L_low_0 (fun x_2 t_1 => ((xs0 = 0 → V_L_law_310 E R164 a0 a1 a2 a3 x6 x7 x8 x9 xs0 x_2 (0 : Int64) t_1 rc rs) ∧ (¬ xs0 = 0 → (∃ m_5 z_6 : Nat, m_5 ≤ rc ∧ z_6 ≤ rs ∧ V_L_does_0 E (fun y_4 t_3 => V_L_law_310 E R164 a0 a1 a2 a3 x6 x7 x8 x9 xs0 x_2 y_4 t_3 (rc - m_5) (rs - z_6)) a1 (12 : Int32) x_2 (0 : Int32) (0 : Int32) t_1 m_5 z_6)))) (x8 >>> ((6 : Int32) &&& 31)) (6 : Int32) t)
set_option maxRecDepth 20000 in
theorem S_L_law_277 {Γ : xΓ} {R164 : Nat → Nat → Nat → Nat → Int32 → Int32 → Int32 → xT → Nat → Nat → Prop} (hl : (gl Γ).stackTraces = false) (hz : xLw Γ) (hR164 : ∀ (a0 : Nat) (a1 : Nat) (a2 : Nat) (a3 : Nat) (x5 : Int32) (x6 : Int32) (x7 : Int32) (t : xT) (rc rs : Nat), R164 a0 a1 a2 a3 x5 x6 x7 t rc rs → xX Γ k_L_law 164 [(0, .ref a0), (1, .ref a1), (2, .ref a2), (3, .ref a3), (5, .int x5), (6, .int x6), (7, .int x7)] [] t rc rs) {a0 : Nat} {a1 : Nat} {a2 : Nat} {a3 : Nat} {x6 : Int32} {x7 : Int32} {x8 : Int32} {x9 : Int32} {xs0 : Int32} {t : xT} {rc rs : Nat} (h : V_L_law_277 (gG Γ).2.2.2 R164 a0 a1 a2 a3 x6 x7 x8 x9 xs0 t rc rs) : xX Γ k_L_law 277 [(0, .ref a0), (1, .ref a1), (2, .ref a2), (3, .ref a3), (6, .int x6), (7, .int x7), (8, .int x8), (9, .int x9)] [.int xs0] t rc rs := by
  unfold V_L_law_277 at h
  refine x_istore (L' := [(10, .int xs0), (0, .ref a0), (1, .ref a1), (2, .ref a2), (3, .ref a3), (6, .int x6), (7, .int x7), (8, .int x8), (9, .int x9)]) dL_law_277 (by decide) rfl ?_
  refine x_iload 7 dL_law_279 rfl ?_
  refine x_bipush (v := (6 : Int32)) dL_law_281 (by decide) ?_
  refine x_ishr dL_law_283 ?_
  refine x_bipush (v := (6 : Int32)) dL_law_284 (by decide) ?_
  refine x_invS (as := [.int (x8 >>> ((6 : Int32) &&& 31)), .int (6 : Int32)]) (rest := []) dL_law_286 xc_L_law_84 (M_L_low hl h) rfl rfl (Nat.le_of_ble_eq_true rfl) (Nat.zero_le _) (Nat.zero_le _) (xk_i fun x_2 t_1 h => ?_)
  refine x_istore (L' := [(11, .int x_2), (10, .int xs0), (0, .ref a0), (1, .ref a1), (2, .ref a2), (3, .ref a3), (6, .int x6), (7, .int x7), (8, .int x8), (9, .int x9)]) dL_law_289 (by decide) rfl ?_
  refine x_iload 1 dL_law_291 rfl ?_
  obtain ⟨h1, h2⟩ := h
  refine x_if_eq (tgt := 309) dL_law_293 (by decide) (fun q => ?_) (fun q => ?_)
  · have h := h1 q
    refine x_lconst (v := (0 : Int64)) dL_law_309 (by decide) ?_
    refine x_sub (L' := [(0, .ref a0), (1, .ref a1), (2, .ref a2), (3, .ref a3), (6, .int x6), (7, .int x7), (8, .int x8), (9, .int x9), (10, .int xs0), (11, .int x_2)]) [2, 3, 4, 5, 6, 7, 8, 9, 1, 0] rfl ?_
    exact S_L_law_310 hl hz hR164 h
  · have h := h2 q
    refine x_aload_n 3 dL_law_296 rfl rfl ?_
    refine x_bipush (v := (12 : Int32)) dL_law_297 (by decide) ?_
    refine x_iload 0 dL_law_299 rfl ?_
    refine x_iconst (v := (0 : Int32)) dL_law_301 (by decide) ?_
    refine x_iconst (v := (0 : Int32)) dL_law_302 (by decide) ?_
    obtain ⟨m_5, z_6, hm, hs, h⟩ := h
    refine x_invSH (as := [.ref a1, .int (12 : Int32), .int x_2, .int (0 : Int32), .int (0 : Int32)]) (rest := []) dL_law_303 xc_L_law_91 (M_L_does hl h) rfl rfl (Nat.le_of_ble_eq_true rfl) hm hs (xk_l fun y_4 t_3 h => ?_)
    refine x_goto (tgt := 310) dL_law_306 (by decide) ?_
    refine x_sub (L' := [(0, .ref a0), (1, .ref a1), (2, .ref a2), (3, .ref a3), (6, .int x6), (7, .int x7), (8, .int x8), (9, .int x9), (10, .int xs0), (11, .int x_2)]) [2, 3, 4, 5, 6, 7, 8, 9, 1, 0] rfl ?_
    exact S_L_law_310 hl hz hR164 h
def V_L_law_235 (E : Nat → Nat) (R164 : Nat → Nat → Nat → Nat → Int32 → Int32 → Int32 → xT → Nat → Nat → Prop)  (a0 : Nat) (a1 : Nat) (a2 : Nat) (a3 : Nat) (x6 : Int32) (x7 : Int32) (x8 : Int32) (x9 : Int32) (t : xT) (rc rs : Nat) : Prop :=
  (V_L_low_0 (fun x_2 t_1 => ((x_2 < (22 : Int32) → V_L_law_277 E R164 a0 a1 a2 a3 x6 x7 x8 x9 (0 : Int32) t_1 rc rs) ∧ (¬ x_2 < (22 : Int32) → (V_L_low_0 (fun x_4 t_3 => (((26 : Int32) ≤ x_4 → V_L_law_277 E R164 a0 a1 a2 a3 x6 x7 x8 x9 (0 : Int32) t_3 rc rs) ∧ (¬ (26 : Int32) ≤ x_4 → ((((x8 >>> ((18 : Int32) &&& 31)) &&& (7 : Int32)) = (7 : Int32) → V_L_law_277 E R164 a0 a1 a2 a3 x6 x7 x8 x9 (0 : Int32) t_3 rc rs) ∧ (¬ ((x8 >>> ((18 : Int32) &&& 31)) &&& (7 : Int32)) = (7 : Int32) → V_L_law_277 E R164 a0 a1 a2 a3 x6 x7 x8 x9 (1 : Int32) t_3 rc rs))))) x8 (40 : Int32) t_1)))) x8 (40 : Int32) t)
set_option maxRecDepth 20000 in
theorem S_L_law_235 {Γ : xΓ} {R164 : Nat → Nat → Nat → Nat → Int32 → Int32 → Int32 → xT → Nat → Nat → Prop} (hl : (gl Γ).stackTraces = false) (hz : xLw Γ) (hR164 : ∀ (a0 : Nat) (a1 : Nat) (a2 : Nat) (a3 : Nat) (x5 : Int32) (x6 : Int32) (x7 : Int32) (t : xT) (rc rs : Nat), R164 a0 a1 a2 a3 x5 x6 x7 t rc rs → xX Γ k_L_law 164 [(0, .ref a0), (1, .ref a1), (2, .ref a2), (3, .ref a3), (5, .int x5), (6, .int x6), (7, .int x7)] [] t rc rs) {a0 : Nat} {a1 : Nat} {a2 : Nat} {a3 : Nat} {x6 : Int32} {x7 : Int32} {x8 : Int32} {x9 : Int32} {t : xT} {rc rs : Nat} (h : V_L_law_235 (gG Γ).2.2.2 R164 a0 a1 a2 a3 x6 x7 x8 x9 t rc rs) : xX Γ k_L_law 235 [(0, .ref a0), (1, .ref a1), (2, .ref a2), (3, .ref a3), (6, .int x6), (7, .int x7), (8, .int x8), (9, .int x9)] [] t rc rs := by
  unfold V_L_law_235 at h
  refine x_iload 6 dL_law_235 rfl ?_
  refine x_bipush (v := (40 : Int32)) dL_law_237 (by decide) ?_
  refine x_invS (as := [.int x8, .int (40 : Int32)]) (rest := []) dL_law_239 xc_L_law_84 (M_L_low hl h) rfl rfl (Nat.le_of_ble_eq_true rfl) (Nat.zero_le _) (Nat.zero_le _) (xk_i fun x_2 t_1 h => ?_)
  refine x_bipush (v := (22 : Int32)) dL_law_242 (by decide) ?_
  obtain ⟨h1, h2⟩ := h
  refine x_icmp_lt (tgt := 276) dL_law_244 (by decide) (fun q => ?_) (fun q => ?_)
  · have h := h1 q
    refine x_iconst (v := (0 : Int32)) dL_law_276 (by decide) ?_
    exact S_L_law_277 hl hz hR164 h
  · have h := h2 q
    refine x_iload 6 dL_law_247 rfl ?_
    refine x_bipush (v := (40 : Int32)) dL_law_249 (by decide) ?_
    refine x_invS (as := [.int x8, .int (40 : Int32)]) (rest := []) dL_law_251 xc_L_law_84 (M_L_low hl h) rfl rfl (Nat.le_of_ble_eq_true rfl) (Nat.zero_le _) (Nat.zero_le _) (xk_i fun x_4 t_3 h => ?_)
    refine x_bipush (v := (26 : Int32)) dL_law_254 (by decide) ?_
    obtain ⟨h1, h2⟩ := h
    refine x_icmp_ge (tgt := 276) dL_law_256 (by decide) (fun q => ?_) (fun q => ?_)
    · have h := h1 q
      refine x_iconst (v := (0 : Int32)) dL_law_276 (by decide) ?_
      exact S_L_law_277 hl hz hR164 h
    · have h := h2 q
      refine x_iload 6 dL_law_259 rfl ?_
      refine x_bipush (v := (18 : Int32)) dL_law_261 (by decide) ?_
      refine x_ishr dL_law_263 ?_
      refine x_bipush (v := (7 : Int32)) dL_law_264 (by decide) ?_
      refine x_iand dL_law_266 ?_
      refine x_bipush (v := (7 : Int32)) dL_law_267 (by decide) ?_
      obtain ⟨h1, h2⟩ := h
      refine x_icmp_eq (tgt := 276) dL_law_269 (by decide) (fun q => ?_) (fun q => ?_)
      · have h := h1 q
        refine x_iconst (v := (0 : Int32)) dL_law_276 (by decide) ?_
        exact S_L_law_277 hl hz hR164 h
      · have h := h2 q
        refine x_iconst (v := (1 : Int32)) dL_law_272 (by decide) ?_
        refine x_goto (tgt := 277) dL_law_273 (by decide) ?_
        exact S_L_law_277 hl hz hR164 h
def VS_L_law_164 (E : Nat → Nat)  (R164 : Nat → Nat → Nat → Nat → Int32 → Int32 → Int32 → xT → Nat → Nat → Prop) (a0 : Nat) (a1 : Nat) (a2 : Nat) (a3 : Nat) (x5 : Int32) (x6 : Int32) (x7 : Int32) (t : xT) (rc rs : Nat) : Prop :=
  (((140 : Int32) ≤ x7 → V_L_law_548 E a1 a2 a3 x5 t rc rs) ∧ (¬ (140 : Int32) ≤ x7 → ((x5 = 0 → V_L_law_548 E a1 a2 a3 x5 t rc rs) ∧ (¬ x5 = 0 → (¬ (60 : Int32) = 0 ∧ (V_L_cell_0 (fun x_2 t_1 => (¬ (60 : Int32) = 0 ∧ (V_L_low_0 (fun x_4 t_3 => ((x_4 < (28 : Int32) → (((0 : Int32) = 0 → V_L_law_235 E R164 a0 a1 a2 a3 x6 x7 (x_2 + ((1949 : Int32) * (x7 / (60 : Int32)))) (0 : Int32) t_3 rc rs) ∧ (¬ (0 : Int32) = 0 → ((x6 ≤ (399 : Int32) → V_L_law_235 E R164 a0 a1 a2 a3 x6 x7 (x_2 + ((1949 : Int32) * (x7 / (60 : Int32)))) (0 : Int32) t_3 rc rs) ∧ (¬ x6 ≤ (399 : Int32) → R164 a0 a1 a2 a3 x5 x6 (x7 + 1) t_3 rc rs))))) ∧ (¬ x_4 < (28 : Int32) → (((1 : Int32) = 0 → V_L_law_235 E R164 a0 a1 a2 a3 x6 x7 (x_2 + ((1949 : Int32) * (x7 / (60 : Int32)))) (1 : Int32) t_3 rc rs) ∧ (¬ (1 : Int32) = 0 → ((x6 ≤ (399 : Int32) → V_L_law_235 E R164 a0 a1 a2 a3 x6 x7 (x_2 + ((1949 : Int32) * (x7 / (60 : Int32)))) (1 : Int32) t_3 rc rs) ∧ (¬ x6 ≤ (399 : Int32) → R164 a0 a1 a2 a3 x5 x6 (x7 + 1) t_3 rc rs))))))) (x_2 + ((1949 : Int32) * (x7 / (60 : Int32)))) (40 : Int32) t_1))) a0 ((1 : Int32) + (xrem x7 (60 : Int32))) t))))))
def V_L_law_164 (E : Nat → Nat)  (n : Nat) : Nat → Nat → Nat → Nat → Int32 → Int32 → Int32 → xT → Nat → Nat → Prop := Nat.rec (fun _ _ _ _ _ _ _ _ _ _ => False) (fun _ ih => VS_L_law_164 E ih) n
set_option maxRecDepth 20000 in
theorem S_L_law_164 {Γ : xΓ} (hl : (gl Γ).stackTraces = false) (hz : xLw Γ) : ∀ (n : Nat) (a0 : Nat) (a1 : Nat) (a2 : Nat) (a3 : Nat) (x5 : Int32) (x6 : Int32) (x7 : Int32) (t : xT) (rc rs : Nat), V_L_law_164 (gG Γ).2.2.2 n a0 a1 a2 a3 x5 x6 x7 t rc rs → xX Γ k_L_law 164 [(0, .ref a0), (1, .ref a1), (2, .ref a2), (3, .ref a3), (5, .int x5), (6, .int x6), (7, .int x7)] [] t rc rs := by
  intro n
  induction n with
  | zero =>
    intro a0 a1 a2 a3 x5 x6 x7 t rc rs h
    exact h.elim
  | succ n ih =>
    intro a0 a1 a2 a3 x5 x6 x7 t rc rs h
    replace h : VS_L_law_164 (gG Γ).2.2.2 (V_L_law_164 (gG Γ).2.2.2 n) a0 a1 a2 a3 x5 x6 x7 t rc rs := h
    unfold VS_L_law_164 at h
    refine x_iload 6 dL_law_164 rfl ?_
    refine x_sipush (v := (140 : Int32)) dL_law_166 (by decide) ?_
    obtain ⟨h1, h2⟩ := h
    refine x_icmp_ge (tgt := 548) dL_law_169 (by decide) (fun q => ?_) (fun q => ?_)
    · have h := h1 q
      refine x_sub (L' := [(1, .ref a1), (2, .ref a2), (3, .ref a3), (5, .int x5)]) [1, 2, 3, 4] rfl ?_
      exact S_L_law_548 hl hz  h
    · have h := h2 q
      refine x_iload 4 dL_law_172 rfl ?_
      obtain ⟨h1, h2⟩ := h
      refine x_if_eq (tgt := 548) dL_law_174 (by decide) (fun q => ?_) (fun q => ?_)
      · have h := h1 q
        refine x_sub (L' := [(1, .ref a1), (2, .ref a2), (3, .ref a3), (5, .int x5)]) [1, 2, 3, 4] rfl ?_
        exact S_L_law_548 hl hz  h
      · have h := h2 q
        refine x_aload_n 0 dL_law_177 rfl rfl ?_
        refine x_iconst (v := (1 : Int32)) dL_law_178 (by decide) ?_
        refine x_iload 6 dL_law_179 rfl ?_
        refine x_bipush (v := (60 : Int32)) dL_law_181 (by decide) ?_
        obtain ⟨q, h⟩ := h
        refine x_irem dL_law_183 q ?_
        refine x_iadd dL_law_184 ?_
        refine x_invS (as := [.ref a0, .int ((1 : Int32) + (xrem x7 (60 : Int32)))]) (rest := []) dL_law_185 xc_L_law_110 (M_L_cell hl h) rfl rfl (Nat.le_of_ble_eq_true rfl) (Nat.zero_le _) (Nat.zero_le _) (xk_i fun x_2 t_1 h => ?_)
        refine x_sipush (v := (1949 : Int32)) dL_law_188 (by decide) ?_
        refine x_iload 6 dL_law_191 rfl ?_
        refine x_bipush (v := (60 : Int32)) dL_law_193 (by decide) ?_
        obtain ⟨q, h⟩ := h
        refine x_idiv dL_law_195 q ?_
        refine x_imul dL_law_196 ?_
        refine x_iadd dL_law_197 ?_
        refine x_istore (L' := [(8, .int (x_2 + ((1949 : Int32) * (x7 / (60 : Int32))))), (0, .ref a0), (1, .ref a1), (2, .ref a2), (3, .ref a3), (5, .int x5), (6, .int x6), (7, .int x7)]) dL_law_198 (by decide) rfl ?_
        refine x_iload 0 dL_law_200 rfl ?_
        refine x_bipush (v := (40 : Int32)) dL_law_202 (by decide) ?_
        refine x_invS (as := [.int (x_2 + ((1949 : Int32) * (x7 / (60 : Int32)))), .int (40 : Int32)]) (rest := []) dL_law_204 xc_L_law_84 (M_L_low hl h) rfl rfl (Nat.le_of_ble_eq_true rfl) (Nat.zero_le _) (Nat.zero_le _) (xk_i fun x_4 t_3 h => ?_)
        refine x_bipush (v := (28 : Int32)) dL_law_207 (by decide) ?_
        obtain ⟨h1, h2⟩ := h
        refine x_icmp_lt (tgt := 216) dL_law_209 (by decide) (fun q => ?_) (fun q => ?_)
        · have h := h1 q
          refine x_iconst (v := (0 : Int32)) dL_law_216 (by decide) ?_
          refine x_istore (L' := [(9, .int (0 : Int32)), (8, .int (x_2 + ((1949 : Int32) * (x7 / (60 : Int32))))), (0, .ref a0), (1, .ref a1), (2, .ref a2), (3, .ref a3), (5, .int x5), (6, .int x6), (7, .int x7)]) dL_law_217 (by decide) rfl ?_
          refine x_iload 0 dL_law_219 rfl ?_
          obtain ⟨h1, h2⟩ := h
          refine x_if_eq (tgt := 235) dL_law_221 (by decide) (fun q => ?_) (fun q => ?_)
          · have h := h1 q
            refine x_sub (L' := [(0, .ref a0), (1, .ref a1), (2, .ref a2), (3, .ref a3), (6, .int x6), (7, .int x7), (8, .int (x_2 + ((1949 : Int32) * (x7 / (60 : Int32))))), (9, .int (0 : Int32))]) [2, 3, 4, 5, 7, 8, 1, 0] rfl ?_
            exact S_L_law_235 hl hz (fun p0 p1 p2 p3 p4 p5 p6 p7 p8 p9 h => ih p0 p1 p2 p3 p4 p5 p6 p7 p8 p9 h) h
          · have h := h2 q
            refine x_iload 7 dL_law_224 rfl ?_
            refine x_sipush (v := (399 : Int32)) dL_law_226 (by decide) ?_
            obtain ⟨h1, h2⟩ := h
            refine x_icmp_le (tgt := 235) dL_law_229 (by decide) (fun q => ?_) (fun q => ?_)
            · have h := h1 q
              refine x_sub (L' := [(0, .ref a0), (1, .ref a1), (2, .ref a2), (3, .ref a3), (6, .int x6), (7, .int x7), (8, .int (x_2 + ((1949 : Int32) * (x7 / (60 : Int32))))), (9, .int (0 : Int32))]) [2, 3, 4, 5, 7, 8, 1, 0] rfl ?_
              exact S_L_law_235 hl hz (fun p0 p1 p2 p3 p4 p5 p6 p7 p8 p9 h => ih p0 p1 p2 p3 p4 p5 p6 p7 p8 p9 h) h
            · have h := h2 q
              refine x_goto (tgt := 542) dL_law_232 (by decide) ?_
              refine x_iinc (v := (x7 + 1)) (L' := [(7, .int (x7 + 1)), (9, .int (0 : Int32)), (8, .int (x_2 + ((1949 : Int32) * (x7 / (60 : Int32))))), (0, .ref a0), (1, .ref a1), (2, .ref a2), (3, .ref a3), (5, .int x5), (6, .int x6)]) (j := 8) dL_law_542 rfl rfl (by decide) rfl ?_
              refine x_goto (tgt := 164) dL_law_545 (by decide) ?_
              refine x_sub (L' := [(0, .ref a0), (1, .ref a1), (2, .ref a2), (3, .ref a3), (5, .int x5), (6, .int x6), (7, .int (x7 + 1))]) [3, 4, 5, 6, 7, 8, 0] rfl ?_
              exact ih a0 a1 a2 a3 x5 x6 (x7 + 1) t_3 rc rs h
        · have h := h2 q
          refine x_iconst (v := (1 : Int32)) dL_law_212 (by decide) ?_
          refine x_goto (tgt := 217) dL_law_213 (by decide) ?_
          refine x_istore (L' := [(9, .int (1 : Int32)), (8, .int (x_2 + ((1949 : Int32) * (x7 / (60 : Int32))))), (0, .ref a0), (1, .ref a1), (2, .ref a2), (3, .ref a3), (5, .int x5), (6, .int x6), (7, .int x7)]) dL_law_217 (by decide) rfl ?_
          refine x_iload 0 dL_law_219 rfl ?_
          obtain ⟨h1, h2⟩ := h
          refine x_if_eq (tgt := 235) dL_law_221 (by decide) (fun q => ?_) (fun q => ?_)
          · have h := h1 q
            refine x_sub (L' := [(0, .ref a0), (1, .ref a1), (2, .ref a2), (3, .ref a3), (6, .int x6), (7, .int x7), (8, .int (x_2 + ((1949 : Int32) * (x7 / (60 : Int32))))), (9, .int (1 : Int32))]) [2, 3, 4, 5, 7, 8, 1, 0] rfl ?_
            exact S_L_law_235 hl hz (fun p0 p1 p2 p3 p4 p5 p6 p7 p8 p9 h => ih p0 p1 p2 p3 p4 p5 p6 p7 p8 p9 h) h
          · have h := h2 q
            refine x_iload 7 dL_law_224 rfl ?_
            refine x_sipush (v := (399 : Int32)) dL_law_226 (by decide) ?_
            obtain ⟨h1, h2⟩ := h
            refine x_icmp_le (tgt := 235) dL_law_229 (by decide) (fun q => ?_) (fun q => ?_)
            · have h := h1 q
              refine x_sub (L' := [(0, .ref a0), (1, .ref a1), (2, .ref a2), (3, .ref a3), (6, .int x6), (7, .int x7), (8, .int (x_2 + ((1949 : Int32) * (x7 / (60 : Int32))))), (9, .int (1 : Int32))]) [2, 3, 4, 5, 7, 8, 1, 0] rfl ?_
              exact S_L_law_235 hl hz (fun p0 p1 p2 p3 p4 p5 p6 p7 p8 p9 h => ih p0 p1 p2 p3 p4 p5 p6 p7 p8 p9 h) h
            · have h := h2 q
              refine x_goto (tgt := 542) dL_law_232 (by decide) ?_
              refine x_iinc (v := (x7 + 1)) (L' := [(7, .int (x7 + 1)), (9, .int (1 : Int32)), (8, .int (x_2 + ((1949 : Int32) * (x7 / (60 : Int32))))), (0, .ref a0), (1, .ref a1), (2, .ref a2), (3, .ref a3), (5, .int x5), (6, .int x6)]) (j := 8) dL_law_542 rfl rfl (by decide) rfl ?_
              refine x_goto (tgt := 164) dL_law_545 (by decide) ?_
              refine x_sub (L' := [(0, .ref a0), (1, .ref a1), (2, .ref a2), (3, .ref a3), (5, .int x5), (6, .int x6), (7, .int (x7 + 1))]) [3, 4, 5, 6, 7, 8, 0] rfl ?_
              exact ih a0 a1 a2 a3 x5 x6 (x7 + 1) t_3 rc rs h
def V_L_law_104 (E : Nat → Nat)  (a0 : Nat) (a1 : Nat) (a2 : Nat) (a3 : Nat) (x5 : Int32) (t : xT) (rc rs : Nat) : Prop :=
  ((x5 = 0 → ∃ f_1 : Nat, V_L_law_164 E f_1 a0 a1 a2 a3 (0 : Int32) (0 : Int32) (0 : Int32) t rc rs) ∧ (¬ x5 = 0 → (xis t a1 7 ∧ ∃ m_4 z_5 : Nat, m_4 ≤ rc ∧ z_5 ≤ rs ∧ V_X7_lease_0 E (fun _ _ => False) (fun x_3 t_2 => ((¬ x_3 = 0 → ∃ f_6 : Nat, V_L_law_164 E f_6 a0 a1 a2 a3 (0 : Int32) (0 : Int32) (0 : Int32) t_2 (rc - m_4) (rs - z_5)) ∧ (x_3 = 0 → (xis t_2 a2 7 ∧ ∃ m_9 z_10 : Nat, m_9 ≤ (rc - m_4) ∧ z_10 ≤ (rs - z_5) ∧ V_X7_lease_0 E (fun _ _ => False) (fun x_8 t_7 => ((¬ x_8 = 0 → ∃ f_11 : Nat, V_L_law_164 E f_11 a0 a1 a2 a3 (0 : Int32) (0 : Int32) (0 : Int32) t_7 ((rc - m_4) - m_9) ((rs - z_5) - z_10)) ∧ (x_8 = 0 → (xis t_7 a1 7 ∧ ∃ m_14 z_15 : Nat, m_14 ≤ ((rc - m_4) - m_9) ∧ z_15 ≤ ((rs - z_5) - z_10) ∧ V_X7_lease_0 E (fun _ _ => False) (fun x_13 t_12 => ((¬ x_13 = (1 : Int32) → ∃ f_16 : Nat, V_L_law_164 E f_16 a0 a1 a2 a3 (0 : Int32) (0 : Int32) (0 : Int32) t_12 (((rc - m_4) - m_9) - m_14) (((rs - z_5) - z_10) - z_15)) ∧ (x_13 = (1 : Int32) → (xis t_12 a2 7 ∧ ∃ m_19 z_20 : Nat, m_19 ≤ (((rc - m_4) - m_9) - m_14) ∧ z_20 ≤ (((rs - z_5) - z_10) - z_15) ∧ V_X7_lease_0 E (fun _ _ => False) (fun x_18 t_17 => ((¬ x_18 = (1 : Int32) → ∃ f_21 : Nat, V_L_law_164 E f_21 a0 a1 a2 a3 (0 : Int32) (0 : Int32) (0 : Int32) t_17 ((((rc - m_4) - m_9) - m_14) - m_19) ((((rs - z_5) - z_10) - z_15) - z_20)) ∧ (x_18 = (1 : Int32) → ∃ f_22 : Nat, V_L_law_164 E f_22 a0 a1 a2 a3 (1 : Int32) (0 : Int32) (0 : Int32) t_17 ((((rc - m_4) - m_9) - m_14) - m_19) ((((rs - z_5) - z_10) - z_15) - z_20)))) a2 (2 : Int32) (70003 : Int32) t_12 m_19 z_20)))) a1 (2 : Int32) (70003 : Int32) t_7 m_14 z_15)))) a2 (0 : Int32) (40000 : Int32) t_2 m_9 z_10)))) a1 (0 : Int32) (40000 : Int32) t m_4 z_5)))
set_option maxRecDepth 20000 in
theorem S_L_law_104 {Γ : xΓ} (hl : (gl Γ).stackTraces = false) (hz : xLw Γ) {a0 : Nat} {a1 : Nat} {a2 : Nat} {a3 : Nat} {x5 : Int32} {t : xT} {rc rs : Nat} (h : V_L_law_104 (gG Γ).2.2.2 a0 a1 a2 a3 x5 t rc rs) : xX Γ k_L_law 104 [(0, .ref a0), (1, .ref a1), (2, .ref a2), (3, .ref a3), (5, .int x5)] [] t rc rs := by
  unfold V_L_law_104 at h
  refine x_iload 4 dL_law_104 rfl ?_
  obtain ⟨h1, h2⟩ := h
  refine x_if_eq (tgt := 155) dL_law_106 (by decide) (fun q => ?_) (fun q => ?_)
  · have h := h1 q
    refine x_iconst (v := (0 : Int32)) dL_law_155 (by decide) ?_
    refine x_istore (L' := [(5, .int (0 : Int32)), (0, .ref a0), (1, .ref a1), (2, .ref a2), (3, .ref a3)]) dL_law_156 (by decide) rfl ?_
    refine x_iconst (v := (0 : Int32)) dL_law_158 (by decide) ?_
    refine x_istore (L' := [(6, .int (0 : Int32)), (5, .int (0 : Int32)), (0, .ref a0), (1, .ref a1), (2, .ref a2), (3, .ref a3)]) dL_law_159 (by decide) rfl ?_
    refine x_iconst (v := (0 : Int32)) dL_law_161 (by decide) ?_
    refine x_istore (L' := [(7, .int (0 : Int32)), (6, .int (0 : Int32)), (5, .int (0 : Int32)), (0, .ref a0), (1, .ref a1), (2, .ref a2), (3, .ref a3)]) dL_law_162 (by decide) rfl ?_
    obtain ⟨f_1, h⟩ := h
    refine x_sub (L' := [(0, .ref a0), (1, .ref a1), (2, .ref a2), (3, .ref a3), (5, .int (0 : Int32)), (6, .int (0 : Int32)), (7, .int (0 : Int32))]) [3, 4, 5, 6, 2, 1, 0] rfl ?_
    exact S_L_law_164 hl hz  f_1 a0 a1 a2 a3 (0 : Int32) (0 : Int32) (0 : Int32) t rc rs h
  · have h := h2 q
    refine x_aload_n 1 dL_law_109 rfl rfl ?_
    refine x_iconst (v := (0 : Int32)) dL_law_110 (by decide) ?_
    refine x_ldc dL_law_111 xw1158 ?_
    obtain ⟨⟨fs, hf⟩, h⟩ := h
    obtain ⟨m_4, z_5, hm, hs, h⟩ := h
    refine x_invVX (as := [.int (0 : Int32), .int (40000 : Int32)]) (rest := []) dL_law_113 (q := (RX7, TX7, 10)) rfl xc_L_law_14 hf (M_X7_lease hl h) rfl rfl (Nat.le_of_ble_eq_true rfl) hm hs (fun _ _ h => h.elim) (xk_i fun x_3 t_2 h => ?_)
    obtain ⟨h1, h2⟩ := h
    refine x_if_ne (tgt := 155) dL_law_116 (by decide) (fun q => ?_) (fun q => ?_)
    · have h := h1 q
      refine x_iconst (v := (0 : Int32)) dL_law_155 (by decide) ?_
      refine x_istore (L' := [(5, .int (0 : Int32)), (0, .ref a0), (1, .ref a1), (2, .ref a2), (3, .ref a3)]) dL_law_156 (by decide) rfl ?_
      refine x_iconst (v := (0 : Int32)) dL_law_158 (by decide) ?_
      refine x_istore (L' := [(6, .int (0 : Int32)), (5, .int (0 : Int32)), (0, .ref a0), (1, .ref a1), (2, .ref a2), (3, .ref a3)]) dL_law_159 (by decide) rfl ?_
      refine x_iconst (v := (0 : Int32)) dL_law_161 (by decide) ?_
      refine x_istore (L' := [(7, .int (0 : Int32)), (6, .int (0 : Int32)), (5, .int (0 : Int32)), (0, .ref a0), (1, .ref a1), (2, .ref a2), (3, .ref a3)]) dL_law_162 (by decide) rfl ?_
      obtain ⟨f_6, h⟩ := h
      refine x_sub (L' := [(0, .ref a0), (1, .ref a1), (2, .ref a2), (3, .ref a3), (5, .int (0 : Int32)), (6, .int (0 : Int32)), (7, .int (0 : Int32))]) [3, 4, 5, 6, 2, 1, 0] rfl ?_
      exact S_L_law_164 hl hz  f_6 a0 a1 a2 a3 (0 : Int32) (0 : Int32) (0 : Int32) t_2 (rc - m_4) (rs - z_5) h
    · have h := h2 q
      refine x_aload_n 2 dL_law_119 rfl rfl ?_
      refine x_iconst (v := (0 : Int32)) dL_law_120 (by decide) ?_
      refine x_ldc dL_law_121 xw1158 ?_
      obtain ⟨⟨fs, hf⟩, h⟩ := h
      obtain ⟨m_9, z_10, hm, hs, h⟩ := h
      refine x_invVX (as := [.int (0 : Int32), .int (40000 : Int32)]) (rest := []) dL_law_123 (q := (RX7, TX7, 10)) rfl xc_L_law_14 hf (M_X7_lease hl h) rfl rfl (Nat.le_of_ble_eq_true rfl) hm hs (fun _ _ h => h.elim) (xk_i fun x_8 t_7 h => ?_)
      obtain ⟨h1, h2⟩ := h
      refine x_if_ne (tgt := 155) dL_law_126 (by decide) (fun q => ?_) (fun q => ?_)
      · have h := h1 q
        refine x_iconst (v := (0 : Int32)) dL_law_155 (by decide) ?_
        refine x_istore (L' := [(5, .int (0 : Int32)), (0, .ref a0), (1, .ref a1), (2, .ref a2), (3, .ref a3)]) dL_law_156 (by decide) rfl ?_
        refine x_iconst (v := (0 : Int32)) dL_law_158 (by decide) ?_
        refine x_istore (L' := [(6, .int (0 : Int32)), (5, .int (0 : Int32)), (0, .ref a0), (1, .ref a1), (2, .ref a2), (3, .ref a3)]) dL_law_159 (by decide) rfl ?_
        refine x_iconst (v := (0 : Int32)) dL_law_161 (by decide) ?_
        refine x_istore (L' := [(7, .int (0 : Int32)), (6, .int (0 : Int32)), (5, .int (0 : Int32)), (0, .ref a0), (1, .ref a1), (2, .ref a2), (3, .ref a3)]) dL_law_162 (by decide) rfl ?_
        obtain ⟨f_11, h⟩ := h
        refine x_sub (L' := [(0, .ref a0), (1, .ref a1), (2, .ref a2), (3, .ref a3), (5, .int (0 : Int32)), (6, .int (0 : Int32)), (7, .int (0 : Int32))]) [3, 4, 5, 6, 2, 1, 0] rfl ?_
        exact S_L_law_164 hl hz  f_11 a0 a1 a2 a3 (0 : Int32) (0 : Int32) (0 : Int32) t_7 ((rc - m_4) - m_9) ((rs - z_5) - z_10) h
      · have h := h2 q
        refine x_aload_n 1 dL_law_129 rfl rfl ?_
        refine x_iconst (v := (2 : Int32)) dL_law_130 (by decide) ?_
        refine x_ldc dL_law_131 xw1159 ?_
        obtain ⟨⟨fs, hf⟩, h⟩ := h
        obtain ⟨m_14, z_15, hm, hs, h⟩ := h
        refine x_invVX (as := [.int (2 : Int32), .int (70003 : Int32)]) (rest := []) dL_law_133 (q := (RX7, TX7, 10)) rfl xc_L_law_14 hf (M_X7_lease hl h) rfl rfl (Nat.le_of_ble_eq_true rfl) hm hs (fun _ _ h => h.elim) (xk_i fun x_13 t_12 h => ?_)
        refine x_iconst (v := (1 : Int32)) dL_law_136 (by decide) ?_
        obtain ⟨h1, h2⟩ := h
        refine x_icmp_ne (tgt := 155) dL_law_137 (by decide) (fun q => ?_) (fun q => ?_)
        · have h := h1 q
          refine x_iconst (v := (0 : Int32)) dL_law_155 (by decide) ?_
          refine x_istore (L' := [(5, .int (0 : Int32)), (0, .ref a0), (1, .ref a1), (2, .ref a2), (3, .ref a3)]) dL_law_156 (by decide) rfl ?_
          refine x_iconst (v := (0 : Int32)) dL_law_158 (by decide) ?_
          refine x_istore (L' := [(6, .int (0 : Int32)), (5, .int (0 : Int32)), (0, .ref a0), (1, .ref a1), (2, .ref a2), (3, .ref a3)]) dL_law_159 (by decide) rfl ?_
          refine x_iconst (v := (0 : Int32)) dL_law_161 (by decide) ?_
          refine x_istore (L' := [(7, .int (0 : Int32)), (6, .int (0 : Int32)), (5, .int (0 : Int32)), (0, .ref a0), (1, .ref a1), (2, .ref a2), (3, .ref a3)]) dL_law_162 (by decide) rfl ?_
          obtain ⟨f_16, h⟩ := h
          refine x_sub (L' := [(0, .ref a0), (1, .ref a1), (2, .ref a2), (3, .ref a3), (5, .int (0 : Int32)), (6, .int (0 : Int32)), (7, .int (0 : Int32))]) [3, 4, 5, 6, 2, 1, 0] rfl ?_
          exact S_L_law_164 hl hz  f_16 a0 a1 a2 a3 (0 : Int32) (0 : Int32) (0 : Int32) t_12 (((rc - m_4) - m_9) - m_14) (((rs - z_5) - z_10) - z_15) h
        · have h := h2 q
          refine x_aload_n 2 dL_law_140 rfl rfl ?_
          refine x_iconst (v := (2 : Int32)) dL_law_141 (by decide) ?_
          refine x_ldc dL_law_142 xw1159 ?_
          obtain ⟨⟨fs, hf⟩, h⟩ := h
          obtain ⟨m_19, z_20, hm, hs, h⟩ := h
          refine x_invVX (as := [.int (2 : Int32), .int (70003 : Int32)]) (rest := []) dL_law_144 (q := (RX7, TX7, 10)) rfl xc_L_law_14 hf (M_X7_lease hl h) rfl rfl (Nat.le_of_ble_eq_true rfl) hm hs (fun _ _ h => h.elim) (xk_i fun x_18 t_17 h => ?_)
          refine x_iconst (v := (1 : Int32)) dL_law_147 (by decide) ?_
          obtain ⟨h1, h2⟩ := h
          refine x_icmp_ne (tgt := 155) dL_law_148 (by decide) (fun q => ?_) (fun q => ?_)
          · have h := h1 q
            refine x_iconst (v := (0 : Int32)) dL_law_155 (by decide) ?_
            refine x_istore (L' := [(5, .int (0 : Int32)), (0, .ref a0), (1, .ref a1), (2, .ref a2), (3, .ref a3)]) dL_law_156 (by decide) rfl ?_
            refine x_iconst (v := (0 : Int32)) dL_law_158 (by decide) ?_
            refine x_istore (L' := [(6, .int (0 : Int32)), (5, .int (0 : Int32)), (0, .ref a0), (1, .ref a1), (2, .ref a2), (3, .ref a3)]) dL_law_159 (by decide) rfl ?_
            refine x_iconst (v := (0 : Int32)) dL_law_161 (by decide) ?_
            refine x_istore (L' := [(7, .int (0 : Int32)), (6, .int (0 : Int32)), (5, .int (0 : Int32)), (0, .ref a0), (1, .ref a1), (2, .ref a2), (3, .ref a3)]) dL_law_162 (by decide) rfl ?_
            obtain ⟨f_21, h⟩ := h
            refine x_sub (L' := [(0, .ref a0), (1, .ref a1), (2, .ref a2), (3, .ref a3), (5, .int (0 : Int32)), (6, .int (0 : Int32)), (7, .int (0 : Int32))]) [3, 4, 5, 6, 2, 1, 0] rfl ?_
            exact S_L_law_164 hl hz  f_21 a0 a1 a2 a3 (0 : Int32) (0 : Int32) (0 : Int32) t_17 ((((rc - m_4) - m_9) - m_14) - m_19) ((((rs - z_5) - z_10) - z_15) - z_20) h
          · have h := h2 q
            refine x_iconst (v := (1 : Int32)) dL_law_151 (by decide) ?_
            refine x_goto (tgt := 156) dL_law_152 (by decide) ?_
            refine x_istore (L' := [(5, .int (1 : Int32)), (0, .ref a0), (1, .ref a1), (2, .ref a2), (3, .ref a3)]) dL_law_156 (by decide) rfl ?_
            refine x_iconst (v := (0 : Int32)) dL_law_158 (by decide) ?_
            refine x_istore (L' := [(6, .int (0 : Int32)), (5, .int (1 : Int32)), (0, .ref a0), (1, .ref a1), (2, .ref a2), (3, .ref a3)]) dL_law_159 (by decide) rfl ?_
            refine x_iconst (v := (0 : Int32)) dL_law_161 (by decide) ?_
            refine x_istore (L' := [(7, .int (0 : Int32)), (6, .int (0 : Int32)), (5, .int (1 : Int32)), (0, .ref a0), (1, .ref a1), (2, .ref a2), (3, .ref a3)]) dL_law_162 (by decide) rfl ?_
            obtain ⟨f_22, h⟩ := h
            refine x_sub (L' := [(0, .ref a0), (1, .ref a1), (2, .ref a2), (3, .ref a3), (5, .int (1 : Int32)), (6, .int (0 : Int32)), (7, .int (0 : Int32))]) [3, 4, 5, 6, 2, 1, 0] rfl ?_
            exact S_L_law_164 hl hz  f_22 a0 a1 a2 a3 (1 : Int32) (0 : Int32) (0 : Int32) t_17 ((((rc - m_4) - m_9) - m_14) - m_19) ((((rs - z_5) - z_10) - z_15) - z_20) h
def VS_L_law_34 (E : Nat → Nat)  (R34 : Nat → Nat → Nat → Nat → Int32 → Int32 → Int32 → xT → Nat → Nat → Prop) (a0 : Nat) (a1 : Nat) (a2 : Nat) (a3 : Nat) (x4 : Int32) (x5 : Int32) (x6 : Int32) (t : xT) (rc rs : Nat) : Prop :=
  (((4 : Int32) ≤ x6 → V_L_law_104 E a0 a1 a2 a3 x5 t rc rs) ∧ (¬ (4 : Int32) ≤ x6 → ((x5 = 0 → V_L_law_104 E a0 a1 a2 a3 x5 t rc rs) ∧ (¬ x5 = 0 → (V_L_low_0 (fun x_2 t_1 => (xis t_1 a1 7 ∧ ∃ m_5 z_6 : Nat, m_5 ≤ rc ∧ z_6 ≤ rs ∧ V_X7_flat_0 E (fun _ _ => False) (fun x_4 t_3 => ((¬ x_4 = x6 → R34 a0 a1 a2 a3 x4 (0 : Int32) (x6 + 1) t_3 (rc - m_5) (rs - z_6)) ∧ (x_4 = x6 → (V_L_low_0 (fun x_8 t_7 => (xis t_7 a2 7 ∧ ∃ m_11 z_12 : Nat, m_11 ≤ (rc - m_5) ∧ z_12 ≤ (rs - z_6) ∧ V_X7_flat_0 E (fun _ _ => False) (fun x_10 t_9 => ((¬ x_10 = x6 → R34 a0 a1 a2 a3 x4 (0 : Int32) (x6 + 1) t_9 ((rc - m_5) - m_11) ((rs - z_6) - z_12)) ∧ (x_10 = x6 → R34 a0 a1 a2 a3 x4 (1 : Int32) (x6 + 1) t_9 ((rc - m_5) - m_11) ((rs - z_6) - z_12)))) a2 ((1 : Int32) + x_8) t_7 m_11 z_12)) (x4 >>> (((4 : Int32) * x6) &&& 31)) (9 : Int32) t_3)))) a1 ((1 : Int32) + x_2) t_1 m_5 z_6)) (x4 >>> (((4 : Int32) * x6) &&& 31)) (9 : Int32) t)))))
def V_L_law_34 (E : Nat → Nat)  (n : Nat) : Nat → Nat → Nat → Nat → Int32 → Int32 → Int32 → xT → Nat → Nat → Prop := Nat.rec (fun _ _ _ _ _ _ _ _ _ _ => False) (fun _ ih => VS_L_law_34 E ih) n
set_option maxRecDepth 20000 in
theorem S_L_law_34 {Γ : xΓ} (hl : (gl Γ).stackTraces = false) (hz : xLw Γ) : ∀ (n : Nat) (a0 : Nat) (a1 : Nat) (a2 : Nat) (a3 : Nat) (x4 : Int32) (x5 : Int32) (x6 : Int32) (t : xT) (rc rs : Nat), V_L_law_34 (gG Γ).2.2.2 n a0 a1 a2 a3 x4 x5 x6 t rc rs → xX Γ k_L_law 34 [(0, .ref a0), (1, .ref a1), (2, .ref a2), (3, .ref a3), (4, .int x4), (5, .int x5), (6, .int x6)] [] t rc rs := by
  intro n
  induction n with
  | zero =>
    intro a0 a1 a2 a3 x4 x5 x6 t rc rs h
    exact h.elim
  | succ n ih =>
    intro a0 a1 a2 a3 x4 x5 x6 t rc rs h
    replace h : VS_L_law_34 (gG Γ).2.2.2 (V_L_law_34 (gG Γ).2.2.2 n) a0 a1 a2 a3 x4 x5 x6 t rc rs := h
    unfold VS_L_law_34 at h
    refine x_iload 6 dL_law_34 rfl ?_
    refine x_iconst (v := (4 : Int32)) dL_law_36 (by decide) ?_
    obtain ⟨h1, h2⟩ := h
    refine x_icmp_ge (tgt := 104) dL_law_37 (by decide) (fun q => ?_) (fun q => ?_)
    · have h := h1 q
      refine x_sub (L' := [(0, .ref a0), (1, .ref a1), (2, .ref a2), (3, .ref a3), (5, .int x5)]) [0, 1, 2, 3, 5] rfl ?_
      exact S_L_law_104 hl hz  h
    · have h := h2 q
      refine x_iload 5 dL_law_40 rfl ?_
      obtain ⟨h1, h2⟩ := h
      refine x_if_eq (tgt := 104) dL_law_42 (by decide) (fun q => ?_) (fun q => ?_)
      · have h := h1 q
        refine x_sub (L' := [(0, .ref a0), (1, .ref a1), (2, .ref a2), (3, .ref a3), (5, .int x5)]) [0, 1, 2, 3, 5] rfl ?_
        exact S_L_law_104 hl hz  h
      · have h := h2 q
        refine x_aload_n 1 dL_law_45 rfl rfl ?_
        refine x_iconst (v := (1 : Int32)) dL_law_46 (by decide) ?_
        refine x_iload 4 dL_law_47 rfl ?_
        refine x_iconst (v := (4 : Int32)) dL_law_49 (by decide) ?_
        refine x_iload 6 dL_law_50 rfl ?_
        refine x_imul dL_law_52 ?_
        refine x_ishr dL_law_53 ?_
        refine x_bipush (v := (9 : Int32)) dL_law_54 (by decide) ?_
        refine x_invS (as := [.int (x4 >>> (((4 : Int32) * x6) &&& 31)), .int (9 : Int32)]) (rest := [.int (1 : Int32), .ref a1]) dL_law_56 xc_L_law_84 (M_L_low hl h) rfl rfl (Nat.le_of_ble_eq_true rfl) (Nat.zero_le _) (Nat.zero_le _) (xk_i fun x_2 t_1 h => ?_)
        refine x_iadd dL_law_59 ?_
        obtain ⟨⟨fs, hf⟩, h⟩ := h
        obtain ⟨m_5, z_6, hm, hs, h⟩ := h
        refine x_invVX (as := [.int ((1 : Int32) + x_2)]) (rest := []) dL_law_60 (q := (RX7, TX7, 10)) rfl xc_L_law_8 hf (M_X7_flat hl h) rfl rfl (Nat.le_of_ble_eq_true rfl) hm hs (fun _ _ h => h.elim) (xk_i fun x_4 t_3 h => ?_)
        refine x_iload 6 dL_law_63 rfl ?_
        obtain ⟨h1, h2⟩ := h
        refine x_icmp_ne (tgt := 95) dL_law_65 (by decide) (fun q => ?_) (fun q => ?_)
        · have h := h1 q
          refine x_iconst (v := (0 : Int32)) dL_law_95 (by decide) ?_
          refine x_istore (L' := [(5, .int (0 : Int32)), (0, .ref a0), (1, .ref a1), (2, .ref a2), (3, .ref a3), (4, .int x4), (6, .int x6)]) dL_law_96 (by decide) rfl ?_
          refine x_iinc (v := (x6 + 1)) (L' := [(6, .int (x6 + 1)), (5, .int (0 : Int32)), (0, .ref a0), (1, .ref a1), (2, .ref a2), (3, .ref a3), (4, .int x4)]) (j := 6) dL_law_98 rfl rfl (by decide) rfl ?_
          refine x_goto (tgt := 34) dL_law_101 (by decide) ?_
          refine x_sub (L' := [(0, .ref a0), (1, .ref a1), (2, .ref a2), (3, .ref a3), (4, .int x4), (5, .int (0 : Int32)), (6, .int (x6 + 1))]) [2, 3, 4, 5, 6, 1, 0] rfl ?_
          exact ih a0 a1 a2 a3 x4 (0 : Int32) (x6 + 1) t_3 (rc - m_5) (rs - z_6) h
        · have h := h2 q
          refine x_aload_n 2 dL_law_68 rfl rfl ?_
          refine x_iconst (v := (1 : Int32)) dL_law_69 (by decide) ?_
          refine x_iload 4 dL_law_70 rfl ?_
          refine x_iconst (v := (4 : Int32)) dL_law_72 (by decide) ?_
          refine x_iload 6 dL_law_73 rfl ?_
          refine x_imul dL_law_75 ?_
          refine x_ishr dL_law_76 ?_
          refine x_bipush (v := (9 : Int32)) dL_law_77 (by decide) ?_
          refine x_invS (as := [.int (x4 >>> (((4 : Int32) * x6) &&& 31)), .int (9 : Int32)]) (rest := [.int (1 : Int32), .ref a2]) dL_law_79 xc_L_law_84 (M_L_low hl h) rfl rfl (Nat.le_of_ble_eq_true rfl) (Nat.zero_le _) (Nat.zero_le _) (xk_i fun x_8 t_7 h => ?_)
          refine x_iadd dL_law_82 ?_
          obtain ⟨⟨fs, hf⟩, h⟩ := h
          obtain ⟨m_11, z_12, hm, hs, h⟩ := h
          refine x_invVX (as := [.int ((1 : Int32) + x_8)]) (rest := []) dL_law_83 (q := (RX7, TX7, 10)) rfl xc_L_law_8 hf (M_X7_flat hl h) rfl rfl (Nat.le_of_ble_eq_true rfl) hm hs (fun _ _ h => h.elim) (xk_i fun x_10 t_9 h => ?_)
          refine x_iload 6 dL_law_86 rfl ?_
          obtain ⟨h1, h2⟩ := h
          refine x_icmp_ne (tgt := 95) dL_law_88 (by decide) (fun q => ?_) (fun q => ?_)
          · have h := h1 q
            refine x_iconst (v := (0 : Int32)) dL_law_95 (by decide) ?_
            refine x_istore (L' := [(5, .int (0 : Int32)), (0, .ref a0), (1, .ref a1), (2, .ref a2), (3, .ref a3), (4, .int x4), (6, .int x6)]) dL_law_96 (by decide) rfl ?_
            refine x_iinc (v := (x6 + 1)) (L' := [(6, .int (x6 + 1)), (5, .int (0 : Int32)), (0, .ref a0), (1, .ref a1), (2, .ref a2), (3, .ref a3), (4, .int x4)]) (j := 6) dL_law_98 rfl rfl (by decide) rfl ?_
            refine x_goto (tgt := 34) dL_law_101 (by decide) ?_
            refine x_sub (L' := [(0, .ref a0), (1, .ref a1), (2, .ref a2), (3, .ref a3), (4, .int x4), (5, .int (0 : Int32)), (6, .int (x6 + 1))]) [2, 3, 4, 5, 6, 1, 0] rfl ?_
            exact ih a0 a1 a2 a3 x4 (0 : Int32) (x6 + 1) t_9 ((rc - m_5) - m_11) ((rs - z_6) - z_12) h
          · have h := h2 q
            refine x_iconst (v := (1 : Int32)) dL_law_91 (by decide) ?_
            refine x_goto (tgt := 96) dL_law_92 (by decide) ?_
            refine x_istore (L' := [(5, .int (1 : Int32)), (0, .ref a0), (1, .ref a1), (2, .ref a2), (3, .ref a3), (4, .int x4), (6, .int x6)]) dL_law_96 (by decide) rfl ?_
            refine x_iinc (v := (x6 + 1)) (L' := [(6, .int (x6 + 1)), (5, .int (1 : Int32)), (0, .ref a0), (1, .ref a1), (2, .ref a2), (3, .ref a3), (4, .int x4)]) (j := 6) dL_law_98 rfl rfl (by decide) rfl ?_
            refine x_goto (tgt := 34) dL_law_101 (by decide) ?_
            refine x_sub (L' := [(0, .ref a0), (1, .ref a1), (2, .ref a2), (3, .ref a3), (4, .int x4), (5, .int (1 : Int32)), (6, .int (x6 + 1))]) [2, 3, 4, 5, 6, 1, 0] rfl ?_
            exact ih a0 a1 a2 a3 x4 (1 : Int32) (x6 + 1) t_9 ((rc - m_5) - m_11) ((rs - z_6) - z_12) h
def V_L_law_0 (E : Nat → Nat)  (a0 : Nat) (t : xT) (rc rs : Nat) : Prop :=
  xnw (.inr (7, [.null, .null, .null, .null, .null, .null, .null, .int 0, .int 0, .long 0])) 10 t rc rs fun a_1 t_2 => (∃ m_4 z_5 : Nat, m_4 ≤ (rc - 1) ∧ z_5 ≤ (rs - 10) ∧ V_X7_init_0 E (fun t_3 => xnw (.inr (7, [.null, .null, .null, .null, .null, .null, .null, .int 0, .int 0, .long 0])) 10 t_3 ((rc - 1) - m_4) ((rs - 10) - z_5) fun a_6 t_7 => (∃ m_9 z_10 : Nat, m_9 ≤ (((rc - 1) - m_4) - 1) ∧ z_10 ≤ (((rs - 10) - z_5) - 10) ∧ V_X7_init_0 E (fun t_8 => xnA 1 (.inr (.inl (fun _ => 0))) (12 : Int32) t_8 ((((rc - 1) - m_4) - 1) - m_9) ((((rs - 10) - z_5) - 10) - z_10) fun a_11 t_12 => (V_L_cell_0 (fun x_14 t_13 => ∃ f_15 : Nat, V_L_law_34 E f_15 a0 a_1 a_6 a_11 x_14 (1 : Int32) (0 : Int32) t_13 (((((rc - 1) - m_4) - 1) - m_9) - 1) (((((rs - 10) - z_5) - 10) - z_10) - (12 : Int32).toNatClampNeg)) a0 (0 : Int32) t_12)) a_6 t_7 m_9 z_10)) a_1 t_2 m_4 z_5)
set_option maxRecDepth 20000 in
theorem S_L_law_0 {Γ : xΓ} (hl : (gl Γ).stackTraces = false) (hz : xLw Γ) {a0 : Nat} {t : xT} {rc rs : Nat} (h : V_L_law_0 (gG Γ).2.2.2 a0 t rc rs) : xX Γ k_L_law 0 [(0, .ref a0)] [] t rc rs := by
  unfold V_L_law_0 at h
  obtain ⟨q1, q2, h⟩ := h
  refine x_new dL_law_0 xn_L_9 q1 q2 (fun a_1 hq => ?_)
  replace h := h a_1 hq
  generalize hT : xup t a_1 _ = t_2 at h ⊢
  clear hT
  refine x_dup dL_law_3 rfl ?_
  obtain ⟨m_4, z_5, hm, hs, h⟩ := h
  refine x_invI (as := []) (rest := [.ref a_1]) dL_law_4 xc_L_law_109 (M_X7_init hl h) rfl rfl (Nat.le_of_ble_eq_true rfl) hm hs (xk_v fun t_3 h => ?_)
  refine x_astore_n (L' := [(1, .ref a_1), (0, .ref a0)]) dL_law_7 rfl (by decide) rfl ?_
  obtain ⟨q1, q2, h⟩ := h
  refine x_new dL_law_8 xn_L_9 q1 q2 (fun a_6 hq => ?_)
  replace h := h a_6 hq
  generalize hT : xup t_3 a_6 _ = t_7 at h ⊢
  clear hT
  refine x_dup dL_law_11 rfl ?_
  obtain ⟨m_9, z_10, hm, hs, h⟩ := h
  refine x_invI (as := []) (rest := [.ref a_6]) dL_law_12 xc_L_law_109 (M_X7_init hl h) rfl rfl (Nat.le_of_ble_eq_true rfl) hm hs (xk_v fun t_8 h => ?_)
  refine x_astore_n (L' := [(2, .ref a_6), (1, .ref a_1), (0, .ref a0)]) dL_law_15 rfl (by decide) rfl ?_
  refine x_bipush (v := (12 : Int32)) dL_law_16 (by decide) ?_
  obtain ⟨q0, qb, q1, q2, h⟩ := h
  refine x_newa1 dL_law_18 xw1160 q0 qb q1 q2 (fun a_11 hq => ?_)
  replace h := h a_11 hq
  generalize hT : xup t_8 a_11 _ = t_12 at h ⊢
  clear hT
  refine x_astore_n (L' := [(3, .ref a_11), (2, .ref a_6), (1, .ref a_1), (0, .ref a0)]) dL_law_20 rfl (by decide) rfl ?_
  refine x_aload_n 3 dL_law_21 rfl rfl ?_
  refine x_iconst (v := (0 : Int32)) dL_law_22 (by decide) ?_
  refine x_invS (as := [.ref a0, .int (0 : Int32)]) (rest := []) dL_law_23 xc_L_law_110 (M_L_cell hl h) rfl rfl (Nat.le_of_ble_eq_true rfl) (Nat.zero_le _) (Nat.zero_le _) (xk_i fun x_14 t_13 h => ?_)
  refine x_istore (L' := [(4, .int x_14), (3, .ref a_11), (2, .ref a_6), (1, .ref a_1), (0, .ref a0)]) dL_law_26 (by decide) rfl ?_
  refine x_iconst (v := (1 : Int32)) dL_law_28 (by decide) ?_
  refine x_istore (L' := [(5, .int (1 : Int32)), (4, .int x_14), (3, .ref a_11), (2, .ref a_6), (1, .ref a_1), (0, .ref a0)]) dL_law_29 (by decide) rfl ?_
  refine x_iconst (v := (0 : Int32)) dL_law_31 (by decide) ?_
  refine x_istore (L' := [(6, .int (0 : Int32)), (5, .int (1 : Int32)), (4, .int x_14), (3, .ref a_11), (2, .ref a_6), (1, .ref a_1), (0, .ref a0)]) dL_law_32 (by decide) rfl ?_
  obtain ⟨f_15, h⟩ := h
  refine x_sub (L' := [(0, .ref a0), (1, .ref a_1), (2, .ref a_6), (3, .ref a_11), (4, .int x_14), (5, .int (1 : Int32)), (6, .int (0 : Int32))]) [6, 5, 4, 3, 2, 1, 0] rfl ?_
  exact S_L_law_34 hl hz  f_15 a0 a_1 a_6 a_11 x_14 (1 : Int32) (0 : Int32) t_13 (((((rc - 1) - m_4) - 1) - m_9) - 1) (((((rs - 10) - z_5) - 10) - z_10) - (12 : Int32).toNatClampNeg) h
