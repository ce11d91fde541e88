/-! RentStreamModel.begins(I)V -/
def V_X8_begins_88 (R44 : Nat → Int32 → Int32 → xT → Prop) (K : xT → Prop) (a0 : Nat) (x1 : Int32) (x2 : Int32) (ys0 : Int64) (t : xT) : Prop :=
  xgR t a0 8 24 fun a_1 => xaJ t a_1 x2 fun y_2 => ((ys0 ≤ (0 : Int64) → xsJ t a_1 x2 (y_2 - (0 : Int64)) fun t_3 => R44 a0 x1 (x2 + 1) t_3) ∧ (¬ ys0 ≤ (0 : Int64) → xsJ t a_1 x2 (y_2 - ys0) fun t_4 => R44 a0 x1 (x2 + 1) t_4))
set_option maxRecDepth 20000 in
theorem S_X8_begins_88 {Γ : xΓ} {R44 : Nat → Int32 → Int32 → xT → Prop} {K : xT → Prop} (hl : (gl Γ).stackTraces = false) (ht : (gM Γ).sig.returnType = none) (hr : xRet Γ (xKv K)) (hR44 : ∀ (a0 : Nat) (x1 : Int32) (x2 : Int32) (t : xT) (rc rs : Nat), R44 a0 x1 x2 t → xX Γ k_X8_begins 44 [(0, .ref a0), (1, .int x1), (2, .int x2)] [] t rc rs) {a0 : Nat} {x1 : Int32} {x2 : Int32} {ys0 : Int64} {t : xT} {rc rs : Nat} (h : V_X8_begins_88 R44 K a0 x1 x2 ys0 t) : xX Γ k_X8_begins 88 [(0, .ref a0), (1, .int x1), (2, .int x2)] [.long ys0] t rc rs := by
  unfold V_X8_begins_88 at h
  refine x_lstore_n (L' := [(3, .long ys0), (0, .ref a0), (1, .int x1), (2, .int x2)]) dX8_begins_88 rfl (by decide) rfl ?_
  refine x_aload_n 1 dX8_begins_89 rfl rfl ?_
  obtain ⟨fs, hf, a_1, hv, h⟩ := h
  refine x_get dX8_begins_90 xf_X8_66 hf hv ?_
  refine x_iload_n 3 dX8_begins_93 rfl rfl ?_
  refine x_dup2_11 dX8_begins_94 rfl rfl ?_
  obtain ⟨n, f, hf, hi, h⟩ := h
  refine x_lald dX8_begins_95 hf hi ?_
  generalize f _ = y_2 at h ⊢
  refine x_lload_n 0 dX8_begins_96 rfl rfl ?_
  refine x_lconst (v := (0 : Int64)) dX8_begins_97 (by decide) ?_
  obtain ⟨h1, h2⟩ := h
  refine x_lcmp_le (tgt := 106) dX8_begins_98 dX8_begins_99 (by decide) (fun q => ?_) (fun q => ?_)
  · have h := h1 q
    refine x_lconst (v := (0 : Int64)) dX8_begins_106 (by decide) ?_
    refine x_lsub dX8_begins_107 ?_
    obtain ⟨n, f, hf, hi, h⟩ := h
    refine x_last dX8_begins_108 hf hi ?_
    generalize hT : xup t a_1 _ = t_3 at h ⊢
    clear hT
    refine x_iinc (v := (x2 + 1)) (L' := [(2, .int (x2 + 1)), (3, .long ys0), (0, .ref a0), (1, .int x1)]) (j := 3) dX8_begins_109 rfl rfl (by decide) rfl ?_
    refine x_goto (tgt := 44) dX8_begins_112 (by decide) ?_
    refine x_sub (L' := [(0, .ref a0), (1, .int x1), (2, .int (x2 + 1))]) [2, 3, 0] rfl ?_
    exact hR44 a0 x1 (x2 + 1) t_3 _ _ h
  · have h := h2 q
    refine x_lload_n 0 dX8_begins_102 rfl rfl ?_
    refine x_goto (tgt := 107) dX8_begins_103 (by decide) ?_
    refine x_lsub dX8_begins_107 ?_
    obtain ⟨n, f, hf, hi, h⟩ := h
    refine x_last dX8_begins_108 hf hi ?_
    generalize hT : xup t a_1 _ = t_4 at h ⊢
    clear hT
    refine x_iinc (v := (x2 + 1)) (L' := [(2, .int (x2 + 1)), (3, .long ys0), (0, .ref a0), (1, .int x1)]) (j := 3) dX8_begins_109 rfl rfl (by decide) rfl ?_
    refine x_goto (tgt := 44) dX8_begins_112 (by decide) ?_
    refine x_sub (L' := [(0, .ref a0), (1, .int x1), (2, .int (x2 + 1))]) [2, 3, 0] rfl ?_
    exact hR44 a0 x1 (x2 + 1) t_4 _ _ h
def VS_X8_begins_44 (R44 : Nat → Int32 → Int32 → xT → Prop) (K : xT → Prop) (a0 : Nat) (x1 : Int32) (x2 : Int32) (t : xT) : Prop :=
  xgI t a0 8 18 fun x_1 => ((x_1 ≤ x2 → K t) ∧ (¬ x_1 ≤ x2 → (xis t a0 8 ∧ V_X8_runs_0 (fun x_3 t_2 => ((x_3 = 0 → V_X8_begins_88 R44 K a0 x1 x2 (0 : Int64) t_2) ∧ (¬ x_3 = 0 → (xis t_2 a0 8 ∧ V_X8_rentIn_0 (fun x_5 t_4 => (xis t_4 a0 8 ∧ V_X8_incomeIn_0 (fun x_7 t_6 => (V_X8_benefitFor_0 (fun x_9 t_8 => xgR t_8 a0 8 24 fun a_10 => xaJ t_8 a_10 x2 fun y_11 => V_X8_begins_88 R44 K a0 x1 x2 (x_9.toInt64 + y_11) t_8) x_5 x_7 t_6)) a0 x2 x1 t_4)) a0 x2 x1 t_2)))) a0 x2 x1 t)))
def V_X8_begins_44 (K : xT → Prop) (n : Nat) : Nat → Int32 → Int32 → xT → Prop := Nat.rec (fun _ _ _ _ => False) (fun _ ih => VS_X8_begins_44 ih K) n
set_option maxRecDepth 20000 in
theorem S_X8_begins_44 {Γ : xΓ} {K : xT → Prop} (hl : (gl Γ).stackTraces = false) (ht : (gM Γ).sig.returnType = none) (hr : xRet Γ (xKv K)) : ∀ (n : Nat) (a0 : Nat) (x1 : Int32) (x2 : Int32) (t : xT) (rc rs : Nat), V_X8_begins_44 K n a0 x1 x2 t → xX Γ k_X8_begins 44 [(0, .ref a0), (1, .int x1), (2, .int x2)] [] t rc rs := by
  intro n
  induction n with
  | zero =>
    intro a0 x1 x2 t rc rs h
    exact h.elim
  | succ n ih =>
    intro a0 x1 x2 t rc rs h
    replace h : VS_X8_begins_44 (V_X8_begins_44 K n) K a0 x1 x2 t := h
    unfold VS_X8_begins_44 at h
    refine x_iload_n 2 dX8_begins_44 rfl rfl ?_
    refine x_aload_n 0 dX8_begins_45 rfl rfl ?_
    obtain ⟨fs, hf, x_1, hv, h⟩ := h
    refine x_get dX8_begins_46 xf_X8_123 hf hv ?_
    obtain ⟨h1, h2⟩ := h
    refine x_icmp_ge (tgt := 115) dX8_begins_49 (by decide) (fun q => ?_) (fun q => ?_)
    · have h := h1 q
      exact x_vret dX8_begins_115 hr ht ⟨rfl, h⟩
    · have h := h2 q
      refine x_aload_n 0 dX8_begins_52 rfl rfl ?_
      refine x_iload_n 2 dX8_begins_53 rfl rfl ?_
      refine x_iload_n 1 dX8_begins_54 rfl rfl ?_
      obtain ⟨⟨fs, hf⟩, h⟩ := h
      refine x_invV (as := [.int x2, .int x1]) (rest := []) dX8_begins_55 (q := (RX8, TX8, 40)) rfl xc_X8_begins_137 hf (M_X8_runs hl h) rfl rfl (Nat.le_of_ble_eq_true rfl) (Nat.zero_le _) (Nat.zero_le _) (xk_i fun x_3 t_2 h => ?_)
      obtain ⟨h1, h2⟩ := h
      refine x_if_eq (tgt := 87) dX8_begins_58 (by decide) (fun q => ?_) (fun q => ?_)
      · have h := h1 q
        refine x_lconst (v := (0 : Int64)) dX8_begins_87 (by decide) ?_
        exact S_X8_begins_88 hl ht hr (fun p0 p1 p2 p3 p4 p5 h => ih p0 p1 p2 p3 p4 p5 h) h
      · have h := h2 q
        refine x_aload_n 0 dX8_begins_61 rfl rfl ?_
        refine x_iload_n 2 dX8_begins_62 rfl rfl ?_
        refine x_iload_n 1 dX8_begins_63 rfl rfl ?_
        obtain ⟨⟨fs, hf⟩, h⟩ := h
        refine x_invV (as := [.int x2, .int x1]) (rest := []) dX8_begins_64 (q := (RX8, TX8, 40)) rfl xc_X8_begins_177 hf (M_X8_rentIn hl h) rfl rfl (Nat.le_of_ble_eq_true rfl) (Nat.zero_le _) (Nat.zero_le _) (xk_i fun x_5 t_4 h => ?_)
        refine x_aload_n 0 dX8_begins_67 rfl rfl ?_
        refine x_iload_n 2 dX8_begins_68 rfl rfl ?_
        refine x_iload_n 1 dX8_begins_69 rfl rfl ?_
        obtain ⟨⟨fs, hf⟩, h⟩ := h
        refine x_invV (as := [.int x2, .int x1]) (rest := [.int x_5]) dX8_begins_70 (q := (RX8, TX8, 40)) rfl xc_X8_begins_182 hf (M_X8_incomeIn hl h) rfl rfl (Nat.le_of_ble_eq_true rfl) (Nat.zero_le _) (Nat.zero_le _) (xk_i fun x_7 t_6 h => ?_)
        refine x_invS (as := [.int x_5, .int x_7]) (rest := []) dX8_begins_73 xc_X8_begins_185 (M_X8_benefitFor hl h) rfl rfl (Nat.le_of_ble_eq_true rfl) (Nat.zero_le _) (Nat.zero_le _) (xk_i fun x_9 t_8 h => ?_)
        refine x_i2l dX8_begins_76 ?_
        refine x_aload_n 0 dX8_begins_77 rfl rfl ?_
        obtain ⟨fs, hf, a_10, hv, h⟩ := h
        refine x_get dX8_begins_78 xf_X8_66 hf hv ?_
        refine x_iload_n 2 dX8_begins_81 rfl rfl ?_
        obtain ⟨n, f, hf, hi, h⟩ := h
        refine x_lald dX8_begins_82 hf hi ?_
        generalize f _ = y_11 at h ⊢
        refine x_ladd dX8_begins_83 ?_
        refine x_goto (tgt := 88) dX8_begins_84 (by decide) ?_
        exact S_X8_begins_88 hl ht hr (fun p0 p1 p2 p3 p4 p5 h => ih p0 p1 p2 p3 p4 p5 h) h
def VS_X8_begins_7 (R7 : Nat → Int32 → Int32 → xT → Prop) (K : xT → Prop) (a0 : Nat) (x1 : Int32) (x2 : Int32) (t : xT) : Prop :=
  xgI t a0 8 2 fun x_1 => ((x_1 ≤ x2 → xgR t a0 8 10 fun a_2 => xgR t a0 8 10 fun a_3 => xaI 0 t a_3 x1 fun x_4 => xsI 0 t a_2 (x1 + (1 : Int32)) x_4 fun t_5 => ∃ f_6 : Nat, V_X8_begins_44 K f_6 a0 x1 (0 : Int32) t_5) ∧ (¬ x_1 ≤ x2 → xgR t a0 8 8 fun a_7 => xsI 0 t a_7 x2 (0 : Int32) fun t_8 => R7 a0 x1 (x2 + 1) t_8))
def V_X8_begins_7 (K : xT → Prop) (n : Nat) : Nat → Int32 → Int32 → xT → Prop := Nat.rec (fun _ _ _ _ => False) (fun _ ih => VS_X8_begins_7 ih K) n
set_option maxRecDepth 20000 in
theorem S_X8_begins_7 {Γ : xΓ} {K : xT → Prop} (hl : (gl Γ).stackTraces = false) (ht : (gM Γ).sig.returnType = none) (hr : xRet Γ (xKv K)) : ∀ (n : Nat) (a0 : Nat) (x1 : Int32) (x2 : Int32) (t : xT) (rc rs : Nat), V_X8_begins_7 K n a0 x1 x2 t → xX Γ k_X8_begins 7 [(0, .ref a0), (1, .int x1), (2, .int x2)] [] t rc rs := by
  intro n
  induction n with
  | zero =>
    intro a0 x1 x2 t rc rs h
    exact h.elim
  | succ n ih =>
    intro a0 x1 x2 t rc rs h
    replace h : VS_X8_begins_7 (V_X8_begins_7 K n) K a0 x1 x2 t := h
    unfold VS_X8_begins_7 at h
    refine x_iload_n 2 dX8_begins_7 rfl rfl ?_
    refine x_aload_n 0 dX8_begins_8 rfl rfl ?_
    obtain ⟨fs, hf, x_1, hv, h⟩ := h
    refine x_get dX8_begins_9 xf_X8_116 hf hv ?_
    obtain ⟨h1, h2⟩ := h
    refine x_icmp_ge (tgt := 28) dX8_begins_12 (by decide) (fun q => ?_) (fun q => ?_)
    · have h := h1 q
      refine x_aload_n 0 dX8_begins_28 rfl rfl ?_
      obtain ⟨fs, hf, a_2, hv, h⟩ := h
      refine x_get dX8_begins_29 xf_X8_31 hf hv ?_
      refine x_iload_n 1 dX8_begins_32 rfl rfl ?_
      refine x_iconst (v := (1 : Int32)) dX8_begins_33 (by decide) ?_
      refine x_iadd dX8_begins_34 ?_
      refine x_aload_n 0 dX8_begins_35 rfl rfl ?_
      obtain ⟨fs, hf, a_3, hv, h⟩ := h
      refine x_get dX8_begins_36 xf_X8_31 hf hv ?_
      refine x_iload_n 1 dX8_begins_39 rfl rfl ?_
      obtain ⟨n, f, hf, hi, h⟩ := h
      refine x_iald dX8_begins_40 hf hi ?_
      generalize f _ = x_4 at h ⊢
      obtain ⟨n, f, hf, hi, h⟩ := h
      refine x_iast dX8_begins_41 hf hi ?_
      generalize hT : xup t a_2 _ = t_5 at h ⊢
      clear hT
      refine x_iconst (v := (0 : Int32)) dX8_begins_42 (by decide) ?_
      refine x_istore_n (L' := [(2, .int (0 : Int32)), (0, .ref a0), (1, .int x1)]) dX8_begins_43 rfl (by decide) rfl ?_
      obtain ⟨f_6, h⟩ := h
      refine x_sub (L' := [(0, .ref a0), (1, .int x1), (2, .int (0 : Int32))]) [1, 2, 0] rfl ?_
      exact S_X8_begins_44 hl ht hr  f_6 a0 x1 (0 : Int32) t_5 _ _ h
    · have h := h2 q
      refine x_aload_n 0 dX8_begins_15 rfl rfl ?_
      obtain ⟨fs, hf, a_7, hv, h⟩ := h
      refine x_get dX8_begins_16 xf_X8_25 hf hv ?_
      refine x_iload_n 2 dX8_begins_19 rfl rfl ?_
      refine x_iconst (v := (0 : Int32)) dX8_begins_20 (by decide) ?_
      obtain ⟨n, f, hf, hi, h⟩ := h
      refine x_iast dX8_begins_21 hf hi ?_
      generalize hT : xup t a_7 _ = t_8 at h ⊢
      clear hT
      refine x_iinc (v := (x2 + 1)) (L' := [(2, .int (x2 + 1)), (0, .ref a0), (1, .int x1)]) (j := 2) dX8_begins_22 rfl rfl (by decide) rfl ?_
      refine x_goto (tgt := 7) dX8_begins_25 (by decide) ?_
      refine x_sub (L' := [(0, .ref a0), (1, .int x1), (2, .int (x2 + 1))]) [1, 2, 0] rfl ?_
      exact ih a0 x1 (x2 + 1) t_8 _ _ h
def V_X8_begins_0 (K : xT → Prop) (a0 : Nat) (x1 : Int32) (t : xT) : Prop :=
  (xpF t a0 8 11 (.int (0 : Int32)) fun t_1 => ∃ f_2 : Nat, V_X8_begins_7 K f_2 a0 x1 (0 : Int32) t_1)
set_option maxRecDepth 20000 in
theorem S_X8_begins_0 {Γ : xΓ} {K : xT → Prop} (hl : (gl Γ).stackTraces = false) (ht : (gM Γ).sig.returnType = none) (hr : xRet Γ (xKv K)) {a0 : Nat} {x1 : Int32} {t : xT} {rc rs : Nat} (h : V_X8_begins_0 K a0 x1 t) : xX Γ k_X8_begins 0 [(0, .ref a0), (1, .int x1)] [] t rc rs := by
  unfold V_X8_begins_0 at h
  refine x_aload_n 0 dX8_begins_0 rfl rfl ?_
  refine x_iconst (v := (0 : Int32)) dX8_begins_1 (by decide) ?_
  obtain ⟨fs, hf, hk, h⟩ := h
  refine x_put (v := .int (0 : Int32)) dX8_begins_2 xp_X8_152 hf rfl rfl hk ?_
  generalize hT : xup t a0 _ = t_1 at h ⊢
  clear hT
  refine x_iconst (v := (0 : Int32)) dX8_begins_5 (by decide) ?_
  refine x_istore_n (L' := [(2, .int (0 : Int32)), (0, .ref a0), (1, .int x1)]) dX8_begins_6 rfl (by decide) rfl ?_
  obtain ⟨f_2, h⟩ := h
  refine x_sub (L' := [(0, .ref a0), (1, .int x1), (2, .int (0 : Int32))]) [1, 2, 0] rfl ?_
  exact S_X8_begins_7 hl ht hr  f_2 a0 x1 (0 : Int32) t_1 _ _ h
theorem M_X8_begins {l : Launch} {G : xG} (hl : l.stackTraces = false) {a0 : Nat} {x1 : Int32} {t : xT} {K : xT → Prop} (h : V_X8_begins_0 K a0 x1 t) : xMet l G yX8_begins k_X8_begins none [.ref a0, .int x1] t (xKv K) 0 0 := xMet.of (by decide +kernel) rfl hl (Nat.le_of_ble_eq_true rfl) (fun Γ e1 e2 ht hn hr => by subst e1; subst e2; exact S_X8_begins_0 hl ht hr h)
/-! RentStreamModel.bills(II)V -/
def V_X8_bills_73 (K : xT → Prop) (a0 : Nat) (x1 : Int32) (x2 : Int32) (x3 : Int32) (x4 : Int32) (xs0 : Int32) (xs1 : Int32) (as2 : Nat) (t : xT) : Prop :=
  xsI 0 t as2 xs1 xs0 fun t_1 => xgR t_1 a0 8 30 fun a_2 => xgR t_1 a0 8 36 fun a_3 => xaJ t_1 a_3 x1 fun y_4 => xsI 0 t_1 a_2 x3 y_4.toInt32 fun t_5 => xgR t_5 a0 8 29 fun a_6 => xgR t_5 a0 8 28 fun a_7 => xaI 0 t_5 a_7 x3 fun x_8 => (xis t_5 a0 8 ∧ V_X8_incomeIn_0 (fun x_10 t_9 => (V_X8_benefitFor_0 (fun x_12 t_11 => xsI 0 t_11 a_6 x3 x_12 fun t_13 => xgR t_13 a0 8 23 fun a_14 => xaJ t_13 a_14 x1 fun y_15 => xgR t_13 a0 8 28 fun a_16 => xaI 0 t_13 a_16 x3 fun x_17 => xgR t_13 a0 8 29 fun a_18 => xaI 0 t_13 a_18 x3 fun x_19 => xgR t_13 a0 8 30 fun a_20 => xaI 0 t_13 a_20 x3 fun x_21 => xsJ t_13 a_14 x1 (y_15 + ((((x4 - x_17) - x_19) + x_21)).toInt64) fun t_22 => xgR t_22 a0 8 24 fun a_23 => xaJ t_22 a_23 x1 fun y_24 => xgR t_22 a0 8 29 fun a_25 => xaI 0 t_22 a_25 x3 fun x_26 => xsJ t_22 a_23 x1 (y_24 + x_26.toInt64) fun t_27 => K t_27) (x4 - x_8) x_10 t_9)) a0 x1 x2 t_5)
set_option maxRecDepth 20000 in
theorem S_X8_bills_73 {Γ : xΓ} {K : xT → Prop} (hl : (gl Γ).stackTraces = false) (ht : (gM Γ).sig.returnType = none) (hr : xRet Γ (xKv K)) {a0 : Nat} {x1 : Int32} {x2 : Int32} {x3 : Int32} {x4 : Int32} {xs0 : Int32} {xs1 : Int32} {as2 : Nat} {t : xT} {rc rs : Nat} (h : V_X8_bills_73 K a0 x1 x2 x3 x4 xs0 xs1 as2 t) : xX Γ k_X8_bills 73 [(0, .ref a0), (1, .int x1), (2, .int x2), (3, .int x3), (4, .int x4)] [.int xs0, .int xs1, .ref as2] t rc rs := by
  unfold V_X8_bills_73 at h
  obtain ⟨n, f, hf, hi, h⟩ := h
  refine x_iast dX8_bills_73 hf hi ?_
  generalize hT : xup t as2 _ = t_1 at h ⊢
  clear hT
  refine x_aload_n 0 dX8_bills_74 rfl rfl ?_
  obtain ⟨fs, hf, a_2, hv, h⟩ := h
  refine x_get dX8_bills_75 xf_X8_84 hf hv ?_
  refine x_iload_n 3 dX8_bills_78 rfl rfl ?_
  refine x_aload_n 0 dX8_bills_79 rfl rfl ?_
  obtain ⟨fs, hf, a_3, hv, h⟩ := h
  refine x_get dX8_bills_80 xf_X8_102 hf hv ?_
  refine x_iload_n 1 dX8_bills_83 rfl rfl ?_
  obtain ⟨n, f, hf, hi, h⟩ := h
  refine x_lald dX8_bills_84 hf hi ?_
  generalize f _ = y_4 at h ⊢
  refine x_l2i dX8_bills_85 ?_
  obtain ⟨n, f, hf, hi, h⟩ := h
  refine x_iast dX8_bills_86 hf hi ?_
  generalize hT : xup t_1 a_2 _ = t_5 at h ⊢
  clear hT
  refine x_aload_n 0 dX8_bills_87 rfl rfl ?_
  obtain ⟨fs, hf, a_6, hv, h⟩ := h
  refine x_get dX8_bills_88 xf_X8_81 hf hv ?_
  refine x_iload_n 3 dX8_bills_91 rfl rfl ?_
  refine x_iload 4 dX8_bills_92 rfl ?_
  refine x_aload_n 0 dX8_bills_94 rfl rfl ?_
  obtain ⟨fs, hf, a_7, hv, h⟩ := h
  refine x_get dX8_bills_95 xf_X8_78 hf hv ?_
  refine x_iload_n 3 dX8_bills_98 rfl rfl ?_
  obtain ⟨n, f, hf, hi, h⟩ := h
  refine x_iald dX8_bills_99 hf hi ?_
  generalize f _ = x_8 at h ⊢
  refine x_isub dX8_bills_100 ?_
  refine x_aload_n 0 dX8_bills_101 rfl rfl ?_
  refine x_iload_n 1 dX8_bills_102 rfl rfl ?_
  refine x_iload_n 2 dX8_bills_103 rfl rfl ?_
  obtain ⟨⟨fs, hf⟩, h⟩ := h
  refine x_invV (as := [.int x1, .int x2]) (rest := [.int (x4 - x_8), .int x3, .ref a_6]) dX8_bills_104 (q := (RX8, TX8, 40)) rfl xc_X8_bills_182 hf (M_X8_incomeIn hl h) rfl rfl (Nat.le_of_ble_eq_true rfl) (Nat.zero_le _) (Nat.zero_le _) (xk_i fun x_10 t_9 h => ?_)
  refine x_invS (as := [.int (x4 - x_8), .int x_10]) (rest := [.int x3, .ref a_6]) dX8_bills_107 xc_X8_bills_185 (M_X8_benefitFor hl h) rfl rfl (Nat.le_of_ble_eq_true rfl) (Nat.zero_le _) (Nat.zero_le _) (xk_i fun x_12 t_11 h => ?_)
  obtain ⟨n, f, hf, hi, h⟩ := h
  refine x_iast dX8_bills_110 hf hi ?_
  generalize hT : xup t_11 a_6 _ = t_13 at h ⊢
  clear hT
  refine x_aload_n 0 dX8_bills_111 rfl rfl ?_
  obtain ⟨fs, hf, a_14, hv, h⟩ := h
  refine x_get dX8_bills_112 xf_X8_62 hf hv ?_
  refine x_iload_n 1 dX8_bills_115 rfl rfl ?_
  refine x_dup2_11 dX8_bills_116 rfl rfl ?_
  obtain ⟨n, f, hf, hi, h⟩ := h
  refine x_lald dX8_bills_117 hf hi ?_
  generalize f _ = y_15 at h ⊢
  refine x_iload 4 dX8_bills_118 rfl ?_
  refine x_aload_n 0 dX8_bills_120 rfl rfl ?_
  obtain ⟨fs, hf, a_16, hv, h⟩ := h
  refine x_get dX8_bills_121 xf_X8_78 hf hv ?_
  refine x_iload_n 3 dX8_bills_124 rfl rfl ?_
  obtain ⟨n, f, hf, hi, h⟩ := h
  refine x_iald dX8_bills_125 hf hi ?_
  generalize f _ = x_17 at h ⊢
  refine x_isub dX8_bills_126 ?_
  refine x_aload_n 0 dX8_bills_127 rfl rfl ?_
  obtain ⟨fs, hf, a_18, hv, h⟩ := h
  refine x_get dX8_bills_128 xf_X8_81 hf hv ?_
  refine x_iload_n 3 dX8_bills_131 rfl rfl ?_
  obtain ⟨n, f, hf, hi, h⟩ := h
  refine x_iald dX8_bills_132 hf hi ?_
  generalize f _ = x_19 at h ⊢
  refine x_isub dX8_bills_133 ?_
  refine x_aload_n 0 dX8_bills_134 rfl rfl ?_
  obtain ⟨fs, hf, a_20, hv, h⟩ := h
  refine x_get dX8_bills_135 xf_X8_84 hf hv ?_
  refine x_iload_n 3 dX8_bills_138 rfl rfl ?_
  obtain ⟨n, f, hf, hi, h⟩ := h
  refine x_iald dX8_bills_139 hf hi ?_
  generalize f _ = x_21 at h ⊢
  refine x_iadd dX8_bills_140 ?_
  refine x_i2l dX8_bills_141 ?_
  refine x_ladd dX8_bills_142 ?_
  obtain ⟨n, f, hf, hi, h⟩ := h
  refine x_last dX8_bills_143 hf hi ?_
  generalize hT : xup t_13 a_14 _ = t_22 at h ⊢
  clear hT
  refine x_aload_n 0 dX8_bills_144 rfl rfl ?_
  obtain ⟨fs, hf, a_23, hv, h⟩ := h
  refine x_get dX8_bills_145 xf_X8_66 hf hv ?_
  refine x_iload_n 1 dX8_bills_148 rfl rfl ?_
  refine x_dup2_11 dX8_bills_149 rfl rfl ?_
  obtain ⟨n, f, hf, hi, h⟩ := h
  refine x_lald dX8_bills_150 hf hi ?_
  generalize f _ = y_24 at h ⊢
  refine x_aload_n 0 dX8_bills_151 rfl rfl ?_
  obtain ⟨fs, hf, a_25, hv, h⟩ := h
  refine x_get dX8_bills_152 xf_X8_81 hf hv ?_
  refine x_iload_n 3 dX8_bills_155 rfl rfl ?_
  obtain ⟨n, f, hf, hi, h⟩ := h
  refine x_iald dX8_bills_156 hf hi ?_
  generalize f _ = x_26 at h ⊢
  refine x_i2l dX8_bills_157 ?_
  refine x_ladd dX8_bills_158 ?_
  obtain ⟨n, f, hf, hi, h⟩ := h
  refine x_last dX8_bills_159 hf hi ?_
  generalize hT : xup t_22 a_23 _ = t_27 at h ⊢
  clear hT
  exact x_vret dX8_bills_160 hr ht ⟨rfl, h⟩
def V_X8_bills_0 (K : xT → Prop) (a0 : Nat) (x1 : Int32) (x2 : Int32) (t : xT) : Prop :=
  (V_X8_at_0 (fun x_2 t_1 => (xis t_1 a0 8 ∧ V_X8_rentIn_0 (fun x_4 t_3 => xgR t_3 a0 8 8 fun a_5 => xgR t_3 a0 8 19 fun a_6 => xaI 0 t_3 a_6 x1 fun x_7 => xaI 0 t_3 a_5 x_7 fun x_8 => (¬ (3000 : Int64) = 0 ∧ xgR t_3 a0 8 26 fun a_9 => xsI 2 t_3 a_9 x_2 (vp_nar .boolean (1 : Int32)) fun t_10 => xgR t_10 a0 8 27 fun a_11 => xsI 0 t_10 a_11 x_2 x_4 fun t_12 => xgR t_12 a0 8 28 fun a_13 => ((((x_4.toInt64 * x_8.toInt64) / (3000 : Int64)) ≤ x_4.toInt64 → V_X8_bills_73 K a0 x1 x2 x_2 x_4 (((x_4.toInt64 * x_8.toInt64) / (3000 : Int64)).toInt32) x_2 a_13 t_12) ∧ (¬ ((x_4.toInt64 * x_8.toInt64) / (3000 : Int64)) ≤ x_4.toInt64 → V_X8_bills_73 K a0 x1 x2 x_2 x_4 x_4 x_2 a_13 t_12)))) a0 x1 x2 t_1)) x1 x2 t)
set_option maxRecDepth 20000 in
theorem S_X8_bills_0 {Γ : xΓ} {K : xT → Prop} (hl : (gl Γ).stackTraces = false) (ht : (gM Γ).sig.returnType = none) (hr : xRet Γ (xKv K)) {a0 : Nat} {x1 : Int32} {x2 : Int32} {t : xT} {rc rs : Nat} (h : V_X8_bills_0 K a0 x1 x2 t) : xX Γ k_X8_bills 0 [(0, .ref a0), (1, .int x1), (2, .int x2)] [] t rc rs := by
  unfold V_X8_bills_0 at h
  refine x_iload_n 1 dX8_bills_0 rfl rfl ?_
  refine x_iload_n 2 dX8_bills_1 rfl rfl ?_
  refine x_invS (as := [.int x1, .int x2]) (rest := []) dX8_bills_2 xc_X8_bills_173 (M_X8_at hl h) rfl rfl (Nat.le_of_ble_eq_true rfl) (Nat.zero_le _) (Nat.zero_le _) (xk_i fun x_2 t_1 h => ?_)
  refine x_istore_n (L' := [(3, .int x_2), (0, .ref a0), (1, .int x1), (2, .int x2)]) dX8_bills_5 rfl (by decide) rfl ?_
  refine x_aload_n 1 dX8_bills_6 rfl rfl ?_
  refine x_iload_n 2 dX8_bills_7 rfl rfl ?_
  refine x_iload_n 3 dX8_bills_8 rfl rfl ?_
  obtain ⟨⟨fs, hf⟩, h⟩ := h
  refine x_invV (as := [.int x1, .int x2]) (rest := []) dX8_bills_9 (q := (RX8, TX8, 40)) rfl xc_X8_bills_177 hf (M_X8_rentIn hl h) rfl rfl (Nat.le_of_ble_eq_true rfl) (Nat.zero_le _) (Nat.zero_le _) (xk_i fun x_4 t_3 h => ?_)
  refine x_istore (L' := [(4, .int x_4), (3, .int x_2), (0, .ref a0), (1, .int x1), (2, .int x2)]) dX8_bills_12 (by decide) rfl ?_
  refine x_iload 0 dX8_bills_14 rfl ?_
  refine x_i2l dX8_bills_16 ?_
  refine x_aload_n 2 dX8_bills_17 rfl rfl ?_
  obtain ⟨fs, hf, a_5, hv, h⟩ := h
  refine x_get dX8_bills_18 xf_X8_25 hf hv ?_
  refine x_aload_n 2 dX8_bills_21 rfl rfl ?_
  obtain ⟨fs, hf, a_6, hv, h⟩ := h
  refine x_get dX8_bills_22 xf_X8_50 hf hv ?_
  refine x_iload_n 3 dX8_bills_25 rfl rfl ?_
  obtain ⟨n, f, hf, hi, h⟩ := h
  refine x_iald dX8_bills_26 hf hi ?_
  generalize f _ = x_7 at h ⊢
  obtain ⟨n, f, hf, hi, h⟩ := h
  refine x_iald dX8_bills_27 hf hi ?_
  generalize f _ = x_8 at h ⊢
  refine x_i2l dX8_bills_28 ?_
  refine x_lmul dX8_bills_29 ?_
  refine x_ldc2 dX8_bills_30 xw1474 ?_
  obtain ⟨q, h⟩ := h
  refine x_ldiv dX8_bills_33 q ?_
  refine x_lstore (L' := [(5, .long ((x_4.toInt64 * x_8.toInt64) / (3000 : Int64))), (4, .int x_4), (3, .int x_2), (0, .ref a0), (1, .int x1), (2, .int x2)]) dX8_bills_34 (by decide) rfl ?_
  refine x_aload_n 3 dX8_bills_36 rfl rfl ?_
  obtain ⟨fs, hf, a_9, hv, h⟩ := h
  refine x_get dX8_bills_37 xf_X8_72 hf hv ?_
  refine x_iload_n 2 dX8_bills_40 rfl rfl ?_
  refine x_iconst (v := (1 : Int32)) dX8_bills_41 (by decide) ?_
  obtain ⟨n, f, hf, hi, h⟩ := h
  refine x_zast dX8_bills_42 hf hi ?_
  generalize hT : xup t_3 a_9 _ = t_10 at h ⊢
  clear hT
  refine x_aload_n 3 dX8_bills_43 rfl rfl ?_
  obtain ⟨fs, hf, a_11, hv, h⟩ := h
  refine x_get dX8_bills_44 xf_X8_75 hf hv ?_
  refine x_iload_n 2 dX8_bills_47 rfl rfl ?_
  refine x_iload 1 dX8_bills_48 rfl ?_
  obtain ⟨n, f, hf, hi, h⟩ := h
  refine x_iast dX8_bills_50 hf hi ?_
  generalize hT : xup t_10 a_11 _ = t_12 at h ⊢
  clear hT
  refine x_aload_n 3 dX8_bills_51 rfl rfl ?_
  obtain ⟨fs, hf, a_13, hv, h⟩ := h
  refine x_get dX8_bills_52 xf_X8_78 hf hv ?_
  refine x_iload_n 2 dX8_bills_55 rfl rfl ?_
  refine x_lload 0 dX8_bills_56 rfl ?_
  refine x_iload 1 dX8_bills_58 rfl ?_
  refine x_i2l dX8_bills_60 ?_
  obtain ⟨h1, h2⟩ := h
  refine x_lcmp_le (tgt := 70) dX8_bills_61 dX8_bills_62 (by decide) (fun q => ?_) (fun q => ?_)
  · have h := h1 q
    refine x_lload 0 dX8_bills_70 rfl ?_
    refine x_l2i dX8_bills_72 ?_
    refine x_sub (L' := [(0, .ref a0), (1, .int x1), (2, .int x2), (3, .int x_2), (4, .int x_4)]) [3, 4, 5, 2, 1] rfl ?_
    exact S_X8_bills_73 hl ht hr  h
  · have h := h2 q
    refine x_iload 1 dX8_bills_65 rfl ?_
    refine x_goto (tgt := 73) dX8_bills_67 (by decide) ?_
    refine x_sub (L' := [(0, .ref a0), (1, .int x1), (2, .int x2), (3, .int x_2), (4, .int x_4)]) [3, 4, 5, 2, 1] rfl ?_
    exact S_X8_bills_73 hl ht hr  h
theorem M_X8_bills {l : Launch} {G : xG} (hl : l.stackTraces = false) {a0 : Nat} {x1 : Int32} {x2 : Int32} {t : xT} {K : xT → Prop} (h : V_X8_bills_0 K a0 x1 x2 t) : xMet l G yX8_bills k_X8_bills none [.ref a0, .int x1, .int x2] t (xKv K) 0 0 := xMet.of (by decide +kernel) rfl hl (Nat.le_of_ble_eq_true rfl) (fun Γ e1 e2 ht hn hr => by subst e1; subst e2; exact S_X8_bills_0 hl ht hr h)
/-! RentStreamModel.findsUse(II)V -/
def V_X8_findsUse_104 (K : xT → Prop) (a0 : Nat) (x1 : Int32) (x2 : Int32) (xs0 : Int32) (t : xT) : Prop :=
  xgR t a0 8 9 fun a_1 => xsI 0 t a_1 (((121 : Int32) * x1) + x2) xs0 fun t_2 => xgR t_2 a0 8 7 fun a_3 => xaI 0 t_2 a_3 x1 fun x_4 => xsI 0 t_2 a_3 x1 (x_4 + xs0) fun t_5 => K t_5
set_option maxRecDepth 20000 in
theorem S_X8_findsUse_104 {Γ : xΓ} {K : xT → Prop} (hl : (gl Γ).stackTraces = false) (ht : (gM Γ).sig.returnType = none) (hr : xRet Γ (xKv K)) {a0 : Nat} {x1 : Int32} {x2 : Int32} {xs0 : Int32} {t : xT} {rc rs : Nat} (h : V_X8_findsUse_104 K a0 x1 x2 xs0 t) : xX Γ k_X8_findsUse 104 [(0, .ref a0), (1, .int x1), (2, .int x2)] [.int xs0] t rc rs := by
  unfold V_X8_findsUse_104 at h
  refine x_istore_n (L' := [(3, .int xs0), (0, .ref a0), (1, .int x1), (2, .int x2)]) dX8_findsUse_104 rfl (by decide) rfl ?_
  refine x_aload_n 1 dX8_findsUse_105 rfl rfl ?_
  obtain ⟨fs, hf, a_1, hv, h⟩ := h
  refine x_get dX8_findsUse_106 xf_X8_28 hf hv ?_
  refine x_bipush (v := (121 : Int32)) dX8_findsUse_109 (by decide) ?_
  refine x_iload_n 2 dX8_findsUse_111 rfl rfl ?_
  refine x_imul dX8_findsUse_112 ?_
  refine x_iload_n 3 dX8_findsUse_113 rfl rfl ?_
  refine x_iadd dX8_findsUse_114 ?_
  refine x_iload_n 0 dX8_findsUse_115 rfl rfl ?_
  obtain ⟨n, f, hf, hi, h⟩ := h
  refine x_iast dX8_findsUse_116 hf hi ?_
  generalize hT : xup t a_1 _ = t_2 at h ⊢
  clear hT
  refine x_aload_n 1 dX8_findsUse_117 rfl rfl ?_
  obtain ⟨fs, hf, a_3, hv, h⟩ := h
  refine x_get dX8_findsUse_118 xf_X8_22 hf hv ?_
  refine x_iload_n 2 dX8_findsUse_121 rfl rfl ?_
  refine x_dup2_11 dX8_findsUse_122 rfl rfl ?_
  obtain ⟨n, f, hf, hi, h⟩ := h
  refine x_iald dX8_findsUse_123 hf hi ?_
  generalize f _ = x_4 at h ⊢
  refine x_iload_n 0 dX8_findsUse_124 rfl rfl ?_
  refine x_iadd dX8_findsUse_125 ?_
  obtain ⟨n, f, hf, hi, h⟩ := h
  refine x_iast dX8_findsUse_126 hf hi ?_
  generalize hT : xup t_2 a_3 _ = t_5 at h ⊢
  clear hT
  exact x_vret dX8_findsUse_127 hr ht ⟨rfl, h⟩
def V_X8_findsUse_80 (K : xT → Prop) (a0 : Nat) (x1 : Int32) (x2 : Int32) (x4 : Int32) (x5 : Int32) (t : xT) : Prop :=
  ((¬ x5 = 0 → (¬ x5 = 0 ∧ ((0 ≤ (x4 / x5) → V_X8_findsUse_104 K a0 x1 x2 (x4 / x5) t) ∧ (¬ 0 ≤ (x4 / x5) → V_X8_findsUse_104 K a0 x1 x2 (0 : Int32) t)))) ∧ (x5 = 0 → ((0 ≤ (0 : Int32) → V_X8_findsUse_104 K a0 x1 x2 (0 : Int32) t) ∧ (¬ 0 ≤ (0 : Int32) → V_X8_findsUse_104 K a0 x1 x2 (0 : Int32) t))))
set_option maxRecDepth 20000 in
theorem S_X8_findsUse_80 {Γ : xΓ} {K : xT → Prop} (hl : (gl Γ).stackTraces = false) (ht : (gM Γ).sig.returnType = none) (hr : xRet Γ (xKv K)) {a0 : Nat} {x1 : Int32} {x2 : Int32} {x4 : Int32} {x5 : Int32} {t : xT} {rc rs : Nat} (h : V_X8_findsUse_80 K a0 x1 x2 x4 x5 t) : xX Γ k_X8_findsUse 80 [(0, .ref a0), (1, .int x1), (2, .int x2), (4, .int x4), (5, .int x5)] [] t rc rs := by
  unfold V_X8_findsUse_80 at h
  refine x_iload 4 dX8_findsUse_80 rfl ?_
  obtain ⟨h1, h2⟩ := h
  refine x_if_ne (tgt := 89) dX8_findsUse_82 (by decide) (fun q => ?_) (fun q => ?_)
  · have h := h1 q
    refine x_iload 3 dX8_findsUse_89 rfl ?_
    refine x_iload 4 dX8_findsUse_91 rfl ?_
    obtain ⟨q, h⟩ := h
    refine x_idiv dX8_findsUse_93 q ?_
    refine x_istore_n (L' := [(3, .int (x4 / x5)), (0, .ref a0), (1, .int x1), (2, .int x2), (4, .int x4), (5, .int x5)]) dX8_findsUse_94 rfl (by decide) rfl ?_
    refine x_iload_n 0 dX8_findsUse_95 rfl rfl ?_
    obtain ⟨h1, h2⟩ := h
    refine x_if_ge (tgt := 103) dX8_findsUse_96 (by decide) (fun q => ?_) (fun q => ?_)
    · have h := h1 q
      refine x_iload_n 0 dX8_findsUse_103 rfl rfl ?_
      refine x_sub (L' := [(0, .ref a0), (1, .int x1), (2, .int x2)]) [1, 2, 3] rfl ?_
      exact S_X8_findsUse_104 hl ht hr  h
    · have h := h2 q
      refine x_iconst (v := (0 : Int32)) dX8_findsUse_99 (by decide) ?_
      refine x_goto (tgt := 104) dX8_findsUse_100 (by decide) ?_
      refine x_sub (L' := [(0, .ref a0), (1, .int x1), (2, .int x2)]) [1, 2, 3] rfl ?_
      exact S_X8_findsUse_104 hl ht hr  h
  · have h := h2 q
    refine x_iconst (v := (0 : Int32)) dX8_findsUse_85 (by decide) ?_
    refine x_goto (tgt := 94) dX8_findsUse_86 (by decide) ?_
    refine x_istore_n (L' := [(3, .int (0 : Int32)), (0, .ref a0), (1, .int x1), (2, .int x2), (4, .int x4), (5, .int x5)]) dX8_findsUse_94 rfl (by decide) rfl ?_
    refine x_iload_n 0 dX8_findsUse_95 rfl rfl ?_
    obtain ⟨h1, h2⟩ := h
    refine x_if_ge (tgt := 103) dX8_findsUse_96 (by decide) (fun q => ?_) (fun q => ?_)
    · have h := h1 q
      refine x_iload_n 0 dX8_findsUse_103 rfl rfl ?_
      refine x_sub (L' := [(0, .ref a0), (1, .int x1), (2, .int x2)]) [1, 2, 3] rfl ?_
      exact S_X8_findsUse_104 hl ht hr  h
    · have h := h2 q
      refine x_iconst (v := (0 : Int32)) dX8_findsUse_99 (by decide) ?_
      refine x_goto (tgt := 104) dX8_findsUse_100 (by decide) ?_
      refine x_sub (L' := [(0, .ref a0), (1, .int x1), (2, .int x2)]) [1, 2, 3] rfl ?_
      exact S_X8_findsUse_104 hl ht hr  h
def VS_X8_findsUse_35 (R35 : Nat → Int32 → Int32 → Int32 → Int32 → Int32 → xT → Prop) (K : xT → Prop) (a0 : Nat) (x1 : Int32) (x2 : Int32) (x4 : Int32) (x5 : Int32) (x6 : Int32) (t : xT) : Prop :=
  xgR t a0 8 4 fun a_1 => xaI 0 t a_1 x1 fun x_2 => ((x6 < x_2 → V_X8_findsUse_80 K a0 x1 x2 x4 x5 t) ∧ (¬ x6 < x_2 → ((x6 < (x2 - (3 : Int32)) → V_X8_findsUse_80 K a0 x1 x2 x4 x5 t) ∧ (¬ x6 < (x2 - (3 : Int32)) → xgR t a0 8 9 fun a_3 => xaI 0 t a_3 (((121 : Int32) * x1) + x6) fun x_4 => R35 a0 x1 x2 (x4 + x_4) (x5 + 1) (x6 + (-1 : Int32)) t))))
def V_X8_findsUse_35 (K : xT → Prop) (n : Nat) : Nat → Int32 → Int32 → Int32 → Int32 → Int32 → xT → Prop := Nat.rec (fun _ _ _ _ _ _ _ => False) (fun _ ih => VS_X8_findsUse_35 ih K) n
set_option maxRecDepth 20000 in
theorem S_X8_findsUse_35 {Γ : xΓ} {K : xT → Prop} (hl : (gl Γ).stackTraces = false) (ht : (gM Γ).sig.returnType = none) (hr : xRet Γ (xKv K)) : ∀ (n : Nat) (a0 : Nat) (x1 : Int32) (x2 : Int32) (x4 : Int32) (x5 : Int32) (x6 : Int32) (t : xT) (rc rs : Nat), V_X8_findsUse_35 K n a0 x1 x2 x4 x5 x6 t → xX Γ k_X8_findsUse 35 [(0, .ref a0), (1, .int x1), (2, .int x2), (4, .int x4), (5, .int x5), (6, .int x6)] [] t rc rs := by
  intro n
  induction n with
  | zero =>
    intro a0 x1 x2 x4 x5 x6 t rc rs h
    exact h.elim
  | succ n ih =>
    intro a0 x1 x2 x4 x5 x6 t rc rs h
    replace h : VS_X8_findsUse_35 (V_X8_findsUse_35 K n) K a0 x1 x2 x4 x5 x6 t := h
    unfold VS_X8_findsUse_35 at h
    refine x_iload 5 dX8_findsUse_35 rfl ?_
    refine x_aload_n 0 dX8_findsUse_37 rfl rfl ?_
    obtain ⟨fs, hf, a_1, hv, h⟩ := h
    refine x_get dX8_findsUse_38 xf_X8_13 hf hv ?_
    refine x_iload_n 1 dX8_findsUse_41 rfl rfl ?_
    obtain ⟨n, f, hf, hi, h⟩ := h
    refine x_iald dX8_findsUse_42 hf hi ?_
    generalize f _ = x_2 at h ⊢
    obtain ⟨h1, h2⟩ := h
    refine x_icmp_lt (tgt := 80) dX8_findsUse_43 (by decide) (fun q => ?_) (fun q => ?_)
    · have h := h1 q
      refine x_sub (L' := [(0, .ref a0), (1, .int x1), (2, .int x2), (4, .int x4), (5, .int x5)]) [0, 1, 2, 3, 4] rfl ?_
      exact S_X8_findsUse_80 hl ht hr  h
    · have h := h2 q
      refine x_iload 5 dX8_findsUse_46 rfl ?_
      refine x_iload_n 2 dX8_findsUse_48 rfl rfl ?_
      refine x_iconst (v := (3 : Int32)) dX8_findsUse_49 (by decide) ?_
      refine x_isub dX8_findsUse_50 ?_
      obtain ⟨h1, h2⟩ := h
      refine x_icmp_lt (tgt := 80) dX8_findsUse_51 (by decide) (fun q => ?_) (fun q => ?_)
      · have h := h1 q
        refine x_sub (L' := [(0, .ref a0), (1, .int x1), (2, .int x2), (4, .int x4), (5, .int x5)]) [0, 1, 2, 3, 4] rfl ?_
        exact S_X8_findsUse_80 hl ht hr  h
      · have h := h2 q
        refine x_iload 3 dX8_findsUse_54 rfl ?_
        refine x_aload_n 0 dX8_findsUse_56 rfl rfl ?_
        obtain ⟨fs, hf, a_3, hv, h⟩ := h
        refine x_get dX8_findsUse_57 xf_X8_28 hf hv ?_
        refine x_bipush (v := (121 : Int32)) dX8_findsUse_60 (by decide) ?_
        refine x_iload_n 1 dX8_findsUse_62 rfl rfl ?_
        refine x_imul dX8_findsUse_63 ?_
        refine x_iload 5 dX8_findsUse_64 rfl ?_
        refine x_iadd dX8_findsUse_66 ?_
        obtain ⟨n, f, hf, hi, h⟩ := h
        refine x_iald dX8_findsUse_67 hf hi ?_
        generalize f _ = x_4 at h ⊢
        refine x_iadd dX8_findsUse_68 ?_
        refine x_istore (L' := [(4, .int (x4 + x_4)), (0, .ref a0), (1, .int x1), (2, .int x2), (5, .int x5), (6, .int x6)]) dX8_findsUse_69 (by decide) rfl ?_
        refine x_iinc (v := (x5 + 1)) (L' := [(5, .int (x5 + 1)), (4, .int (x4 + x_4)), (0, .ref a0), (1, .int x1), (2, .int x2), (6, .int x6)]) (j := 4) dX8_findsUse_71 rfl rfl (by decide) rfl ?_
        refine x_iinc (v := (x6 + (-1 : Int32))) (L' := [(6, .int (x6 + (-1 : Int32))), (5, .int (x5 + 1)), (4, .int (x4 + x_4)), (0, .ref a0), (1, .int x1), (2, .int x2)]) (j := 5) dX8_findsUse_74 rfl rfl (by decide) rfl ?_
        refine x_goto (tgt := 35) dX8_findsUse_77 (by decide) ?_
        refine x_sub (L' := [(0, .ref a0), (1, .int x1), (2, .int x2), (4, .int (x4 + x_4)), (5, .int (x5 + 1)), (6, .int (x6 + (-1 : Int32)))]) [3, 4, 5, 2, 1, 0] rfl ?_
        exact ih a0 x1 x2 (x4 + x_4) (x5 + 1) (x6 + (-1 : Int32)) t _ _ h
def V_X8_findsUse_0 (K : xT → Prop) (a0 : Nat) (x1 : Int32) (x2 : Int32) (t : xT) : Prop :=
  xgR t a0 8 5 fun a_1 => xaI 0 t a_1 x1 fun x_2 => xgR t a0 8 7 fun a_3 => xaI 0 t a_3 x1 fun x_4 => xgR t a0 8 6 fun a_5 => xaI 0 t a_5 x1 fun x_6 => ((x_6 = x2 → ((0 ≤ (x_2 - x_4) → V_X8_findsUse_104 K a0 x1 x2 (x_2 - x_4) t) ∧ (¬ 0 ≤ (x_2 - x_4) → V_X8_findsUse_104 K a0 x1 x2 (0 : Int32) t))) ∧ (¬ x_6 = x2 → ∃ f_7 : Nat, V_X8_findsUse_35 K f_7 a0 x1 x2 (0 : Int32) (0 : Int32) (x2 - (1 : Int32)) t))
set_option maxRecDepth 20000 in
theorem S_X8_findsUse_0 {Γ : xΓ} {K : xT → Prop} (hl : (gl Γ).stackTraces = false) (ht : (gM Γ).sig.returnType = none) (hr : xRet Γ (xKv K)) {a0 : Nat} {x1 : Int32} {x2 : Int32} {t : xT} {rc rs : Nat} (h : V_X8_findsUse_0 K a0 x1 x2 t) : xX Γ k_X8_findsUse 0 [(0, .ref a0), (1, .int x1), (2, .int x2)] [] t rc rs := by
  unfold V_X8_findsUse_0 at h
  refine x_aload_n 0 dX8_findsUse_0 rfl rfl ?_
  obtain ⟨fs, hf, a_1, hv, h⟩ := h
  refine x_get dX8_findsUse_1 xf_X8_16 hf hv ?_
  refine x_iload_n 1 dX8_findsUse_4 rfl rfl ?_
  obtain ⟨n, f, hf, hi, h⟩ := h
  refine x_iald dX8_findsUse_5 hf hi ?_
  generalize f _ = x_2 at h ⊢
  refine x_aload_n 0 dX8_findsUse_6 rfl rfl ?_
  obtain ⟨fs, hf, a_3, hv, h⟩ := h
  refine x_get dX8_findsUse_7 xf_X8_22 hf hv ?_
  refine x_iload_n 1 dX8_findsUse_10 rfl rfl ?_
  obtain ⟨n, f, hf, hi, h⟩ := h
  refine x_iald dX8_findsUse_11 hf hi ?_
  generalize f _ = x_4 at h ⊢
  refine x_isub dX8_findsUse_12 ?_
  refine x_istore_n (L' := [(3, .int (x_2 - x_4)), (0, .ref a0), (1, .int x1), (2, .int x2)]) dX8_findsUse_13 rfl (by decide) rfl ?_
  refine x_aload_n 1 dX8_findsUse_14 rfl rfl ?_
  obtain ⟨fs, hf, a_5, hv, h⟩ := h
  refine x_get dX8_findsUse_15 xf_X8_19 hf hv ?_
  refine x_iload_n 2 dX8_findsUse_18 rfl rfl ?_
  obtain ⟨n, f, hf, hi, h⟩ := h
  refine x_iald dX8_findsUse_19 hf hi ?_
  generalize f _ = x_6 at h ⊢
  refine x_iload_n 3 dX8_findsUse_20 rfl rfl ?_
  obtain ⟨h1, h2⟩ := h
  refine x_icmp_eq (tgt := 95) dX8_findsUse_21 (by decide) (fun q => ?_) (fun q => ?_)
  · have h := h1 q
    refine x_iload_n 0 dX8_findsUse_95 rfl rfl ?_
    obtain ⟨h1, h2⟩ := h
    refine x_if_ge (tgt := 103) dX8_findsUse_96 (by decide) (fun q => ?_) (fun q => ?_)
    · have h := h1 q
      refine x_iload_n 0 dX8_findsUse_103 rfl rfl ?_
      refine x_sub (L' := [(0, .ref a0), (1, .int x1), (2, .int x2)]) [1, 2, 3] rfl ?_
      exact S_X8_findsUse_104 hl ht hr  h
    · have h := h2 q
      refine x_iconst (v := (0 : Int32)) dX8_findsUse_99 (by decide) ?_
      refine x_goto (tgt := 104) dX8_findsUse_100 (by decide) ?_
      refine x_sub (L' := [(0, .ref a0), (1, .int x1), (2, .int x2)]) [1, 2, 3] rfl ?_
      exact S_X8_findsUse_104 hl ht hr  h
  · have h := h2 q
    refine x_iconst (v := (0 : Int32)) dX8_findsUse_24 (by decide) ?_
    refine x_istore (L' := [(4, .int (0 : Int32)), (3, .int (x_2 - x_4)), (0, .ref a0), (1, .int x1), (2, .int x2)]) dX8_findsUse_25 (by decide) rfl ?_
    refine x_iconst (v := (0 : Int32)) dX8_findsUse_27 (by decide) ?_
    refine x_istore (L' := [(5, .int (0 : Int32)), (4, .int (0 : Int32)), (3, .int (x_2 - x_4)), (0, .ref a0), (1, .int x1), (2, .int x2)]) dX8_findsUse_28 (by decide) rfl ?_
    refine x_iload_n 5 dX8_findsUse_30 rfl rfl ?_
    refine x_iconst (v := (1 : Int32)) dX8_findsUse_31 (by decide) ?_
    refine x_isub dX8_findsUse_32 ?_
    refine x_istore (L' := [(6, .int (x2 - (1 : Int32))), (5, .int (0 : Int32)), (4, .int (0 : Int32)), (3, .int (x_2 - x_4)), (0, .ref a0), (1, .int x1), (2, .int x2)]) dX8_findsUse_33 (by decide) rfl ?_
    obtain ⟨f_7, h⟩ := h
    refine x_sub (L' := [(0, .ref a0), (1, .int x1), (2, .int x2), (4, .int (0 : Int32)), (5, .int (0 : Int32)), (6, .int (x2 - (1 : Int32)))]) [4, 5, 6, 2, 1, 0] rfl ?_
    exact S_X8_findsUse_35 hl ht hr  f_7 a0 x1 x2 (0 : Int32) (0 : Int32) (x2 - (1 : Int32)) t _ _ h
theorem M_X8_findsUse {l : Launch} {G : xG} (hl : l.stackTraces = false) {a0 : Nat} {x1 : Int32} {x2 : Int32} {t : xT} {K : xT → Prop} (h : V_X8_findsUse_0 K a0 x1 x2 t) : xMet l G yX8_findsUse k_X8_findsUse none [.ref a0, .int x1, .int x2] t (xKv K) 0 0 := xMet.of (by decide +kernel) rfl hl (Nat.le_of_ble_eq_true rfl) (fun Γ e1 e2 ht hn hr => by subst e1; subst e2; exact S_X8_findsUse_0 hl ht hr h)
/-! RentStreamModel.looksAtPlan(I)V -/
def V_X8_looksAtPlan_54 (K : xT → Prop) (a0 : Nat) (x1 : Int32) (ys0 : Int64) (t : xT) : Prop :=
  xgR t a0 8 31 fun a_1 => xgR t a0 8 23 fun a_2 => xaJ t a_2 x1 fun y_3 => ((y_3 ≤ ys0 → ((¬ ys0 = (0 : Int64) → xsI 0 t a_1 x1 (1 : Int32) fun t_4 => K t_4) ∧ (ys0 = (0 : Int64) → xsI 0 t a_1 x1 (3 : Int32) fun t_5 => K t_5))) ∧ (¬ y_3 ≤ ys0 → xsI 0 t a_1 x1 (2 : Int32) fun t_6 => K t_6))
set_option maxRecDepth 20000 in
theorem S_X8_looksAtPlan_54 {Γ : xΓ} {K : xT → Prop} (hl : (gl Γ).stackTraces = false) (ht : (gM Γ).sig.returnType = none) (hr : xRet Γ (xKv K)) {a0 : Nat} {x1 : Int32} {ys0 : Int64} {t : xT} {rc rs : Nat} (h : V_X8_looksAtPlan_54 K a0 x1 ys0 t) : xX Γ k_X8_looksAtPlan 54 [(0, .ref a0), (1, .int x1)] [.long ys0] t rc rs := by
  unfold V_X8_looksAtPlan_54 at h
  refine x_lstore_n (L' := [(2, .long ys0), (0, .ref a0), (1, .int x1)]) dX8_looksAtPlan_54 rfl (by decide) rfl ?_
  refine x_aload_n 1 dX8_looksAtPlan_55 rfl rfl ?_
  obtain ⟨fs, hf, a_1, hv, h⟩ := h
  refine x_get dX8_looksAtPlan_56 xf_X8_87 hf hv ?_
  refine x_iload_n 2 dX8_looksAtPlan_59 rfl rfl ?_
  refine x_aload_n 1 dX8_looksAtPlan_60 rfl rfl ?_
  obtain ⟨fs, hf, a_2, hv, h⟩ := h
  refine x_get dX8_looksAtPlan_61 xf_X8_62 hf hv ?_
  refine x_iload_n 2 dX8_looksAtPlan_64 rfl rfl ?_
  obtain ⟨n, f, hf, hi, h⟩ := h
  refine x_lald dX8_looksAtPlan_65 hf hi ?_
  generalize f _ = y_3 at h ⊢
  refine x_lload_n 0 dX8_looksAtPlan_66 rfl rfl ?_
  obtain ⟨h1, h2⟩ := h
  refine x_lcmp_le (tgt := 75) dX8_looksAtPlan_67 dX8_looksAtPlan_68 (by decide) (fun q => ?_) (fun q => ?_)
  · have h := h1 q
    refine x_lload_n 0 dX8_looksAtPlan_75 rfl rfl ?_
    refine x_lconst (v := (0 : Int64)) dX8_looksAtPlan_76 (by decide) ?_
    obtain ⟨h1, h2⟩ := h
    refine x_lcmp_ne (tgt := 85) dX8_looksAtPlan_77 dX8_looksAtPlan_78 (by decide) (fun q => ?_) (fun q => ?_)
    · have h := h1 q
      refine x_iconst (v := (1 : Int32)) dX8_looksAtPlan_85 (by decide) ?_
      obtain ⟨n, f, hf, hi, h⟩ := h
      refine x_iast dX8_looksAtPlan_86 hf hi ?_
      generalize hT : xup t a_1 _ = t_4 at h ⊢
      clear hT
      exact x_vret dX8_looksAtPlan_87 hr ht ⟨rfl, h⟩
    · have h := h2 q
      refine x_iconst (v := (3 : Int32)) dX8_looksAtPlan_81 (by decide) ?_
      refine x_goto (tgt := 86) dX8_looksAtPlan_82 (by decide) ?_
      obtain ⟨n, f, hf, hi, h⟩ := h
      refine x_iast dX8_looksAtPlan_86 hf hi ?_
      generalize hT : xup t a_1 _ = t_5 at h ⊢
      clear hT
      exact x_vret dX8_looksAtPlan_87 hr ht ⟨rfl, h⟩
  · have h := h2 q
    refine x_iconst (v := (2 : Int32)) dX8_looksAtPlan_71 (by decide) ?_
    refine x_goto (tgt := 86) dX8_looksAtPlan_72 (by decide) ?_
    obtain ⟨n, f, hf, hi, h⟩ := h
    refine x_iast dX8_looksAtPlan_86 hf hi ?_
    generalize hT : xup t a_1 _ = t_6 at h ⊢
    clear hT
    exact x_vret dX8_looksAtPlan_87 hr ht ⟨rfl, h⟩
def V_X8_looksAtPlan_0 (K : xT → Prop) (a0 : Nat) (x1 : Int32) (t : xT) : Prop :=
  xgR t a0 8 31 fun a_1 => xaI 0 t a_1 x1 fun x_2 => ((x_2 = (1 : Int32) → xgR t a0 8 34 fun a_3 => xaI 0 t a_3 x1 fun x_4 => xsI 0 t a_3 x1 (x_4 + (1 : Int32)) fun t_5 => xgR t_5 a0 8 32 fun a_6 => xaJ t_5 a_6 x1 fun y_7 => xgR t_5 a0 8 34 fun a_8 => xaI 0 t_5 a_8 x1 fun x_9 => xgR t_5 a0 8 33 fun a_10 => xaJ t_5 a_10 x1 fun y_11 => (((0 : Int64) ≤ (y_7 - (x_9.toInt64 * y_11)) → V_X8_looksAtPlan_54 K a0 x1 (y_7 - (x_9.toInt64 * y_11)) t_5) ∧ (¬ (0 : Int64) ≤ (y_7 - (x_9.toInt64 * y_11)) → V_X8_looksAtPlan_54 K a0 x1 (0 : Int64) t_5))) ∧ (¬ x_2 = (1 : Int32) → K t))
set_option maxRecDepth 20000 in
theorem S_X8_looksAtPlan_0 {Γ : xΓ} {K : xT → Prop} (hl : (gl Γ).stackTraces = false) (ht : (gM Γ).sig.returnType = none) (hr : xRet Γ (xKv K)) {a0 : Nat} {x1 : Int32} {t : xT} {rc rs : Nat} (h : V_X8_looksAtPlan_0 K a0 x1 t) : xX Γ k_X8_looksAtPlan 0 [(0, .ref a0), (1, .int x1)] [] t rc rs := by
  unfold V_X8_looksAtPlan_0 at h
  refine x_aload_n 0 dX8_looksAtPlan_0 rfl rfl ?_
  obtain ⟨fs, hf, a_1, hv, h⟩ := h
  refine x_get dX8_looksAtPlan_1 xf_X8_87 hf hv ?_
  refine x_iload_n 1 dX8_looksAtPlan_4 rfl rfl ?_
  obtain ⟨n, f, hf, hi, h⟩ := h
  refine x_iald dX8_looksAtPlan_5 hf hi ?_
  generalize f _ = x_2 at h ⊢
  refine x_iconst (v := (1 : Int32)) dX8_looksAtPlan_6 (by decide) ?_
  obtain ⟨h1, h2⟩ := h
  refine x_icmp_eq (tgt := 11) dX8_looksAtPlan_7 (by decide) (fun q => ?_) (fun q => ?_)
  · have h := h1 q
    refine x_aload_n 0 dX8_looksAtPlan_11 rfl rfl ?_
    obtain ⟨fs, hf, a_3, hv, h⟩ := h
    refine x_get dX8_looksAtPlan_12 xf_X8_96 hf hv ?_
    refine x_iload_n 1 dX8_looksAtPlan_15 rfl rfl ?_
    refine x_dup2_11 dX8_looksAtPlan_16 rfl rfl ?_
    obtain ⟨n, f, hf, hi, h⟩ := h
    refine x_iald dX8_looksAtPlan_17 hf hi ?_
    generalize f _ = x_4 at h ⊢
    refine x_iconst (v := (1 : Int32)) dX8_looksAtPlan_18 (by decide) ?_
    refine x_iadd dX8_looksAtPlan_19 ?_
    obtain ⟨n, f, hf, hi, h⟩ := h
    refine x_iast dX8_looksAtPlan_20 hf hi ?_
    generalize hT : xup t a_3 _ = t_5 at h ⊢
    clear hT
    refine x_aload_n 0 dX8_looksAtPlan_21 rfl rfl ?_
    obtain ⟨fs, hf, a_6, hv, h⟩ := h
    refine x_get dX8_looksAtPlan_22 xf_X8_90 hf hv ?_
    refine x_iload_n 1 dX8_looksAtPlan_25 rfl rfl ?_
    obtain ⟨n, f, hf, hi, h⟩ := h
    refine x_lald dX8_looksAtPlan_26 hf hi ?_
    generalize f _ = y_7 at h ⊢
    refine x_aload_n 0 dX8_looksAtPlan_27 rfl rfl ?_
    obtain ⟨fs, hf, a_8, hv, h⟩ := h
    refine x_get dX8_looksAtPlan_28 xf_X8_96 hf hv ?_
    refine x_iload_n 1 dX8_looksAtPlan_31 rfl rfl ?_
    obtain ⟨n, f, hf, hi, h⟩ := h
    refine x_iald dX8_looksAtPlan_32 hf hi ?_
    generalize f _ = x_9 at h ⊢
    refine x_i2l dX8_looksAtPlan_33 ?_
    refine x_aload_n 0 dX8_looksAtPlan_34 rfl rfl ?_
    obtain ⟨fs, hf, a_10, hv, h⟩ := h
    refine x_get dX8_looksAtPlan_35 xf_X8_93 hf hv ?_
    refine x_iload_n 1 dX8_looksAtPlan_38 rfl rfl ?_
    obtain ⟨n, f, hf, hi, h⟩ := h
    refine x_lald dX8_looksAtPlan_39 hf hi ?_
    generalize f _ = y_11 at h ⊢
    refine x_lmul dX8_looksAtPlan_40 ?_
    refine x_lsub dX8_looksAtPlan_41 ?_
    refine x_lstore_n (L' := [(2, .long (y_7 - (x_9.toInt64 * y_11))), (0, .ref a0), (1, .int x1)]) dX8_looksAtPlan_42 rfl (by decide) rfl ?_
    refine x_lload_n 0 dX8_looksAtPlan_43 rfl rfl ?_
    refine x_lconst (v := (0 : Int64)) dX8_looksAtPlan_44 (by decide) ?_
    obtain ⟨h1, h2⟩ := h
    refine x_lcmp_ge (tgt := 53) dX8_looksAtPlan_45 dX8_looksAtPlan_46 (by decide) (fun q => ?_) (fun q => ?_)
    · have h := h1 q
      refine x_lload_n 0 dX8_looksAtPlan_53 rfl rfl ?_
      refine x_sub (L' := [(0, .ref a0), (1, .int x1)]) [1, 2] rfl ?_
      exact S_X8_looksAtPlan_54 hl ht hr  h
    · have h := h2 q
      refine x_lconst (v := (0 : Int64)) dX8_looksAtPlan_49 (by decide) ?_
      refine x_goto (tgt := 54) dX8_looksAtPlan_50 (by decide) ?_
      refine x_sub (L' := [(0, .ref a0), (1, .int x1)]) [1, 2] rfl ?_
      exact S_X8_looksAtPlan_54 hl ht hr  h
  · have h := h2 q
    exact x_vret dX8_looksAtPlan_10 hr ht ⟨rfl, h⟩
theorem M_X8_looksAtPlan {l : Launch} {G : xG} (hl : l.stackTraces = false) {a0 : Nat} {x1 : Int32} {t : xT} {K : xT → Prop} (h : V_X8_looksAtPlan_0 K a0 x1 t) : xMet l G yX8_looksAtPlan k_X8_looksAtPlan none [.ref a0, .int x1] t (xKv K) 0 0 := xMet.of (by decide +kernel) rfl hl (Nat.le_of_ble_eq_true rfl) (fun Γ e1 e2 ht hn hr => by subst e1; subst e2; exact S_X8_looksAtPlan_0 hl ht hr h)
/-! RentStreamModel.sharesBy(J)V -/
def VS_X8_sharesBy_130 (R117 : Nat → Int64 → xT → Prop) (R130 : Nat → Int64 → Int32 → Int32 → xT → Prop) (K : xT → Prop) (a0 : Nat) (y5 : Int64) (x7 : Int32) (x8 : Int32) (t : xT) : Prop :=
  xgI t a0 8 18 fun x_1 => ((x_1 ≤ x8 → xgR t a0 8 36 fun a_2 => xaJ t a_2 x7 fun y_3 => xsJ t a_2 x7 (y_3 + (1 : Int64)) fun t_4 => xgR t_4 a0 8 37 fun a_5 => xsJ t_4 a_5 x7 (-1 : Int64) fun t_6 => R117 a0 (y5 - (1 : Int64)) t_6) ∧ (¬ x_1 ≤ x8 → xgR t a0 8 37 fun a_7 => xaJ t a_7 x8 fun y_8 => xgR t a0 8 37 fun a_9 => xaJ t a_9 x7 fun y_10 => ((y_8 ≤ y_10 → R130 a0 y5 x7 (x8 + 1) t) ∧ (¬ y_8 ≤ y_10 → R130 a0 y5 x8 (x8 + 1) t))))
def V_X8_sharesBy_130 (R117 : Nat → Int64 → xT → Prop) (K : xT → Prop) (n : Nat) : Nat → Int64 → Int32 → Int32 → xT → Prop := Nat.rec (fun _ _ _ _ _ => False) (fun _ ih => VS_X8_sharesBy_130 R117 ih K) n
set_option maxRecDepth 20000 in
theorem S_X8_sharesBy_130 {Γ : xΓ} {R117 : Nat → Int64 → xT → Prop} {K : xT → Prop} (hl : (gl Γ).stackTraces = false) (ht : (gM Γ).sig.returnType = none) (hr : xRet Γ (xKv K)) (hR117 : ∀ (a0 : Nat) (y5 : Int64) (t : xT) (rc rs : Nat), R117 a0 y5 t → xX Γ k_X8_sharesBy 117 [(0, .ref a0), (5, .long y5)] [] t rc rs) : ∀ (n : Nat) (a0 : Nat) (y5 : Int64) (x7 : Int32) (x8 : Int32) (t : xT) (rc rs : Nat), V_X8_sharesBy_130 R117 K n a0 y5 x7 x8 t → xX Γ k_X8_sharesBy 130 [(0, .ref a0), (5, .long y5), (7, .int x7), (8, .int x8)] [] t rc rs := by
  intro n
  induction n with
  | zero =>
    intro a0 y5 x7 x8 t rc rs h
    exact h.elim
  | succ n ih =>
    intro a0 y5 x7 x8 t rc rs h
    replace h : VS_X8_sharesBy_130 R117 (V_X8_sharesBy_130 R117 K n) K a0 y5 x7 x8 t := h
    unfold VS_X8_sharesBy_130 at h
    refine x_iload 3 dX8_sharesBy_130 rfl ?_
    refine x_aload_n 0 dX8_sharesBy_132 rfl rfl ?_
    obtain ⟨fs, hf, x_1, hv, h⟩ := h
    refine x_get dX8_sharesBy_133 xf_X8_123 hf hv ?_
    obtain ⟨h1, h2⟩ := h
    refine x_icmp_ge (tgt := 172) dX8_sharesBy_136 (by decide) (fun q => ?_) (fun q => ?_)
    · have h := h1 q
      refine x_aload_n 0 dX8_sharesBy_172 rfl rfl ?_
      obtain ⟨fs, hf, a_2, hv, h⟩ := h
      refine x_get dX8_sharesBy_173 xf_X8_102 hf hv ?_
      refine x_iload 2 dX8_sharesBy_176 rfl ?_
      refine x_dup2_11 dX8_sharesBy_178 rfl rfl ?_
      obtain ⟨n, f, hf, hi, h⟩ := h
      refine x_lald dX8_sharesBy_179 hf hi ?_
      generalize f _ = y_3 at h ⊢
      refine x_lconst (v := (1 : Int64)) dX8_sharesBy_180 (by decide) ?_
      refine x_ladd dX8_sharesBy_181 ?_
      obtain ⟨n, f, hf, hi, h⟩ := h
      refine x_last dX8_sharesBy_182 hf hi ?_
      generalize hT : xup t a_2 _ = t_4 at h ⊢
      clear hT
      refine x_aload_n 0 dX8_sharesBy_183 rfl rfl ?_
      obtain ⟨fs, hf, a_5, hv, h⟩ := h
      refine x_get dX8_sharesBy_184 xf_X8_105 hf hv ?_
      refine x_iload 2 dX8_sharesBy_187 rfl ?_
      refine x_ldc2 dX8_sharesBy_189 xw1461 ?_
      obtain ⟨n, f, hf, hi, h⟩ := h
      refine x_last dX8_sharesBy_192 hf hi ?_
      generalize hT : xup t_4 a_5 _ = t_6 at h ⊢
      clear hT
      refine x_lload 1 dX8_sharesBy_193 rfl ?_
      refine x_lconst (v := (1 : Int64)) dX8_sharesBy_195 (by decide) ?_
      refine x_lsub dX8_sharesBy_196 ?_
      refine x_lstore (L' := [(5, .long (y5 - (1 : Int64))), (0, .ref a0), (7, .int x7), (8, .int x8)]) dX8_sharesBy_197 (by decide) rfl ?_
      refine x_goto (tgt := 117) dX8_sharesBy_199 (by decide) ?_
      refine x_sub (L' := [(0, .ref a0), (5, .long (y5 - (1 : Int64)))]) [1, 0] rfl ?_
      exact hR117 a0 (y5 - (1 : Int64)) t_6 _ _ h
    · have h := h2 q
      refine x_aload_n 0 dX8_sharesBy_139 rfl rfl ?_
      obtain ⟨fs, hf, a_7, hv, h⟩ := h
      refine x_get dX8_sharesBy_140 xf_X8_105 hf hv ?_
      refine x_iload 3 dX8_sharesBy_143 rfl ?_
      obtain ⟨n, f, hf, hi, h⟩ := h
      refine x_lald dX8_sharesBy_145 hf hi ?_
      generalize f _ = y_8 at h ⊢
      refine x_aload_n 0 dX8_sharesBy_146 rfl rfl ?_
      obtain ⟨fs, hf, a_9, hv, h⟩ := h
      refine x_get dX8_sharesBy_147 xf_X8_105 hf hv ?_
      refine x_iload 2 dX8_sharesBy_150 rfl ?_
      obtain ⟨n, f, hf, hi, h⟩ := h
      refine x_lald dX8_sharesBy_152 hf hi ?_
      generalize f _ = y_10 at h ⊢
      obtain ⟨h1, h2⟩ := h
      refine x_lcmp_le (tgt := 162) dX8_sharesBy_153 dX8_sharesBy_154 (by decide) (fun q => ?_) (fun q => ?_)
      · have h := h1 q
        refine x_iload 2 dX8_sharesBy_162 rfl ?_
        refine x_istore (L' := [(7, .int x7), (0, .ref a0), (5, .long y5), (8, .int x8)]) dX8_sharesBy_164 (by decide) rfl ?_
        refine x_iinc (v := (x8 + 1)) (L' := [(8, .int (x8 + 1)), (7, .int x7), (0, .ref a0), (5, .long y5)]) (j := 3) dX8_sharesBy_166 rfl rfl (by decide) rfl ?_
        refine x_goto (tgt := 130) dX8_sharesBy_169 (by decide) ?_
        refine x_sub (L' := [(0, .ref a0), (5, .long y5), (7, .int x7), (8, .int (x8 + 1))]) [2, 3, 1, 0] rfl ?_
        exact ih a0 y5 x7 (x8 + 1) t _ _ h
      · have h := h2 q
        refine x_iload 3 dX8_sharesBy_157 rfl ?_
        refine x_goto (tgt := 164) dX8_sharesBy_159 (by decide) ?_
        refine x_istore (L' := [(7, .int x8), (0, .ref a0), (5, .long y5), (8, .int x8)]) dX8_sharesBy_164 (by decide) rfl ?_
        refine x_iinc (v := (x8 + 1)) (L' := [(8, .int (x8 + 1)), (7, .int x8), (0, .ref a0), (5, .long y5)]) (j := 3) dX8_sharesBy_166 rfl rfl (by decide) rfl ?_
        refine x_goto (tgt := 130) dX8_sharesBy_169 (by decide) ?_
        refine x_sub (L' := [(0, .ref a0), (5, .long y5), (7, .int x8), (8, .int (x8 + 1))]) [2, 3, 1, 0] rfl ?_
        exact ih a0 y5 x8 (x8 + 1) t _ _ h
def VS_X8_sharesBy_117 (R117 : Nat → Int64 → xT → Prop) (K : xT → Prop) (a0 : Nat) (y5 : Int64) (t : xT) : Prop :=
  ((y5 ≤ (0 : Int64) → K t) ∧ (¬ y5 ≤ (0 : Int64) → ∃ f_1 : Nat, V_X8_sharesBy_130 R117 K f_1 a0 y5 (0 : Int32) (1 : Int32) t))
def V_X8_sharesBy_117 (K : xT → Prop) (n : Nat) : Nat → Int64 → xT → Prop := Nat.rec (fun _ _ _ => False) (fun _ ih => VS_X8_sharesBy_117 ih K) n
set_option maxRecDepth 20000 in
theorem S_X8_sharesBy_117 {Γ : xΓ} {K : xT → Prop} (hl : (gl Γ).stackTraces = false) (ht : (gM Γ).sig.returnType = none) (hr : xRet Γ (xKv K)) : ∀ (n : Nat) (a0 : Nat) (y5 : Int64) (t : xT) (rc rs : Nat), V_X8_sharesBy_117 K n a0 y5 t → xX Γ k_X8_sharesBy 117 [(0, .ref a0), (5, .long y5)] [] t rc rs := by
  intro n
  induction n with
  | zero =>
    intro a0 y5 t rc rs h
    exact h.elim
  | succ n ih =>
    intro a0 y5 t rc rs h
    replace h : VS_X8_sharesBy_117 (V_X8_sharesBy_117 K n) K a0 y5 t := h
    unfold VS_X8_sharesBy_117 at h
    refine x_lload 1 dX8_sharesBy_117 rfl ?_
    refine x_lconst (v := (0 : Int64)) dX8_sharesBy_119 (by decide) ?_
    obtain ⟨h1, h2⟩ := h
    refine x_lcmp_le (tgt := 202) dX8_sharesBy_120 dX8_sharesBy_121 (by decide) (fun q => ?_) (fun q => ?_)
    · have h := h1 q
      exact x_vret dX8_sharesBy_202 hr ht ⟨rfl, h⟩
    · have h := h2 q
      refine x_iconst (v := (0 : Int32)) dX8_sharesBy_124 (by decide) ?_
      refine x_istore (L' := [(7, .int (0 : Int32)), (0, .ref a0), (5, .long y5)]) dX8_sharesBy_125 (by decide) rfl ?_
      refine x_iconst (v := (1 : Int32)) dX8_sharesBy_127 (by decide) ?_
      refine x_istore (L' := [(8, .int (1 : Int32)), (7, .int (0 : Int32)), (0, .ref a0), (5, .long y5)]) dX8_sharesBy_128 (by decide) rfl ?_
      obtain ⟨f_1, h⟩ := h
      refine x_sub (L' := [(0, .ref a0), (5, .long y5), (7, .int (0 : Int32)), (8, .int (1 : Int32))]) [2, 3, 1, 0] rfl ?_
      exact S_X8_sharesBy_130 hl ht hr (fun p0 p1 p2 p3 p4 h => ih p0 p1 p2 p3 p4 h) f_1 a0 y5 (0 : Int32) (1 : Int32) t _ _ h
def VS_X8_sharesBy_46 (R46 : Nat → Int64 → Int64 → Int64 → Int32 → xT → Prop) (K : xT → Prop) (a0 : Nat) (y1 : Int64) (y3 : Int64) (y5 : Int64) (x7 : Int32) (t : xT) : Prop :=
  xgI t a0 8 18 fun x_1 => ((x_1 ≤ x7 → ∃ f_2 : Nat, V_X8_sharesBy_117 K f_2 a0 y5 t) ∧ (¬ x_1 ≤ x7 → ((y3 ≤ (0 : Int64) → ∃ f_3 : Nat, V_X8_sharesBy_117 K f_3 a0 y5 t) ∧ (¬ y3 ≤ (0 : Int64) → xgR t a0 8 35 fun a_4 => xaJ t a_4 x7 fun y_5 => (¬ y3 = 0 ∧ xgR t a0 8 37 fun a_6 => xgR t a0 8 35 fun a_7 => xaJ t a_7 x7 fun y_8 => (¬ y3 = 0 ∧ xsJ t a_6 x7 (xlrem (y1 * y_8) y3) fun t_9 => xgR t_9 a0 8 36 fun a_10 => xaJ t_9 a_10 x7 fun y_11 => xsJ t_9 a_10 x7 (y_11 + ((y1 * y_5) / y3)) fun t_12 => R46 a0 y1 y3 (y5 - ((y1 * y_5) / y3)) (x7 + 1) t_12))))))
def V_X8_sharesBy_46 (K : xT → Prop) (n : Nat) : Nat → Int64 → Int64 → Int64 → Int32 → xT → Prop := Nat.rec (fun _ _ _ _ _ _ => False) (fun _ ih => VS_X8_sharesBy_46 ih K) n
set_option maxRecDepth 20000 in
theorem S_X8_sharesBy_46 {Γ : xΓ} {K : xT → Prop} (hl : (gl Γ).stackTraces = false) (ht : (gM Γ).sig.returnType = none) (hr : xRet Γ (xKv K)) : ∀ (n : Nat) (a0 : Nat) (y1 : Int64) (y3 : Int64) (y5 : Int64) (x7 : Int32) (t : xT) (rc rs : Nat), V_X8_sharesBy_46 K n a0 y1 y3 y5 x7 t → xX Γ k_X8_sharesBy 46 [(0, .ref a0), (1, .long y1), (3, .long y3), (5, .long y5), (7, .int x7)] [] t rc rs := by
  intro n
  induction n with
  | zero =>
    intro a0 y1 y3 y5 x7 t rc rs h
    exact h.elim
  | succ n ih =>
    intro a0 y1 y3 y5 x7 t rc rs h
    replace h : VS_X8_sharesBy_46 (V_X8_sharesBy_46 K n) K a0 y1 y3 y5 x7 t := h
    unfold VS_X8_sharesBy_46 at h
    refine x_iload 4 dX8_sharesBy_46 rfl ?_
    refine x_aload_n 0 dX8_sharesBy_48 rfl rfl ?_
    obtain ⟨fs, hf, x_1, hv, h⟩ := h
    refine x_get dX8_sharesBy_49 xf_X8_123 hf hv ?_
    obtain ⟨h1, h2⟩ := h
    refine x_icmp_ge (tgt := 117) dX8_sharesBy_52 (by decide) (fun q => ?_) (fun q => ?_)
    · have h := h1 q
      obtain ⟨f_2, h⟩ := h
      refine x_sub (L' := [(0, .ref a0), (5, .long y5)]) [0, 3] rfl ?_
      exact S_X8_sharesBy_117 hl ht hr  f_2 a0 y5 t _ _ h
    · have h := h2 q
      refine x_lload_n 2 dX8_sharesBy_55 rfl rfl ?_
      refine x_lconst (v := (0 : Int64)) dX8_sharesBy_56 (by decide) ?_
      obtain ⟨h1, h2⟩ := h
      refine x_lcmp_le (tgt := 117) dX8_sharesBy_57 dX8_sharesBy_58 (by decide) (fun q => ?_) (fun q => ?_)
      · have h := h1 q
        obtain ⟨f_3, h⟩ := h
        refine x_sub (L' := [(0, .ref a0), (5, .long y5)]) [0, 3] rfl ?_
        exact S_X8_sharesBy_117 hl ht hr  f_3 a0 y5 t _ _ h
      · have h := h2 q
        refine x_lload_n 1 dX8_sharesBy_61 rfl rfl ?_
        refine x_aload_n 0 dX8_sharesBy_62 rfl rfl ?_
        obtain ⟨fs, hf, a_4, hv, h⟩ := h
        refine x_get dX8_sharesBy_63 xf_X8_99 hf hv ?_
        refine x_iload 4 dX8_sharesBy_66 rfl ?_
        obtain ⟨n, f, hf, hi, h⟩ := h
        refine x_lald dX8_sharesBy_68 hf hi ?_
        generalize f _ = y_5 at h ⊢
        refine x_lmul dX8_sharesBy_69 ?_
        refine x_lload_n 2 dX8_sharesBy_70 rfl rfl ?_
        obtain ⟨q, h⟩ := h
        refine x_ldiv dX8_sharesBy_71 q ?_
        refine x_lstore (L' := [(8, .long ((y1 * y_5) / y3)), (0, .ref a0), (1, .long y1), (3, .long y3), (5, .long y5), (7, .int x7)]) dX8_sharesBy_72 (by decide) rfl ?_
        refine x_aload_n 1 dX8_sharesBy_74 rfl rfl ?_
        obtain ⟨fs, hf, a_6, hv, h⟩ := h
        refine x_get dX8_sharesBy_75 xf_X8_105 hf hv ?_
        refine x_iload 5 dX8_sharesBy_78 rfl ?_
        refine x_lload_n 2 dX8_sharesBy_80 rfl rfl ?_
        refine x_aload_n 1 dX8_sharesBy_81 rfl rfl ?_
        obtain ⟨fs, hf, a_7, hv, h⟩ := h
        refine x_get dX8_sharesBy_82 xf_X8_99 hf hv ?_
        refine x_iload 5 dX8_sharesBy_85 rfl ?_
        obtain ⟨n, f, hf, hi, h⟩ := h
        refine x_lald dX8_sharesBy_87 hf hi ?_
        generalize f _ = y_8 at h ⊢
        refine x_lmul dX8_sharesBy_88 ?_
        refine x_lload_n 3 dX8_sharesBy_89 rfl rfl ?_
        obtain ⟨q, h⟩ := h
        refine x_lrem dX8_sharesBy_90 q ?_
        obtain ⟨n, f, hf, hi, h⟩ := h
        refine x_last dX8_sharesBy_91 hf hi ?_
        generalize hT : xup t a_6 _ = t_9 at h ⊢
        clear hT
        refine x_aload_n 1 dX8_sharesBy_92 rfl rfl ?_
        obtain ⟨fs, hf, a_10, hv, h⟩ := h
        refine x_get dX8_sharesBy_93 xf_X8_102 hf hv ?_
        refine x_iload 5 dX8_sharesBy_96 rfl ?_
        refine x_dup2_11 dX8_sharesBy_98 rfl rfl ?_
        obtain ⟨n, f, hf, hi, h⟩ := h
        refine x_lald dX8_sharesBy_99 hf hi ?_
        generalize f _ = y_11 at h ⊢
        refine x_lload 0 dX8_sharesBy_100 rfl ?_
        refine x_ladd dX8_sharesBy_102 ?_
        obtain ⟨n, f, hf, hi, h⟩ := h
        refine x_last dX8_sharesBy_103 hf hi ?_
        generalize hT : xup t_9 a_10 _ = t_12 at h ⊢
        clear hT
        refine x_lload 4 dX8_sharesBy_104 rfl ?_
        refine x_lload 0 dX8_sharesBy_106 rfl ?_
        refine x_lsub dX8_sharesBy_108 ?_
        refine x_lstore (L' := [(5, .long (y5 - ((y1 * y_5) / y3))), (8, .long ((y1 * y_5) / y3)), (0, .ref a0), (1, .long y1), (3, .long y3), (7, .int x7)]) dX8_sharesBy_109 (by decide) rfl ?_
        refine x_iinc (v := (x7 + 1)) (L' := [(7, .int (x7 + 1)), (5, .long (y5 - ((y1 * y_5) / y3))), (8, .long ((y1 * y_5) / y3)), (0, .ref a0), (1, .long y1), (3, .long y3)]) (j := 5) dX8_sharesBy_111 rfl rfl (by decide) rfl ?_
        refine x_goto (tgt := 46) dX8_sharesBy_114 (by decide) ?_
        refine x_sub (L' := [(0, .ref a0), (1, .long y1), (3, .long y3), (5, .long (y5 - ((y1 * y_5) / y3))), (7, .int (x7 + 1))]) [3, 4, 5, 1, 0] rfl ?_
        exact ih a0 y1 y3 (y5 - ((y1 * y_5) / y3)) (x7 + 1) t_12 _ _ h
def VS_X8_sharesBy_5 (R5 : Nat → Int64 → Int64 → Int32 → xT → Prop) (K : xT → Prop) (a0 : Nat) (y1 : Int64) (y3 : Int64) (x5 : Int32) (t : xT) : Prop :=
  xgI t a0 8 18 fun x_1 => ((x_1 ≤ x5 → ((¬ y3 = (0 : Int64) → ∃ f_2 : Nat, V_X8_sharesBy_46 K f_2 a0 y1 y3 y1 (0 : Int32) t) ∧ (y3 = (0 : Int64) → ∃ f_3 : Nat, V_X8_sharesBy_46 K f_3 a0 y1 y3 (0 : Int64) (0 : Int32) t))) ∧ (¬ x_1 ≤ x5 → xgR t a0 8 35 fun a_4 => xaJ t a_4 x5 fun y_5 => R5 a0 y1 (y3 + y_5) (x5 + 1) t))
def V_X8_sharesBy_5 (K : xT → Prop) (n : Nat) : Nat → Int64 → Int64 → Int32 → xT → Prop := Nat.rec (fun _ _ _ _ _ => False) (fun _ ih => VS_X8_sharesBy_5 ih K) n
set_option maxRecDepth 20000 in
theorem S_X8_sharesBy_5 {Γ : xΓ} {K : xT → Prop} (hl : (gl Γ).stackTraces = false) (ht : (gM Γ).sig.returnType = none) (hr : xRet Γ (xKv K)) : ∀ (n : Nat) (a0 : Nat) (y1 : Int64) (y3 : Int64) (x5 : Int32) (t : xT) (rc rs : Nat), V_X8_sharesBy_5 K n a0 y1 y3 x5 t → xX Γ k_X8_sharesBy 5 [(0, .ref a0), (1, .long y1), (3, .long y3), (5, .int x5)] [] t rc rs := by
  intro n
  induction n with
  | zero =>
    intro a0 y1 y3 x5 t rc rs h
    exact h.elim
  | succ n ih =>
    intro a0 y1 y3 x5 t rc rs h
    replace h : VS_X8_sharesBy_5 (V_X8_sharesBy_5 K n) K a0 y1 y3 x5 t := h
    unfold VS_X8_sharesBy_5 at h
    refine x_iload 3 dX8_sharesBy_5 rfl ?_
    refine x_aload_n 0 dX8_sharesBy_7 rfl rfl ?_
    obtain ⟨fs, hf, x_1, hv, h⟩ := h
    refine x_get dX8_sharesBy_8 xf_X8_123 hf hv ?_
    obtain ⟨h1, h2⟩ := h
    refine x_icmp_ge (tgt := 30) dX8_sharesBy_11 (by decide) (fun q => ?_) (fun q => ?_)
    · have h := h1 q
      refine x_lload_n 2 dX8_sharesBy_30 rfl rfl ?_
      refine x_lconst (v := (0 : Int64)) dX8_sharesBy_31 (by decide) ?_
      obtain ⟨h1, h2⟩ := h
      refine x_lcmp_ne (tgt := 40) dX8_sharesBy_32 dX8_sharesBy_33 (by decide) (fun q => ?_) (fun q => ?_)
      · have h := h1 q
        refine x_lload_n 1 dX8_sharesBy_40 rfl rfl ?_
        refine x_lstore (L' := [(5, .long y1), (0, .ref a0), (1, .long y1), (3, .long y3)]) dX8_sharesBy_41 (by decide) rfl ?_
        refine x_iconst (v := (0 : Int32)) dX8_sharesBy_43 (by decide) ?_
        refine x_istore (L' := [(7, .int (0 : Int32)), (5, .long y1), (0, .ref a0), (1, .long y1), (3, .long y3)]) dX8_sharesBy_44 (by decide) rfl ?_
        obtain ⟨f_2, h⟩ := h
        refine x_sub (L' := [(0, .ref a0), (1, .long y1), (3, .long y3), (5, .long y1), (7, .int (0 : Int32))]) [2, 3, 4, 1, 0] rfl ?_
        exact S_X8_sharesBy_46 hl ht hr  f_2 a0 y1 y3 y1 (0 : Int32) t _ _ h
      · have h := h2 q
        refine x_lconst (v := (0 : Int64)) dX8_sharesBy_36 (by decide) ?_
        refine x_goto (tgt := 41) dX8_sharesBy_37 (by decide) ?_
        refine x_lstore (L' := [(5, .long (0 : Int64)), (0, .ref a0), (1, .long y1), (3, .long y3)]) dX8_sharesBy_41 (by decide) rfl ?_
        refine x_iconst (v := (0 : Int32)) dX8_sharesBy_43 (by decide) ?_
        refine x_istore (L' := [(7, .int (0 : Int32)), (5, .long (0 : Int64)), (0, .ref a0), (1, .long y1), (3, .long y3)]) dX8_sharesBy_44 (by decide) rfl ?_
        obtain ⟨f_3, h⟩ := h
        refine x_sub (L' := [(0, .ref a0), (1, .long y1), (3, .long y3), (5, .long (0 : Int64)), (7, .int (0 : Int32))]) [2, 3, 4, 1, 0] rfl ?_
        exact S_X8_sharesBy_46 hl ht hr  f_3 a0 y1 y3 (0 : Int64) (0 : Int32) t _ _ h
    · have h := h2 q
      refine x_lload_n 2 dX8_sharesBy_14 rfl rfl ?_
      refine x_aload_n 0 dX8_sharesBy_15 rfl rfl ?_
      obtain ⟨fs, hf, a_4, hv, h⟩ := h
      refine x_get dX8_sharesBy_16 xf_X8_99 hf hv ?_
      refine x_iload 3 dX8_sharesBy_19 rfl ?_
      obtain ⟨n, f, hf, hi, h⟩ := h
      refine x_lald dX8_sharesBy_21 hf hi ?_
      generalize f _ = y_5 at h ⊢
      refine x_ladd dX8_sharesBy_22 ?_
      refine x_lstore_n (L' := [(3, .long (y3 + y_5)), (0, .ref a0), (1, .long y1), (5, .int x5)]) dX8_sharesBy_23 rfl (by decide) rfl ?_
      refine x_iinc (v := (x5 + 1)) (L' := [(5, .int (x5 + 1)), (3, .long (y3 + y_5)), (0, .ref a0), (1, .long y1)]) (j := 3) dX8_sharesBy_24 rfl rfl (by decide) rfl ?_
      refine x_goto (tgt := 5) dX8_sharesBy_27 (by decide) ?_
      refine x_sub (L' := [(0, .ref a0), (1, .long y1), (3, .long (y3 + y_5)), (5, .int (x5 + 1))]) [2, 3, 1, 0] rfl ?_
      exact ih a0 y1 (y3 + y_5) (x5 + 1) t _ _ h
def V_X8_sharesBy_0 (K : xT → Prop) (a0 : Nat) (y1 : Int64) (t : xT) : Prop :=
  ∃ f_1 : Nat, V_X8_sharesBy_5 K f_1 a0 y1 (0 : Int64) (0 : Int32) t
set_option maxRecDepth 20000 in
theorem S_X8_sharesBy_0 {Γ : xΓ} {K : xT → Prop} (hl : (gl Γ).stackTraces = false) (ht : (gM Γ).sig.returnType = none) (hr : xRet Γ (xKv K)) {a0 : Nat} {y1 : Int64} {t : xT} {rc rs : Nat} (h : V_X8_sharesBy_0 K a0 y1 t) : xX Γ k_X8_sharesBy 0 [(0, .ref a0), (1, .long y1)] [] t rc rs := by
  unfold V_X8_sharesBy_0 at h
  refine x_lconst (v := (0 : Int64)) dX8_sharesBy_0 (by decide) ?_
  refine x_lstore_n (L' := [(3, .long (0 : Int64)), (0, .ref a0), (1, .long y1)]) dX8_sharesBy_1 rfl (by decide) rfl ?_
  refine x_iconst (v := (0 : Int32)) dX8_sharesBy_2 (by decide) ?_
  refine x_istore (L' := [(5, .int (0 : Int32)), (3, .long (0 : Int64)), (0, .ref a0), (1, .long y1)]) dX8_sharesBy_3 (by decide) rfl ?_
  obtain ⟨f_1, h⟩ := h
  refine x_sub (L' := [(0, .ref a0), (1, .long y1), (3, .long (0 : Int64)), (5, .int (0 : Int32))]) [2, 3, 1, 0] rfl ?_
  exact S_X8_sharesBy_5 hl ht hr  f_1 a0 y1 (0 : Int64) (0 : Int32) t _ _ h
theorem M_X8_sharesBy {l : Launch} {G : xG} (hl : l.stackTraces = false) {a0 : Nat} {y1 : Int64} {t : xT} {K : xT → Prop} (h : V_X8_sharesBy_0 K a0 y1 t) : xMet l G yX8_sharesBy k_X8_sharesBy none [.ref a0, .long y1] t (xKv K) 0 0 := xMet.of (by decide +kernel) rfl hl (Nat.le_of_ble_eq_true rfl) (fun Γ e1 e2 ht hn hr => by subst e1; subst e2; exact S_X8_sharesBy_0 hl ht hr h)
/-! RentStreamModel.weighs(IZ)J -/
def VS_X8_weighs_5 (R5 : Nat → Int32 → Int32 → Int64 → Int32 → xT → Prop) (K : Int64 → xT → Prop) (a0 : Nat) (x1 : Int32) (x2 : Int32) (y3 : Int64) (x5 : Int32) (t : xT) : Prop :=
  xgI t a0 8 18 fun x_1 => ((x_1 ≤ x5 → K y3 t) ∧ (¬ x_1 ≤ x5 → xgR t a0 8 19 fun a_2 => xaI 0 t a_2 x5 fun x_3 => xgR t a0 8 35 fun a_4 => (xis t a0 8 ∧ V_X8_runs_0 (fun x_6 t_5 => ((¬ x_6 = 0 → ((x2 = 0 → xgR t_5 a0 8 3 fun a_7 => xaI 0 t_5 a_7 x_3 fun x_8 => xsJ t_5 a_4 x5 x_8.toInt64 fun t_9 => xgR t_9 a0 8 35 fun a_10 => xaJ t_9 a_10 x5 fun y_11 => R5 a0 x1 x2 (y3 + y_11) (x5 + 1) t_9) ∧ (¬ x2 = 0 → xgR t_5 a0 8 9 fun a_12 => xaI 0 t_5 a_12 (((121 : Int32) * x_3) + x1) fun x_13 => xsJ t_5 a_4 x5 x_13.toInt64 fun t_14 => xgR t_14 a0 8 35 fun a_15 => xaJ t_14 a_15 x5 fun y_16 => R5 a0 x1 x2 (y3 + y_16) (x5 + 1) t_14))) ∧ (x_6 = 0 → xsJ t_5 a_4 x5 (0 : Int64) fun t_17 => xgR t_17 a0 8 35 fun a_18 => xaJ t_17 a_18 x5 fun y_19 => R5 a0 x1 x2 (y3 + y_19) (x5 + 1) t_17))) a0 x5 x1 t)))
def V_X8_weighs_5 (K : Int64 → xT → Prop) (n : Nat) : Nat → Int32 → Int32 → Int64 → Int32 → xT → Prop := Nat.rec (fun _ _ _ _ _ _ => False) (fun _ ih => VS_X8_weighs_5 ih K) n
set_option maxRecDepth 20000 in
theorem S_X8_weighs_5 {Γ : xΓ} {K : Int64 → xT → Prop} (hl : (gl Γ).stackTraces = false) (ht : (gM Γ).sig.returnType = (some .long)) (hr : xRet Γ (xKl K)) : ∀ (n : Nat) (a0 : Nat) (x1 : Int32) (x2 : Int32) (y3 : Int64) (x5 : Int32) (t : xT) (rc rs : Nat), V_X8_weighs_5 K n a0 x1 x2 y3 x5 t → xX Γ k_X8_weighs 5 [(0, .ref a0), (1, .int x1), (2, .int x2), (3, .long y3), (5, .int x5)] [] t rc rs := by
  intro n
  induction n with
  | zero =>
    intro a0 x1 x2 y3 x5 t rc rs h
    exact h.elim
  | succ n ih =>
    intro a0 x1 x2 y3 x5 t rc rs h
    replace h : VS_X8_weighs_5 (V_X8_weighs_5 K n) K a0 x1 x2 y3 x5 t := h
    unfold VS_X8_weighs_5 at h
    refine x_iload 4 dX8_weighs_5 rfl ?_
    refine x_aload_n 0 dX8_weighs_7 rfl rfl ?_
    obtain ⟨fs, hf, x_1, hv, h⟩ := h
    refine x_get dX8_weighs_8 xf_X8_123 hf hv ?_
    obtain ⟨h1, h2⟩ := h
    refine x_icmp_ge (tgt := 88) dX8_weighs_11 (by decide) (fun q => ?_) (fun q => ?_)
    · have h := h1 q
      refine x_lload_n 3 dX8_weighs_88 rfl rfl ?_
      exact x_lret dX8_weighs_89 hr ht ⟨_, rfl, h⟩
    · have h := h2 q
      refine x_aload_n 0 dX8_weighs_14 rfl rfl ?_
      obtain ⟨fs, hf, a_2, hv, h⟩ := h
      refine x_get dX8_weighs_15 xf_X8_50 hf hv ?_
      refine x_iload 4 dX8_weighs_18 rfl ?_
      obtain ⟨n, f, hf, hi, h⟩ := h
      refine x_iald dX8_weighs_20 hf hi ?_
      generalize f _ = x_3 at h ⊢
      refine x_istore (L' := [(6, .int x_3), (0, .ref a0), (1, .int x1), (2, .int x2), (3, .long y3), (5, .int x5)]) dX8_weighs_21 (by decide) rfl ?_
      refine x_aload_n 1 dX8_weighs_23 rfl rfl ?_
      obtain ⟨fs, hf, a_4, hv, h⟩ := h
      refine x_get dX8_weighs_24 xf_X8_99 hf hv ?_
      refine x_iload 5 dX8_weighs_27 rfl ?_
      refine x_aload_n 1 dX8_weighs_29 rfl rfl ?_
      refine x_iload 5 dX8_weighs_30 rfl ?_
      refine x_iload_n 2 dX8_weighs_32 rfl rfl ?_
      obtain ⟨⟨fs, hf⟩, h⟩ := h
      refine x_invV (as := [.int x5, .int x1]) (rest := [.int x5, .ref a_4]) dX8_weighs_33 (q := (RX8, TX8, 40)) rfl xc_X8_weighs_137 hf (M_X8_runs hl h) rfl rfl (Nat.le_of_ble_eq_true rfl) (Nat.zero_le _) (Nat.zero_le _) (xk_i fun x_6 t_5 h => ?_)
      obtain ⟨h1, h2⟩ := h
      refine x_if_ne (tgt := 43) dX8_weighs_36 (by decide) (fun q => ?_) (fun q => ?_)
      · have h := h1 q
        refine x_iload_n 3 dX8_weighs_43 rfl rfl ?_
        obtain ⟨h1, h2⟩ := h
        refine x_if_eq (tgt := 63) dX8_weighs_44 (by decide) (fun q => ?_) (fun q => ?_)
        · have h := h1 q
          refine x_aload_n 1 dX8_weighs_63 rfl rfl ?_
          obtain ⟨fs, hf, a_7, hv, h⟩ := h
          refine x_get dX8_weighs_64 xf_X8_7 hf hv ?_
          refine x_iload 0 dX8_weighs_67 rfl ?_
          obtain ⟨n, f, hf, hi, h⟩ := h
          refine x_iald dX8_weighs_69 hf hi ?_
          generalize f _ = x_8 at h ⊢
          refine x_i2l dX8_weighs_70 ?_
          obtain ⟨n, f, hf, hi, h⟩ := h
          refine x_last dX8_weighs_71 hf hi ?_
          generalize hT : xup t_5 a_4 _ = t_9 at h ⊢
          clear hT
          refine x_lload_n 4 dX8_weighs_72 rfl rfl ?_
          refine x_aload_n 1 dX8_weighs_73 rfl rfl ?_
          obtain ⟨fs, hf, a_10, hv, h⟩ := h
          refine x_get dX8_weighs_74 xf_X8_99 hf hv ?_
          refine x_iload 5 dX8_weighs_77 rfl ?_
          obtain ⟨n, f, hf, hi, h⟩ := h
          refine x_lald dX8_weighs_79 hf hi ?_
          generalize f _ = y_11 at h ⊢
          refine x_ladd dX8_weighs_80 ?_
          refine x_lstore_n (L' := [(3, .long (y3 + y_11)), (6, .int x_3), (0, .ref a0), (1, .int x1), (2, .int x2), (5, .int x5)]) dX8_weighs_81 rfl (by decide) rfl ?_
          refine x_iinc (v := (x5 + 1)) (L' := [(5, .int (x5 + 1)), (3, .long (y3 + y_11)), (6, .int x_3), (0, .ref a0), (1, .int x1), (2, .int x2)]) (j := 5) dX8_weighs_82 rfl rfl (by decide) rfl ?_
          refine x_goto (tgt := 5) dX8_weighs_85 (by decide) ?_
          refine x_sub (L' := [(0, .ref a0), (1, .int x1), (2, .int x2), (3, .long (y3 + y_11)), (5, .int (x5 + 1))]) [3, 4, 5, 1, 0] rfl ?_
          exact ih a0 x1 x2 (y3 + y_11) (x5 + 1) t_9 _ _ h
        · have h := h2 q
          refine x_aload_n 1 dX8_weighs_47 rfl rfl ?_
          obtain ⟨fs, hf, a_12, hv, h⟩ := h
          refine x_get dX8_weighs_48 xf_X8_28 hf hv ?_
          refine x_bipush (v := (121 : Int32)) dX8_weighs_51 (by decide) ?_
          refine x_iload 0 dX8_weighs_53 rfl ?_
          refine x_imul dX8_weighs_55 ?_
          refine x_iload_n 2 dX8_weighs_56 rfl rfl ?_
          refine x_iadd dX8_weighs_57 ?_
          obtain ⟨n, f, hf, hi, h⟩ := h
          refine x_iald dX8_weighs_58 hf hi ?_
          generalize f _ = x_13 at h ⊢
          refine x_i2l dX8_weighs_59 ?_
          refine x_goto (tgt := 71) dX8_weighs_60 (by decide) ?_
          obtain ⟨n, f, hf, hi, h⟩ := h
          refine x_last dX8_weighs_71 hf hi ?_
          generalize hT : xup t_5 a_4 _ = t_14 at h ⊢
          clear hT
          refine x_lload_n 4 dX8_weighs_72 rfl rfl ?_
          refine x_aload_n 1 dX8_weighs_73 rfl rfl ?_
          obtain ⟨fs, hf, a_15, hv, h⟩ := h
          refine x_get dX8_weighs_74 xf_X8_99 hf hv ?_
          refine x_iload 5 dX8_weighs_77 rfl ?_
          obtain ⟨n, f, hf, hi, h⟩ := h
          refine x_lald dX8_weighs_79 hf hi ?_
          generalize f _ = y_16 at h ⊢
          refine x_ladd dX8_weighs_80 ?_
          refine x_lstore_n (L' := [(3, .long (y3 + y_16)), (6, .int x_3), (0, .ref a0), (1, .int x1), (2, .int x2), (5, .int x5)]) dX8_weighs_81 rfl (by decide) rfl ?_
          refine x_iinc (v := (x5 + 1)) (L' := [(5, .int (x5 + 1)), (3, .long (y3 + y_16)), (6, .int x_3), (0, .ref a0), (1, .int x1), (2, .int x2)]) (j := 5) dX8_weighs_82 rfl rfl (by decide) rfl ?_
          refine x_goto (tgt := 5) dX8_weighs_85 (by decide) ?_
          refine x_sub (L' := [(0, .ref a0), (1, .int x1), (2, .int x2), (3, .long (y3 + y_16)), (5, .int (x5 + 1))]) [3, 4, 5, 1, 0] rfl ?_
          exact ih a0 x1 x2 (y3 + y_16) (x5 + 1) t_14 _ _ h
      · have h := h2 q
        refine x_lconst (v := (0 : Int64)) dX8_weighs_39 (by decide) ?_
        refine x_goto (tgt := 71) dX8_weighs_40 (by decide) ?_
        obtain ⟨n, f, hf, hi, h⟩ := h
        refine x_last dX8_weighs_71 hf hi ?_
        generalize hT : xup t_5 a_4 _ = t_17 at h ⊢
        clear hT
        refine x_lload_n 4 dX8_weighs_72 rfl rfl ?_
        refine x_aload_n 1 dX8_weighs_73 rfl rfl ?_
        obtain ⟨fs, hf, a_18, hv, h⟩ := h
        refine x_get dX8_weighs_74 xf_X8_99 hf hv ?_
        refine x_iload 5 dX8_weighs_77 rfl ?_
        obtain ⟨n, f, hf, hi, h⟩ := h
        refine x_lald dX8_weighs_79 hf hi ?_
        generalize f _ = y_19 at h ⊢
        refine x_ladd dX8_weighs_80 ?_
        refine x_lstore_n (L' := [(3, .long (y3 + y_19)), (6, .int x_3), (0, .ref a0), (1, .int x1), (2, .int x2), (5, .int x5)]) dX8_weighs_81 rfl (by decide) rfl ?_
        refine x_iinc (v := (x5 + 1)) (L' := [(5, .int (x5 + 1)), (3, .long (y3 + y_19)), (6, .int x_3), (0, .ref a0), (1, .int x1), (2, .int x2)]) (j := 5) dX8_weighs_82 rfl rfl (by decide) rfl ?_
        refine x_goto (tgt := 5) dX8_weighs_85 (by decide) ?_
        refine x_sub (L' := [(0, .ref a0), (1, .int x1), (2, .int x2), (3, .long (y3 + y_19)), (5, .int (x5 + 1))]) [3, 4, 5, 1, 0] rfl ?_
        exact ih a0 x1 x2 (y3 + y_19) (x5 + 1) t_17 _ _ h
def V_X8_weighs_0 (K : Int64 → xT → Prop) (a0 : Nat) (x1 : Int32) (x2 : Int32) (t : xT) : Prop :=
  ∃ f_1 : Nat, V_X8_weighs_5 K f_1 a0 x1 x2 (0 : Int64) (0 : Int32) t
set_option maxRecDepth 20000 in
theorem S_X8_weighs_0 {Γ : xΓ} {K : Int64 → xT → Prop} (hl : (gl Γ).stackTraces = false) (ht : (gM Γ).sig.returnType = (some .long)) (hr : xRet Γ (xKl K)) {a0 : Nat} {x1 : Int32} {x2 : Int32} {t : xT} {rc rs : Nat} (h : V_X8_weighs_0 K a0 x1 x2 t) : xX Γ k_X8_weighs 0 [(0, .ref a0), (1, .int x1), (2, .int x2)] [] t rc rs := by
  unfold V_X8_weighs_0 at h
  refine x_lconst (v := (0 : Int64)) dX8_weighs_0 (by decide) ?_
  refine x_lstore_n (L' := [(3, .long (0 : Int64)), (0, .ref a0), (1, .int x1), (2, .int x2)]) dX8_weighs_1 rfl (by decide) rfl ?_
  refine x_iconst (v := (0 : Int32)) dX8_weighs_2 (by decide) ?_
  refine x_istore (L' := [(5, .int (0 : Int32)), (3, .long (0 : Int64)), (0, .ref a0), (1, .int x1), (2, .int x2)]) dX8_weighs_3 (by decide) rfl ?_
  obtain ⟨f_1, h⟩ := h
  refine x_sub (L' := [(0, .ref a0), (1, .int x1), (2, .int x2), (3, .long (0 : Int64)), (5, .int (0 : Int32))]) [2, 3, 4, 1, 0] rfl ?_
  exact S_X8_weighs_5 hl ht hr  f_1 a0 x1 x2 (0 : Int64) (0 : Int32) t _ _ h
theorem M_X8_weighs {l : Launch} {G : xG} (hl : l.stackTraces = false) {a0 : Nat} {x1 : Int32} {x2 : Int32} {t : xT} {K : Int64 → xT → Prop} (h : V_X8_weighs_0 K a0 x1 x2 t) : xMet l G yX8_weighs k_X8_weighs (some .long) [.ref a0, .int x1, .int x2] t (xKl K) 0 0 := xMet.of (by decide +kernel) rfl hl (Nat.le_of_ble_eq_true rfl) (fun Γ e1 e2 ht hn hr => by subst e1; subst e2; exact S_X8_weighs_0 hl ht hr h)
/-! RentStreamModel.sharesHeat(I)V -/
def V_X8_sharesHeat_65 (K : xT → Prop) (a0 : Nat) (x1 : Int32) (x2 : Int32) (ys0 : Int64) (t : xT) : Prop :=
  ((x2 = 0 → (xis t a0 8 ∧ V_X8_weighs_0 (fun y_2 t_1 => (xis t_1 a0 8 ∧ V_X8_sharesBy_0 (fun t_3 => K t_3) a0 ys0 t_1)) a0 x1 (0 : Int32) t)) ∧ (¬ x2 = 0 → xgI t a0 8 11 fun x_4 => (xis t a0 8 ∧ V_X8_sharesBy_0 (fun t_5 => (xis t_5 a0 8 ∧ V_X8_weighs_0 (fun y_7 t_6 => (xis t_6 a0 8 ∧ V_X8_sharesBy_0 (fun t_8 => K t_8) a0 ys0 t_6)) a0 x1 (0 : Int32) t_5)) a0 (x_4.toInt64 - ys0) t)))
set_option maxRecDepth 20000 in
theorem S_X8_sharesHeat_65 {Γ : xΓ} {K : xT → Prop} (hl : (gl Γ).stackTraces = false) (ht : (gM Γ).sig.returnType = none) (hr : xRet Γ (xKv K)) {a0 : Nat} {x1 : Int32} {x2 : Int32} {ys0 : Int64} {t : xT} {rc rs : Nat} (h : V_X8_sharesHeat_65 K a0 x1 x2 ys0 t) : xX Γ k_X8_sharesHeat 65 [(0, .ref a0), (1, .int x1), (2, .int x2)] [.long ys0] t rc rs := by
  unfold V_X8_sharesHeat_65 at h
  refine x_lstore_n (L' := [(3, .long ys0), (0, .ref a0), (1, .int x1), (2, .int x2)]) dX8_sharesHeat_65 rfl (by decide) rfl ?_
  refine x_iload_n 3 dX8_sharesHeat_66 rfl rfl ?_
  obtain ⟨h1, h2⟩ := h
  refine x_if_eq (tgt := 81) dX8_sharesHeat_67 (by decide) (fun q => ?_) (fun q => ?_)
  · have h := h1 q
    refine x_aload_n 1 dX8_sharesHeat_81 rfl rfl ?_
    refine x_iload_n 2 dX8_sharesHeat_82 rfl rfl ?_
    refine x_iconst (v := (0 : Int32)) dX8_sharesHeat_83 (by decide) ?_
    obtain ⟨⟨fs, hf⟩, h⟩ := h
    refine x_invV (as := [.int x1, .int (0 : Int32)]) (rest := []) dX8_sharesHeat_84 (q := (RX8, TX8, 40)) rfl xc_X8_sharesHeat_161 hf (M_X8_weighs hl h) rfl rfl (Nat.le_of_ble_eq_true rfl) (Nat.zero_le _) (Nat.zero_le _) (xk_l fun y_2 t_1 h => ?_)
    refine x_lstore (L' := [(5, .long y_2), (3, .long ys0), (0, .ref a0), (1, .int x1), (2, .int x2)]) dX8_sharesHeat_87 (by decide) rfl ?_
    refine x_aload_n 2 dX8_sharesHeat_89 rfl rfl ?_
    refine x_lload_n 1 dX8_sharesHeat_90 rfl rfl ?_
    obtain ⟨⟨fs, hf⟩, h⟩ := h
    refine x_invV (as := [.long ys0]) (rest := []) dX8_sharesHeat_91 (q := (RX8, TX8, 40)) rfl xc_X8_sharesHeat_169 hf (M_X8_sharesBy hl h) rfl rfl (Nat.le_of_ble_eq_true rfl) (Nat.zero_le _) (Nat.zero_le _) (xk_v fun t_3 h => ?_)
    exact x_vret dX8_sharesHeat_94 hr ht ⟨rfl, h⟩
  · have h := h2 q
    refine x_aload_n 1 dX8_sharesHeat_70 rfl rfl ?_
    refine x_aload_n 1 dX8_sharesHeat_71 rfl rfl ?_
    obtain ⟨fs, hf, x_4, hv, h⟩ := h
    refine x_get dX8_sharesHeat_72 xf_X8_152 hf hv ?_
    refine x_i2l dX8_sharesHeat_75 ?_
    refine x_lload_n 0 dX8_sharesHeat_76 rfl rfl ?_
    refine x_lsub dX8_sharesHeat_77 ?_
    obtain ⟨⟨fs, hf⟩, h⟩ := h
    refine x_invV (as := [.long (x_4.toInt64 - ys0)]) (rest := []) dX8_sharesHeat_78 (q := (RX8, TX8, 40)) rfl xc_X8_sharesHeat_169 hf (M_X8_sharesBy hl h) rfl rfl (Nat.le_of_ble_eq_true rfl) (Nat.zero_le _) (Nat.zero_le _) (xk_v fun t_5 h => ?_)
    refine x_aload_n 1 dX8_sharesHeat_81 rfl rfl ?_
    refine x_iload_n 2 dX8_sharesHeat_82 rfl rfl ?_
    refine x_iconst (v := (0 : Int32)) dX8_sharesHeat_83 (by decide) ?_
    obtain ⟨⟨fs, hf⟩, h⟩ := h
    refine x_invV (as := [.int x1, .int (0 : Int32)]) (rest := []) dX8_sharesHeat_84 (q := (RX8, TX8, 40)) rfl xc_X8_sharesHeat_161 hf (M_X8_weighs hl h) rfl rfl (Nat.le_of_ble_eq_true rfl) (Nat.zero_le _) (Nat.zero_le _) (xk_l fun y_7 t_6 h => ?_)
    refine x_lstore (L' := [(5, .long y_7), (3, .long ys0), (0, .ref a0), (1, .int x1), (2, .int x2)]) dX8_sharesHeat_87 (by decide) rfl ?_
    refine x_aload_n 2 dX8_sharesHeat_89 rfl rfl ?_
    refine x_lload_n 1 dX8_sharesHeat_90 rfl rfl ?_
    obtain ⟨⟨fs, hf⟩, h⟩ := h
    refine x_invV (as := [.long ys0]) (rest := []) dX8_sharesHeat_91 (q := (RX8, TX8, 40)) rfl xc_X8_sharesHeat_169 hf (M_X8_sharesBy hl h) rfl rfl (Nat.le_of_ble_eq_true rfl) (Nat.zero_le _) (Nat.zero_le _) (xk_v fun t_8 h => ?_)
    exact x_vret dX8_sharesHeat_94 hr ht ⟨rfl, h⟩
def V_X8_sharesHeat_39 (K : xT → Prop) (a0 : Nat) (x1 : Int32) (xs0 : Int32) (t : xT) : Prop :=
  ((xs0 = 0 → xgI t a0 8 11 fun x_1 => V_X8_sharesHeat_65 K a0 x1 xs0 x_1.toInt64 t) ∧ (¬ xs0 = 0 → xgI t a0 8 11 fun x_2 => (¬ (10 : Int64) = 0 ∧ V_X8_sharesHeat_65 K a0 x1 xs0 (((3 : Int64) * x_2.toInt64) / (10 : Int64)) t)))
set_option maxRecDepth 20000 in
theorem S_X8_sharesHeat_39 {Γ : xΓ} {K : xT → Prop} (hl : (gl Γ).stackTraces = false) (ht : (gM Γ).sig.returnType = none) (hr : xRet Γ (xKv K)) {a0 : Nat} {x1 : Int32} {xs0 : Int32} {t : xT} {rc rs : Nat} (h : V_X8_sharesHeat_39 K a0 x1 xs0 t) : xX Γ k_X8_sharesHeat 39 [(0, .ref a0), (1, .int x1)] [.int xs0] t rc rs := by
  unfold V_X8_sharesHeat_39 at h
  refine x_istore_n (L' := [(2, .int xs0), (0, .ref a0), (1, .int x1)]) dX8_sharesHeat_39 rfl (by decide) rfl ?_
  refine x_iload_n 0 dX8_sharesHeat_40 rfl rfl ?_
  obtain ⟨h1, h2⟩ := h
  refine x_if_eq (tgt := 60) dX8_sharesHeat_41 (by decide) (fun q => ?_) (fun q => ?_)
  · have h := h1 q
    refine x_aload_n 1 dX8_sharesHeat_60 rfl rfl ?_
    obtain ⟨fs, hf, x_1, hv, h⟩ := h
    refine x_get dX8_sharesHeat_61 xf_X8_152 hf hv ?_
    refine x_i2l dX8_sharesHeat_64 ?_
    refine x_sub (L' := [(0, .ref a0), (1, .int x1), (2, .int xs0)]) [1, 2, 0] rfl ?_
    exact S_X8_sharesHeat_65 hl ht hr  h
  · have h := h2 q
    refine x_ldc2 dX8_sharesHeat_44 xw1455 ?_
    refine x_aload_n 1 dX8_sharesHeat_47 rfl rfl ?_
    obtain ⟨fs, hf, x_2, hv, h⟩ := h
    refine x_get dX8_sharesHeat_48 xf_X8_152 hf hv ?_
    refine x_i2l dX8_sharesHeat_51 ?_
    refine x_lmul dX8_sharesHeat_52 ?_
    refine x_ldc2 dX8_sharesHeat_53 xw1456 ?_
    obtain ⟨q, h⟩ := h
    refine x_ldiv dX8_sharesHeat_56 q ?_
    refine x_goto (tgt := 65) dX8_sharesHeat_57 (by decide) ?_
    refine x_sub (L' := [(0, .ref a0), (1, .int x1), (2, .int xs0)]) [1, 2, 0] rfl ?_
    exact S_X8_sharesHeat_65 hl ht hr  h
def VS_X8_sharesHeat_2 (R2 : Nat → Int32 → Int32 → xT → Prop) (K : xT → Prop) (a0 : Nat) (x1 : Int32) (x2 : Int32) (t : xT) : Prop :=
  xgI t a0 8 18 fun x_1 => ((x_1 ≤ x2 → (xis t a0 8 ∧ V_X8_weighs_0 (fun y_3 t_2 => ((y_3 ≤ (0 : Int64) → V_X8_sharesHeat_39 K a0 x1 (0 : Int32) t_2) ∧ (¬ y_3 ≤ (0 : Int64) → V_X8_sharesHeat_39 K a0 x1 (1 : Int32) t_2))) a0 x1 (1 : Int32) t)) ∧ (¬ x_1 ≤ x2 → xgR t a0 8 36 fun a_4 => xsJ t a_4 x2 (0 : Int64) fun t_5 => R2 a0 x1 (x2 + 1) t_5))
def V_X8_sharesHeat_2 (K : xT → Prop) (n : Nat) : Nat → Int32 → Int32 → xT → Prop := Nat.rec (fun _ _ _ _ => False) (fun _ ih => VS_X8_sharesHeat_2 ih K) n
set_option maxRecDepth 20000 in
theorem S_X8_sharesHeat_2 {Γ : xΓ} {K : xT → Prop} (hl : (gl Γ).stackTraces = false) (ht : (gM Γ).sig.returnType = none) (hr : xRet Γ (xKv K)) : ∀ (n : Nat) (a0 : Nat) (x1 : Int32) (x2 : Int32) (t : xT) (rc rs : Nat), V_X8_sharesHeat_2 K n a0 x1 x2 t → xX Γ k_X8_sharesHeat 2 [(0, .ref a0), (1, .int x1), (2, .int x2)] [] t rc rs := by
  intro n
  induction n with
  | zero =>
    intro a0 x1 x2 t rc rs h
    exact h.elim
  | succ n ih =>
    intro a0 x1 x2 t rc rs h
    replace h : VS_X8_sharesHeat_2 (V_X8_sharesHeat_2 K n) K a0 x1 x2 t := h
    unfold VS_X8_sharesHeat_2 at h
    refine x_iload_n 2 dX8_sharesHeat_2 rfl rfl ?_
    refine x_aload_n 0 dX8_sharesHeat_3 rfl rfl ?_
    obtain ⟨fs, hf, x_1, hv, h⟩ := h
    refine x_get dX8_sharesHeat_4 xf_X8_123 hf hv ?_
    obtain ⟨h1, h2⟩ := h
    refine x_icmp_ge (tgt := 23) dX8_sharesHeat_7 (by decide) (fun q => ?_) (fun q => ?_)
    · have h := h1 q
      refine x_aload_n 0 dX8_sharesHeat_23 rfl rfl ?_
      refine x_iload_n 1 dX8_sharesHeat_24 rfl rfl ?_
      refine x_iconst (v := (1 : Int32)) dX8_sharesHeat_25 (by decide) ?_
      obtain ⟨⟨fs, hf⟩, h⟩ := h
      refine x_invV (as := [.int x1, .int (1 : Int32)]) (rest := []) dX8_sharesHeat_26 (q := (RX8, TX8, 40)) rfl xc_X8_sharesHeat_161 hf (M_X8_weighs hl h) rfl rfl (Nat.le_of_ble_eq_true rfl) (Nat.zero_le _) (Nat.zero_le _) (xk_l fun y_3 t_2 h => ?_)
      refine x_lconst (v := (0 : Int64)) dX8_sharesHeat_29 (by decide) ?_
      obtain ⟨h1, h2⟩ := h
      refine x_lcmp_le (tgt := 38) dX8_sharesHeat_30 dX8_sharesHeat_31 (by decide) (fun q => ?_) (fun q => ?_)
      · have h := h1 q
        refine x_iconst (v := (0 : Int32)) dX8_sharesHeat_38 (by decide) ?_
        refine x_sub (L' := [(0, .ref a0), (1, .int x1)]) [0, 1] rfl ?_
        exact S_X8_sharesHeat_39 hl ht hr  h
      · have h := h2 q
        refine x_iconst (v := (1 : Int32)) dX8_sharesHeat_34 (by decide) ?_
        refine x_goto (tgt := 39) dX8_sharesHeat_35 (by decide) ?_
        refine x_sub (L' := [(0, .ref a0), (1, .int x1)]) [0, 1] rfl ?_
        exact S_X8_sharesHeat_39 hl ht hr  h
    · have h := h2 q
      refine x_aload_n 0 dX8_sharesHeat_10 rfl rfl ?_
      obtain ⟨fs, hf, a_4, hv, h⟩ := h
      refine x_get dX8_sharesHeat_11 xf_X8_102 hf hv ?_
      refine x_iload_n 2 dX8_sharesHeat_14 rfl rfl ?_
      refine x_lconst (v := (0 : Int64)) dX8_sharesHeat_15 (by decide) ?_
      obtain ⟨n, f, hf, hi, h⟩ := h
      refine x_last dX8_sharesHeat_16 hf hi ?_
      generalize hT : xup t a_4 _ = t_5 at h ⊢
      clear hT
      refine x_iinc (v := (x2 + 1)) (L' := [(2, .int (x2 + 1)), (0, .ref a0), (1, .int x1)]) (j := 2) dX8_sharesHeat_17 rfl rfl (by decide) rfl ?_
      refine x_goto (tgt := 2) dX8_sharesHeat_20 (by decide) ?_
      refine x_sub (L' := [(0, .ref a0), (1, .int x1), (2, .int (x2 + 1))]) [1, 2, 0] rfl ?_
      exact ih a0 x1 (x2 + 1) t_5 _ _ h
def V_X8_sharesHeat_0 (K : xT → Prop) (a0 : Nat) (x1 : Int32) (t : xT) : Prop :=
  ∃ f_1 : Nat, V_X8_sharesHeat_2 K f_1 a0 x1 (0 : Int32) t
set_option maxRecDepth 20000 in
theorem S_X8_sharesHeat_0 {Γ : xΓ} {K : xT → Prop} (hl : (gl Γ).stackTraces = false) (ht : (gM Γ).sig.returnType = none) (hr : xRet Γ (xKv K)) {a0 : Nat} {x1 : Int32} {t : xT} {rc rs : Nat} (h : V_X8_sharesHeat_0 K a0 x1 t) : xX Γ k_X8_sharesHeat 0 [(0, .ref a0), (1, .int x1)] [] t rc rs := by
  unfold V_X8_sharesHeat_0 at h
  refine x_iconst (v := (0 : Int32)) dX8_sharesHeat_0 (by decide) ?_
  refine x_istore_n (L' := [(2, .int (0 : Int32)), (0, .ref a0), (1, .int x1)]) dX8_sharesHeat_1 rfl (by decide) rfl ?_
  obtain ⟨f_1, h⟩ := h
  refine x_sub (L' := [(0, .ref a0), (1, .int x1), (2, .int (0 : Int32))]) [1, 2, 0] rfl ?_
  exact S_X8_sharesHeat_2 hl ht hr  f_1 a0 x1 (0 : Int32) t _ _ h
theorem M_X8_sharesHeat {l : Launch} {G : xG} (hl : l.stackTraces = false) {a0 : Nat} {x1 : Int32} {t : xT} {K : xT → Prop} (h : V_X8_sharesHeat_0 K a0 x1 t) : xMet l G yX8_sharesHeat k_X8_sharesHeat none [.ref a0, .int x1] t (xKv K) 0 0 := xMet.of (by decide +kernel) rfl hl (Nat.le_of_ble_eq_true rfl) (fun Γ e1 e2 ht hn hr => by subst e1; subst e2; exact S_X8_sharesHeat_0 hl ht hr h)
/-! RentStreamModel.ends(I)V -/
def VS_X8_ends_29 (R29 : Nat → Int32 → Int32 → xT → Prop) (K : xT → Prop) (a0 : Nat) (x1 : Int32) (x2 : Int32) (t : xT) : Prop :=
  xgI t a0 8 18 fun x_1 => ((x_1 ≤ x2 → K t) ∧ (¬ x_1 ≤ x2 → (xis t a0 8 ∧ V_X8_looksAtPlan_0 (fun t_2 => (xis t_2 a0 8 ∧ V_X8_runs_0 (fun x_4 t_3 => ((x_4 = 0 → R29 a0 x1 (x2 + 1) t_3) ∧ (¬ x_4 = 0 → (xis t_3 a0 8 ∧ V_X8_bills_0 (fun t_5 => R29 a0 x1 (x2 + 1) t_5) a0 x2 x1 t_3)))) a0 x2 x1 t_2)) a0 x2 t)))
def V_X8_ends_29 (K : xT → Prop) (n : Nat) : Nat → Int32 → Int32 → xT → Prop := Nat.rec (fun _ _ _ _ => False) (fun _ ih => VS_X8_ends_29 ih K) n
set_option maxRecDepth 20000 in
theorem S_X8_ends_29 {Γ : xΓ} {K : xT → Prop} (hl : (gl Γ).stackTraces = false) (ht : (gM Γ).sig.returnType = none) (hr : xRet Γ (xKv K)) : ∀ (n : Nat) (a0 : Nat) (x1 : Int32) (x2 : Int32) (t : xT) (rc rs : Nat), V_X8_ends_29 K n a0 x1 x2 t → xX Γ k_X8_ends 29 [(0, .ref a0), (1, .int x1), (2, .int x2)] [] t rc rs := by
  intro n
  induction n with
  | zero =>
    intro a0 x1 x2 t rc rs h
    exact h.elim
  | succ n ih =>
    intro a0 x1 x2 t rc rs h
    replace h : VS_X8_ends_29 (V_X8_ends_29 K n) K a0 x1 x2 t := h
    unfold VS_X8_ends_29 at h
    refine x_iload_n 2 dX8_ends_29 rfl rfl ?_
    refine x_aload_n 0 dX8_ends_30 rfl rfl ?_
    obtain ⟨fs, hf, x_1, hv, h⟩ := h
    refine x_get dX8_ends_31 xf_X8_123 hf hv ?_
    obtain ⟨h1, h2⟩ := h
    refine x_icmp_ge (tgt := 63) dX8_ends_34 (by decide) (fun q => ?_) (fun q => ?_)
    · have h := h1 q
      exact x_vret dX8_ends_63 hr ht ⟨rfl, h⟩
    · have h := h2 q
      refine x_aload_n 0 dX8_ends_37 rfl rfl ?_
      refine x_iload_n 2 dX8_ends_38 rfl rfl ?_
      obtain ⟨⟨fs, hf⟩, h⟩ := h
      refine x_invV (as := [.int x2]) (rest := []) dX8_ends_39 (q := (RX8, TX8, 40)) rfl xc_X8_ends_196 hf (M_X8_looksAtPlan hl h) rfl rfl (Nat.le_of_ble_eq_true rfl) (Nat.zero_le _) (Nat.zero_le _) (xk_v fun t_2 h => ?_)
      refine x_aload_n 0 dX8_ends_42 rfl rfl ?_
      refine x_iload_n 2 dX8_ends_43 rfl rfl ?_
      refine x_iload_n 1 dX8_ends_44 rfl rfl ?_
      obtain ⟨⟨fs, hf⟩, h⟩ := h
      refine x_invV (as := [.int x2, .int x1]) (rest := []) dX8_ends_45 (q := (RX8, TX8, 40)) rfl xc_X8_ends_137 hf (M_X8_runs hl h) rfl rfl (Nat.le_of_ble_eq_true rfl) (Nat.zero_le _) (Nat.zero_le _) (xk_i fun x_4 t_3 h => ?_)
      obtain ⟨h1, h2⟩ := h
      refine x_if_eq (tgt := 57) dX8_ends_48 (by decide) (fun q => ?_) (fun q => ?_)
      · have h := h1 q
        refine x_iinc (v := (x2 + 1)) (L' := [(2, .int (x2 + 1)), (0, .ref a0), (1, .int x1)]) (j := 2) dX8_ends_57 rfl rfl (by decide) rfl ?_
        refine x_goto (tgt := 29) dX8_ends_60 (by decide) ?_
        refine x_sub (L' := [(0, .ref a0), (1, .int x1), (2, .int (x2 + 1))]) [1, 2, 0] rfl ?_
        exact ih a0 x1 (x2 + 1) t_3 _ _ h
      · have h := h2 q
        refine x_aload_n 0 dX8_ends_51 rfl rfl ?_
        refine x_iload_n 2 dX8_ends_52 rfl rfl ?_
        refine x_iload_n 1 dX8_ends_53 rfl rfl ?_
        obtain ⟨⟨fs, hf⟩, h⟩ := h
        refine x_invV (as := [.int x2, .int x1]) (rest := []) dX8_ends_54 (q := (RX8, TX8, 40)) rfl xc_X8_ends_199 hf (M_X8_bills hl h) rfl rfl (Nat.le_of_ble_eq_true rfl) (Nat.zero_le _) (Nat.zero_le _) (xk_v fun t_5 h => ?_)
        refine x_iinc (v := (x2 + 1)) (L' := [(2, .int (x2 + 1)), (0, .ref a0), (1, .int x1)]) (j := 2) dX8_ends_57 rfl rfl (by decide) rfl ?_
        refine x_goto (tgt := 29) dX8_ends_60 (by decide) ?_
        refine x_sub (L' := [(0, .ref a0), (1, .int x1), (2, .int (x2 + 1))]) [1, 2, 0] rfl ?_
        exact ih a0 x1 (x2 + 1) t_5 _ _ h
def VS_X8_ends_2 (R2 : Nat → Int32 → Int32 → xT → Prop) (K : xT → Prop) (a0 : Nat) (x1 : Int32) (x2 : Int32) (t : xT) : Prop :=
  xgI t a0 8 2 fun x_1 => ((x_1 ≤ x2 → (xis t a0 8 ∧ V_X8_sharesHeat_0 (fun t_2 => ∃ f_3 : Nat, V_X8_ends_29 K f_3 a0 x1 (0 : Int32) t_2) a0 x1 t)) ∧ (¬ x_1 ≤ x2 → (xis t a0 8 ∧ V_X8_findsUse_0 (fun t_4 => R2 a0 x1 (x2 + 1) t_4) a0 x2 x1 t)))
def V_X8_ends_2 (K : xT → Prop) (n : Nat) : Nat → Int32 → Int32 → xT → Prop := Nat.rec (fun _ _ _ _ => False) (fun _ ih => VS_X8_ends_2 ih K) n
set_option maxRecDepth 20000 in
theorem S_X8_ends_2 {Γ : xΓ} {K : xT → Prop} (hl : (gl Γ).stackTraces = false) (ht : (gM Γ).sig.returnType = none) (hr : xRet Γ (xKv K)) : ∀ (n : Nat) (a0 : Nat) (x1 : Int32) (x2 : Int32) (t : xT) (rc rs : Nat), V_X8_ends_2 K n a0 x1 x2 t → xX Γ k_X8_ends 2 [(0, .ref a0), (1, .int x1), (2, .int x2)] [] t rc rs := by
  intro n
  induction n with
  | zero =>
    intro a0 x1 x2 t rc rs h
    exact h.elim
  | succ n ih =>
    intro a0 x1 x2 t rc rs h
    replace h : VS_X8_ends_2 (V_X8_ends_2 K n) K a0 x1 x2 t := h
    unfold VS_X8_ends_2 at h
    refine x_iload_n 2 dX8_ends_2 rfl rfl ?_
    refine x_aload_n 0 dX8_ends_3 rfl rfl ?_
    obtain ⟨fs, hf, x_1, hv, h⟩ := h
    refine x_get dX8_ends_4 xf_X8_116 hf hv ?_
    obtain ⟨h1, h2⟩ := h
    refine x_icmp_ge (tgt := 22) dX8_ends_7 (by decide) (fun q => ?_) (fun q => ?_)
    · have h := h1 q
      refine x_aload_n 0 dX8_ends_22 rfl rfl ?_
      refine x_iload_n 1 dX8_ends_23 rfl rfl ?_
      obtain ⟨⟨fs, hf⟩, h⟩ := h
      refine x_invV (as := [.int x1]) (rest := []) dX8_ends_24 (q := (RX8, TX8, 40)) rfl xc_X8_ends_192 hf (M_X8_sharesHeat hl h) rfl rfl (Nat.le_of_ble_eq_true rfl) (Nat.zero_le _) (Nat.zero_le _) (xk_v fun t_2 h => ?_)
      refine x_iconst (v := (0 : Int32)) dX8_ends_27 (by decide) ?_
      refine x_istore_n (L' := [(2, .int (0 : Int32)), (0, .ref a0), (1, .int x1)]) dX8_ends_28 rfl (by decide) rfl ?_
      obtain ⟨f_3, h⟩ := h
      refine x_sub (L' := [(0, .ref a0), (1, .int x1), (2, .int (0 : Int32))]) [1, 2, 0] rfl ?_
      exact S_X8_ends_29 hl ht hr  f_3 a0 x1 (0 : Int32) t_2 _ _ h
    · have h := h2 q
      refine x_aload_n 0 dX8_ends_10 rfl rfl ?_
      refine x_iload_n 2 dX8_ends_11 rfl rfl ?_
      refine x_iload_n 1 dX8_ends_12 rfl rfl ?_
      obtain ⟨⟨fs, hf⟩, h⟩ := h
      refine x_invV (as := [.int x2, .int x1]) (rest := []) dX8_ends_13 (q := (RX8, TX8, 40)) rfl xc_X8_ends_188 hf (M_X8_findsUse hl h) rfl rfl (Nat.le_of_ble_eq_true rfl) (Nat.zero_le _) (Nat.zero_le _) (xk_v fun t_4 h => ?_)
      refine x_iinc (v := (x2 + 1)) (L' := [(2, .int (x2 + 1)), (0, .ref a0), (1, .int x1)]) (j := 2) dX8_ends_16 rfl rfl (by decide) rfl ?_
      refine x_goto (tgt := 2) dX8_ends_19 (by decide) ?_
      refine x_sub (L' := [(0, .ref a0), (1, .int x1), (2, .int (x2 + 1))]) [1, 2, 0] rfl ?_
      exact ih a0 x1 (x2 + 1) t_4 _ _ h
def V_X8_ends_0 (K : xT → Prop) (a0 : Nat) (x1 : Int32) (t : xT) : Prop :=
  ∃ f_1 : Nat, V_X8_ends_2 K f_1 a0 x1 (0 : Int32) t
set_option maxRecDepth 20000 in
theorem S_X8_ends_0 {Γ : xΓ} {K : xT → Prop} (hl : (gl Γ).stackTraces = false) (ht : (gM Γ).sig.returnType = none) (hr : xRet Γ (xKv K)) {a0 : Nat} {x1 : Int32} {t : xT} {rc rs : Nat} (h : V_X8_ends_0 K a0 x1 t) : xX Γ k_X8_ends 0 [(0, .ref a0), (1, .int x1)] [] t rc rs := by
  unfold V_X8_ends_0 at h
  refine x_iconst (v := (0 : Int32)) dX8_ends_0 (by decide) ?_
  refine x_istore_n (L' := [(2, .int (0 : Int32)), (0, .ref a0), (1, .int x1)]) dX8_ends_1 rfl (by decide) rfl ?_
  obtain ⟨f_1, h⟩ := h
  refine x_sub (L' := [(0, .ref a0), (1, .int x1), (2, .int (0 : Int32))]) [1, 2, 0] rfl ?_
  exact S_X8_ends_2 hl ht hr  f_1 a0 x1 (0 : Int32) t _ _ h
theorem M_X8_ends {l : Launch} {G : xG} (hl : l.stackTraces = false) {a0 : Nat} {x1 : Int32} {t : xT} {K : xT → Prop} (h : V_X8_ends_0 K a0 x1 t) : xMet l G yX8_ends k_X8_ends none [.ref a0, .int x1] t (xKv K) 0 0 := xMet.of (by decide +kernel) rfl hl (Nat.le_of_ble_eq_true rfl) (fun Γ e1 e2 ht hn hr => by subst e1; subst e2; exact S_X8_ends_0 hl ht hr h)
/-! RentStreamModel.wears()V -/
def V_X8_wears_40 (R2 : Nat → Int32 → xT → Prop) (K : xT → Prop) (a0 : Nat) (x1 : Int32) (xs0 : Int32) (t : xT) : Prop :=
  xgR t a0 8 17 fun a_1 => xaI 2 t a_1 x1 fun x_2 => ((¬ x_2 = 0 → R2 a0 (x1 + 1) t) ∧ (x_2 = 0 → xgI t a0 8 1 fun x_3 => xgR t a0 8 15 fun a_4 => xaI 0 t a_4 x1 fun x_5 => (((x_3 - x_5) ≤ xs0 → R2 a0 (x1 + 1) t) ∧ (¬ (x_3 - x_5) ≤ xs0 → xgR t a0 8 8 fun a_6 => xgR t a0 8 13 fun a_7 => xaI 0 t a_7 x1 fun x_8 => xaI 0 t a_6 x_8 fun x_9 => xgR t a0 8 14 fun a_10 => xaI 0 t a_10 x1 fun x_11 => ((¬ x_11 = 0 → xgR t a0 8 14 fun a_12 => xaI 0 t a_12 x1 fun x_13 => ((¬ x_13 = (1 : Int32) → xsI 0 t a_6 x_8 (x_9 + (5 : Int32)) fun t_14 => xgR t_14 a0 8 16 fun a_15 => xaI 0 t_14 a_15 x1 fun x_16 => xsI 0 t_14 a_15 x1 (x_16 + (1 : Int32)) fun t_17 => R2 a0 (x1 + 1) t_17) ∧ (x_13 = (1 : Int32) → xsI 0 t a_6 x_8 (x_9 + (10 : Int32)) fun t_18 => xgR t_18 a0 8 16 fun a_19 => xaI 0 t_18 a_19 x1 fun x_20 => xsI 0 t_18 a_19 x1 (x_20 + (1 : Int32)) fun t_21 => R2 a0 (x1 + 1) t_21))) ∧ (x_11 = 0 → xsI 0 t a_6 x_8 (x_9 + (30 : Int32)) fun t_22 => xgR t_22 a0 8 16 fun a_23 => xaI 0 t_22 a_23 x1 fun x_24 => xsI 0 t_22 a_23 x1 (x_24 + (1 : Int32)) fun t_25 => R2 a0 (x1 + 1) t_25))))))
set_option maxRecDepth 20000 in
theorem S_X8_wears_40 {Γ : xΓ} {R2 : Nat → Int32 → xT → Prop} {K : xT → Prop} (hl : (gl Γ).stackTraces = false) (ht : (gM Γ).sig.returnType = none) (hr : xRet Γ (xKv K)) (hR2 : ∀ (a0 : Nat) (x1 : Int32) (t : xT) (rc rs : Nat), R2 a0 x1 t → xX Γ k_X8_wears 2 [(0, .ref a0), (1, .int x1)] [] t rc rs) {a0 : Nat} {x1 : Int32} {xs0 : Int32} {t : xT} {rc rs : Nat} (h : V_X8_wears_40 R2 K a0 x1 xs0 t) : xX Γ k_X8_wears 40 [(0, .ref a0), (1, .int x1)] [.int xs0] t rc rs := by
  unfold V_X8_wears_40 at h
  refine x_istore_n (L' := [(2, .int xs0), (0, .ref a0), (1, .int x1)]) dX8_wears_40 rfl (by decide) rfl ?_
  refine x_aload_n 1 dX8_wears_41 rfl rfl ?_
  obtain ⟨fs, hf, a_1, hv, h⟩ := h
  refine x_get dX8_wears_42 xf_X8_46 hf hv ?_
  refine x_iload_n 2 dX8_wears_45 rfl rfl ?_
  obtain ⟨n, f, hf, hi, h⟩ := h
  refine x_zald dX8_wears_46 hf hi ?_
  generalize f _ = x_2 at h ⊢
  obtain ⟨h1, h2⟩ := h
  refine x_if_ne (tgt := 119) dX8_wears_47 (by decide) (fun q => ?_) (fun q => ?_)
  · have h := h1 q
    refine x_iinc (v := (x1 + 1)) (L' := [(1, .int (x1 + 1)), (2, .int xs0), (0, .ref a0)]) (j := 2) dX8_wears_119 rfl rfl (by decide) rfl ?_
    refine x_goto (tgt := 2) dX8_wears_122 (by decide) ?_
    refine x_sub (L' := [(0, .ref a0), (1, .int (x1 + 1))]) [2, 0] rfl ?_
    exact hR2 a0 (x1 + 1) t _ _ h
  · have h := h2 q
    refine x_aload_n 1 dX8_wears_50 rfl rfl ?_
    obtain ⟨fs, hf, x_3, hv, h⟩ := h
    refine x_get dX8_wears_51 xf_X8_126 hf hv ?_
    refine x_aload_n 1 dX8_wears_54 rfl rfl ?_
    obtain ⟨fs, hf, a_4, hv, h⟩ := h
    refine x_get dX8_wears_55 xf_X8_40 hf hv ?_
    refine x_iload_n 2 dX8_wears_58 rfl rfl ?_
    obtain ⟨n, f, hf, hi, h⟩ := h
    refine x_iald dX8_wears_59 hf hi ?_
    generalize f _ = x_5 at h ⊢
    refine x_isub dX8_wears_60 ?_
    refine x_iload_n 0 dX8_wears_61 rfl rfl ?_
    obtain ⟨h1, h2⟩ := h
    refine x_icmp_le (tgt := 119) dX8_wears_62 (by decide) (fun q => ?_) (fun q => ?_)
    · have h := h1 q
      refine x_iinc (v := (x1 + 1)) (L' := [(1, .int (x1 + 1)), (2, .int xs0), (0, .ref a0)]) (j := 2) dX8_wears_119 rfl rfl (by decide) rfl ?_
      refine x_goto (tgt := 2) dX8_wears_122 (by decide) ?_
      refine x_sub (L' := [(0, .ref a0), (1, .int (x1 + 1))]) [2, 0] rfl ?_
      exact hR2 a0 (x1 + 1) t _ _ h
    · have h := h2 q
      refine x_aload_n 1 dX8_wears_65 rfl rfl ?_
      obtain ⟨fs, hf, a_6, hv, h⟩ := h
      refine x_get dX8_wears_66 xf_X8_25 hf hv ?_
      refine x_aload_n 1 dX8_wears_69 rfl rfl ?_
      obtain ⟨fs, hf, a_7, hv, h⟩ := h
      refine x_get dX8_wears_70 xf_X8_34 hf hv ?_
      refine x_iload_n 2 dX8_wears_73 rfl rfl ?_
      obtain ⟨n, f, hf, hi, h⟩ := h
      refine x_iald dX8_wears_74 hf hi ?_
      generalize f _ = x_8 at h ⊢
      refine x_dup2_11 dX8_wears_75 rfl rfl ?_
      obtain ⟨n, f, hf, hi, h⟩ := h
      refine x_iald dX8_wears_76 hf hi ?_
      generalize f _ = x_9 at h ⊢
      refine x_aload_n 1 dX8_wears_77 rfl rfl ?_
      obtain ⟨fs, hf, a_10, hv, h⟩ := h
      refine x_get dX8_wears_78 xf_X8_37 hf hv ?_
      refine x_iload_n 2 dX8_wears_81 rfl rfl ?_
      obtain ⟨n, f, hf, hi, h⟩ := h
      refine x_iald dX8_wears_82 hf hi ?_
      generalize f _ = x_11 at h ⊢
      obtain ⟨h1, h2⟩ := h
      refine x_if_ne (tgt := 91) dX8_wears_83 (by decide) (fun q => ?_) (fun q => ?_)
      · have h := h1 q
        refine x_aload_n 1 dX8_wears_91 rfl rfl ?_
        obtain ⟨fs, hf, a_12, hv, h⟩ := h
        refine x_get dX8_wears_92 xf_X8_37 hf hv ?_
        refine x_iload_n 2 dX8_wears_95 rfl rfl ?_
        obtain ⟨n, f, hf, hi, h⟩ := h
        refine x_iald dX8_wears_96 hf hi ?_
        generalize f _ = x_13 at h ⊢
        refine x_iconst (v := (1 : Int32)) dX8_wears_97 (by decide) ?_
        obtain ⟨h1, h2⟩ := h
        refine x_icmp_ne (tgt := 106) dX8_wears_98 (by decide) (fun q => ?_) (fun q => ?_)
        · have h := h1 q
          refine x_iconst (v := (5 : Int32)) dX8_wears_106 (by decide) ?_
          refine x_iadd dX8_wears_107 ?_
          obtain ⟨n, f, hf, hi, h⟩ := h
          refine x_iast dX8_wears_108 hf hi ?_
          generalize hT : xup t a_6 _ = t_14 at h ⊢
          clear hT
          refine x_aload_n 1 dX8_wears_109 rfl rfl ?_
          obtain ⟨fs, hf, a_15, hv, h⟩ := h
          refine x_get dX8_wears_110 xf_X8_43 hf hv ?_
          refine x_iload_n 2 dX8_wears_113 rfl rfl ?_
          refine x_dup2_11 dX8_wears_114 rfl rfl ?_
          obtain ⟨n, f, hf, hi, h⟩ := h
          refine x_iald dX8_wears_115 hf hi ?_
          generalize f _ = x_16 at h ⊢
          refine x_iconst (v := (1 : Int32)) dX8_wears_116 (by decide) ?_
          refine x_iadd dX8_wears_117 ?_
          obtain ⟨n, f, hf, hi, h⟩ := h
          refine x_iast dX8_wears_118 hf hi ?_
          generalize hT : xup t_14 a_15 _ = t_17 at h ⊢
          clear hT
          refine x_iinc (v := (x1 + 1)) (L' := [(1, .int (x1 + 1)), (2, .int xs0), (0, .ref a0)]) (j := 2) dX8_wears_119 rfl rfl (by decide) rfl ?_
          refine x_goto (tgt := 2) dX8_wears_122 (by decide) ?_
          refine x_sub (L' := [(0, .ref a0), (1, .int (x1 + 1))]) [2, 0] rfl ?_
          exact hR2 a0 (x1 + 1) t_17 _ _ h
        · have h := h2 q
          refine x_bipush (v := (10 : Int32)) dX8_wears_101 (by decide) ?_
          refine x_goto (tgt := 107) dX8_wears_103 (by decide) ?_
          refine x_iadd dX8_wears_107 ?_
          obtain ⟨n, f, hf, hi, h⟩ := h
          refine x_iast dX8_wears_108 hf hi ?_
          generalize hT : xup t a_6 _ = t_18 at h ⊢
          clear hT
          refine x_aload_n 1 dX8_wears_109 rfl rfl ?_
          obtain ⟨fs, hf, a_19, hv, h⟩ := h
          refine x_get dX8_wears_110 xf_X8_43 hf hv ?_
          refine x_iload_n 2 dX8_wears_113 rfl rfl ?_
          refine x_dup2_11 dX8_wears_114 rfl rfl ?_
          obtain ⟨n, f, hf, hi, h⟩ := h
          refine x_iald dX8_wears_115 hf hi ?_
          generalize f _ = x_20 at h ⊢
          refine x_iconst (v := (1 : Int32)) dX8_wears_116 (by decide) ?_
          refine x_iadd dX8_wears_117 ?_
          obtain ⟨n, f, hf, hi, h⟩ := h
          refine x_iast dX8_wears_118 hf hi ?_
          generalize hT : xup t_18 a_19 _ = t_21 at h ⊢
          clear hT
          refine x_iinc (v := (x1 + 1)) (L' := [(1, .int (x1 + 1)), (2, .int xs0), (0, .ref a0)]) (j := 2) dX8_wears_119 rfl rfl (by decide) rfl ?_
          refine x_goto (tgt := 2) dX8_wears_122 (by decide) ?_
          refine x_sub (L' := [(0, .ref a0), (1, .int (x1 + 1))]) [2, 0] rfl ?_
          exact hR2 a0 (x1 + 1) t_21 _ _ h
      · have h := h2 q
        refine x_bipush (v := (30 : Int32)) dX8_wears_86 (by decide) ?_
        refine x_goto (tgt := 107) dX8_wears_88 (by decide) ?_
        refine x_iadd dX8_wears_107 ?_
        obtain ⟨n, f, hf, hi, h⟩ := h
        refine x_iast dX8_wears_108 hf hi ?_
        generalize hT : xup t a_6 _ = t_22 at h ⊢
        clear hT
        refine x_aload_n 1 dX8_wears_109 rfl rfl ?_
        obtain ⟨fs, hf, a_23, hv, h⟩ := h
        refine x_get dX8_wears_110 xf_X8_43 hf hv ?_
        refine x_iload_n 2 dX8_wears_113 rfl rfl ?_
        refine x_dup2_11 dX8_wears_114 rfl rfl ?_
        obtain ⟨n, f, hf, hi, h⟩ := h
        refine x_iald dX8_wears_115 hf hi ?_
        generalize f _ = x_24 at h ⊢
        refine x_iconst (v := (1 : Int32)) dX8_wears_116 (by decide) ?_
        refine x_iadd dX8_wears_117 ?_
        obtain ⟨n, f, hf, hi, h⟩ := h
        refine x_iast dX8_wears_118 hf hi ?_
        generalize hT : xup t_22 a_23 _ = t_25 at h ⊢
        clear hT
        refine x_iinc (v := (x1 + 1)) (L' := [(1, .int (x1 + 1)), (2, .int xs0), (0, .ref a0)]) (j := 2) dX8_wears_119 rfl rfl (by decide) rfl ?_
        refine x_goto (tgt := 2) dX8_wears_122 (by decide) ?_
        refine x_sub (L' := [(0, .ref a0), (1, .int (x1 + 1))]) [2, 0] rfl ?_
        exact hR2 a0 (x1 + 1) t_25 _ _ h
def VS_X8_wears_2 (R2 : Nat → Int32 → xT → Prop) (K : xT → Prop) (a0 : Nat) (x1 : Int32) (t : xT) : Prop :=
  xgI t a0 8 12 fun x_1 => ((x_1 ≤ x1 → K t) ∧ (¬ x_1 ≤ x1 → xgR t a0 8 14 fun a_2 => xaI 0 t a_2 x1 fun x_3 => ((¬ x_3 = 0 → xgR t a0 8 14 fun a_4 => xaI 0 t a_4 x1 fun x_5 => ((¬ x_5 = (1 : Int32) → V_X8_wears_40 R2 K a0 x1 (30 : Int32) t) ∧ (x_5 = (1 : Int32) → V_X8_wears_40 R2 K a0 x1 (7 : Int32) t))) ∧ (x_3 = 0 → V_X8_wears_40 R2 K a0 x1 (2 : Int32) t))))
def V_X8_wears_2 (K : xT → Prop) (n : Nat) : Nat → Int32 → xT → Prop := Nat.rec (fun _ _ _ => False) (fun _ ih => VS_X8_wears_2 ih K) n
set_option maxRecDepth 20000 in
theorem S_X8_wears_2 {Γ : xΓ} {K : xT → Prop} (hl : (gl Γ).stackTraces = false) (ht : (gM Γ).sig.returnType = none) (hr : xRet Γ (xKv K)) : ∀ (n : Nat) (a0 : Nat) (x1 : Int32) (t : xT) (rc rs : Nat), V_X8_wears_2 K n a0 x1 t → xX Γ k_X8_wears 2 [(0, .ref a0), (1, .int x1)] [] t rc rs := by
  intro n
  induction n with
  | zero =>
    intro a0 x1 t rc rs h
    exact h.elim
  | succ n ih =>
    intro a0 x1 t rc rs h
    replace h : VS_X8_wears_2 (V_X8_wears_2 K n) K a0 x1 t := h
    unfold VS_X8_wears_2 at h
    refine x_iload_n 1 dX8_wears_2 rfl rfl ?_
    refine x_aload_n 0 dX8_wears_3 rfl rfl ?_
    obtain ⟨fs, hf, x_1, hv, h⟩ := h
    refine x_get dX8_wears_4 xf_X8_156 hf hv ?_
    obtain ⟨h1, h2⟩ := h
    refine x_icmp_ge (tgt := 125) dX8_wears_7 (by decide) (fun q => ?_) (fun q => ?_)
    · have h := h1 q
      exact x_vret dX8_wears_125 hr ht ⟨rfl, h⟩
    · have h := h2 q
      refine x_aload_n 0 dX8_wears_10 rfl rfl ?_
      obtain ⟨fs, hf, a_2, hv, h⟩ := h
      refine x_get dX8_wears_11 xf_X8_37 hf hv ?_
      refine x_iload_n 1 dX8_wears_14 rfl rfl ?_
      obtain ⟨n, f, hf, hi, h⟩ := h
      refine x_iald dX8_wears_15 hf hi ?_
      generalize f _ = x_3 at h ⊢
      obtain ⟨h1, h2⟩ := h
      refine x_if_ne (tgt := 23) dX8_wears_16 (by decide) (fun q => ?_) (fun q => ?_)
      · have h := h1 q
        refine x_aload_n 0 dX8_wears_23 rfl rfl ?_
        obtain ⟨fs, hf, a_4, hv, h⟩ := h
        refine x_get dX8_wears_24 xf_X8_37 hf hv ?_
        refine x_iload_n 1 dX8_wears_27 rfl rfl ?_
        obtain ⟨n, f, hf, hi, h⟩ := h
        refine x_iald dX8_wears_28 hf hi ?_
        generalize f _ = x_5 at h ⊢
        refine x_iconst (v := (1 : Int32)) dX8_wears_29 (by decide) ?_
        obtain ⟨h1, h2⟩ := h
        refine x_icmp_ne (tgt := 38) dX8_wears_30 (by decide) (fun q => ?_) (fun q => ?_)
        · have h := h1 q
          refine x_bipush (v := (30 : Int32)) dX8_wears_38 (by decide) ?_
          exact S_X8_wears_40 hl ht hr (fun p0 p1 p2 p3 p4 h => ih p0 p1 p2 p3 p4 h) h
        · have h := h2 q
          refine x_bipush (v := (7 : Int32)) dX8_wears_33 (by decide) ?_
          refine x_goto (tgt := 40) dX8_wears_35 (by decide) ?_
          exact S_X8_wears_40 hl ht hr (fun p0 p1 p2 p3 p4 h => ih p0 p1 p2 p3 p4 h) h
      · have h := h2 q
        refine x_iconst (v := (2 : Int32)) dX8_wears_19 (by decide) ?_
        refine x_goto (tgt := 40) dX8_wears_20 (by decide) ?_
        exact S_X8_wears_40 hl ht hr (fun p0 p1 p2 p3 p4 h => ih p0 p1 p2 p3 p4 h) h
def V_X8_wears_0 (K : xT → Prop) (a0 : Nat) (t : xT) : Prop :=
  ∃ f_1 : Nat, V_X8_wears_2 K f_1 a0 (0 : Int32) t
set_option maxRecDepth 20000 in
theorem S_X8_wears_0 {Γ : xΓ} {K : xT → Prop} (hl : (gl Γ).stackTraces = false) (ht : (gM Γ).sig.returnType = none) (hr : xRet Γ (xKv K)) {a0 : Nat} {t : xT} {rc rs : Nat} (h : V_X8_wears_0 K a0 t) : xX Γ k_X8_wears 0 [(0, .ref a0)] [] t rc rs := by
  unfold V_X8_wears_0 at h
  refine x_iconst (v := (0 : Int32)) dX8_wears_0 (by decide) ?_
  refine x_istore_n (L' := [(1, .int (0 : Int32)), (0, .ref a0)]) dX8_wears_1 rfl (by decide) rfl ?_
  obtain ⟨f_1, h⟩ := h
  refine x_sub (L' := [(0, .ref a0), (1, .int (0 : Int32))]) [1, 0] rfl ?_
  exact S_X8_wears_2 hl ht hr  f_1 a0 (0 : Int32) t _ _ h
theorem M_X8_wears {l : Launch} {G : xG} (hl : l.stackTraces = false) {a0 : Nat} {t : xT} {K : xT → Prop} (h : V_X8_wears_0 K a0 t) : xMet l G yX8_wears k_X8_wears none [.ref a0] t (xKv K) 0 0 := xMet.of (by decide +kernel) rfl hl (Nat.le_of_ble_eq_true rfl) (fun Γ e1 e2 ht hn hr => by subst e1; subst e2; exact S_X8_wears_0 hl ht hr h)
/-! RentStreamModel.pass(I)I -/
def VS_X8_pass_42 (R42 : Nat → Int32 → Int32 → xT → Prop) (K : Int32 → xT → Prop) (a0 : Nat) (x1 : Int32) (x2 : Int32) (t : xT) : Prop :=
  ((x1 ≤ x2 → xgI t a0 8 1 fun x_1 => K x_1 t) ∧ (¬ x1 ≤ x2 → (xis t a0 8 ∧ V_X8_wears_0 (fun t_2 => xgI t_2 a0 8 1 fun x_3 => (xpF t_2 a0 8 1 (.int (x_3 + (1 : Int32))) fun t_4 => xgI t_4 a0 8 1 fun x_5 => (¬ (30 : Int32) = 0 ∧ ((¬ (xrem x_5 (30 : Int32)) = 0 → R42 a0 x1 (x2 + 1) t_4) ∧ ((xrem x_5 (30 : Int32)) = 0 → (xis t_4 a0 8 ∧ V_X8_month_0 (fun x_7 t_6 => (xis t_6 a0 8 ∧ V_X8_ends_0 (fun t_8 => (xis t_8 a0 8 ∧ V_X8_month_0 (fun x_10 t_9 => (xis t_9 a0 8 ∧ V_X8_begins_0 (fun t_11 => R42 a0 x1 (x2 + 1) t_11) a0 x_10 t_9)) a0 t_8)) a0 (x_7 - (1 : Int32)) t_6)) a0 t_4)))))) a0 t)))
def V_X8_pass_42 (K : Int32 → xT → Prop) (n : Nat) : Nat → Int32 → Int32 → xT → Prop := Nat.rec (fun _ _ _ _ => False) (fun _ ih => VS_X8_pass_42 ih K) n
set_option maxRecDepth 20000 in
theorem S_X8_pass_42 {Γ : xΓ} {K : Int32 → xT → Prop} (hl : (gl Γ).stackTraces = false) (ht : (gM Γ).sig.returnType = (some .int)) (hr : xRet Γ (xKi K)) : ∀ (n : Nat) (a0 : Nat) (x1 : Int32) (x2 : Int32) (t : xT) (rc rs : Nat), V_X8_pass_42 K n a0 x1 x2 t → xX Γ k_X8_pass 42 [(0, .ref a0), (1, .int x1), (2, .int x2)] [] t rc rs := by
  intro n
  induction n with
  | zero =>
    intro a0 x1 x2 t rc rs h
    exact h.elim
  | succ n ih =>
    intro a0 x1 x2 t rc rs h
    replace h : VS_X8_pass_42 (V_X8_pass_42 K n) K a0 x1 x2 t := h
    unfold VS_X8_pass_42 at h
    refine x_iload_n 2 dX8_pass_42 rfl rfl ?_
    refine x_iload_n 1 dX8_pass_43 rfl rfl ?_
    obtain ⟨h1, h2⟩ := h
    refine x_icmp_ge (tgt := 95) dX8_pass_44 (by decide) (fun q => ?_) (fun q => ?_)
    · have h := h1 q
      refine x_aload_n 0 dX8_pass_95 rfl rfl ?_
      obtain ⟨fs, hf, x_1, hv, h⟩ := h
      refine x_get dX8_pass_96 xf_X8_126 hf hv ?_
      exact x_zret dX8_pass_99 hr ht rfl ⟨_, rfl, h⟩
    · have h := h2 q
      refine x_aload_n 0 dX8_pass_47 rfl rfl ?_
      obtain ⟨⟨fs, hf⟩, h⟩ := h
      refine x_invV (as := []) (rest := []) dX8_pass_48 (q := (RX8, TX8, 40)) rfl xc_X8_pass_205 hf (M_X8_wears hl h) rfl rfl (Nat.le_of_ble_eq_true rfl) (Nat.zero_le _) (Nat.zero_le _) (xk_v fun t_2 h => ?_)
      refine x_aload_n 0 dX8_pass_51 rfl rfl ?_
      refine x_dup dX8_pass_52 rfl ?_
      obtain ⟨fs, hf, x_3, hv, h⟩ := h
      refine x_get dX8_pass_53 xf_X8_126 hf hv ?_
      refine x_iconst (v := (1 : Int32)) dX8_pass_56 (by decide) ?_
      refine x_iadd dX8_pass_57 ?_
      obtain ⟨fs, hf, hk, h⟩ := h
      refine x_put (v := .int (x_3 + (1 : Int32))) dX8_pass_58 xp_X8_126 hf rfl rfl hk ?_
      generalize hT : xup t_2 a0 _ = t_4 at h ⊢
      clear hT
      refine x_aload_n 0 dX8_pass_61 rfl rfl ?_
      obtain ⟨fs, hf, x_5, hv, h⟩ := h
      refine x_get dX8_pass_62 xf_X8_126 hf hv ?_
      refine x_bipush (v := (30 : Int32)) dX8_pass_65 (by decide) ?_
      obtain ⟨q, h⟩ := h
      refine x_irem dX8_pass_67 q ?_
      obtain ⟨h1, h2⟩ := h
      refine x_if_ne (tgt := 89) dX8_pass_68 (by decide) (fun q => ?_) (fun q => ?_)
      · have h := h1 q
        refine x_iinc (v := (x2 + 1)) (L' := [(2, .int (x2 + 1)), (0, .ref a0), (1, .int x1)]) (j := 2) dX8_pass_89 rfl rfl (by decide) rfl ?_
        refine x_goto (tgt := 42) dX8_pass_92 (by decide) ?_
        refine x_sub (L' := [(0, .ref a0), (1, .int x1), (2, .int (x2 + 1))]) [1, 2, 0] rfl ?_
        exact ih a0 x1 (x2 + 1) t_4 _ _ h
      · have h := h2 q
        refine x_aload_n 0 dX8_pass_71 rfl rfl ?_
        refine x_aload_n 0 dX8_pass_72 rfl rfl ?_
        obtain ⟨⟨fs, hf⟩, h⟩ := h
        refine x_invV (as := []) (rest := [.ref a0]) dX8_pass_73 (q := (RX8, TX8, 40)) rfl xc_X8_pass_129 hf (M_X8_month hl h) rfl rfl (Nat.le_of_ble_eq_true rfl) (Nat.zero_le _) (Nat.zero_le _) (xk_i fun x_7 t_6 h => ?_)
        refine x_iconst (v := (1 : Int32)) dX8_pass_76 (by decide) ?_
        refine x_isub dX8_pass_77 ?_
        obtain ⟨⟨fs, hf⟩, h⟩ := h
        refine x_invV (as := [.int (x_7 - (1 : Int32))]) (rest := []) dX8_pass_78 (q := (RX8, TX8, 40)) rfl xc_X8_pass_208 hf (M_X8_ends hl h) rfl rfl (Nat.le_of_ble_eq_true rfl) (Nat.zero_le _) (Nat.zero_le _) (xk_v fun t_8 h => ?_)
        refine x_aload_n 0 dX8_pass_81 rfl rfl ?_
        refine x_aload_n 0 dX8_pass_82 rfl rfl ?_
        obtain ⟨⟨fs, hf⟩, h⟩ := h
        refine x_invV (as := []) (rest := [.ref a0]) dX8_pass_83 (q := (RX8, TX8, 40)) rfl xc_X8_pass_129 hf (M_X8_month hl h) rfl rfl (Nat.le_of_ble_eq_true rfl) (Nat.zero_le _) (Nat.zero_le _) (xk_i fun x_10 t_9 h => ?_)
        obtain ⟨⟨fs, hf⟩, h⟩ := h
        refine x_invV (as := [.int x_10]) (rest := []) dX8_pass_86 (q := (RX8, TX8, 40)) rfl xc_X8_pass_211 hf (M_X8_begins hl h) rfl rfl (Nat.le_of_ble_eq_true rfl) (Nat.zero_le _) (Nat.zero_le _) (xk_v fun t_11 h => ?_)
        refine x_iinc (v := (x2 + 1)) (L' := [(2, .int (x2 + 1)), (0, .ref a0), (1, .int x1)]) (j := 2) dX8_pass_89 rfl rfl (by decide) rfl ?_
        refine x_goto (tgt := 42) dX8_pass_92 (by decide) ?_
        refine x_sub (L' := [(0, .ref a0), (1, .int x1), (2, .int (x2 + 1))]) [1, 2, 0] rfl ?_
        exact ih a0 x1 (x2 + 1) t_11 _ _ h
def V_X8_pass_0 (K : Int32 → xT → Prop) (a0 : Nat) (x1 : Int32) (t : xT) : Prop :=
  (V_X8_in_0 (fun x_2 t_1 => ((¬ x_2 = 0 → xgI t_1 a0 8 1 fun x_3 => (((x_3 + x1) ≤ (3600 : Int32) → (xis t_1 a0 8 ∧ V_X8_holds_0 (fun x_5 t_4 => ((¬ x_5 = 0 → ∃ f_6 : Nat, V_X8_pass_42 K f_6 a0 x1 (0 : Int32) t_4) ∧ (x_5 = 0 → K (0 : Int32) t_4))) a0 (0 : Int32) t_1)) ∧ (¬ (x_3 + x1) ≤ (3600 : Int32) → (xis t_1 a0 8 ∧ V_X8_holds_0 (fun x_8 t_7 => ((¬ x_8 = 0 → ∃ f_9 : Nat, V_X8_pass_42 K f_9 a0 x1 (0 : Int32) t_7) ∧ (x_8 = 0 → K (0 : Int32) t_7))) a0 (2 : Int32) t_1)))) ∧ (x_2 = 0 → (xis t_1 a0 8 ∧ V_X8_holds_0 (fun x_11 t_10 => ((¬ x_11 = 0 → ∃ f_12 : Nat, V_X8_pass_42 K f_12 a0 x1 (0 : Int32) t_10) ∧ (x_11 = 0 → K (0 : Int32) t_10))) a0 (1 : Int32) t_1)))) x1 (1 : Int32) (60 : Int32) t)
set_option maxRecDepth 20000 in
theorem S_X8_pass_0 {Γ : xΓ} {K : Int32 → xT → Prop} (hl : (gl Γ).stackTraces = false) (ht : (gM Γ).sig.returnType = (some .int)) (hr : xRet Γ (xKi K)) {a0 : Nat} {x1 : Int32} {t : xT} {rc rs : Nat} (h : V_X8_pass_0 K a0 x1 t) : xX Γ k_X8_pass 0 [(0, .ref a0), (1, .int x1)] [] t rc rs := by
  unfold V_X8_pass_0 at h
  refine x_aload_n 0 dX8_pass_0 rfl rfl ?_
  refine x_iload_n 1 dX8_pass_1 rfl rfl ?_
  refine x_iconst (v := (1 : Int32)) dX8_pass_2 (by decide) ?_
  refine x_bipush (v := (60 : Int32)) dX8_pass_3 (by decide) ?_
  refine x_invS (as := [.int x1, .int (1 : Int32), .int (60 : Int32)]) (rest := [.ref a0]) dX8_pass_5 xc_X8_pass_119 (M_X8_in hl h) rfl rfl (Nat.le_of_ble_eq_true rfl) (Nat.zero_le _) (Nat.zero_le _) (xk_i fun x_2 t_1 h => ?_)
  obtain ⟨h1, h2⟩ := h
  refine x_if_ne (tgt := 15) dX8_pass_8 (by decide) (fun q => ?_) (fun q => ?_)
  · have h := h1 q
    refine x_aload_n 0 dX8_pass_15 rfl rfl ?_
    obtain ⟨fs, hf, x_3, hv, h⟩ := h
    refine x_get dX8_pass_16 xf_X8_126 hf hv ?_
    refine x_iload_n 1 dX8_pass_19 rfl rfl ?_
    refine x_iadd dX8_pass_20 ?_
    refine x_sipush (v := (3600 : Int32)) dX8_pass_21 (by decide) ?_
    obtain ⟨h1, h2⟩ := h
    refine x_icmp_le (tgt := 31) dX8_pass_24 (by decide) (fun q => ?_) (fun q => ?_)
    · have h := h1 q
      refine x_iconst (v := (0 : Int32)) dX8_pass_31 (by decide) ?_
      obtain ⟨⟨fs, hf⟩, h⟩ := h
      refine x_invV (as := [.int (0 : Int32)]) (rest := []) dX8_pass_32 (q := (RX8, TX8, 40)) rfl xc_X8_pass_133 hf (M_X8_holds hl h) rfl rfl (Nat.le_of_ble_eq_true rfl) (Nat.zero_le _) (Nat.zero_le _) (xk_i fun x_5 t_4 h => ?_)
      obtain ⟨h1, h2⟩ := h
      refine x_if_ne (tgt := 40) dX8_pass_35 (by decide) (fun q => ?_) (fun q => ?_)
      · have h := h1 q
        refine x_iconst (v := (0 : Int32)) dX8_pass_40 (by decide) ?_
        refine x_istore_n (L' := [(2, .int (0 : Int32)), (0, .ref a0), (1, .int x1)]) dX8_pass_41 rfl (by decide) rfl ?_
        obtain ⟨f_6, h⟩ := h
        refine x_sub (L' := [(0, .ref a0), (1, .int x1), (2, .int (0 : Int32))]) [1, 2, 0] rfl ?_
        exact S_X8_pass_42 hl ht hr  f_6 a0 x1 (0 : Int32) t_4 _ _ h
      · have h := h2 q
        refine x_iconst (v := (0 : Int32)) dX8_pass_38 (by decide) ?_
        exact x_zret dX8_pass_39 hr ht rfl ⟨_, rfl, h⟩
    · have h := h2 q
      refine x_iconst (v := (2 : Int32)) dX8_pass_27 (by decide) ?_
      refine x_goto (tgt := 32) dX8_pass_28 (by decide) ?_
      obtain ⟨⟨fs, hf⟩, h⟩ := h
      refine x_invV (as := [.int (2 : Int32)]) (rest := []) dX8_pass_32 (q := (RX8, TX8, 40)) rfl xc_X8_pass_133 hf (M_X8_holds hl h) rfl rfl (Nat.le_of_ble_eq_true rfl) (Nat.zero_le _) (Nat.zero_le _) (xk_i fun x_8 t_7 h => ?_)
      obtain ⟨h1, h2⟩ := h
      refine x_if_ne (tgt := 40) dX8_pass_35 (by decide) (fun q => ?_) (fun q => ?_)
      · have h := h1 q
        refine x_iconst (v := (0 : Int32)) dX8_pass_40 (by decide) ?_
        refine x_istore_n (L' := [(2, .int (0 : Int32)), (0, .ref a0), (1, .int x1)]) dX8_pass_41 rfl (by decide) rfl ?_
        obtain ⟨f_9, h⟩ := h
        refine x_sub (L' := [(0, .ref a0), (1, .int x1), (2, .int (0 : Int32))]) [1, 2, 0] rfl ?_
        exact S_X8_pass_42 hl ht hr  f_9 a0 x1 (0 : Int32) t_7 _ _ h
      · have h := h2 q
        refine x_iconst (v := (0 : Int32)) dX8_pass_38 (by decide) ?_
        exact x_zret dX8_pass_39 hr ht rfl ⟨_, rfl, h⟩
  · have h := h2 q
    refine x_iconst (v := (1 : Int32)) dX8_pass_11 (by decide) ?_
    refine x_goto (tgt := 32) dX8_pass_12 (by decide) ?_
    obtain ⟨⟨fs, hf⟩, h⟩ := h
    refine x_invV (as := [.int (1 : Int32)]) (rest := []) dX8_pass_32 (q := (RX8, TX8, 40)) rfl xc_X8_pass_133 hf (M_X8_holds hl h) rfl rfl (Nat.le_of_ble_eq_true rfl) (Nat.zero_le _) (Nat.zero_le _) (xk_i fun x_11 t_10 h => ?_)
    obtain ⟨h1, h2⟩ := h
    refine x_if_ne (tgt := 40) dX8_pass_35 (by decide) (fun q => ?_) (fun q => ?_)
    · have h := h1 q
      refine x_iconst (v := (0 : Int32)) dX8_pass_40 (by decide) ?_
      refine x_istore_n (L' := [(2, .int (0 : Int32)), (0, .ref a0), (1, .int x1)]) dX8_pass_41 rfl (by decide) rfl ?_
      obtain ⟨f_12, h⟩ := h
      refine x_sub (L' := [(0, .ref a0), (1, .int x1), (2, .int (0 : Int32))]) [1, 2, 0] rfl ?_
      exact S_X8_pass_42 hl ht hr  f_12 a0 x1 (0 : Int32) t_10 _ _ h
    · have h := h2 q
      refine x_iconst (v := (0 : Int32)) dX8_pass_38 (by decide) ?_
      exact x_zret dX8_pass_39 hr ht rfl ⟨_, rfl, h⟩
theorem M_X8_pass {l : Launch} {G : xG} (hl : l.stackTraces = false) {a0 : Nat} {x1 : Int32} {t : xT} {K : Int32 → xT → Prop} (h : V_X8_pass_0 K a0 x1 t) : xMet l G yX8_pass k_X8_pass (some .int) [.ref a0, .int x1] t (xKi K) 0 0 := xMet.of (by decide +kernel) rfl hl (Nat.le_of_ble_eq_true rfl) (fun Γ e1 e2 ht hn hr => by subst e1; subst e2; exact S_X8_pass_0 hl ht hr h)
/-! RentStreamModel.pay(II)J -/
def V_X8_pay_28 (K : Int64 → xT → Prop) (a0 : Nat) (x1 : Int32) (x2 : Int32) (xs0 : Int32) (as1 : Nat) (t : xT) : Prop :=
  (xis t as1 8 ∧ V_X8_holds_0 (fun x_2 t_1 => ((¬ x_2 = 0 → xgR t_1 a0 8 23 fun a_3 => xaJ t_1 a_3 x1 fun y_4 => xsJ t_1 a_3 x1 (y_4 - x2.toInt64) fun t_5 => xgR t_5 a0 8 23 fun a_6 => xaJ t_5 a_6 x1 fun y_7 => K y_7 t_5) ∧ (x_2 = 0 → K (0 : Int64) t_1))) as1 xs0 t)
set_option maxRecDepth 20000 in
theorem S_X8_pay_28 {Γ : xΓ} {K : Int64 → xT → Prop} (hl : (gl Γ).stackTraces = false) (ht : (gM Γ).sig.returnType = (some .long)) (hr : xRet Γ (xKl K)) {a0 : Nat} {x1 : Int32} {x2 : Int32} {xs0 : Int32} {as1 : Nat} {t : xT} {rc rs : Nat} (h : V_X8_pay_28 K a0 x1 x2 xs0 as1 t) : xX Γ k_X8_pay 28 [(0, .ref a0), (1, .int x1), (2, .int x2)] [.int xs0, .ref as1] t rc rs := by
  unfold V_X8_pay_28 at h
  obtain ⟨⟨fs, hf⟩, h⟩ := h
  refine x_invV (as := [.int xs0]) (rest := []) dX8_pay_28 (q := (RX8, TX8, 40)) rfl xc_X8_pay_133 hf (M_X8_holds hl h) rfl rfl (Nat.le_of_ble_eq_true rfl) (Nat.zero_le _) (Nat.zero_le _) (xk_i fun x_2 t_1 h => ?_)
  obtain ⟨h1, h2⟩ := h
  refine x_if_ne (tgt := 36) dX8_pay_31 (by decide) (fun q => ?_) (fun q => ?_)
  · have h := h1 q
    refine x_aload_n 0 dX8_pay_36 rfl rfl ?_
    obtain ⟨fs, hf, a_3, hv, h⟩ := h
    refine x_get dX8_pay_37 xf_X8_62 hf hv ?_
    refine x_iload_n 1 dX8_pay_40 rfl rfl ?_
    refine x_dup2_11 dX8_pay_41 rfl rfl ?_
    obtain ⟨n, f, hf, hi, h⟩ := h
    refine x_lald dX8_pay_42 hf hi ?_
    generalize f _ = y_4 at h ⊢
    refine x_iload_n 2 dX8_pay_43 rfl rfl ?_
    refine x_i2l dX8_pay_44 ?_
    refine x_lsub dX8_pay_45 ?_
    obtain ⟨n, f, hf, hi, h⟩ := h
    refine x_last dX8_pay_46 hf hi ?_
    generalize hT : xup t_1 a_3 _ = t_5 at h ⊢
    clear hT
    refine x_aload_n 0 dX8_pay_47 rfl rfl ?_
    obtain ⟨fs, hf, a_6, hv, h⟩ := h
    refine x_get dX8_pay_48 xf_X8_62 hf hv ?_
    refine x_iload_n 1 dX8_pay_51 rfl rfl ?_
    obtain ⟨n, f, hf, hi, h⟩ := h
    refine x_lald dX8_pay_52 hf hi ?_
    generalize f _ = y_7 at h ⊢
    exact x_lret dX8_pay_53 hr ht ⟨_, rfl, h⟩
  · have h := h2 q
    refine x_lconst (v := (0 : Int64)) dX8_pay_34 (by decide) ?_
    exact x_lret dX8_pay_35 hr ht ⟨_, rfl, h⟩
def V_X8_pay_0 (K : Int64 → xT → Prop) (a0 : Nat) (x1 : Int32) (x2 : Int32) (t : xT) : Prop :=
  (xis t a0 8 ∧ V_X8_isLease_0 (fun x_2 t_1 => ((¬ x_2 = 0 → (V_X8_in_0 (fun x_4 t_3 => ((x_4 = 0 → V_X8_pay_28 K a0 x1 x2 (2 : Int32) a0 t_3) ∧ (¬ x_4 = 0 → V_X8_pay_28 K a0 x1 x2 (0 : Int32) a0 t_3))) x2 (1 : Int32) (1000000 : Int32) t_1)) ∧ (x_2 = 0 → V_X8_pay_28 K a0 x1 x2 (1 : Int32) a0 t_1))) a0 x1 t)
set_option maxRecDepth 20000 in
theorem S_X8_pay_0 {Γ : xΓ} {K : Int64 → xT → Prop} (hl : (gl Γ).stackTraces = false) (ht : (gM Γ).sig.returnType = (some .long)) (hr : xRet Γ (xKl K)) {a0 : Nat} {x1 : Int32} {x2 : Int32} {t : xT} {rc rs : Nat} (h : V_X8_pay_0 K a0 x1 x2 t) : xX Γ k_X8_pay 0 [(0, .ref a0), (1, .int x1), (2, .int x2)] [] t rc rs := by
  unfold V_X8_pay_0 at h
  refine x_aload_n 0 dX8_pay_0 rfl rfl ?_
  refine x_aload_n 0 dX8_pay_1 rfl rfl ?_
  refine x_iload_n 1 dX8_pay_2 rfl rfl ?_
  obtain ⟨⟨fs, hf⟩, h⟩ := h
  refine x_invV (as := [.int x1]) (rest := [.ref a0]) dX8_pay_3 (q := (RX8, TX8, 40)) rfl xc_X8_pay_148 hf (M_X8_isLease hl h) rfl rfl (Nat.le_of_ble_eq_true rfl) (Nat.zero_le _) (Nat.zero_le _) (xk_i fun x_2 t_1 h => ?_)
  obtain ⟨h1, h2⟩ := h
  refine x_if_ne (tgt := 13) dX8_pay_6 (by decide) (fun q => ?_) (fun q => ?_)
  · have h := h1 q
    refine x_iload_n 2 dX8_pay_13 rfl rfl ?_
    refine x_iconst (v := (1 : Int32)) dX8_pay_14 (by decide) ?_
    refine x_ldc dX8_pay_15 xw1391 ?_
    refine x_invS (as := [.int x2, .int (1 : Int32), .int (1000000 : Int32)]) (rest := [.ref a0]) dX8_pay_17 xc_X8_pay_119 (M_X8_in hl h) rfl rfl (Nat.le_of_ble_eq_true rfl) (Nat.zero_le _) (Nat.zero_le _) (xk_i fun x_4 t_3 h => ?_)
    obtain ⟨h1, h2⟩ := h
    refine x_if_eq (tgt := 27) dX8_pay_20 (by decide) (fun q => ?_) (fun q => ?_)
    · have h := h1 q
      refine x_iconst (v := (2 : Int32)) dX8_pay_27 (by decide) ?_
      exact S_X8_pay_28 hl ht hr  h
    · have h := h2 q
      refine x_iconst (v := (0 : Int32)) dX8_pay_23 (by decide) ?_
      refine x_goto (tgt := 28) dX8_pay_24 (by decide) ?_
      exact S_X8_pay_28 hl ht hr  h
  · have h := h2 q
    refine x_iconst (v := (1 : Int32)) dX8_pay_9 (by decide) ?_
    refine x_goto (tgt := 28) dX8_pay_10 (by decide) ?_
    exact S_X8_pay_28 hl ht hr  h
theorem M_X8_pay {l : Launch} {G : xG} (hl : l.stackTraces = false) {a0 : Nat} {x1 : Int32} {x2 : Int32} {t : xT} {K : Int64 → xT → Prop} (h : V_X8_pay_0 K a0 x1 x2 t) : xMet l G yX8_pay k_X8_pay (some .long) [.ref a0, .int x1, .int x2] t (xKl K) 0 0 := xMet.of (by decide +kernel) rfl hl (Nat.le_of_ble_eq_true rfl) (fun Γ e1 e2 ht hn hr => by subst e1; subst e2; exact S_X8_pay_0 hl ht hr h)
/-! RentStreamModel.plan(II)J -/
def V_X8_plan_55 (K : Int64 → xT → Prop) (a0 : Nat) (x1 : Int32) (x2 : Int32) (xs0 : Int32) (as1 : Nat) (t : xT) : Prop :=
  (xis t as1 8 ∧ V_X8_holds_0 (fun x_2 t_1 => ((¬ x_2 = 0 → xgR t_1 a0 8 31 fun a_3 => xsI 0 t_1 a_3 x1 (1 : Int32) fun t_4 => xgR t_4 a0 8 32 fun a_5 => xgR t_4 a0 8 23 fun a_6 => xaJ t_4 a_6 x1 fun y_7 => xsJ t_4 a_5 x1 y_7 fun t_8 => xgR t_8 a0 8 33 fun a_9 => xgR t_8 a0 8 23 fun a_10 => xaJ t_8 a_10 x1 fun y_11 => (¬ x2.toInt64 = 0 ∧ xsJ t_8 a_9 x1 (((y_11 + x2.toInt64) - (1 : Int64)) / x2.toInt64) fun t_12 => xgR t_12 a0 8 34 fun a_13 => xsI 0 t_12 a_13 x1 (0 : Int32) fun t_14 => xgR t_14 a0 8 33 fun a_15 => xaJ t_14 a_15 x1 fun y_16 => K y_16 t_14)) ∧ (x_2 = 0 → K (0 : Int64) t_1))) as1 xs0 t)
set_option maxRecDepth 20000 in
theorem S_X8_plan_55 {Γ : xΓ} {K : Int64 → xT → Prop} (hl : (gl Γ).stackTraces = false) (ht : (gM Γ).sig.returnType = (some .long)) (hr : xRet Γ (xKl K)) {a0 : Nat} {x1 : Int32} {x2 : Int32} {xs0 : Int32} {as1 : Nat} {t : xT} {rc rs : Nat} (h : V_X8_plan_55 K a0 x1 x2 xs0 as1 t) : xX Γ k_X8_plan 55 [(0, .ref a0), (1, .int x1), (2, .int x2)] [.int xs0, .ref as1] t rc rs := by
  unfold V_X8_plan_55 at h
  obtain ⟨⟨fs, hf⟩, h⟩ := h
  refine x_invV (as := [.int xs0]) (rest := []) dX8_plan_55 (q := (RX8, TX8, 40)) rfl xc_X8_plan_133 hf (M_X8_holds hl h) rfl rfl (Nat.le_of_ble_eq_true rfl) (Nat.zero_le _) (Nat.zero_le _) (xk_i fun x_2 t_1 h => ?_)
  obtain ⟨h1, h2⟩ := h
  refine x_if_ne (tgt := 63) dX8_plan_58 (by decide) (fun q => ?_) (fun q => ?_)
  · have h := h1 q
    refine x_aload_n 0 dX8_plan_63 rfl rfl ?_
    obtain ⟨fs, hf, a_3, hv, h⟩ := h
    refine x_get dX8_plan_64 xf_X8_87 hf hv ?_
    refine x_iload_n 1 dX8_plan_67 rfl rfl ?_
    refine x_iconst (v := (1 : Int32)) dX8_plan_68 (by decide) ?_
    obtain ⟨n, f, hf, hi, h⟩ := h
    refine x_iast dX8_plan_69 hf hi ?_
    generalize hT : xup t_1 a_3 _ = t_4 at h ⊢
    clear hT
    refine x_aload_n 0 dX8_plan_70 rfl rfl ?_
    obtain ⟨fs, hf, a_5, hv, h⟩ := h
    refine x_get dX8_plan_71 xf_X8_90 hf hv ?_
    refine x_iload_n 1 dX8_plan_74 rfl rfl ?_
    refine x_aload_n 0 dX8_plan_75 rfl rfl ?_
    obtain ⟨fs, hf, a_6, hv, h⟩ := h
    refine x_get dX8_plan_76 xf_X8_62 hf hv ?_
    refine x_iload_n 1 dX8_plan_79 rfl rfl ?_
    obtain ⟨n, f, hf, hi, h⟩ := h
    refine x_lald dX8_plan_80 hf hi ?_
    generalize f _ = y_7 at h ⊢
    obtain ⟨n, f, hf, hi, h⟩ := h
    refine x_last dX8_plan_81 hf hi ?_
    generalize hT : xup t_4 a_5 _ = t_8 at h ⊢
    clear hT
    refine x_aload_n 0 dX8_plan_82 rfl rfl ?_
    obtain ⟨fs, hf, a_9, hv, h⟩ := h
    refine x_get dX8_plan_83 xf_X8_93 hf hv ?_
    refine x_iload_n 1 dX8_plan_86 rfl rfl ?_
    refine x_aload_n 0 dX8_plan_87 rfl rfl ?_
    obtain ⟨fs, hf, a_10, hv, h⟩ := h
    refine x_get dX8_plan_88 xf_X8_62 hf hv ?_
    refine x_iload_n 1 dX8_plan_91 rfl rfl ?_
    obtain ⟨n, f, hf, hi, h⟩ := h
    refine x_lald dX8_plan_92 hf hi ?_
    generalize f _ = y_11 at h ⊢
    refine x_iload_n 2 dX8_plan_93 rfl rfl ?_
    refine x_i2l dX8_plan_94 ?_
    refine x_ladd dX8_plan_95 ?_
    refine x_lconst (v := (1 : Int64)) dX8_plan_96 (by decide) ?_
    refine x_lsub dX8_plan_97 ?_
    refine x_iload_n 2 dX8_plan_98 rfl rfl ?_
    refine x_i2l dX8_plan_99 ?_
    obtain ⟨q, h⟩ := h
    refine x_ldiv dX8_plan_100 q ?_
    obtain ⟨n, f, hf, hi, h⟩ := h
    refine x_last dX8_plan_101 hf hi ?_
    generalize hT : xup t_8 a_9 _ = t_12 at h ⊢
    clear hT
    refine x_aload_n 0 dX8_plan_102 rfl rfl ?_
    obtain ⟨fs, hf, a_13, hv, h⟩ := h
    refine x_get dX8_plan_103 xf_X8_96 hf hv ?_
    refine x_iload_n 1 dX8_plan_106 rfl rfl ?_
    refine x_iconst (v := (0 : Int32)) dX8_plan_107 (by decide) ?_
    obtain ⟨n, f, hf, hi, h⟩ := h
    refine x_iast dX8_plan_108 hf hi ?_
    generalize hT : xup t_12 a_13 _ = t_14 at h ⊢
    clear hT
    refine x_aload_n 0 dX8_plan_109 rfl rfl ?_
    obtain ⟨fs, hf, a_15, hv, h⟩ := h
    refine x_get dX8_plan_110 xf_X8_93 hf hv ?_
    refine x_iload_n 1 dX8_plan_113 rfl rfl ?_
    obtain ⟨n, f, hf, hi, h⟩ := h
    refine x_lald dX8_plan_114 hf hi ?_
    generalize f _ = y_16 at h ⊢
    exact x_lret dX8_plan_115 hr ht ⟨_, rfl, h⟩
  · have h := h2 q
    refine x_lconst (v := (0 : Int64)) dX8_plan_61 (by decide) ?_
    exact x_lret dX8_plan_62 hr ht ⟨_, rfl, h⟩
def V_X8_plan_0 (K : Int64 → xT → Prop) (a0 : Nat) (x1 : Int32) (x2 : Int32) (t : xT) : Prop :=
  (xis t a0 8 ∧ V_X8_isLease_0 (fun x_2 t_1 => ((¬ x_2 = 0 → (V_X8_in_0 (fun x_4 t_3 => ((¬ x_4 = 0 → xgR t_3 a0 8 31 fun a_5 => xaI 0 t_3 a_5 x1 fun x_6 => ((x_6 = (1 : Int32) → V_X8_plan_55 K a0 x1 x2 (3 : Int32) a0 t_3) ∧ (¬ x_6 = (1 : Int32) → xgR t_3 a0 8 23 fun a_7 => xaJ t_3 a_7 x1 fun y_8 => (((0 : Int64) < y_8 → V_X8_plan_55 K a0 x1 x2 (0 : Int32) a0 t_3) ∧ (¬ (0 : Int64) < y_8 → V_X8_plan_55 K a0 x1 x2 (3 : Int32) a0 t_3))))) ∧ (x_4 = 0 → V_X8_plan_55 K a0 x1 x2 (2 : Int32) a0 t_3))) x2 (1 : Int32) (12 : Int32) t_1)) ∧ (x_2 = 0 → V_X8_plan_55 K a0 x1 x2 (1 : Int32) a0 t_1))) a0 x1 t)
set_option maxRecDepth 20000 in
theorem S_X8_plan_0 {Γ : xΓ} {K : Int64 → xT → Prop} (hl : (gl Γ).stackTraces = false) (ht : (gM Γ).sig.returnType = (some .long)) (hr : xRet Γ (xKl K)) {a0 : Nat} {x1 : Int32} {x2 : Int32} {t : xT} {rc rs : Nat} (h : V_X8_plan_0 K a0 x1 x2 t) : xX Γ k_X8_plan 0 [(0, .ref a0), (1, .int x1), (2, .int x2)] [] t rc rs := by
  unfold V_X8_plan_0 at h
  refine x_aload_n 0 dX8_plan_0 rfl rfl ?_
  refine x_iload_n 1 dX8_plan_1 rfl rfl ?_
  obtain ⟨⟨fs, hf⟩, h⟩ := h
  refine x_invV (as := [.int x1]) (rest := []) dX8_plan_2 (q := (RX8, TX8, 40)) rfl xc_X8_plan_148 hf (M_X8_isLease hl h) rfl rfl (Nat.le_of_ble_eq_true rfl) (Nat.zero_le _) (Nat.zero_le _) (xk_i fun x_2 t_1 h => ?_)
  refine x_istore_n (L' := [(3, .int x_2), (0, .ref a0), (1, .int x1), (2, .int x2)]) dX8_plan_5 rfl (by decide) rfl ?_
  refine x_aload_n 1 dX8_plan_6 rfl rfl ?_
  refine x_iload_n 0 dX8_plan_7 rfl rfl ?_
  obtain ⟨h1, h2⟩ := h
  refine x_if_ne (tgt := 15) dX8_plan_8 (by decide) (fun q => ?_) (fun q => ?_)
  · have h := h1 q
    refine x_iload_n 3 dX8_plan_15 rfl rfl ?_
    refine x_iconst (v := (1 : Int32)) dX8_plan_16 (by decide) ?_
    refine x_bipush (v := (12 : Int32)) dX8_plan_17 (by decide) ?_
    refine x_invS (as := [.int x2, .int (1 : Int32), .int (12 : Int32)]) (rest := [.ref a0]) dX8_plan_19 xc_X8_plan_119 (M_X8_in hl h) rfl rfl (Nat.le_of_ble_eq_true rfl) (Nat.zero_le _) (Nat.zero_le _) (xk_i fun x_4 t_3 h => ?_)
    obtain ⟨h1, h2⟩ := h
    refine x_if_ne (tgt := 29) dX8_plan_22 (by decide) (fun q => ?_) (fun q => ?_)
    · have h := h1 q
      refine x_aload_n 1 dX8_plan_29 rfl rfl ?_
      obtain ⟨fs, hf, a_5, hv, h⟩ := h
      refine x_get dX8_plan_30 xf_X8_87 hf hv ?_
      refine x_iload_n 2 dX8_plan_33 rfl rfl ?_
      obtain ⟨n, f, hf, hi, h⟩ := h
      refine x_iald dX8_plan_34 hf hi ?_
      generalize f _ = x_6 at h ⊢
      refine x_iconst (v := (1 : Int32)) dX8_plan_35 (by decide) ?_
      obtain ⟨h1, h2⟩ := h
      refine x_icmp_eq (tgt := 50) dX8_plan_36 (by decide) (fun q => ?_) (fun q => ?_)
      · have h := h1 q
        refine x_iconst (v := (3 : Int32)) dX8_plan_50 (by decide) ?_
        refine x_goto (tgt := 55) dX8_plan_51 (by decide) ?_
        refine x_sub (L' := [(0, .ref a0), (1, .int x1), (2, .int x2)]) [1, 2, 3] rfl ?_
        exact S_X8_plan_55 hl ht hr  h
      · have h := h2 q
        refine x_aload_n 1 dX8_plan_39 rfl rfl ?_
        obtain ⟨fs, hf, a_7, hv, h⟩ := h
        refine x_get dX8_plan_40 xf_X8_62 hf hv ?_
        refine x_iload_n 2 dX8_plan_43 rfl rfl ?_
        obtain ⟨n, f, hf, hi, h⟩ := h
        refine x_lald dX8_plan_44 hf hi ?_
        generalize f _ = y_8 at h ⊢
        refine x_lconst (v := (0 : Int64)) dX8_plan_45 (by decide) ?_
        obtain ⟨h1, h2⟩ := h
        refine x_lcmp_gt (tgt := 54) dX8_plan_46 dX8_plan_47 (by decide) (fun q => ?_) (fun q => ?_)
        · have h := h1 q
          refine x_iconst (v := (0 : Int32)) dX8_plan_54 (by decide) ?_
          refine x_sub (L' := [(0, .ref a0), (1, .int x1), (2, .int x2)]) [1, 2, 3] rfl ?_
          exact S_X8_plan_55 hl ht hr  h
        · have h := h2 q
          refine x_iconst (v := (3 : Int32)) dX8_plan_50 (by decide) ?_
          refine x_goto (tgt := 55) dX8_plan_51 (by decide) ?_
          refine x_sub (L' := [(0, .ref a0), (1, .int x1), (2, .int x2)]) [1, 2, 3] rfl ?_
          exact S_X8_plan_55 hl ht hr  h
    · have h := h2 q
      refine x_iconst (v := (2 : Int32)) dX8_plan_25 (by decide) ?_
      refine x_goto (tgt := 55) dX8_plan_26 (by decide) ?_
      refine x_sub (L' := [(0, .ref a0), (1, .int x1), (2, .int x2)]) [1, 2, 3] rfl ?_
      exact S_X8_plan_55 hl ht hr  h
  · have h := h2 q
    refine x_iconst (v := (1 : Int32)) dX8_plan_11 (by decide) ?_
    refine x_goto (tgt := 55) dX8_plan_12 (by decide) ?_
    refine x_sub (L' := [(0, .ref a0), (1, .int x1), (2, .int x2)]) [1, 2, 3] rfl ?_
    exact S_X8_plan_55 hl ht hr  h
theorem M_X8_plan {l : Launch} {G : xG} (hl : l.stackTraces = false) {a0 : Nat} {x1 : Int32} {x2 : Int32} {t : xT} {K : Int64 → xT → Prop} (h : V_X8_plan_0 K a0 x1 x2 t) : xMet l G yX8_plan k_X8_plan (some .long) [.ref a0, .int x1, .int x2] t (xKl K) 0 0 := xMet.of (by decide +kernel) rfl hl (Nat.le_of_ble_eq_true rfl) (fun Γ e1 e2 ht hn hr => by subst e1; subst e2; exact S_X8_plan_0 hl ht hr h)
/-! RentStreamModel.planOf(I)I -/
def V_X8_planOf_0 (K : Int32 → xT → Prop) (a0 : Nat) (x1 : Int32) (t : xT) : Prop :=
  (xis t a0 8 ∧ V_X8_isLease_0 (fun x_2 t_1 => ((x_2 = 0 → (xis t_1 a0 8 ∧ V_X8_holds_0 (fun x_4 t_3 => ((x_4 = 0 → K (0 : Int32) t_3) ∧ (¬ x_4 = 0 → xgR t_3 a0 8 31 fun a_5 => xaI 0 t_3 a_5 x1 fun x_6 => K x_6 t_3))) a0 (1 : Int32) t_1)) ∧ (¬ x_2 = 0 → (xis t_1 a0 8 ∧ V_X8_holds_0 (fun x_8 t_7 => ((x_8 = 0 → K (0 : Int32) t_7) ∧ (¬ x_8 = 0 → xgR t_7 a0 8 31 fun a_9 => xaI 0 t_7 a_9 x1 fun x_10 => K x_10 t_7))) a0 (0 : Int32) t_1)))) a0 x1 t)
set_option maxRecDepth 20000 in
theorem S_X8_planOf_0 {Γ : xΓ} {K : Int32 → xT → Prop} (hl : (gl Γ).stackTraces = false) (ht : (gM Γ).sig.returnType = (some .int)) (hr : xRet Γ (xKi K)) {a0 : Nat} {x1 : Int32} {t : xT} {rc rs : Nat} (h : V_X8_planOf_0 K a0 x1 t) : xX Γ k_X8_planOf 0 [(0, .ref a0), (1, .int x1)] [] t rc rs := by
  unfold V_X8_planOf_0 at h
  refine x_aload_n 0 dX8_planOf_0 rfl rfl ?_
  refine x_aload_n 0 dX8_planOf_1 rfl rfl ?_
  refine x_iload_n 1 dX8_planOf_2 rfl rfl ?_
  obtain ⟨⟨fs, hf⟩, h⟩ := h
  refine x_invV (as := [.int x1]) (rest := [.ref a0]) dX8_planOf_3 (q := (RX8, TX8, 40)) rfl xc_X8_planOf_148 hf (M_X8_isLease hl h) rfl rfl (Nat.le_of_ble_eq_true rfl) (Nat.zero_le _) (Nat.zero_le _) (xk_i fun x_2 t_1 h => ?_)
  obtain ⟨h1, h2⟩ := h
  refine x_if_eq (tgt := 13) dX8_planOf_6 (by decide) (fun q => ?_) (fun q => ?_)
  · have h := h1 q
    refine x_iconst (v := (1 : Int32)) dX8_planOf_13 (by decide) ?_
    obtain ⟨⟨fs, hf⟩, h⟩ := h
    refine x_invV (as := [.int (1 : Int32)]) (rest := []) dX8_planOf_14 (q := (RX8, TX8, 40)) rfl xc_X8_planOf_133 hf (M_X8_holds hl h) rfl rfl (Nat.le_of_ble_eq_true rfl) (Nat.zero_le _) (Nat.zero_le _) (xk_i fun x_4 t_3 h => ?_)
    obtain ⟨h1, h2⟩ := h
    refine x_if_eq (tgt := 29) dX8_planOf_17 (by decide) (fun q => ?_) (fun q => ?_)
    · have h := h1 q
      refine x_iconst (v := (0 : Int32)) dX8_planOf_29 (by decide) ?_
      exact x_zret dX8_planOf_30 hr ht rfl ⟨_, rfl, h⟩
    · have h := h2 q
      refine x_aload_n 0 dX8_planOf_20 rfl rfl ?_
      obtain ⟨fs, hf, a_5, hv, h⟩ := h
      refine x_get dX8_planOf_21 xf_X8_87 hf hv ?_
      refine x_iload_n 1 dX8_planOf_24 rfl rfl ?_
      obtain ⟨n, f, hf, hi, h⟩ := h
      refine x_iald dX8_planOf_25 hf hi ?_
      generalize f _ = x_6 at h ⊢
      refine x_goto (tgt := 30) dX8_planOf_26 (by decide) ?_
      exact x_zret dX8_planOf_30 hr ht rfl ⟨_, rfl, h⟩
  · have h := h2 q
    refine x_iconst (v := (0 : Int32)) dX8_planOf_9 (by decide) ?_
    refine x_goto (tgt := 14) dX8_planOf_10 (by decide) ?_
    obtain ⟨⟨fs, hf⟩, h⟩ := h
    refine x_invV (as := [.int (0 : Int32)]) (rest := []) dX8_planOf_14 (q := (RX8, TX8, 40)) rfl xc_X8_planOf_133 hf (M_X8_holds hl h) rfl rfl (Nat.le_of_ble_eq_true rfl) (Nat.zero_le _) (Nat.zero_le _) (xk_i fun x_8 t_7 h => ?_)
    obtain ⟨h1, h2⟩ := h
    refine x_if_eq (tgt := 29) dX8_planOf_17 (by decide) (fun q => ?_) (fun q => ?_)
    · have h := h1 q
      refine x_iconst (v := (0 : Int32)) dX8_planOf_29 (by decide) ?_
      exact x_zret dX8_planOf_30 hr ht rfl ⟨_, rfl, h⟩
    · have h := h2 q
      refine x_aload_n 0 dX8_planOf_20 rfl rfl ?_
      obtain ⟨fs, hf, a_9, hv, h⟩ := h
      refine x_get dX8_planOf_21 xf_X8_87 hf hv ?_
      refine x_iload_n 1 dX8_planOf_24 rfl rfl ?_
      obtain ⟨n, f, hf, hi, h⟩ := h
      refine x_iald dX8_planOf_25 hf hi ?_
      generalize f _ = x_10 at h ⊢
      refine x_goto (tgt := 30) dX8_planOf_26 (by decide) ?_
      exact x_zret dX8_planOf_30 hr ht rfl ⟨_, rfl, h⟩
theorem M_X8_planOf {l : Launch} {G : xG} (hl : l.stackTraces = false) {a0 : Nat} {x1 : Int32} {t : xT} {K : Int32 → xT → Prop} (h : V_X8_planOf_0 K a0 x1 t) : xMet l G yX8_planOf k_X8_planOf (some .int) [.ref a0, .int x1] t (xKi K) 0 0 := xMet.of (by decide +kernel) rfl hl (Nat.le_of_ble_eq_true rfl) (fun Γ e1 e2 ht hn hr => by subst e1; subst e2; exact S_X8_planOf_0 hl ht hr h)
/-! RentStreamModel.points(I)I -/
def V_X8_points_0 (K : Int32 → xT → Prop) (a0 : Nat) (x1 : Int32) (t : xT) : Prop :=
  (xis t a0 8 ∧ V_X8_isFlat_0 (fun x_2 t_1 => ((x_2 = 0 → (xis t_1 a0 8 ∧ V_X8_holds_0 (fun x_4 t_3 => ((x_4 = 0 → K (0 : Int32) t_3) ∧ (¬ x_4 = 0 → xgR t_3 a0 8 8 fun a_5 => xaI 0 t_3 a_5 x1 fun x_6 => K x_6 t_3))) a0 (1 : Int32) t_1)) ∧ (¬ x_2 = 0 → (xis t_1 a0 8 ∧ V_X8_holds_0 (fun x_8 t_7 => ((x_8 = 0 → K (0 : Int32) t_7) ∧ (¬ x_8 = 0 → xgR t_7 a0 8 8 fun a_9 => xaI 0 t_7 a_9 x1 fun x_10 => K x_10 t_7))) a0 (0 : Int32) t_1)))) a0 x1 t)
set_option maxRecDepth 20000 in
theorem S_X8_points_0 {Γ : xΓ} {K : Int32 → xT → Prop} (hl : (gl Γ).stackTraces = false) (ht : (gM Γ).sig.returnType = (some .int)) (hr : xRet Γ (xKi K)) {a0 : Nat} {x1 : Int32} {t : xT} {rc rs : Nat} (h : V_X8_points_0 K a0 x1 t) : xX Γ k_X8_points 0 [(0, .ref a0), (1, .int x1)] [] t rc rs := by
  unfold V_X8_points_0 at h
  refine x_aload_n 0 dX8_points_0 rfl rfl ?_
  refine x_aload_n 0 dX8_points_1 rfl rfl ?_
  refine x_iload_n 1 dX8_points_2 rfl rfl ?_
  obtain ⟨⟨fs, hf⟩, h⟩ := h
  refine x_invV (as := [.int x1]) (rest := [.ref a0]) dX8_points_3 (q := (RX8, TX8, 40)) rfl xc_X8_points_141 hf (M_X8_isFlat hl h) rfl rfl (Nat.le_of_ble_eq_true rfl) (Nat.zero_le _) (Nat.zero_le _) (xk_i fun x_2 t_1 h => ?_)
  obtain ⟨h1, h2⟩ := h
  refine x_if_eq (tgt := 13) dX8_points_6 (by decide) (fun q => ?_) (fun q => ?_)
  · have h := h1 q
    refine x_iconst (v := (1 : Int32)) dX8_points_13 (by decide) ?_
    obtain ⟨⟨fs, hf⟩, h⟩ := h
    refine x_invV (as := [.int (1 : Int32)]) (rest := []) dX8_points_14 (q := (RX8, TX8, 40)) rfl xc_X8_points_133 hf (M_X8_holds hl h) rfl rfl (Nat.le_of_ble_eq_true rfl) (Nat.zero_le _) (Nat.zero_le _) (xk_i fun x_4 t_3 h => ?_)
    obtain ⟨h1, h2⟩ := h
    refine x_if_eq (tgt := 29) dX8_points_17 (by decide) (fun q => ?_) (fun q => ?_)
    · have h := h1 q
      refine x_iconst (v := (0 : Int32)) dX8_points_29 (by decide) ?_
      exact x_zret dX8_points_30 hr ht rfl ⟨_, rfl, h⟩
    · have h := h2 q
      refine x_aload_n 0 dX8_points_20 rfl rfl ?_
      obtain ⟨fs, hf, a_5, hv, h⟩ := h
      refine x_get dX8_points_21 xf_X8_25 hf hv ?_
      refine x_iload_n 1 dX8_points_24 rfl rfl ?_
      obtain ⟨n, f, hf, hi, h⟩ := h
      refine x_iald dX8_points_25 hf hi ?_
      generalize f _ = x_6 at h ⊢
      refine x_goto (tgt := 30) dX8_points_26 (by decide) ?_
      exact x_zret dX8_points_30 hr ht rfl ⟨_, rfl, h⟩
  · have h := h2 q
    refine x_iconst (v := (0 : Int32)) dX8_points_9 (by decide) ?_
    refine x_goto (tgt := 14) dX8_points_10 (by decide) ?_
    obtain ⟨⟨fs, hf⟩, h⟩ := h
    refine x_invV (as := [.int (0 : Int32)]) (rest := []) dX8_points_14 (q := (RX8, TX8, 40)) rfl xc_X8_points_133 hf (M_X8_holds hl h) rfl rfl (Nat.le_of_ble_eq_true rfl) (Nat.zero_le _) (Nat.zero_le _) (xk_i fun x_8 t_7 h => ?_)
    obtain ⟨h1, h2⟩ := h
    refine x_if_eq (tgt := 29) dX8_points_17 (by decide) (fun q => ?_) (fun q => ?_)
    · have h := h1 q
      refine x_iconst (v := (0 : Int32)) dX8_points_29 (by decide) ?_
      exact x_zret dX8_points_30 hr ht rfl ⟨_, rfl, h⟩
    · have h := h2 q
      refine x_aload_n 0 dX8_points_20 rfl rfl ?_
      obtain ⟨fs, hf, a_9, hv, h⟩ := h
      refine x_get dX8_points_21 xf_X8_25 hf hv ?_
      refine x_iload_n 1 dX8_points_24 rfl rfl ?_
      obtain ⟨n, f, hf, hi, h⟩ := h
      refine x_iald dX8_points_25 hf hi ?_
      generalize f _ = x_10 at h ⊢
      refine x_goto (tgt := 30) dX8_points_26 (by decide) ?_
      exact x_zret dX8_points_30 hr ht rfl ⟨_, rfl, h⟩
theorem M_X8_points {l : Launch} {G : xG} (hl : l.stackTraces = false) {a0 : Nat} {x1 : Int32} {t : xT} {K : Int32 → xT → Prop} (h : V_X8_points_0 K a0 x1 t) : xMet l G yX8_points k_X8_points (some .int) [.ref a0, .int x1] t (xKi K) 0 0 := xMet.of (by decide +kernel) rfl hl (Nat.le_of_ble_eq_true rfl) (fun Γ e1 e2 ht hn hr => by subst e1; subst e2; exact S_X8_points_0 hl ht hr h)
/-! RentStreamModel.read(II)I -/
def V_X8_read_40 (K : Int32 → xT → Prop) (a0 : Nat) (x1 : Int32) (x2 : Int32) (xs0 : Int32) (as1 : Nat) (t : xT) : Prop :=
  (xis t as1 8 ∧ V_X8_holds_0 (fun x_2 t_1 => ((¬ x_2 = 0 → xgR t_1 a0 8 5 fun a_3 => xaI 0 t_1 a_3 x1 fun x_4 => xgR t_1 a0 8 5 fun a_5 => xsI 0 t_1 a_5 x1 x2 fun t_6 => xgR t_6 a0 8 6 fun a_7 => (xis t_6 a0 8 ∧ V_X8_month_0 (fun x_9 t_8 => xsI 0 t_8 a_7 x1 x_9 fun t_10 => K (x2 - x_4) t_10) a0 t_6)) ∧ (x_2 = 0 → K (0 : Int32) t_1))) as1 xs0 t)
set_option maxRecDepth 20000 in
theorem S_X8_read_40 {Γ : xΓ} {K : Int32 → xT → Prop} (hl : (gl Γ).stackTraces = false) (ht : (gM Γ).sig.returnType = (some .int)) (hr : xRet Γ (xKi K)) {a0 : Nat} {x1 : Int32} {x2 : Int32} {xs0 : Int32} {as1 : Nat} {t : xT} {rc rs : Nat} (h : V_X8_read_40 K a0 x1 x2 xs0 as1 t) : xX Γ k_X8_read 40 [(0, .ref a0), (1, .int x1), (2, .int x2)] [.int xs0, .ref as1] t rc rs := by
  unfold V_X8_read_40 at h
  obtain ⟨⟨fs, hf⟩, h⟩ := h
  refine x_invV (as := [.int xs0]) (rest := []) dX8_read_40 (q := (RX8, TX8, 40)) rfl xc_X8_read_133 hf (M_X8_holds hl h) rfl rfl (Nat.le_of_ble_eq_true rfl) (Nat.zero_le _) (Nat.zero_le _) (xk_i fun x_2 t_1 h => ?_)
  obtain ⟨h1, h2⟩ := h
  refine x_if_ne (tgt := 48) dX8_read_43 (by decide) (fun q => ?_) (fun q => ?_)
  · have h := h1 q
    refine x_iload_n 2 dX8_read_48 rfl rfl ?_
    refine x_aload_n 0 dX8_read_49 rfl rfl ?_
    obtain ⟨fs, hf, a_3, hv, h⟩ := h
    refine x_get dX8_read_50 xf_X8_16 hf hv ?_
    refine x_iload_n 1 dX8_read_53 rfl rfl ?_
    obtain ⟨n, f, hf, hi, h⟩ := h
    refine x_iald dX8_read_54 hf hi ?_
    generalize f _ = x_4 at h ⊢
    refine x_isub dX8_read_55 ?_
    refine x_istore (L' := [(4, .int (x2 - x_4)), (0, .ref a0), (1, .int x1), (2, .int x2)]) dX8_read_56 (by decide) rfl ?_
    refine x_aload_n 1 dX8_read_58 rfl rfl ?_
    obtain ⟨fs, hf, a_5, hv, h⟩ := h
    refine x_get dX8_read_59 xf_X8_16 hf hv ?_
    refine x_iload_n 2 dX8_read_62 rfl rfl ?_
    refine x_iload_n 3 dX8_read_63 rfl rfl ?_
    obtain ⟨n, f, hf, hi, h⟩ := h
    refine x_iast dX8_read_64 hf hi ?_
    generalize hT : xup t_1 a_5 _ = t_6 at h ⊢
    clear hT
    refine x_aload_n 1 dX8_read_65 rfl rfl ?_
    obtain ⟨fs, hf, a_7, hv, h⟩ := h
    refine x_get dX8_read_66 xf_X8_19 hf hv ?_
    refine x_iload_n 2 dX8_read_69 rfl rfl ?_
    refine x_aload_n 1 dX8_read_70 rfl rfl ?_
    obtain ⟨⟨fs, hf⟩, h⟩ := h
    refine x_invV (as := []) (rest := [.int x1, .ref a_7]) dX8_read_71 (q := (RX8, TX8, 40)) rfl xc_X8_read_129 hf (M_X8_month hl h) rfl rfl (Nat.le_of_ble_eq_true rfl) (Nat.zero_le _) (Nat.zero_le _) (xk_i fun x_9 t_8 h => ?_)
    obtain ⟨n, f, hf, hi, h⟩ := h
    refine x_iast dX8_read_74 hf hi ?_
    generalize hT : xup t_8 a_7 _ = t_10 at h ⊢
    clear hT
    refine x_iload 0 dX8_read_75 rfl ?_
    exact x_zret dX8_read_77 hr ht rfl ⟨_, rfl, h⟩
  · have h := h2 q
    refine x_iconst (v := (0 : Int32)) dX8_read_46 (by decide) ?_
    exact x_zret dX8_read_47 hr ht rfl ⟨_, rfl, h⟩
def V_X8_read_0 (K : Int32 → xT → Prop) (a0 : Nat) (x1 : Int32) (x2 : Int32) (t : xT) : Prop :=
  (xis t a0 8 ∧ V_X8_isFlat_0 (fun x_2 t_1 => ((¬ x_2 = 0 → (V_X8_in_0 (fun x_4 t_3 => ((x_4 = 0 → V_X8_read_40 K a0 x1 x2 (2 : Int32) a0 t_3) ∧ (¬ x_4 = 0 → xgR t_3 a0 8 5 fun a_5 => xaI 0 t_3 a_5 x1 fun x_6 => ((x_6 ≤ x2 → V_X8_read_40 K a0 x1 x2 (0 : Int32) a0 t_3) ∧ (¬ x_6 ≤ x2 → V_X8_read_40 K a0 x1 x2 (2 : Int32) a0 t_3))))) x2 (0 : Int32) (1000000 : Int32) t_1)) ∧ (x_2 = 0 → V_X8_read_40 K a0 x1 x2 (1 : Int32) a0 t_1))) a0 x1 t)
set_option maxRecDepth 20000 in
theorem S_X8_read_0 {Γ : xΓ} {K : Int32 → xT → Prop} (hl : (gl Γ).stackTraces = false) (ht : (gM Γ).sig.returnType = (some .int)) (hr : xRet Γ (xKi K)) {a0 : Nat} {x1 : Int32} {x2 : Int32} {t : xT} {rc rs : Nat} (h : V_X8_read_0 K a0 x1 x2 t) : xX Γ k_X8_read 0 [(0, .ref a0), (1, .int x1), (2, .int x2)] [] t rc rs := by
  unfold V_X8_read_0 at h
  refine x_aload_n 0 dX8_read_0 rfl rfl ?_
  refine x_iload_n 1 dX8_read_1 rfl rfl ?_
  obtain ⟨⟨fs, hf⟩, h⟩ := h
  refine x_invV (as := [.int x1]) (rest := []) dX8_read_2 (q := (RX8, TX8, 40)) rfl xc_X8_read_141 hf (M_X8_isFlat hl h) rfl rfl (Nat.le_of_ble_eq_true rfl) (Nat.zero_le _) (Nat.zero_le _) (xk_i fun x_2 t_1 h => ?_)
  refine x_istore_n (L' := [(3, .int x_2), (0, .ref a0), (1, .int x1), (2, .int x2)]) dX8_read_5 rfl (by decide) rfl ?_
  refine x_aload_n 1 dX8_read_6 rfl rfl ?_
  refine x_iload_n 0 dX8_read_7 rfl rfl ?_
  obtain ⟨h1, h2⟩ := h
  refine x_if_ne (tgt := 15) dX8_read_8 (by decide) (fun q => ?_) (fun q => ?_)
  · have h := h1 q
    refine x_iload_n 3 dX8_read_15 rfl rfl ?_
    refine x_iconst (v := (0 : Int32)) dX8_read_16 (by decide) ?_
    refine x_ldc dX8_read_17 xw1391 ?_
    refine x_invS (as := [.int x2, .int (0 : Int32), .int (1000000 : Int32)]) (rest := [.ref a0]) dX8_read_19 xc_X8_read_119 (M_X8_in hl h) rfl rfl (Nat.le_of_ble_eq_true rfl) (Nat.zero_le _) (Nat.zero_le _) (xk_i fun x_4 t_3 h => ?_)
    obtain ⟨h1, h2⟩ := h
    refine x_if_eq (tgt := 35) dX8_read_22 (by decide) (fun q => ?_) (fun q => ?_)
    · have h := h1 q
      refine x_iconst (v := (2 : Int32)) dX8_read_35 (by decide) ?_
      refine x_goto (tgt := 40) dX8_read_36 (by decide) ?_
      refine x_sub (L' := [(0, .ref a0), (1, .int x1), (2, .int x2)]) [1, 2, 3] rfl ?_
      exact S_X8_read_40 hl ht hr  h
    · have h := h2 q
      refine x_iload_n 3 dX8_read_25 rfl rfl ?_
      refine x_aload_n 1 dX8_read_26 rfl rfl ?_
      obtain ⟨fs, hf, a_5, hv, h⟩ := h
      refine x_get dX8_read_27 xf_X8_16 hf hv ?_
      refine x_iload_n 2 dX8_read_30 rfl rfl ?_
      obtain ⟨n, f, hf, hi, h⟩ := h
      refine x_iald dX8_read_31 hf hi ?_
      generalize f _ = x_6 at h ⊢
      obtain ⟨h1, h2⟩ := h
      refine x_icmp_ge (tgt := 39) dX8_read_32 (by decide) (fun q => ?_) (fun q => ?_)
      · have h := h1 q
        refine x_iconst (v := (0 : Int32)) dX8_read_39 (by decide) ?_
        refine x_sub (L' := [(0, .ref a0), (1, .int x1), (2, .int x2)]) [1, 2, 3] rfl ?_
        exact S_X8_read_40 hl ht hr  h
      · have h := h2 q
        refine x_iconst (v := (2 : Int32)) dX8_read_35 (by decide) ?_
        refine x_goto (tgt := 40) dX8_read_36 (by decide) ?_
        refine x_sub (L' := [(0, .ref a0), (1, .int x1), (2, .int x2)]) [1, 2, 3] rfl ?_
        exact S_X8_read_40 hl ht hr  h
  · have h := h2 q
    refine x_iconst (v := (1 : Int32)) dX8_read_11 (by decide) ?_
    refine x_goto (tgt := 40) dX8_read_12 (by decide) ?_
    refine x_sub (L' := [(0, .ref a0), (1, .int x1), (2, .int x2)]) [1, 2, 3] rfl ?_
    exact S_X8_read_40 hl ht hr  h
theorem M_X8_read {l : Launch} {G : xG} (hl : l.stackTraces = false) {a0 : Nat} {x1 : Int32} {x2 : Int32} {t : xT} {K : Int32 → xT → Prop} (h : V_X8_read_0 K a0 x1 x2 t) : xMet l G yX8_read k_X8_read (some .int) [.ref a0, .int x1, .int x2] t (xKi K) 0 0 := xMet.of (by decide +kernel) rfl hl (Nat.le_of_ble_eq_true rfl) (fun Γ e1 e2 ht hn hr => by subst e1; subst e2; exact S_X8_read_0 hl ht hr h)
/-! RentStreamModel.report(II)I -/
def V_X8_report_42 (K : Int32 → xT → Prop) (a0 : Nat) (x1 : Int32) (x2 : Int32) (xs0 : Int32) (as1 : Nat) (t : xT) : Prop :=
  (xis t as1 8 ∧ V_X8_holds_0 (fun x_2 t_1 => ((¬ x_2 = 0 → xgR t_1 a0 8 13 fun a_3 => xgI t_1 a0 8 12 fun x_4 => xsI 0 t_1 a_3 x_4 x1 fun t_5 => xgR t_5 a0 8 14 fun a_6 => xgI t_5 a0 8 12 fun x_7 => xsI 0 t_5 a_6 x_7 x2 fun t_8 => xgR t_8 a0 8 15 fun a_9 => xgI t_8 a0 8 12 fun x_10 => xgI t_8 a0 8 1 fun x_11 => xsI 0 t_8 a_9 x_10 x_11 fun t_12 => xgI t_12 a0 8 12 fun x_13 => (xpF t_12 a0 8 12 (.int (x_13 + (1 : Int32))) fun t_14 => xgI t_14 a0 8 12 fun x_15 => K (x_15 - (1 : Int32)) t_14)) ∧ (x_2 = 0 → K (0 : Int32) t_1))) as1 xs0 t)
set_option maxRecDepth 20000 in
theorem S_X8_report_42 {Γ : xΓ} {K : Int32 → xT → Prop} (hl : (gl Γ).stackTraces = false) (ht : (gM Γ).sig.returnType = (some .int)) (hr : xRet Γ (xKi K)) {a0 : Nat} {x1 : Int32} {x2 : Int32} {xs0 : Int32} {as1 : Nat} {t : xT} {rc rs : Nat} (h : V_X8_report_42 K a0 x1 x2 xs0 as1 t) : xX Γ k_X8_report 42 [(0, .ref a0), (1, .int x1), (2, .int x2)] [.int xs0, .ref as1] t rc rs := by
  unfold V_X8_report_42 at h
  obtain ⟨⟨fs, hf⟩, h⟩ := h
  refine x_invV (as := [.int xs0]) (rest := []) dX8_report_42 (q := (RX8, TX8, 40)) rfl xc_X8_report_133 hf (M_X8_holds hl h) rfl rfl (Nat.le_of_ble_eq_true rfl) (Nat.zero_le _) (Nat.zero_le _) (xk_i fun x_2 t_1 h => ?_)
  obtain ⟨h1, h2⟩ := h
  refine x_if_ne (tgt := 50) dX8_report_45 (by decide) (fun q => ?_) (fun q => ?_)
  · have h := h1 q
    refine x_aload_n 0 dX8_report_50 rfl rfl ?_
    obtain ⟨fs, hf, a_3, hv, h⟩ := h
    refine x_get dX8_report_51 xf_X8_34 hf hv ?_
    refine x_aload_n 0 dX8_report_54 rfl rfl ?_
    obtain ⟨fs, hf, x_4, hv, h⟩ := h
    refine x_get dX8_report_55 xf_X8_156 hf hv ?_
    refine x_iload_n 1 dX8_report_58 rfl rfl ?_
    obtain ⟨n, f, hf, hi, h⟩ := h
    refine x_iast dX8_report_59 hf hi ?_
    generalize hT : xup t_1 a_3 _ = t_5 at h ⊢
    clear hT
    refine x_aload_n 0 dX8_report_60 rfl rfl ?_
    obtain ⟨fs, hf, a_6, hv, h⟩ := h
    refine x_get dX8_report_61 xf_X8_37 hf hv ?_
    refine x_aload_n 0 dX8_report_64 rfl rfl ?_
    obtain ⟨fs, hf, x_7, hv, h⟩ := h
    refine x_get dX8_report_65 xf_X8_156 hf hv ?_
    refine x_iload_n 2 dX8_report_68 rfl rfl ?_
    obtain ⟨n, f, hf, hi, h⟩ := h
    refine x_iast dX8_report_69 hf hi ?_
    generalize hT : xup t_5 a_6 _ = t_8 at h ⊢
    clear hT
    refine x_aload_n 0 dX8_report_70 rfl rfl ?_
    obtain ⟨fs, hf, a_9, hv, h⟩ := h
    refine x_get dX8_report_71 xf_X8_40 hf hv ?_
    refine x_aload_n 0 dX8_report_74 rfl rfl ?_
    obtain ⟨fs, hf, x_10, hv, h⟩ := h
    refine x_get dX8_report_75 xf_X8_156 hf hv ?_
    refine x_aload_n 0 dX8_report_78 rfl rfl ?_
    obtain ⟨fs, hf, x_11, hv, h⟩ := h
    refine x_get dX8_report_79 xf_X8_126 hf hv ?_
    obtain ⟨n, f, hf, hi, h⟩ := h
    refine x_iast dX8_report_82 hf hi ?_
    generalize hT : xup t_8 a_9 _ = t_12 at h ⊢
    clear hT
    refine x_aload_n 0 dX8_report_83 rfl rfl ?_
    refine x_dup dX8_report_84 rfl ?_
    obtain ⟨fs, hf, x_13, hv, h⟩ := h
    refine x_get dX8_report_85 xf_X8_156 hf hv ?_
    refine x_iconst (v := (1 : Int32)) dX8_report_88 (by decide) ?_
    refine x_iadd dX8_report_89 ?_
    obtain ⟨fs, hf, hk, h⟩ := h
    refine x_put (v := .int (x_13 + (1 : Int32))) dX8_report_90 xp_X8_156 hf rfl rfl hk ?_
    generalize hT : xup t_12 a0 _ = t_14 at h ⊢
    clear hT
    refine x_aload_n 0 dX8_report_93 rfl rfl ?_
    obtain ⟨fs, hf, x_15, hv, h⟩ := h
    refine x_get dX8_report_94 xf_X8_156 hf hv ?_
    refine x_iconst (v := (1 : Int32)) dX8_report_97 (by decide) ?_
    refine x_isub dX8_report_98 ?_
    exact x_zret dX8_report_99 hr ht rfl ⟨_, rfl, h⟩
  · have h := h2 q
    refine x_iconst (v := (0 : Int32)) dX8_report_48 (by decide) ?_
    exact x_zret dX8_report_49 hr ht rfl ⟨_, rfl, h⟩
def V_X8_report_0 (K : Int32 → xT → Prop) (a0 : Nat) (x1 : Int32) (x2 : Int32) (t : xT) : Prop :=
  (xis t a0 8 ∧ V_X8_isFlat_0 (fun x_2 t_1 => ((¬ x_2 = 0 → (V_X8_in_0 (fun x_4 t_3 => ((¬ x_4 = 0 → xgI t_3 a0 8 12 fun x_5 => ((¬ x_5 = (60 : Int32) → V_X8_report_42 K a0 x1 x2 (0 : Int32) a0 t_3) ∧ (x_5 = (60 : Int32) → V_X8_report_42 K a0 x1 x2 (3 : Int32) a0 t_3))) ∧ (x_4 = 0 → V_X8_report_42 K a0 x1 x2 (2 : Int32) a0 t_3))) x2 (0 : Int32) (2 : Int32) t_1)) ∧ (x_2 = 0 → V_X8_report_42 K a0 x1 x2 (1 : Int32) a0 t_1))) a0 x1 t)
set_option maxRecDepth 20000 in
theorem S_X8_report_0 {Γ : xΓ} {K : Int32 → xT → Prop} (hl : (gl Γ).stackTraces = false) (ht : (gM Γ).sig.returnType = (some .int)) (hr : xRet Γ (xKi K)) {a0 : Nat} {x1 : Int32} {x2 : Int32} {t : xT} {rc rs : Nat} (h : V_X8_report_0 K a0 x1 x2 t) : xX Γ k_X8_report 0 [(0, .ref a0), (1, .int x1), (2, .int x2)] [] t rc rs := by
  unfold V_X8_report_0 at h
  refine x_aload_n 0 dX8_report_0 rfl rfl ?_
  refine x_iload_n 1 dX8_report_1 rfl rfl ?_
  obtain ⟨⟨fs, hf⟩, h⟩ := h
  refine x_invV (as := [.int x1]) (rest := []) dX8_report_2 (q := (RX8, TX8, 40)) rfl xc_X8_report_141 hf (M_X8_isFlat hl h) rfl rfl (Nat.le_of_ble_eq_true rfl) (Nat.zero_le _) (Nat.zero_le _) (xk_i fun x_2 t_1 h => ?_)
  refine x_istore_n (L' := [(3, .int x_2), (0, .ref a0), (1, .int x1), (2, .int x2)]) dX8_report_5 rfl (by decide) rfl ?_
  refine x_aload_n 1 dX8_report_6 rfl rfl ?_
  refine x_iload_n 0 dX8_report_7 rfl rfl ?_
  obtain ⟨h1, h2⟩ := h
  refine x_if_ne (tgt := 15) dX8_report_8 (by decide) (fun q => ?_) (fun q => ?_)
  · have h := h1 q
    refine x_iload_n 3 dX8_report_15 rfl rfl ?_
    refine x_iconst (v := (0 : Int32)) dX8_report_16 (by decide) ?_
    refine x_iconst (v := (2 : Int32)) dX8_report_17 (by decide) ?_
    refine x_invS (as := [.int x2, .int (0 : Int32), .int (2 : Int32)]) (rest := [.ref a0]) dX8_report_18 xc_X8_report_119 (M_X8_in hl h) rfl rfl (Nat.le_of_ble_eq_true rfl) (Nat.zero_le _) (Nat.zero_le _) (xk_i fun x_4 t_3 h => ?_)
    obtain ⟨h1, h2⟩ := h
    refine x_if_ne (tgt := 28) dX8_report_21 (by decide) (fun q => ?_) (fun q => ?_)
    · have h := h1 q
      refine x_aload_n 1 dX8_report_28 rfl rfl ?_
      obtain ⟨fs, hf, x_5, hv, h⟩ := h
      refine x_get dX8_report_29 xf_X8_156 hf hv ?_
      refine x_bipush (v := (60 : Int32)) dX8_report_32 (by decide) ?_
      obtain ⟨h1, h2⟩ := h
      refine x_icmp_ne (tgt := 41) dX8_report_34 (by decide) (fun q => ?_) (fun q => ?_)
      · have h := h1 q
        refine x_iconst (v := (0 : Int32)) dX8_report_41 (by decide) ?_
        refine x_sub (L' := [(0, .ref a0), (1, .int x1), (2, .int x2)]) [1, 2, 3] rfl ?_
        exact S_X8_report_42 hl ht hr  h
      · have h := h2 q
        refine x_iconst (v := (3 : Int32)) dX8_report_37 (by decide) ?_
        refine x_goto (tgt := 42) dX8_report_38 (by decide) ?_
        refine x_sub (L' := [(0, .ref a0), (1, .int x1), (2, .int x2)]) [1, 2, 3] rfl ?_
        exact S_X8_report_42 hl ht hr  h
    · have h := h2 q
      refine x_iconst (v := (2 : Int32)) dX8_report_24 (by decide) ?_
      refine x_goto (tgt := 42) dX8_report_25 (by decide) ?_
      refine x_sub (L' := [(0, .ref a0), (1, .int x1), (2, .int x2)]) [1, 2, 3] rfl ?_
      exact S_X8_report_42 hl ht hr  h
  · have h := h2 q
    refine x_iconst (v := (1 : Int32)) dX8_report_11 (by decide) ?_
    refine x_goto (tgt := 42) dX8_report_12 (by decide) ?_
    refine x_sub (L' := [(0, .ref a0), (1, .int x1), (2, .int x2)]) [1, 2, 3] rfl ?_
    exact S_X8_report_42 hl ht hr  h
theorem M_X8_report {l : Launch} {G : xG} (hl : l.stackTraces = false) {a0 : Nat} {x1 : Int32} {x2 : Int32} {t : xT} {K : Int32 → xT → Prop} (h : V_X8_report_0 K a0 x1 x2 t) : xMet l G yX8_report k_X8_report (some .int) [.ref a0, .int x1, .int x2] t (xKi K) 0 0 := xMet.of (by decide +kernel) rfl hl (Nat.le_of_ble_eq_true rfl) (fun Γ e1 e2 ht hn hr => by subst e1; subst e2; exact S_X8_report_0 hl ht hr h)
/-! RentStreamModel.thrown()I -/
def V_X8_thrown_0 (K : Int32 → xT → Prop) (a0 : Nat) (t : xT) : Prop :=
  xgI t a0 8 0 fun x_1 => K x_1 t
set_option maxRecDepth 20000 in
theorem S_X8_thrown_0 {Γ : xΓ} {K : Int32 → xT → Prop} (hl : (gl Γ).stackTraces = false) (ht : (gM Γ).sig.returnType = (some .int)) (hr : xRet Γ (xKi K)) {a0 : Nat} {t : xT} {rc rs : Nat} (h : V_X8_thrown_0 K a0 t) : xX Γ k_X8_thrown 0 [(0, .ref a0)] [] t rc rs := by
  unfold V_X8_thrown_0 at h
  refine x_aload_n 0 dX8_thrown_0 rfl rfl ?_
  obtain ⟨fs, hf, x_1, hv, h⟩ := h
  refine x_get dX8_thrown_1 xf_X8_112 hf hv ?_
  exact x_zret dX8_thrown_4 hr ht rfl ⟨_, rfl, h⟩
theorem M_X8_thrown {l : Launch} {G : xG} (hl : l.stackTraces = false) {a0 : Nat} {t : xT} {K : Int32 → xT → Prop} (h : V_X8_thrown_0 K a0 t) : xMet l G yX8_thrown k_X8_thrown (some .int) [.ref a0] t (xKi K) 0 0 := xMet.of (by decide +kernel) rfl hl (Nat.le_of_ble_eq_true rfl) (fun Γ e1 e2 ht hn hr => by subst e1; subst e2; exact S_X8_thrown_0 hl ht hr h)
/-! RentStreamModel.use(II)I -/
def V_X8_use_21 (K : Int32 → xT → Prop) (a0 : Nat) (x1 : Int32) (x2 : Int32) (xs0 : Int32) (t : xT) : Prop :=
  ((xs0 = 0 → (xis t a0 8 ∧ V_X8_holds_0 (fun x_2 t_1 => ((x_2 = 0 → K (0 : Int32) t_1) ∧ (¬ x_2 = 0 → xgR t_1 a0 8 9 fun a_3 => xaI 0 t_1 a_3 (((121 : Int32) * x1) + x2) fun x_4 => K x_4 t_1))) a0 (1 : Int32) t)) ∧ (¬ xs0 = 0 → (xis t a0 8 ∧ V_X8_holds_0 (fun x_6 t_5 => ((x_6 = 0 → K (0 : Int32) t_5) ∧ (¬ x_6 = 0 → xgR t_5 a0 8 9 fun a_7 => xaI 0 t_5 a_7 (((121 : Int32) * x1) + x2) fun x_8 => K x_8 t_5))) a0 (0 : Int32) t)))
set_option maxRecDepth 20000 in
theorem S_X8_use_21 {Γ : xΓ} {K : Int32 → xT → Prop} (hl : (gl Γ).stackTraces = false) (ht : (gM Γ).sig.returnType = (some .int)) (hr : xRet Γ (xKi K)) {a0 : Nat} {x1 : Int32} {x2 : Int32} {xs0 : Int32} {t : xT} {rc rs : Nat} (h : V_X8_use_21 K a0 x1 x2 xs0 t) : xX Γ k_X8_use 21 [(0, .ref a0), (1, .int x1), (2, .int x2)] [.int xs0] t rc rs := by
  unfold V_X8_use_21 at h
  refine x_istore_n (L' := [(3, .int xs0), (0, .ref a0), (1, .int x1), (2, .int x2)]) dX8_use_21 rfl (by decide) rfl ?_
  refine x_aload_n 1 dX8_use_22 rfl rfl ?_
  refine x_iload_n 0 dX8_use_23 rfl rfl ?_
  obtain ⟨h1, h2⟩ := h
  refine x_if_eq (tgt := 31) dX8_use_24 (by decide) (fun q => ?_) (fun q => ?_)
  · have h := h1 q
    refine x_iconst (v := (1 : Int32)) dX8_use_31 (by decide) ?_
    obtain ⟨⟨fs, hf⟩, h⟩ := h
    refine x_invV (as := [.int (1 : Int32)]) (rest := []) dX8_use_32 (q := (RX8, TX8, 40)) rfl xc_X8_use_133 hf (M_X8_holds hl h) rfl rfl (Nat.le_of_ble_eq_true rfl) (Nat.zero_le _) (Nat.zero_le _) (xk_i fun x_2 t_1 h => ?_)
    obtain ⟨h1, h2⟩ := h
    refine x_if_eq (tgt := 52) dX8_use_35 (by decide) (fun q => ?_) (fun q => ?_)
    · have h := h1 q
      refine x_iconst (v := (0 : Int32)) dX8_use_52 (by decide) ?_
      exact x_zret dX8_use_53 hr ht rfl ⟨_, rfl, h⟩
    · have h := h2 q
      refine x_aload_n 1 dX8_use_38 rfl rfl ?_
      obtain ⟨fs, hf, a_3, hv, h⟩ := h
      refine x_get dX8_use_39 xf_X8_28 hf hv ?_
      refine x_bipush (v := (121 : Int32)) dX8_use_42 (by decide) ?_
      refine x_iload_n 2 dX8_use_44 rfl rfl ?_
      refine x_imul dX8_use_45 ?_
      refine x_iload_n 3 dX8_use_46 rfl rfl ?_
      refine x_iadd dX8_use_47 ?_
      obtain ⟨n, f, hf, hi, h⟩ := h
      refine x_iald dX8_use_48 hf hi ?_
      generalize f _ = x_4 at h ⊢
      refine x_goto (tgt := 53) dX8_use_49 (by decide) ?_
      exact x_zret dX8_use_53 hr ht rfl ⟨_, rfl, h⟩
  · have h := h2 q
    refine x_iconst (v := (0 : Int32)) dX8_use_27 (by decide) ?_
    refine x_goto (tgt := 32) dX8_use_28 (by decide) ?_
    obtain ⟨⟨fs, hf⟩, h⟩ := h
    refine x_invV (as := [.int (0 : Int32)]) (rest := []) dX8_use_32 (q := (RX8, TX8, 40)) rfl xc_X8_use_133 hf (M_X8_holds hl h) rfl rfl (Nat.le_of_ble_eq_true rfl) (Nat.zero_le _) (Nat.zero_le _) (xk_i fun x_6 t_5 h => ?_)
    obtain ⟨h1, h2⟩ := h
    refine x_if_eq (tgt := 52) dX8_use_35 (by decide) (fun q => ?_) (fun q => ?_)
    · have h := h1 q
      refine x_iconst (v := (0 : Int32)) dX8_use_52 (by decide) ?_
      exact x_zret dX8_use_53 hr ht rfl ⟨_, rfl, h⟩
    · have h := h2 q
      refine x_aload_n 1 dX8_use_38 rfl rfl ?_
      obtain ⟨fs, hf, a_7, hv, h⟩ := h
      refine x_get dX8_use_39 xf_X8_28 hf hv ?_
      refine x_bipush (v := (121 : Int32)) dX8_use_42 (by decide) ?_
      refine x_iload_n 2 dX8_use_44 rfl rfl ?_
      refine x_imul dX8_use_45 ?_
      refine x_iload_n 3 dX8_use_46 rfl rfl ?_
      refine x_iadd dX8_use_47 ?_
      obtain ⟨n, f, hf, hi, h⟩ := h
      refine x_iald dX8_use_48 hf hi ?_
      generalize f _ = x_8 at h ⊢
      refine x_goto (tgt := 53) dX8_use_49 (by decide) ?_
      exact x_zret dX8_use_53 hr ht rfl ⟨_, rfl, h⟩
def V_X8_use_0 (K : Int32 → xT → Prop) (a0 : Nat) (x1 : Int32) (x2 : Int32) (t : xT) : Prop :=
  (xis t a0 8 ∧ V_X8_isFlat_0 (fun x_2 t_1 => ((x_2 = 0 → V_X8_use_21 K a0 x1 x2 (0 : Int32) t_1) ∧ (¬ x_2 = 0 → (xis t_1 a0 8 ∧ V_X8_isMonth_0 (fun x_4 t_3 => ((x_4 = 0 → V_X8_use_21 K a0 x1 x2 (0 : Int32) t_3) ∧ (¬ x_4 = 0 → V_X8_use_21 K a0 x1 x2 (1 : Int32) t_3))) a0 x2 t_1)))) a0 x1 t)
set_option maxRecDepth 20000 in
theorem S_X8_use_0 {Γ : xΓ} {K : Int32 → xT → Prop} (hl : (gl Γ).stackTraces = false) (ht : (gM Γ).sig.returnType = (some .int)) (hr : xRet Γ (xKi K)) {a0 : Nat} {x1 : Int32} {x2 : Int32} {t : xT} {rc rs : Nat} (h : V_X8_use_0 K a0 x1 x2 t) : xX Γ k_X8_use 0 [(0, .ref a0), (1, .int x1), (2, .int x2)] [] t rc rs := by
  unfold V_X8_use_0 at h
  refine x_aload_n 0 dX8_use_0 rfl rfl ?_
  refine x_iload_n 1 dX8_use_1 rfl rfl ?_
  obtain ⟨⟨fs, hf⟩, h⟩ := h
  refine x_invV (as := [.int x1]) (rest := []) dX8_use_2 (q := (RX8, TX8, 40)) rfl xc_X8_use_141 hf (M_X8_isFlat hl h) rfl rfl (Nat.le_of_ble_eq_true rfl) (Nat.zero_le _) (Nat.zero_le _) (xk_i fun x_2 t_1 h => ?_)
  obtain ⟨h1, h2⟩ := h
  refine x_if_eq (tgt := 20) dX8_use_5 (by decide) (fun q => ?_) (fun q => ?_)
  · have h := h1 q
    refine x_iconst (v := (0 : Int32)) dX8_use_20 (by decide) ?_
    exact S_X8_use_21 hl ht hr  h
  · have h := h2 q
    refine x_aload_n 0 dX8_use_8 rfl rfl ?_
    refine x_iload_n 2 dX8_use_9 rfl rfl ?_
    obtain ⟨⟨fs, hf⟩, h⟩ := h
    refine x_invV (as := [.int x2]) (rest := []) dX8_use_10 (q := (RX8, TX8, 40)) rfl xc_X8_use_202 hf (M_X8_isMonth hl h) rfl rfl (Nat.le_of_ble_eq_true rfl) (Nat.zero_le _) (Nat.zero_le _) (xk_i fun x_4 t_3 h => ?_)
    obtain ⟨h1, h2⟩ := h
    refine x_if_eq (tgt := 20) dX8_use_13 (by decide) (fun q => ?_) (fun q => ?_)
    · have h := h1 q
      refine x_iconst (v := (0 : Int32)) dX8_use_20 (by decide) ?_
      exact S_X8_use_21 hl ht hr  h
    · have h := h2 q
      refine x_iconst (v := (1 : Int32)) dX8_use_16 (by decide) ?_
      refine x_goto (tgt := 21) dX8_use_17 (by decide) ?_
      exact S_X8_use_21 hl ht hr  h
theorem M_X8_use {l : Launch} {G : xG} (hl : l.stackTraces = false) {a0 : Nat} {x1 : Int32} {x2 : Int32} {t : xT} {K : Int32 → xT → Prop} (h : V_X8_use_0 K a0 x1 x2 t) : xMet l G yX8_use k_X8_use (some .int) [.ref a0, .int x1, .int x2] t (xKi K) 0 0 := xMet.of (by decide +kernel) rfl hl (Nat.le_of_ble_eq_true rfl) (fun Γ e1 e2 ht hn hr => by subst e1; subst e2; exact S_X8_use_0 hl ht hr h)
