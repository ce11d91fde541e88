/-! RentStreamModel.ends(I)V -/
def VS_X8_ends_29 (R29 : Nat → Int32 → Int32 → xT → Prop) (K : xT → Prop) (a0 : Nat) (x1 : Int32) (x2 : Int32) (t : xT) : Prop :=
  xgI t a0 8 18 fun x_1 => ((x_1 ≤ x2 → K t) ∧ (¬ x_1 ≤ x2 → (xis t a0 8 ∧ V_X8_looksAtPlan_0 (fun t_2 => (xis t_2 a0 8 ∧ V_X8_runs_0 (fun x_4 t_3 => ((x_4 = 0 → R29 a0 x1 (x2 + 1) t_3) ∧ (¬ x_4 = 0 → (xis t_3 a0 8 ∧ V_X8_bills_0 (fun t_5 => R29 a0 x1 (x2 + 1) t_5) a0 x2 x1 t_3)))) a0 x2 x1 t_2)) a0 x2 t)))
def V_X8_ends_29 (K : xT → Prop) (n : Nat) : Nat → Int32 → Int32 → xT → Prop := Nat.rec (fun _ _ _ _ => False) (fun _ ih => VS_X8_ends_29 ih K) n
set_option maxRecDepth 20000 in
theorem S_X8_ends_29 {Γ : xΓ} {K : xT → Prop} (hl : (gl Γ).stackTraces = false) (ht : (gM Γ).sig.returnType = none) (hr : xRet Γ (xKv K)) : ∀ (n : Nat) (a0 : Nat) (x1 : Int32) (x2 : Int32) (t : xT) (rc rs : Nat), V_X8_ends_29 K n a0 x1 x2 t → xX Γ k_X8_ends 29 [(0, .ref a0), (1, .int x1), (2, .int x2)] [] t rc rs := by
  intro n
  induction n with
  | zero =>
    intro a0 x1 x2 t rc rs h
    exact h.elim
  | succ n ih =>
    intro a0 x1 x2 t rc rs h
    replace h : VS_X8_ends_29 (V_X8_ends_29 K n) K a0 x1 x2 t := h
    unfold VS_X8_ends_29 at h
    refine x_iload_n 2 dX8_ends_29 rfl rfl ?_
    refine x_aload_n 0 dX8_ends_30 rfl rfl ?_
    obtain ⟨fs, hf, x_1, hv, h⟩ := h
    refine x_get dX8_ends_31 xf_X8_123 hf hv ?_
    obtain ⟨h1, h2⟩ := h
    refine x_icmp_ge (tgt := 63) dX8_ends_34 (by decide) (fun q => ?_) (fun q => ?_)
    · have h := h1 q
      exact x_vret dX8_ends_63 hr ht ⟨rfl, h⟩
    · have h := h2 q
      refine x_aload_n 0 dX8_ends_37 rfl rfl ?_
      refine x_iload_n 2 dX8_ends_38 rfl rfl ?_
      obtain ⟨⟨fs, hf⟩, h⟩ := h
      refine x_invV (as := [.int x2]) (rest := []) dX8_ends_39 (q := (RX8, TX8, 40)) rfl xc_X8_ends_196 hf (M_X8_looksAtPlan hl h) rfl rfl (Nat.le_of_ble_eq_true rfl) (Nat.zero_le _) (Nat.zero_le _) (xk_v fun t_2 h => ?_)
      refine x_aload_n 0 dX8_ends_42 rfl rfl ?_
      refine x_iload_n 2 dX8_ends_43 rfl rfl ?_
      refine x_iload_n 1 dX8_ends_44 rfl rfl ?_
      obtain ⟨⟨fs, hf⟩, h⟩ := h
      refine x_invV (as := [.int x2, .int x1]) (rest := []) dX8_ends_45 (q := (RX8, TX8, 40)) rfl xc_X8_ends_137 hf (M_X8_runs hl h) rfl rfl (Nat.le_of_ble_eq_true rfl) (Nat.zero_le _) (Nat.zero_le _) (xk_i fun x_4 t_3 h => ?_)
      obtain ⟨h1, h2⟩ := h
      refine x_if_eq (tgt := 57) dX8_ends_48 (by decide) (fun q => ?_) (fun q => ?_)
      · have h := h1 q
        refine x_iinc (v := (x2 + 1)) (L' := [(2, .int (x2 + 1)), (0, .ref a0), (1, .int x1)]) (j := 2) dX8_ends_57 rfl rfl (by decide) rfl ?_
        refine x_goto (tgt := 29) dX8_ends_60 (by decide) ?_
        refine x_sub (L' := [(0, .ref a0), (1, .int x1), (2, .int (x2 + 1))]) [1, 2, 0] rfl ?_
        exact ih a0 x1 (x2 + 1) t_3 _ _ h
      · have h := h2 q
        refine x_aload_n 0 dX8_ends_51 rfl rfl ?_
        refine x_iload_n 2 dX8_ends_52 rfl rfl ?_
        refine x_iload_n 1 dX8_ends_53 rfl rfl ?_
        obtain ⟨⟨fs, hf⟩, h⟩ := h
        refine x_invV (as := [.int x2, .int x1]) (rest := []) dX8_ends_54 (q := (RX8, TX8, 40)) rfl xc_X8_ends_199 hf (M_X8_bills hl h) rfl rfl (Nat.le_of_ble_eq_true rfl) (Nat.zero_le _) (Nat.zero_le _) (xk_v fun t_5 h => ?_)
        refine x_iinc (v := (x2 + 1)) (L' := [(2, .int (x2 + 1)), (0, .ref a0), (1, .int x1)]) (j := 2) dX8_ends_57 rfl rfl (by decide) rfl ?_
        refine x_goto (tgt := 29) dX8_ends_60 (by decide) ?_
        refine x_sub (L' := [(0, .ref a0), (1, .int x1), (2, .int (x2 + 1))]) [1, 2, 0] rfl ?_
        exact ih a0 x1 (x2 + 1) t_5 _ _ h
def VS_X8_ends_2 (R2 : Nat → Int32 → Int32 → xT → Prop) (K : xT → Prop) (a0 : Nat) (x1 : Int32) (x2 : Int32) (t : xT) : Prop :=
  xgI t a0 8 2 fun x_1 => ((x_1 ≤ x2 → (xis t a0 8 ∧ V_X8_sharesHeat_0 (fun t_2 => ∃ f_3 : Nat, V_X8_ends_29 K f_3 a0 x1 (0 : Int32) t_2) a0 x1 t)) ∧ (¬ x_1 ≤ x2 → (xis t a0 8 ∧ V_X8_findsUse_0 (fun t_4 => R2 a0 x1 (x2 + 1) t_4) a0 x2 x1 t)))
def V_X8_ends_2 (K : xT → Prop) (n : Nat) : Nat → Int32 → Int32 → xT → Prop := Nat.rec (fun _ _ _ _ => False) (fun _ ih => VS_X8_ends_2 ih K) n
set_option maxRecDepth 20000 in
theorem S_X8_ends_2 {Γ : xΓ} {K : xT → Prop} (hl : (gl Γ).stackTraces = false) (ht : (gM Γ).sig.returnType = none) (hr : xRet Γ (xKv K)) : ∀ (n : Nat) (a0 : Nat) (x1 : Int32) (x2 : Int32) (t : xT) (rc rs : Nat), V_X8_ends_2 K n a0 x1 x2 t → xX Γ k_X8_ends 2 [(0, .ref a0), (1, .int x1), (2, .int x2)] [] t rc rs := by
  intro n
  induction n with
  | zero =>
    intro a0 x1 x2 t rc rs h
    exact h.elim
  | succ n ih =>
    intro a0 x1 x2 t rc rs h
    replace h : VS_X8_ends_2 (V_X8_ends_2 K n) K a0 x1 x2 t := h
    unfold VS_X8_ends_2 at h
    refine x_iload_n 2 dX8_ends_2 rfl rfl ?_
    refine x_aload_n 0 dX8_ends_3 rfl rfl ?_
    obtain ⟨fs, hf, x_1, hv, h⟩ := h
    refine x_get dX8_ends_4 xf_X8_116 hf hv ?_
    obtain ⟨h1, h2⟩ := h
    refine x_icmp_ge (tgt := 22) dX8_ends_7 (by decide) (fun q => ?_) (fun q => ?_)
    · have h := h1 q
      refine x_aload_n 0 dX8_ends_22 rfl rfl ?_
      refine x_iload_n 1 dX8_ends_23 rfl rfl ?_
      obtain ⟨⟨fs, hf⟩, h⟩ := h
      refine x_invV (as := [.int x1]) (rest := []) dX8_ends_24 (q := (RX8, TX8, 40)) rfl xc_X8_ends_192 hf (M_X8_sharesHeat hl h) rfl rfl (Nat.le_of_ble_eq_true rfl) (Nat.zero_le _) (Nat.zero_le _) (xk_v fun t_2 h => ?_)
      refine x_iconst (v := (0 : Int32)) dX8_ends_27 (by decide) ?_
      refine x_istore_n (L' := [(2, .int (0 : Int32)), (0, .ref a0), (1, .int x1)]) dX8_ends_28 rfl (by decide) rfl ?_
      obtain ⟨f_3, h⟩ := h
      refine x_sub (L' := [(0, .ref a0), (1, .int x1), (2, .int (0 : Int32))]) [1, 2, 0] rfl ?_
      exact S_X8_ends_29 hl ht hr  f_3 a0 x1 (0 : Int32) t_2 _ _ h
    · have h := h2 q
      refine x_aload_n 0 dX8_ends_10 rfl rfl ?_
      refine x_iload_n 2 dX8_ends_11 rfl rfl ?_
      refine x_iload_n 1 dX8_ends_12 rfl rfl ?_
      obtain ⟨⟨fs, hf⟩, h⟩ := h
      refine x_invV (as := [.int x2, .int x1]) (rest := []) dX8_ends_13 (q := (RX8, TX8, 40)) rfl xc_X8_ends_188 hf (M_X8_findsUse hl h) rfl rfl (Nat.le_of_ble_eq_true rfl) (Nat.zero_le _) (Nat.zero_le _) (xk_v fun t_4 h => ?_)
      refine x_iinc (v := (x2 + 1)) (L' := [(2, .int (x2 + 1)), (0, .ref a0), (1, .int x1)]) (j := 2) dX8_ends_16 rfl rfl (by decide) rfl ?_
      refine x_goto (tgt := 2) dX8_ends_19 (by decide) ?_
      refine x_sub (L' := [(0, .ref a0), (1, .int x1), (2, .int (x2 + 1))]) [1, 2, 0] rfl ?_
      exact ih a0 x1 (x2 + 1) t_4 _ _ h
def V_X8_ends_0 (K : xT → Prop) (a0 : Nat) (x1 : Int32) (t : xT) : Prop :=
  ∃ f_1 : Nat, V_X8_ends_2 K f_1 a0 x1 (0 : Int32) t
set_option maxRecDepth 20000 in
theorem S_X8_ends_0 {Γ : xΓ} {K : xT → Prop} (hl : (gl Γ).stackTraces = false) (ht : (gM Γ).sig.returnType = none) (hr : xRet Γ (xKv K)) {a0 : Nat} {x1 : Int32} {t : xT} {rc rs : Nat} (h : V_X8_ends_0 K a0 x1 t) : xX Γ k_X8_ends 0 [(0, .ref a0), (1, .int x1)] [] t rc rs := by
  unfold V_X8_ends_0 at h
  refine x_iconst (v := (0 : Int32)) dX8_ends_0 (by decide) ?_
  refine x_istore_n (L' := [(2, .int (0 : Int32)), (0, .ref a0), (1, .int x1)]) dX8_ends_1 rfl (by decide) rfl ?_
  obtain ⟨f_1, h⟩ := h
  refine x_sub (L' := [(0, .ref a0), (1, .int x1), (2, .int (0 : Int32))]) [1, 2, 0] rfl ?_
  exact S_X8_ends_2 hl ht hr  f_1 a0 x1 (0 : Int32) t _ _ h
theorem M_X8_ends {l : Launch} {G : xG} (hl : l.stackTraces = false) {a0 : Nat} {x1 : Int32} {t : xT} {K : xT → Prop} (h : V_X8_ends_0 K a0 x1 t) : xMet l G yX8_ends k_X8_ends none [.ref a0, .int x1] t (xKv K) 0 0 := xMet.of (by decide +kernel) rfl hl (Nat.le_of_ble_eq_true rfl) (fun Γ e1 e2 ht hn hr => by subst e1; subst e2; exact S_X8_ends_0 hl ht hr h)
/-! RentStreamModel.flat(I)I -/
def V_X8_flat_29 (K : Int32 → xT → Prop) (a0 : Nat) (x1 : Int32) (xs0 : Int32) (as1 : Nat) (t : xT) : Prop :=
  (xis t as1 8 ∧ V_X8_holds_0 (fun x_2 t_1 => ((¬ x_2 = 0 → xgR t_1 a0 8 3 fun a_3 => xgI t_1 a0 8 2 fun x_4 => xsI 0 t_1 a_3 x_4 x1 fun t_5 => xgR t_5 a0 8 4 fun a_6 => xgI t_5 a0 8 2 fun x_7 => (xis t_5 a0 8 ∧ V_X8_month_0 (fun x_9 t_8 => xsI 0 t_8 a_6 x_7 x_9 fun t_10 => xgR t_10 a0 8 6 fun a_11 => xgI t_10 a0 8 2 fun x_12 => xsI 0 t_10 a_11 x_12 (-1 : Int32) fun t_13 => xgI t_13 a0 8 2 fun x_14 => (xpF t_13 a0 8 2 (.int (x_14 + (1 : Int32))) fun t_15 => xgI t_15 a0 8 2 fun x_16 => K (x_16 - (1 : Int32)) t_15)) a0 t_5)) ∧ (x_2 = 0 → K (0 : Int32) t_1))) as1 xs0 t)
set_option maxRecDepth 20000 in
theorem S_X8_flat_29 {Γ : xΓ} {K : Int32 → xT → Prop} (hl : (gl Γ).stackTraces = false) (ht : (gM Γ).sig.returnType = (some .int)) (hr : xRet Γ (xKi K)) {a0 : Nat} {x1 : Int32} {xs0 : Int32} {as1 : Nat} {t : xT} {rc rs : Nat} (h : V_X8_flat_29 K a0 x1 xs0 as1 t) : xX Γ k_X8_flat 29 [(0, .ref a0), (1, .int x1)] [.int xs0, .ref as1] t rc rs := by
  unfold V_X8_flat_29 at h
  obtain ⟨⟨fs, hf⟩, h⟩ := h
  refine x_invV (as := [.int xs0]) (rest := []) dX8_flat_29 (q := (RX8, TX8, 40)) rfl xc_X8_flat_133 hf (M_X8_holds hl h) rfl rfl (Nat.le_of_ble_eq_true rfl) (Nat.zero_le _) (Nat.zero_le _) (xk_i fun x_2 t_1 h => ?_)
  obtain ⟨h1, h2⟩ := h
  refine x_if_ne (tgt := 37) dX8_flat_32 (by decide) (fun q => ?_) (fun q => ?_)
  · have h := h1 q
    refine x_aload_n 0 dX8_flat_37 rfl rfl ?_
    obtain ⟨fs, hf, a_3, hv, h⟩ := h
    refine x_get dX8_flat_38 xf_X8_7 hf hv ?_
    refine x_aload_n 0 dX8_flat_41 rfl rfl ?_
    obtain ⟨fs, hf, x_4, hv, h⟩ := h
    refine x_get dX8_flat_42 xf_X8_116 hf hv ?_
    refine x_iload_n 1 dX8_flat_45 rfl rfl ?_
    obtain ⟨n, f, hf, hi, h⟩ := h
    refine x_iast dX8_flat_46 hf hi ?_
    generalize hT : xup t_1 a_3 _ = t_5 at h ⊢
    clear hT
    refine x_aload_n 0 dX8_flat_47 rfl rfl ?_
    obtain ⟨fs, hf, a_6, hv, h⟩ := h
    refine x_get dX8_flat_48 xf_X8_13 hf hv ?_
    refine x_aload_n 0 dX8_flat_51 rfl rfl ?_
    obtain ⟨fs, hf, x_7, hv, h⟩ := h
    refine x_get dX8_flat_52 xf_X8_116 hf hv ?_
    refine x_aload_n 0 dX8_flat_55 rfl rfl ?_
    obtain ⟨⟨fs, hf⟩, h⟩ := h
    refine x_invV (as := []) (rest := [.int x_7, .ref a_6]) dX8_flat_56 (q := (RX8, TX8, 40)) rfl xc_X8_flat_129 hf (M_X8_month hl h) rfl rfl (Nat.le_of_ble_eq_true rfl) (Nat.zero_le _) (Nat.zero_le _) (xk_i fun x_9 t_8 h => ?_)
    obtain ⟨n, f, hf, hi, h⟩ := h
    refine x_iast dX8_flat_59 hf hi ?_
    generalize hT : xup t_8 a_6 _ = t_10 at h ⊢
    clear hT
    refine x_aload_n 0 dX8_flat_60 rfl rfl ?_
    obtain ⟨fs, hf, a_11, hv, h⟩ := h
    refine x_get dX8_flat_61 xf_X8_19 hf hv ?_
    refine x_aload_n 0 dX8_flat_64 rfl rfl ?_
    obtain ⟨fs, hf, x_12, hv, h⟩ := h
    refine x_get dX8_flat_65 xf_X8_116 hf hv ?_
    refine x_iconst (v := (-1 : Int32)) dX8_flat_68 (by decide) ?_
    obtain ⟨n, f, hf, hi, h⟩ := h
    refine x_iast dX8_flat_69 hf hi ?_
    generalize hT : xup t_10 a_11 _ = t_13 at h ⊢
    clear hT
    refine x_aload_n 0 dX8_flat_70 rfl rfl ?_
    refine x_dup dX8_flat_71 rfl ?_
    obtain ⟨fs, hf, x_14, hv, h⟩ := h
    refine x_get dX8_flat_72 xf_X8_116 hf hv ?_
    refine x_iconst (v := (1 : Int32)) dX8_flat_75 (by decide) ?_
    refine x_iadd dX8_flat_76 ?_
    obtain ⟨fs, hf, hk, h⟩ := h
    refine x_put (v := .int (x_14 + (1 : Int32))) dX8_flat_77 xp_X8_116 hf rfl rfl hk ?_
    generalize hT : xup t_13 a0 _ = t_15 at h ⊢
    clear hT
    refine x_aload_n 0 dX8_flat_80 rfl rfl ?_
    obtain ⟨fs, hf, x_16, hv, h⟩ := h
    refine x_get dX8_flat_81 xf_X8_116 hf hv ?_
    refine x_iconst (v := (1 : Int32)) dX8_flat_84 (by decide) ?_
    refine x_isub dX8_flat_85 ?_
    exact x_zret dX8_flat_86 hr ht rfl ⟨_, rfl, h⟩
  · have h := h2 q
    refine x_iconst (v := (0 : Int32)) dX8_flat_35 (by decide) ?_
    exact x_zret dX8_flat_36 hr ht rfl ⟨_, rfl, h⟩
def V_X8_flat_0 (K : Int32 → xT → Prop) (a0 : Nat) (x1 : Int32) (t : xT) : Prop :=
  (V_X8_in_0 (fun x_2 t_1 => ((¬ x_2 = 0 → xgI t_1 a0 8 2 fun x_3 => ((¬ x_3 = (8 : Int32) → V_X8_flat_29 K a0 x1 (0 : Int32) a0 t_1) ∧ (x_3 = (8 : Int32) → V_X8_flat_29 K a0 x1 (2 : Int32) a0 t_1))) ∧ (x_2 = 0 → V_X8_flat_29 K a0 x1 (1 : Int32) a0 t_1))) x1 (1 : Int32) (9 : Int32) t)
set_option maxRecDepth 20000 in
theorem S_X8_flat_0 {Γ : xΓ} {K : Int32 → xT → Prop} (hl : (gl Γ).stackTraces = false) (ht : (gM Γ).sig.returnType = (some .int)) (hr : xRet Γ (xKi K)) {a0 : Nat} {x1 : Int32} {t : xT} {rc rs : Nat} (h : V_X8_flat_0 K a0 x1 t) : xX Γ k_X8_flat 0 [(0, .ref a0), (1, .int x1)] [] t rc rs := by
  unfold V_X8_flat_0 at h
  refine x_aload_n 0 dX8_flat_0 rfl rfl ?_
  refine x_iload_n 1 dX8_flat_1 rfl rfl ?_
  refine x_iconst (v := (1 : Int32)) dX8_flat_2 (by decide) ?_
  refine x_bipush (v := (9 : Int32)) dX8_flat_3 (by decide) ?_
  refine x_invS (as := [.int x1, .int (1 : Int32), .int (9 : Int32)]) (rest := [.ref a0]) dX8_flat_5 xc_X8_flat_119 (M_X8_in hl h) rfl rfl (Nat.le_of_ble_eq_true rfl) (Nat.zero_le _) (Nat.zero_le _) (xk_i fun x_2 t_1 h => ?_)
  obtain ⟨h1, h2⟩ := h
  refine x_if_ne (tgt := 15) dX8_flat_8 (by decide) (fun q => ?_) (fun q => ?_)
  · have h := h1 q
    refine x_aload_n 0 dX8_flat_15 rfl rfl ?_
    obtain ⟨fs, hf, x_3, hv, h⟩ := h
    refine x_get dX8_flat_16 xf_X8_116 hf hv ?_
    refine x_bipush (v := (8 : Int32)) dX8_flat_19 (by decide) ?_
    obtain ⟨h1, h2⟩ := h
    refine x_icmp_ne (tgt := 28) dX8_flat_21 (by decide) (fun q => ?_) (fun q => ?_)
    · have h := h1 q
      refine x_iconst (v := (0 : Int32)) dX8_flat_28 (by decide) ?_
      exact S_X8_flat_29 hl ht hr  h
    · have h := h2 q
      refine x_iconst (v := (2 : Int32)) dX8_flat_24 (by decide) ?_
      refine x_goto (tgt := 29) dX8_flat_25 (by decide) ?_
      exact S_X8_flat_29 hl ht hr  h
  · have h := h2 q
    refine x_iconst (v := (1 : Int32)) dX8_flat_11 (by decide) ?_
    refine x_goto (tgt := 29) dX8_flat_12 (by decide) ?_
    exact S_X8_flat_29 hl ht hr  h
theorem M_X8_flat {l : Launch} {G : xG} (hl : l.stackTraces = false) {a0 : Nat} {x1 : Int32} {t : xT} {K : Int32 → xT → Prop} (h : V_X8_flat_0 K a0 x1 t) : xMet l G yX8_flat k_X8_flat (some .int) [.ref a0, .int x1] t (xKi K) 0 0 := xMet.of (by decide +kernel) rfl hl (Nat.le_of_ble_eq_true rfl) (fun Γ e1 e2 ht hn hr => by subst e1; subst e2; exact S_X8_flat_0 hl ht hr h)
/-! RentStreamModel.heat(I)I -/
def V_X8_heat_0 (K : Int32 → xT → Prop) (a0 : Nat) (x1 : Int32) (t : xT) : Prop :=
  (V_X8_in_0 (fun x_2 t_1 => ((¬ x_2 = 0 → xgI t_1 a0 8 11 fun x_3 => (((x_3 + x1) ≤ (10000000 : Int32) → (xis t_1 a0 8 ∧ V_X8_holds_0 (fun x_5 t_4 => ((¬ x_5 = 0 → xgI t_4 a0 8 11 fun x_6 => (xpF t_4 a0 8 11 (.int (x_6 + x1)) fun t_7 => xgI t_7 a0 8 11 fun x_8 => K x_8 t_7)) ∧ (x_5 = 0 → K (0 : Int32) t_4))) a0 (0 : Int32) t_1)) ∧ (¬ (x_3 + x1) ≤ (10000000 : Int32) → (xis t_1 a0 8 ∧ V_X8_holds_0 (fun x_10 t_9 => ((¬ x_10 = 0 → xgI t_9 a0 8 11 fun x_11 => (xpF t_9 a0 8 11 (.int (x_11 + x1)) fun t_12 => xgI t_12 a0 8 11 fun x_13 => K x_13 t_12)) ∧ (x_10 = 0 → K (0 : Int32) t_9))) a0 (2 : Int32) t_1)))) ∧ (x_2 = 0 → (xis t_1 a0 8 ∧ V_X8_holds_0 (fun x_15 t_14 => ((¬ x_15 = 0 → xgI t_14 a0 8 11 fun x_16 => (xpF t_14 a0 8 11 (.int (x_16 + x1)) fun t_17 => xgI t_17 a0 8 11 fun x_18 => K x_18 t_17)) ∧ (x_15 = 0 → K (0 : Int32) t_14))) a0 (1 : Int32) t_1)))) x1 (1 : Int32) (1000000 : Int32) t)
set_option maxRecDepth 20000 in
theorem S_X8_heat_0 {Γ : xΓ} {K : Int32 → xT → Prop} (hl : (gl Γ).stackTraces = false) (ht : (gM Γ).sig.returnType = (some .int)) (hr : xRet Γ (xKi K)) {a0 : Nat} {x1 : Int32} {t : xT} {rc rs : Nat} (h : V_X8_heat_0 K a0 x1 t) : xX Γ k_X8_heat 0 [(0, .ref a0), (1, .int x1)] [] t rc rs := by
  unfold V_X8_heat_0 at h
  refine x_aload_n 0 dX8_heat_0 rfl rfl ?_
  refine x_iload_n 1 dX8_heat_1 rfl rfl ?_
  refine x_iconst (v := (1 : Int32)) dX8_heat_2 (by decide) ?_
  refine x_ldc dX8_heat_3 xw1391 ?_
  refine x_invS (as := [.int x1, .int (1 : Int32), .int (1000000 : Int32)]) (rest := [.ref a0]) dX8_heat_5 xc_X8_heat_119 (M_X8_in hl h) rfl rfl (Nat.le_of_ble_eq_true rfl) (Nat.zero_le _) (Nat.zero_le _) (xk_i fun x_2 t_1 h => ?_)
  obtain ⟨h1, h2⟩ := h
  refine x_if_ne (tgt := 15) dX8_heat_8 (by decide) (fun q => ?_) (fun q => ?_)
  · have h := h1 q
    refine x_aload_n 0 dX8_heat_15 rfl rfl ?_
    obtain ⟨fs, hf, x_3, hv, h⟩ := h
    refine x_get dX8_heat_16 xf_X8_152 hf hv ?_
    refine x_iload_n 1 dX8_heat_19 rfl rfl ?_
    refine x_iadd dX8_heat_20 ?_
    refine x_ldc dX8_heat_21 xw1396 ?_
    obtain ⟨h1, h2⟩ := h
    refine x_icmp_le (tgt := 30) dX8_heat_23 (by decide) (fun q => ?_) (fun q => ?_)
    · have h := h1 q
      refine x_iconst (v := (0 : Int32)) dX8_heat_30 (by decide) ?_
      obtain ⟨⟨fs, hf⟩, h⟩ := h
      refine x_invV (as := [.int (0 : Int32)]) (rest := []) dX8_heat_31 (q := (RX8, TX8, 40)) rfl xc_X8_heat_133 hf (M_X8_holds hl h) rfl rfl (Nat.le_of_ble_eq_true rfl) (Nat.zero_le _) (Nat.zero_le _) (xk_i fun x_5 t_4 h => ?_)
      obtain ⟨h1, h2⟩ := h
      refine x_if_ne (tgt := 39) dX8_heat_34 (by decide) (fun q => ?_) (fun q => ?_)
      · have h := h1 q
        refine x_aload_n 0 dX8_heat_39 rfl rfl ?_
        refine x_dup dX8_heat_40 rfl ?_
        obtain ⟨fs, hf, x_6, hv, h⟩ := h
        refine x_get dX8_heat_41 xf_X8_152 hf hv ?_
        refine x_iload_n 1 dX8_heat_44 rfl rfl ?_
        refine x_iadd dX8_heat_45 ?_
        obtain ⟨fs, hf, hk, h⟩ := h
        refine x_put (v := .int (x_6 + x1)) dX8_heat_46 xp_X8_152 hf rfl rfl hk ?_
        generalize hT : xup t_4 a0 _ = t_7 at h ⊢
        clear hT
        refine x_aload_n 0 dX8_heat_49 rfl rfl ?_
        obtain ⟨fs, hf, x_8, hv, h⟩ := h
        refine x_get dX8_heat_50 xf_X8_152 hf hv ?_
        exact x_zret dX8_heat_53 hr ht rfl ⟨_, rfl, h⟩
      · have h := h2 q
        refine x_iconst (v := (0 : Int32)) dX8_heat_37 (by decide) ?_
        exact x_zret dX8_heat_38 hr ht rfl ⟨_, rfl, h⟩
    · have h := h2 q
      refine x_iconst (v := (2 : Int32)) dX8_heat_26 (by decide) ?_
      refine x_goto (tgt := 31) dX8_heat_27 (by decide) ?_
      obtain ⟨⟨fs, hf⟩, h⟩ := h
      refine x_invV (as := [.int (2 : Int32)]) (rest := []) dX8_heat_31 (q := (RX8, TX8, 40)) rfl xc_X8_heat_133 hf (M_X8_holds hl h) rfl rfl (Nat.le_of_ble_eq_true rfl) (Nat.zero_le _) (Nat.zero_le _) (xk_i fun x_10 t_9 h => ?_)
      obtain ⟨h1, h2⟩ := h
      refine x_if_ne (tgt := 39) dX8_heat_34 (by decide) (fun q => ?_) (fun q => ?_)
      · have h := h1 q
        refine x_aload_n 0 dX8_heat_39 rfl rfl ?_
        refine x_dup dX8_heat_40 rfl ?_
        obtain ⟨fs, hf, x_11, hv, h⟩ := h
        refine x_get dX8_heat_41 xf_X8_152 hf hv ?_
        refine x_iload_n 1 dX8_heat_44 rfl rfl ?_
        refine x_iadd dX8_heat_45 ?_
        obtain ⟨fs, hf, hk, h⟩ := h
        refine x_put (v := .int (x_11 + x1)) dX8_heat_46 xp_X8_152 hf rfl rfl hk ?_
        generalize hT : xup t_9 a0 _ = t_12 at h ⊢
        clear hT
        refine x_aload_n 0 dX8_heat_49 rfl rfl ?_
        obtain ⟨fs, hf, x_13, hv, h⟩ := h
        refine x_get dX8_heat_50 xf_X8_152 hf hv ?_
        exact x_zret dX8_heat_53 hr ht rfl ⟨_, rfl, h⟩
      · have h := h2 q
        refine x_iconst (v := (0 : Int32)) dX8_heat_37 (by decide) ?_
        exact x_zret dX8_heat_38 hr ht rfl ⟨_, rfl, h⟩
  · have h := h2 q
    refine x_iconst (v := (1 : Int32)) dX8_heat_11 (by decide) ?_
    refine x_goto (tgt := 31) dX8_heat_12 (by decide) ?_
    obtain ⟨⟨fs, hf⟩, h⟩ := h
    refine x_invV (as := [.int (1 : Int32)]) (rest := []) dX8_heat_31 (q := (RX8, TX8, 40)) rfl xc_X8_heat_133 hf (M_X8_holds hl h) rfl rfl (Nat.le_of_ble_eq_true rfl) (Nat.zero_le _) (Nat.zero_le _) (xk_i fun x_15 t_14 h => ?_)
    obtain ⟨h1, h2⟩ := h
    refine x_if_ne (tgt := 39) dX8_heat_34 (by decide) (fun q => ?_) (fun q => ?_)
    · have h := h1 q
      refine x_aload_n 0 dX8_heat_39 rfl rfl ?_
      refine x_dup dX8_heat_40 rfl ?_
      obtain ⟨fs, hf, x_16, hv, h⟩ := h
      refine x_get dX8_heat_41 xf_X8_152 hf hv ?_
      refine x_iload_n 1 dX8_heat_44 rfl rfl ?_
      refine x_iadd dX8_heat_45 ?_
      obtain ⟨fs, hf, hk, h⟩ := h
      refine x_put (v := .int (x_16 + x1)) dX8_heat_46 xp_X8_152 hf rfl rfl hk ?_
      generalize hT : xup t_14 a0 _ = t_17 at h ⊢
      clear hT
      refine x_aload_n 0 dX8_heat_49 rfl rfl ?_
      obtain ⟨fs, hf, x_18, hv, h⟩ := h
      refine x_get dX8_heat_50 xf_X8_152 hf hv ?_
      exact x_zret dX8_heat_53 hr ht rfl ⟨_, rfl, h⟩
    · have h := h2 q
      refine x_iconst (v := (0 : Int32)) dX8_heat_37 (by decide) ?_
      exact x_zret dX8_heat_38 hr ht rfl ⟨_, rfl, h⟩
theorem M_X8_heat {l : Launch} {G : xG} (hl : l.stackTraces = false) {a0 : Nat} {x1 : Int32} {t : xT} {K : Int32 → xT → Prop} (h : V_X8_heat_0 K a0 x1 t) : xMet l G yX8_heat k_X8_heat (some .int) [.ref a0, .int x1] t (xKi K) 0 0 := xMet.of (by decide +kernel) rfl hl (Nat.le_of_ble_eq_true rfl) (fun Γ e1 e2 ht hn hr => by subst e1; subst e2; exact S_X8_heat_0 hl ht hr h)
/-! RentStreamModel.income(III)J -/
def VS_X8_income_73 (R73 : Nat → Int32 → Int64 → Int32 → xT → Prop) (K : Int64 → xT → Prop) (a0 : Nat) (x1 : Int32) (y5 : Int64) (x7 : Int32) (t : xT) : Prop :=
  (xis t a0 8 ∧ V_X8_month_0 (fun x_2 t_1 => ((x_2 < x7 → xgR t_1 a0 8 23 fun a_3 => xaJ t_1 a_3 x1 fun y_4 => xsJ t_1 a_3 x1 (y_4 + y5) fun t_5 => xgR t_5 a0 8 24 fun a_6 => xaJ t_5 a_6 x1 fun y_7 => xsJ t_5 a_6 x1 (y_7 - y5) fun t_8 => K y5 t_8) ∧ (¬ x_2 < x7 → (V_X8_at_0 (fun x_10 t_9 => xgR t_9 a0 8 26 fun a_11 => xaI 2 t_9 a_11 x_10 fun x_12 => ((x_12 = 0 → R73 a0 x1 y5 (x7 + 1) t_9) ∧ (¬ x_12 = 0 → xgR t_9 a0 8 27 fun a_13 => xaI 0 t_9 a_13 x_10 fun x_14 => xgR t_9 a0 8 28 fun a_15 => xaI 0 t_9 a_15 x_10 fun x_16 => (xis t_9 a0 8 ∧ V_X8_incomeIn_0 (fun x_18 t_17 => (V_X8_benefitFor_0 (fun x_20 t_19 => xgR t_19 a0 8 29 fun a_21 => xaI 0 t_19 a_21 x_10 fun x_22 => xgR t_19 a0 8 29 fun a_23 => xsI 0 t_19 a_23 x_10 x_20 fun t_24 => R73 a0 x1 (y5 + ((x_22 - x_20)).toInt64) (x7 + 1) t_24) (x_14 - x_16) x_18 t_17)) a0 x1 x7 t_9)))) x1 x7 t_1)))) a0 t)
def V_X8_income_73 (K : Int64 → xT → Prop) (n : Nat) : Nat → Int32 → Int64 → Int32 → xT → Prop := Nat.rec (fun _ _ _ _ _ => False) (fun _ ih => VS_X8_income_73 ih K) n
set_option maxRecDepth 20000 in
theorem S_X8_income_73 {Γ : xΓ} {K : Int64 → xT → Prop} (hl : (gl Γ).stackTraces = false) (ht : (gM Γ).sig.returnType = (some .long)) (hr : xRet Γ (xKl K)) : ∀ (n : Nat) (a0 : Nat) (x1 : Int32) (y5 : Int64) (x7 : Int32) (t : xT) (rc rs : Nat), V_X8_income_73 K n a0 x1 y5 x7 t → xX Γ k_X8_income 73 [(0, .ref a0), (1, .int x1), (5, .long y5), (7, .int x7)] [] t rc rs := by
  intro n
  induction n with
  | zero =>
    intro a0 x1 y5 x7 t rc rs h
    exact h.elim
  | succ n ih =>
    intro a0 x1 y5 x7 t rc rs h
    replace h : VS_X8_income_73 (V_X8_income_73 K n) K a0 x1 y5 x7 t := h
    unfold VS_X8_income_73 at h
    refine x_iload 3 dX8_income_73 rfl ?_
    refine x_aload_n 0 dX8_income_75 rfl rfl ?_
    obtain ⟨⟨fs, hf⟩, h⟩ := h
    refine x_invV (as := []) (rest := [.int x7]) dX8_income_76 (q := (RX8, TX8, 40)) rfl xc_X8_income_129 hf (M_X8_month hl h) rfl rfl (Nat.le_of_ble_eq_true rfl) (Nat.zero_le _) (Nat.zero_le _) (xk_i fun x_2 t_1 h => ?_)
    obtain ⟨h1, h2⟩ := h
    refine x_icmp_gt (tgt := 158) dX8_income_79 (by decide) (fun q => ?_) (fun q => ?_)
    · have h := h1 q
      refine x_aload_n 0 dX8_income_158 rfl rfl ?_
      obtain ⟨fs, hf, a_3, hv, h⟩ := h
      refine x_get dX8_income_159 xf_X8_62 hf hv ?_
      refine x_iload_n 1 dX8_income_162 rfl rfl ?_
      refine x_dup2_11 dX8_income_163 rfl rfl ?_
      obtain ⟨n, f, hf, hi, h⟩ := h
      refine x_lald dX8_income_164 hf hi ?_
      generalize f _ = y_4 at h ⊢
      refine x_lload 2 dX8_income_165 rfl ?_
      refine x_ladd dX8_income_167 ?_
      obtain ⟨n, f, hf, hi, h⟩ := h
      refine x_last dX8_income_168 hf hi ?_
      generalize hT : xup t_1 a_3 _ = t_5 at h ⊢
      clear hT
      refine x_aload_n 0 dX8_income_169 rfl rfl ?_
      obtain ⟨fs, hf, a_6, hv, h⟩ := h
      refine x_get dX8_income_170 xf_X8_66 hf hv ?_
      refine x_iload_n 1 dX8_income_173 rfl rfl ?_
      refine x_dup2_11 dX8_income_174 rfl rfl ?_
      obtain ⟨n, f, hf, hi, h⟩ := h
      refine x_lald dX8_income_175 hf hi ?_
      generalize f _ = y_7 at h ⊢
      refine x_lload 2 dX8_income_176 rfl ?_
      refine x_lsub dX8_income_178 ?_
      obtain ⟨n, f, hf, hi, h⟩ := h
      refine x_last dX8_income_179 hf hi ?_
      generalize hT : xup t_5 a_6 _ = t_8 at h ⊢
      clear hT
      refine x_lload 2 dX8_income_180 rfl ?_
      exact x_lret dX8_income_182 hr ht ⟨_, rfl, h⟩
    · have h := h2 q
      refine x_iload_n 1 dX8_income_82 rfl rfl ?_
      refine x_iload 3 dX8_income_83 rfl ?_
      refine x_invS (as := [.int x1, .int x7]) (rest := []) dX8_income_85 xc_X8_income_173 (M_X8_at hl h) rfl rfl (Nat.le_of_ble_eq_true rfl) (Nat.zero_le _) (Nat.zero_le _) (xk_i fun x_10 t_9 h => ?_)
      refine x_istore (L' := [(8, .int x_10), (0, .ref a0), (1, .int x1), (5, .long y5), (7, .int x7)]) dX8_income_88 (by decide) rfl ?_
      refine x_aload_n 1 dX8_income_90 rfl rfl ?_
      obtain ⟨fs, hf, a_11, hv, h⟩ := h
      refine x_get dX8_income_91 xf_X8_72 hf hv ?_
      refine x_iload 0 dX8_income_94 rfl ?_
      obtain ⟨n, f, hf, hi, h⟩ := h
      refine x_zald dX8_income_96 hf hi ?_
      generalize f _ = x_12 at h ⊢
      obtain ⟨h1, h2⟩ := h
      refine x_if_eq (tgt := 152) dX8_income_97 (by decide) (fun q => ?_) (fun q => ?_)
      · have h := h1 q
        refine x_iinc (v := (x7 + 1)) (L' := [(7, .int (x7 + 1)), (8, .int x_10), (0, .ref a0), (1, .int x1), (5, .long y5)]) (j := 4) dX8_income_152 rfl rfl (by decide) rfl ?_
        refine x_goto (tgt := 73) dX8_income_155 (by decide) ?_
        refine x_sub (L' := [(0, .ref a0), (1, .int x1), (5, .long y5), (7, .int (x7 + 1))]) [2, 3, 4, 0] rfl ?_
        exact ih a0 x1 y5 (x7 + 1) t_9 _ _ h
      · have h := h2 q
        refine x_aload_n 1 dX8_income_100 rfl rfl ?_
        obtain ⟨fs, hf, a_13, hv, h⟩ := h
        refine x_get dX8_income_101 xf_X8_75 hf hv ?_
        refine x_iload 0 dX8_income_104 rfl ?_
        obtain ⟨n, f, hf, hi, h⟩ := h
        refine x_iald dX8_income_106 hf hi ?_
        generalize f _ = x_14 at h ⊢
        refine x_aload_n 1 dX8_income_107 rfl rfl ?_
        obtain ⟨fs, hf, a_15, hv, h⟩ := h
        refine x_get dX8_income_108 xf_X8_78 hf hv ?_
        refine x_iload 0 dX8_income_111 rfl ?_
        obtain ⟨n, f, hf, hi, h⟩ := h
        refine x_iald dX8_income_113 hf hi ?_
        generalize f _ = x_16 at h ⊢
        refine x_isub dX8_income_114 ?_
        refine x_aload_n 1 dX8_income_115 rfl rfl ?_
        refine x_iload_n 2 dX8_income_116 rfl rfl ?_
        refine x_iload 4 dX8_income_117 rfl ?_
        obtain ⟨⟨fs, hf⟩, h⟩ := h
        refine x_invV (as := [.int x1, .int x7]) (rest := [.int (x_14 - x_16)]) dX8_income_119 (q := (RX8, TX8, 40)) rfl xc_X8_income_182 hf (M_X8_incomeIn hl h) rfl rfl (Nat.le_of_ble_eq_true rfl) (Nat.zero_le _) (Nat.zero_le _) (xk_i fun x_18 t_17 h => ?_)
        refine x_invS (as := [.int (x_14 - x_16), .int x_18]) (rest := []) dX8_income_122 xc_X8_income_185 (M_X8_benefitFor hl h) rfl rfl (Nat.le_of_ble_eq_true rfl) (Nat.zero_le _) (Nat.zero_le _) (xk_i fun x_20 t_19 h => ?_)
        refine x_istore (L' := [(9, .int x_20), (8, .int x_10), (0, .ref a0), (1, .int x1), (5, .long y5), (7, .int x7)]) dX8_income_125 (by decide) rfl ?_
        refine x_lload 4 dX8_income_127 rfl ?_
        refine x_aload_n 2 dX8_income_129 rfl rfl ?_
        obtain ⟨fs, hf, a_21, hv, h⟩ := h
        refine x_get dX8_income_130 xf_X8_81 hf hv ?_
        refine x_iload 1 dX8_income_133 rfl ?_
        obtain ⟨n, f, hf, hi, h⟩ := h
        refine x_iald dX8_income_135 hf hi ?_
        generalize f _ = x_22 at h ⊢
        refine x_iload 0 dX8_income_136 rfl ?_
        refine x_isub dX8_income_138 ?_
        refine x_i2l dX8_income_139 ?_
        refine x_ladd dX8_income_140 ?_
        refine x_lstore (L' := [(5, .long (y5 + ((x_22 - x_20)).toInt64)), (9, .int x_20), (8, .int x_10), (0, .ref a0), (1, .int x1), (7, .int x7)]) dX8_income_141 (by decide) rfl ?_
        refine x_aload_n 3 dX8_income_143 rfl rfl ?_
        obtain ⟨fs, hf, a_23, hv, h⟩ := h
        refine x_get dX8_income_144 xf_X8_81 hf hv ?_
        refine x_iload 2 dX8_income_147 rfl ?_
        refine x_iload 1 dX8_income_149 rfl ?_
        obtain ⟨n, f, hf, hi, h⟩ := h
        refine x_iast dX8_income_151 hf hi ?_
        generalize hT : xup t_19 a_23 _ = t_24 at h ⊢
        clear hT
        refine x_iinc (v := (x7 + 1)) (L' := [(7, .int (x7 + 1)), (5, .long (y5 + ((x_22 - x_20)).toInt64)), (9, .int x_20), (8, .int x_10), (0, .ref a0), (1, .int x1)]) (j := 5) dX8_income_152 rfl rfl (by decide) rfl ?_
        refine x_goto (tgt := 73) dX8_income_155 (by decide) ?_
        refine x_sub (L' := [(0, .ref a0), (1, .int x1), (5, .long (y5 + ((x_22 - x_20)).toInt64)), (7, .int (x7 + 1))]) [4, 5, 1, 0] rfl ?_
        exact ih a0 x1 (y5 + ((x_22 - x_20)).toInt64) (x7 + 1) t_24 _ _ h
def V_X8_income_48 (K : Int64 → xT → Prop) (a0 : Nat) (x1 : Int32) (x2 : Int32) (x3 : Int32) (xs0 : Int32) (as1 : Nat) (t : xT) : Prop :=
  (xis t as1 8 ∧ V_X8_holds_0 (fun x_2 t_1 => ((¬ x_2 = 0 → xgR t_1 a0 8 25 fun a_3 => (V_X8_at_0 (fun x_5 t_4 => xsI 0 t_4 a_3 x_5 x3 fun t_6 => ∃ f_7 : Nat, V_X8_income_73 K f_7 a0 x1 (0 : Int64) x2 t_6) x1 x2 t_1)) ∧ (x_2 = 0 → K (0 : Int64) t_1))) as1 xs0 t)
set_option maxRecDepth 20000 in
theorem S_X8_income_48 {Γ : xΓ} {K : Int64 → xT → Prop} (hl : (gl Γ).stackTraces = false) (ht : (gM Γ).sig.returnType = (some .long)) (hr : xRet Γ (xKl K)) {a0 : Nat} {x1 : Int32} {x2 : Int32} {x3 : Int32} {xs0 : Int32} {as1 : Nat} {t : xT} {rc rs : Nat} (h : V_X8_income_48 K a0 x1 x2 x3 xs0 as1 t) : xX Γ k_X8_income 48 [(0, .ref a0), (1, .int x1), (2, .int x2), (3, .int x3)] [.int xs0, .ref as1] t rc rs := by
  unfold V_X8_income_48 at h
  obtain ⟨⟨fs, hf⟩, h⟩ := h
  refine x_invV (as := [.int xs0]) (rest := []) dX8_income_48 (q := (RX8, TX8, 40)) rfl xc_X8_income_133 hf (M_X8_holds hl h) rfl rfl (Nat.le_of_ble_eq_true rfl) (Nat.zero_le _) (Nat.zero_le _) (xk_i fun x_2 t_1 h => ?_)
  obtain ⟨h1, h2⟩ := h
  refine x_if_ne (tgt := 56) dX8_income_51 (by decide) (fun q => ?_) (fun q => ?_)
  · have h := h1 q
    refine x_aload_n 0 dX8_income_56 rfl rfl ?_
    obtain ⟨fs, hf, a_3, hv, h⟩ := h
    refine x_get dX8_income_57 xf_X8_69 hf hv ?_
    refine x_iload_n 1 dX8_income_60 rfl rfl ?_
    refine x_iload_n 2 dX8_income_61 rfl rfl ?_
    refine x_invS (as := [.int x1, .int x2]) (rest := [.ref a_3]) dX8_income_62 xc_X8_income_173 (M_X8_at hl h) rfl rfl (Nat.le_of_ble_eq_true rfl) (Nat.zero_le _) (Nat.zero_le _) (xk_i fun x_5 t_4 h => ?_)
    refine x_iload_n 3 dX8_income_65 rfl rfl ?_
    obtain ⟨n, f, hf, hi, h⟩ := h
    refine x_iast dX8_income_66 hf hi ?_
    generalize hT : xup t_4 a_3 _ = t_6 at h ⊢
    clear hT
    refine x_lconst (v := (0 : Int64)) dX8_income_67 (by decide) ?_
    refine x_lstore (L' := [(5, .long (0 : Int64)), (0, .ref a0), (1, .int x1), (2, .int x2), (3, .int x3)]) dX8_income_68 (by decide) rfl ?_
    refine x_iload_n 3 dX8_income_70 rfl rfl ?_
    refine x_istore (L' := [(7, .int x2), (5, .long (0 : Int64)), (0, .ref a0), (1, .int x1), (2, .int x2), (3, .int x3)]) dX8_income_71 (by decide) rfl ?_
    obtain ⟨f_7, h⟩ := h
    refine x_sub (L' := [(0, .ref a0), (1, .int x1), (5, .long (0 : Int64)), (7, .int x2)]) [2, 3, 1, 0] rfl ?_
    exact S_X8_income_73 hl ht hr  f_7 a0 x1 (0 : Int64) x2 t_6 _ _ h
  · have h := h2 q
    refine x_lconst (v := (0 : Int64)) dX8_income_54 (by decide) ?_
    exact x_lret dX8_income_55 hr ht ⟨_, rfl, h⟩
def V_X8_income_21 (K : Int64 → xT → Prop) (a0 : Nat) (x1 : Int32) (x2 : Int32) (x3 : Int32) (xs0 : Int32) (t : xT) : Prop :=
  ((¬ xs0 = 0 → (V_X8_in_0 (fun x_2 t_1 => ((x_2 = 0 → V_X8_income_48 K a0 x1 x2 x3 (2 : Int32) a0 t_1) ∧ (¬ x_2 = 0 → V_X8_income_48 K a0 x1 x2 x3 (0 : Int32) a0 t_1))) x3 (0 : Int32) (1000000 : Int32) t)) ∧ (xs0 = 0 → V_X8_income_48 K a0 x1 x2 x3 (1 : Int32) a0 t))
set_option maxRecDepth 20000 in
theorem S_X8_income_21 {Γ : xΓ} {K : Int64 → xT → Prop} (hl : (gl Γ).stackTraces = false) (ht : (gM Γ).sig.returnType = (some .long)) (hr : xRet Γ (xKl K)) {a0 : Nat} {x1 : Int32} {x2 : Int32} {x3 : Int32} {xs0 : Int32} {t : xT} {rc rs : Nat} (h : V_X8_income_21 K a0 x1 x2 x3 xs0 t) : xX Γ k_X8_income 21 [(0, .ref a0), (1, .int x1), (2, .int x2), (3, .int x3)] [.int xs0] t rc rs := by
  unfold V_X8_income_21 at h
  refine x_istore (L' := [(4, .int xs0), (0, .ref a0), (1, .int x1), (2, .int x2), (3, .int x3)]) dX8_income_21 (by decide) rfl ?_
  refine x_aload_n 1 dX8_income_23 rfl rfl ?_
  refine x_iload 0 dX8_income_24 rfl ?_
  obtain ⟨h1, h2⟩ := h
  refine x_if_ne (tgt := 33) dX8_income_26 (by decide) (fun q => ?_) (fun q => ?_)
  · have h := h1 q
    refine x_iload_n 4 dX8_income_33 rfl rfl ?_
    refine x_iconst (v := (0 : Int32)) dX8_income_34 (by decide) ?_
    refine x_ldc dX8_income_35 xw1391 ?_
    refine x_invS (as := [.int x3, .int (0 : Int32), .int (1000000 : Int32)]) (rest := [.ref a0]) dX8_income_37 xc_X8_income_119 (M_X8_in hl h) rfl rfl (Nat.le_of_ble_eq_true rfl) (Nat.zero_le _) (Nat.zero_le _) (xk_i fun x_2 t_1 h => ?_)
    obtain ⟨h1, h2⟩ := h
    refine x_if_eq (tgt := 47) dX8_income_40 (by decide) (fun q => ?_) (fun q => ?_)
    · have h := h1 q
      refine x_iconst (v := (2 : Int32)) dX8_income_47 (by decide) ?_
      refine x_sub (L' := [(0, .ref a0), (1, .int x1), (2, .int x2), (3, .int x3)]) [1, 2, 3, 4] rfl ?_
      exact S_X8_income_48 hl ht hr  h
    · have h := h2 q
      refine x_iconst (v := (0 : Int32)) dX8_income_43 (by decide) ?_
      refine x_goto (tgt := 48) dX8_income_44 (by decide) ?_
      refine x_sub (L' := [(0, .ref a0), (1, .int x1), (2, .int x2), (3, .int x3)]) [1, 2, 3, 4] rfl ?_
      exact S_X8_income_48 hl ht hr  h
  · have h := h2 q
    refine x_iconst (v := (1 : Int32)) dX8_income_29 (by decide) ?_
    refine x_goto (tgt := 48) dX8_income_30 (by decide) ?_
    refine x_sub (L' := [(0, .ref a0), (1, .int x1), (2, .int x2), (3, .int x3)]) [1, 2, 3, 4] rfl ?_
    exact S_X8_income_48 hl ht hr  h
def V_X8_income_0 (K : Int64 → xT → Prop) (a0 : Nat) (x1 : Int32) (x2 : Int32) (x3 : Int32) (t : xT) : Prop :=
  (xis t a0 8 ∧ V_X8_isLease_0 (fun x_2 t_1 => ((x_2 = 0 → V_X8_income_21 K a0 x1 x2 x3 (0 : Int32) t_1) ∧ (¬ x_2 = 0 → (xis t_1 a0 8 ∧ V_X8_isMonth_0 (fun x_4 t_3 => ((x_4 = 0 → V_X8_income_21 K a0 x1 x2 x3 (0 : Int32) t_3) ∧ (¬ x_4 = 0 → V_X8_income_21 K a0 x1 x2 x3 (1 : Int32) t_3))) a0 x2 t_1)))) a0 x1 t)
set_option maxRecDepth 20000 in
theorem S_X8_income_0 {Γ : xΓ} {K : Int64 → xT → Prop} (hl : (gl Γ).stackTraces = false) (ht : (gM Γ).sig.returnType = (some .long)) (hr : xRet Γ (xKl K)) {a0 : Nat} {x1 : Int32} {x2 : Int32} {x3 : Int32} {t : xT} {rc rs : Nat} (h : V_X8_income_0 K a0 x1 x2 x3 t) : xX Γ k_X8_income 0 [(0, .ref a0), (1, .int x1), (2, .int x2), (3, .int x3)] [] t rc rs := by
  unfold V_X8_income_0 at h
  refine x_aload_n 0 dX8_income_0 rfl rfl ?_
  refine x_iload_n 1 dX8_income_1 rfl rfl ?_
  obtain ⟨⟨fs, hf⟩, h⟩ := h
  refine x_invV (as := [.int x1]) (rest := []) dX8_income_2 (q := (RX8, TX8, 40)) rfl xc_X8_income_148 hf (M_X8_isLease hl h) rfl rfl (Nat.le_of_ble_eq_true rfl) (Nat.zero_le _) (Nat.zero_le _) (xk_i fun x_2 t_1 h => ?_)
  obtain ⟨h1, h2⟩ := h
  refine x_if_eq (tgt := 20) dX8_income_5 (by decide) (fun q => ?_) (fun q => ?_)
  · have h := h1 q
    refine x_iconst (v := (0 : Int32)) dX8_income_20 (by decide) ?_
    exact S_X8_income_21 hl ht hr  h
  · have h := h2 q
    refine x_aload_n 0 dX8_income_8 rfl rfl ?_
    refine x_iload_n 2 dX8_income_9 rfl rfl ?_
    obtain ⟨⟨fs, hf⟩, h⟩ := h
    refine x_invV (as := [.int x2]) (rest := []) dX8_income_10 (q := (RX8, TX8, 40)) rfl xc_X8_income_202 hf (M_X8_isMonth hl h) rfl rfl (Nat.le_of_ble_eq_true rfl) (Nat.zero_le _) (Nat.zero_le _) (xk_i fun x_4 t_3 h => ?_)
    obtain ⟨h1, h2⟩ := h
    refine x_if_eq (tgt := 20) dX8_income_13 (by decide) (fun q => ?_) (fun q => ?_)
    · have h := h1 q
      refine x_iconst (v := (0 : Int32)) dX8_income_20 (by decide) ?_
      exact S_X8_income_21 hl ht hr  h
    · have h := h2 q
      refine x_iconst (v := (1 : Int32)) dX8_income_16 (by decide) ?_
      refine x_goto (tgt := 21) dX8_income_17 (by decide) ?_
      exact S_X8_income_21 hl ht hr  h
theorem M_X8_income {l : Launch} {G : xG} (hl : l.stackTraces = false) {a0 : Nat} {x1 : Int32} {x2 : Int32} {x3 : Int32} {t : xT} {K : Int64 → xT → Prop} (h : V_X8_income_0 K a0 x1 x2 x3 t) : xMet l G yX8_income k_X8_income (some .long) [.ref a0, .int x1, .int x2, .int x3] t (xKl K) 0 0 := xMet.of (by decide +kernel) rfl hl (Nat.le_of_ble_eq_true rfl) (fun Γ e1 e2 ht hn hr => by subst e1; subst e2; exact S_X8_income_0 hl ht hr h)
/-! RentStreamModel.index(I)I -/
def V_X8_index_18 (K : Int32 → xT → Prop) (a0 : Nat) (x1 : Int32) (xs0 : Int32) (as1 : Nat) (t : xT) : Prop :=
  (xis t as1 8 ∧ V_X8_holds_0 (fun x_2 t_1 => ((¬ x_2 = 0 → xgR t_1 a0 8 10 fun a_3 => (xis t_1 a0 8 ∧ V_X8_month_0 (fun x_5 t_4 => xsI 0 t_4 a_3 (x_5 + (1 : Int32)) x1 fun t_6 => xgR t_6 a0 8 10 fun a_7 => (xis t_6 a0 8 ∧ V_X8_month_0 (fun x_9 t_8 => xaI 0 t_8 a_7 x_9 fun x_10 => K x_10 t_8) a0 t_6)) a0 t_1)) ∧ (x_2 = 0 → K (0 : Int32) t_1))) as1 xs0 t)
set_option maxRecDepth 20000 in
theorem S_X8_index_18 {Γ : xΓ} {K : Int32 → xT → Prop} (hl : (gl Γ).stackTraces = false) (ht : (gM Γ).sig.returnType = (some .int)) (hr : xRet Γ (xKi K)) {a0 : Nat} {x1 : Int32} {xs0 : Int32} {as1 : Nat} {t : xT} {rc rs : Nat} (h : V_X8_index_18 K a0 x1 xs0 as1 t) : xX Γ k_X8_index 18 [(0, .ref a0), (1, .int x1)] [.int xs0, .ref as1] t rc rs := by
  unfold V_X8_index_18 at h
  obtain ⟨⟨fs, hf⟩, h⟩ := h
  refine x_invV (as := [.int xs0]) (rest := []) dX8_index_18 (q := (RX8, TX8, 40)) rfl xc_X8_index_133 hf (M_X8_holds hl h) rfl rfl (Nat.le_of_ble_eq_true rfl) (Nat.zero_le _) (Nat.zero_le _) (xk_i fun x_2 t_1 h => ?_)
  obtain ⟨h1, h2⟩ := h
  refine x_if_ne (tgt := 26) dX8_index_21 (by decide) (fun q => ?_) (fun q => ?_)
  · have h := h1 q
    refine x_aload_n 0 dX8_index_26 rfl rfl ?_
    obtain ⟨fs, hf, a_3, hv, h⟩ := h
    refine x_get dX8_index_27 xf_X8_31 hf hv ?_
    refine x_aload_n 0 dX8_index_30 rfl rfl ?_
    obtain ⟨⟨fs, hf⟩, h⟩ := h
    refine x_invV (as := []) (rest := [.ref a_3]) dX8_index_31 (q := (RX8, TX8, 40)) rfl xc_X8_index_129 hf (M_X8_month hl h) rfl rfl (Nat.le_of_ble_eq_true rfl) (Nat.zero_le _) (Nat.zero_le _) (xk_i fun x_5 t_4 h => ?_)
    refine x_iconst (v := (1 : Int32)) dX8_index_34 (by decide) ?_
    refine x_iadd dX8_index_35 ?_
    refine x_iload_n 1 dX8_index_36 rfl rfl ?_
    obtain ⟨n, f, hf, hi, h⟩ := h
    refine x_iast dX8_index_37 hf hi ?_
    generalize hT : xup t_4 a_3 _ = t_6 at h ⊢
    clear hT
    refine x_aload_n 0 dX8_index_38 rfl rfl ?_
    obtain ⟨fs, hf, a_7, hv, h⟩ := h
    refine x_get dX8_index_39 xf_X8_31 hf hv ?_
    refine x_aload_n 0 dX8_index_42 rfl rfl ?_
    obtain ⟨⟨fs, hf⟩, h⟩ := h
    refine x_invV (as := []) (rest := [.ref a_7]) dX8_index_43 (q := (RX8, TX8, 40)) rfl xc_X8_index_129 hf (M_X8_month hl h) rfl rfl (Nat.le_of_ble_eq_true rfl) (Nat.zero_le _) (Nat.zero_le _) (xk_i fun x_9 t_8 h => ?_)
    obtain ⟨n, f, hf, hi, h⟩ := h
    refine x_iald dX8_index_46 hf hi ?_
    generalize f _ = x_10 at h ⊢
    exact x_zret dX8_index_47 hr ht rfl ⟨_, rfl, h⟩
  · have h := h2 q
    refine x_iconst (v := (0 : Int32)) dX8_index_24 (by decide) ?_
    exact x_zret dX8_index_25 hr ht rfl ⟨_, rfl, h⟩
def V_X8_index_0 (K : Int32 → xT → Prop) (a0 : Nat) (x1 : Int32) (t : xT) : Prop :=
  (V_X8_in_0 (fun x_2 t_1 => ((x_2 = 0 → V_X8_index_18 K a0 x1 (1 : Int32) a0 t_1) ∧ (¬ x_2 = 0 → V_X8_index_18 K a0 x1 (0 : Int32) a0 t_1))) x1 (50 : Int32) (200 : Int32) t)
set_option maxRecDepth 20000 in
theorem S_X8_index_0 {Γ : xΓ} {K : Int32 → xT → Prop} (hl : (gl Γ).stackTraces = false) (ht : (gM Γ).sig.returnType = (some .int)) (hr : xRet Γ (xKi K)) {a0 : Nat} {x1 : Int32} {t : xT} {rc rs : Nat} (h : V_X8_index_0 K a0 x1 t) : xX Γ k_X8_index 0 [(0, .ref a0), (1, .int x1)] [] t rc rs := by
  unfold V_X8_index_0 at h
  refine x_aload_n 0 dX8_index_0 rfl rfl ?_
  refine x_iload_n 1 dX8_index_1 rfl rfl ?_
  refine x_bipush (v := (50 : Int32)) dX8_index_2 (by decide) ?_
  refine x_sipush (v := (200 : Int32)) dX8_index_4 (by decide) ?_
  refine x_invS (as := [.int x1, .int (50 : Int32), .int (200 : Int32)]) (rest := [.ref a0]) dX8_index_7 xc_X8_index_119 (M_X8_in hl h) rfl rfl (Nat.le_of_ble_eq_true rfl) (Nat.zero_le _) (Nat.zero_le _) (xk_i fun x_2 t_1 h => ?_)
  obtain ⟨h1, h2⟩ := h
  refine x_if_eq (tgt := 17) dX8_index_10 (by decide) (fun q => ?_) (fun q => ?_)
  · have h := h1 q
    refine x_iconst (v := (1 : Int32)) dX8_index_17 (by decide) ?_
    exact S_X8_index_18 hl ht hr  h
  · have h := h2 q
    refine x_iconst (v := (0 : Int32)) dX8_index_13 (by decide) ?_
    refine x_goto (tgt := 18) dX8_index_14 (by decide) ?_
    exact S_X8_index_18 hl ht hr  h
theorem M_X8_index {l : Launch} {G : xG} (hl : l.stackTraces = false) {a0 : Nat} {x1 : Int32} {t : xT} {K : Int32 → xT → Prop} (h : V_X8_index_0 K a0 x1 t) : xMet l G yX8_index k_X8_index (some .int) [.ref a0, .int x1] t (xKi K) 0 0 := xMet.of (by decide +kernel) rfl hl (Nat.le_of_ble_eq_true rfl) (fun Γ e1 e2 ht hn hr => by subst e1; subst e2; exact S_X8_index_0 hl ht hr h)
/-! RentStreamModel.isFlat(I)Z -/
def V_X8_isFlat_0 (K : Int32 → xT → Prop) (a0 : Nat) (x1 : Int32) (t : xT) : Prop :=
  xgI t a0 8 2 fun x_1 => (V_X8_in_0 (fun x_3 t_2 => (narrow .boolean (.int x_3) = .int x_3 ∧ K x_3 t_2)) x1 (0 : Int32) (x_1 - (1 : Int32)) t)
set_option maxRecDepth 20000 in
theorem S_X8_isFlat_0 {Γ : xΓ} {K : Int32 → xT → Prop} (hl : (gl Γ).stackTraces = false) (ht : (gM Γ).sig.returnType = (some .boolean)) (hr : xRet Γ (xKi K)) {a0 : Nat} {x1 : Int32} {t : xT} {rc rs : Nat} (h : V_X8_isFlat_0 K a0 x1 t) : xX Γ k_X8_isFlat 0 [(0, .ref a0), (1, .int x1)] [] t rc rs := by
  unfold V_X8_isFlat_0 at h
  refine x_iload_n 1 dX8_isFlat_0 rfl rfl ?_
  refine x_iconst (v := (0 : Int32)) dX8_isFlat_1 (by decide) ?_
  refine x_aload_n 0 dX8_isFlat_2 rfl rfl ?_
  obtain ⟨fs, hf, x_1, hv, h⟩ := h
  refine x_get dX8_isFlat_3 xf_X8_116 hf hv ?_
  refine x_iconst (v := (1 : Int32)) dX8_isFlat_6 (by decide) ?_
  refine x_isub dX8_isFlat_7 ?_
  refine x_invS (as := [.int x1, .int (0 : Int32), .int (x_1 - (1 : Int32))]) (rest := []) dX8_isFlat_8 xc_X8_isFlat_119 (M_X8_in hl h) rfl rfl (Nat.le_of_ble_eq_true rfl) (Nat.zero_le _) (Nat.zero_le _) (xk_i fun x_3 t_2 h => ?_)
  obtain ⟨hn, h⟩ := h
  exact x_zret dX8_isFlat_11 hr ht hn ⟨_, rfl, h⟩
theorem M_X8_isFlat {l : Launch} {G : xG} (hl : l.stackTraces = false) {a0 : Nat} {x1 : Int32} {t : xT} {K : Int32 → xT → Prop} (h : V_X8_isFlat_0 K a0 x1 t) : xMet l G yX8_isFlat k_X8_isFlat (some .boolean) [.ref a0, .int x1] t (xKi K) 0 0 := xMet.of (by decide +kernel) rfl hl (Nat.le_of_ble_eq_true rfl) (fun Γ e1 e2 ht hn hr => by subst e1; subst e2; exact S_X8_isFlat_0 hl ht hr h)
/-! RentStreamModel.isLet(I)Z -/
def VS_X8_isLet_4 (R4 : Nat → Int32 → Int32 → Int32 → xT → Prop) (K : Int32 → xT → Prop) (a0 : Nat) (x1 : Int32) (x2 : Int32) (x3 : Int32) (t : xT) : Prop :=
  xgI t a0 8 18 fun x_1 => ((x_1 ≤ x3 → (narrow .boolean (.int x2) = .int x2 ∧ K x2 t)) ∧ (¬ x_1 ≤ x3 → ((¬ x2 = 0 → R4 a0 x1 (1 : Int32) (x3 + 1) t) ∧ (x2 = 0 → xgR t a0 8 19 fun a_2 => xaI 0 t a_2 x3 fun x_3 => ((¬ x_3 = x1 → R4 a0 x1 (0 : Int32) (x3 + 1) t) ∧ (x_3 = x1 → (xis t a0 8 ∧ V_X8_month_0 (fun x_5 t_4 => (xis t_4 a0 8 ∧ V_X8_runs_0 (fun x_7 t_6 => ((x_7 = 0 → R4 a0 x1 (0 : Int32) (x3 + 1) t_6) ∧ (¬ x_7 = 0 → R4 a0 x1 (1 : Int32) (x3 + 1) t_6))) a0 x3 (x_5 + (1 : Int32)) t_4)) a0 t)))))))
def V_X8_isLet_4 (K : Int32 → xT → Prop) (n : Nat) : Nat → Int32 → Int32 → Int32 → xT → Prop := Nat.rec (fun _ _ _ _ _ => False) (fun _ ih => VS_X8_isLet_4 ih K) n
set_option maxRecDepth 20000 in
theorem S_X8_isLet_4 {Γ : xΓ} {K : Int32 → xT → Prop} (hl : (gl Γ).stackTraces = false) (ht : (gM Γ).sig.returnType = (some .boolean)) (hr : xRet Γ (xKi K)) : ∀ (n : Nat) (a0 : Nat) (x1 : Int32) (x2 : Int32) (x3 : Int32) (t : xT) (rc rs : Nat), V_X8_isLet_4 K n a0 x1 x2 x3 t → xX Γ k_X8_isLet 4 [(0, .ref a0), (1, .int x1), (2, .int x2), (3, .int x3)] [] t rc rs := by
  intro n
  induction n with
  | zero =>
    intro a0 x1 x2 x3 t rc rs h
    exact h.elim
  | succ n ih =>
    intro a0 x1 x2 x3 t rc rs h
    replace h : VS_X8_isLet_4 (V_X8_isLet_4 K n) K a0 x1 x2 x3 t := h
    unfold VS_X8_isLet_4 at h
    refine x_iload_n 3 dX8_isLet_4 rfl rfl ?_
    refine x_aload_n 0 dX8_isLet_5 rfl rfl ?_
    obtain ⟨fs, hf, x_1, hv, h⟩ := h
    refine x_get dX8_isLet_6 xf_X8_123 hf hv ?_
    obtain ⟨h1, h2⟩ := h
    refine x_icmp_ge (tgt := 52) dX8_isLet_9 (by decide) (fun q => ?_) (fun q => ?_)
    · have h := h1 q
      refine x_iload_n 2 dX8_isLet_52 rfl rfl ?_
      obtain ⟨hn, h⟩ := h
      exact x_zret dX8_isLet_53 hr ht hn ⟨_, rfl, h⟩
    · have h := h2 q
      refine x_iload_n 2 dX8_isLet_12 rfl rfl ?_
      obtain ⟨h1, h2⟩ := h
      refine x_if_ne (tgt := 40) dX8_isLet_13 (by decide) (fun q => ?_) (fun q => ?_)
      · have h := h1 q
        refine x_iconst (v := (1 : Int32)) dX8_isLet_40 (by decide) ?_
        refine x_goto (tgt := 45) dX8_isLet_41 (by decide) ?_
        refine x_istore_n (L' := [(2, .int (1 : Int32)), (0, .ref a0), (1, .int x1), (3, .int x3)]) dX8_isLet_45 rfl (by decide) rfl ?_
        refine x_iinc (v := (x3 + 1)) (L' := [(3, .int (x3 + 1)), (2, .int (1 : Int32)), (0, .ref a0), (1, .int x1)]) (j := 3) dX8_isLet_46 rfl rfl (by decide) rfl ?_
        refine x_goto (tgt := 4) dX8_isLet_49 (by decide) ?_
        refine x_sub (L' := [(0, .ref a0), (1, .int x1), (2, .int (1 : Int32)), (3, .int (x3 + 1))]) [2, 3, 1, 0] rfl ?_
        exact ih a0 x1 (1 : Int32) (x3 + 1) t _ _ h
      · have h := h2 q
        refine x_aload_n 0 dX8_isLet_16 rfl rfl ?_
        obtain ⟨fs, hf, a_2, hv, h⟩ := h
        refine x_get dX8_isLet_17 xf_X8_50 hf hv ?_
        refine x_iload_n 3 dX8_isLet_20 rfl rfl ?_
        obtain ⟨n, f, hf, hi, h⟩ := h
        refine x_iald dX8_isLet_21 hf hi ?_
        generalize f _ = x_3 at h ⊢
        refine x_iload_n 1 dX8_isLet_22 rfl rfl ?_
        obtain ⟨h1, h2⟩ := h
        refine x_icmp_ne (tgt := 44) dX8_isLet_23 (by decide) (fun q => ?_) (fun q => ?_)
        · have h := h1 q
          refine x_iconst (v := (0 : Int32)) dX8_isLet_44 (by decide) ?_
          refine x_istore_n (L' := [(2, .int (0 : Int32)), (0, .ref a0), (1, .int x1), (3, .int x3)]) dX8_isLet_45 rfl (by decide) rfl ?_
          refine x_iinc (v := (x3 + 1)) (L' := [(3, .int (x3 + 1)), (2, .int (0 : Int32)), (0, .ref a0), (1, .int x1)]) (j := 3) dX8_isLet_46 rfl rfl (by decide) rfl ?_
          refine x_goto (tgt := 4) dX8_isLet_49 (by decide) ?_
          refine x_sub (L' := [(0, .ref a0), (1, .int x1), (2, .int (0 : Int32)), (3, .int (x3 + 1))]) [2, 3, 1, 0] rfl ?_
          exact ih a0 x1 (0 : Int32) (x3 + 1) t _ _ h
        · have h := h2 q
          refine x_aload_n 0 dX8_isLet_26 rfl rfl ?_
          refine x_iload_n 3 dX8_isLet_27 rfl rfl ?_
          refine x_aload_n 0 dX8_isLet_28 rfl rfl ?_
          obtain ⟨⟨fs, hf⟩, h⟩ := h
          refine x_invV (as := []) (rest := [.int x3, .ref a0]) dX8_isLet_29 (q := (RX8, TX8, 40)) rfl xc_X8_isLet_129 hf (M_X8_month hl h) rfl rfl (Nat.le_of_ble_eq_true rfl) (Nat.zero_le _) (Nat.zero_le _) (xk_i fun x_5 t_4 h => ?_)
          refine x_iconst (v := (1 : Int32)) dX8_isLet_32 (by decide) ?_
          refine x_iadd dX8_isLet_33 ?_
          obtain ⟨⟨fs, hf⟩, h⟩ := h
          refine x_invV (as := [.int x3, .int (x_5 + (1 : Int32))]) (rest := []) dX8_isLet_34 (q := (RX8, TX8, 40)) rfl xc_X8_isLet_137 hf (M_X8_runs hl h) rfl rfl (Nat.le_of_ble_eq_true rfl) (Nat.zero_le _) (Nat.zero_le _) (xk_i fun x_7 t_6 h => ?_)
          obtain ⟨h1, h2⟩ := h
          refine x_if_eq (tgt := 44) dX8_isLet_37 (by decide) (fun q => ?_) (fun q => ?_)
          · have h := h1 q
            refine x_iconst (v := (0 : Int32)) dX8_isLet_44 (by decide) ?_
            refine x_istore_n (L' := [(2, .int (0 : Int32)), (0, .ref a0), (1, .int x1), (3, .int x3)]) dX8_isLet_45 rfl (by decide) rfl ?_
            refine x_iinc (v := (x3 + 1)) (L' := [(3, .int (x3 + 1)), (2, .int (0 : Int32)), (0, .ref a0), (1, .int x1)]) (j := 3) dX8_isLet_46 rfl rfl (by decide) rfl ?_
            refine x_goto (tgt := 4) dX8_isLet_49 (by decide) ?_
            refine x_sub (L' := [(0, .ref a0), (1, .int x1), (2, .int (0 : Int32)), (3, .int (x3 + 1))]) [2, 3, 1, 0] rfl ?_
            exact ih a0 x1 (0 : Int32) (x3 + 1) t_6 _ _ h
          · have h := h2 q
            refine x_iconst (v := (1 : Int32)) dX8_isLet_40 (by decide) ?_
            refine x_goto (tgt := 45) dX8_isLet_41 (by decide) ?_
            refine x_istore_n (L' := [(2, .int (1 : Int32)), (0, .ref a0), (1, .int x1), (3, .int x3)]) dX8_isLet_45 rfl (by decide) rfl ?_
            refine x_iinc (v := (x3 + 1)) (L' := [(3, .int (x3 + 1)), (2, .int (1 : Int32)), (0, .ref a0), (1, .int x1)]) (j := 3) dX8_isLet_46 rfl rfl (by decide) rfl ?_
            refine x_goto (tgt := 4) dX8_isLet_49 (by decide) ?_
            refine x_sub (L' := [(0, .ref a0), (1, .int x1), (2, .int (1 : Int32)), (3, .int (x3 + 1))]) [2, 3, 1, 0] rfl ?_
            exact ih a0 x1 (1 : Int32) (x3 + 1) t_6 _ _ h
def V_X8_isLet_0 (K : Int32 → xT → Prop) (a0 : Nat) (x1 : Int32) (t : xT) : Prop :=
  ∃ f_1 : Nat, V_X8_isLet_4 K f_1 a0 x1 (0 : Int32) (0 : Int32) t
set_option maxRecDepth 20000 in
theorem S_X8_isLet_0 {Γ : xΓ} {K : Int32 → xT → Prop} (hl : (gl Γ).stackTraces = false) (ht : (gM Γ).sig.returnType = (some .boolean)) (hr : xRet Γ (xKi K)) {a0 : Nat} {x1 : Int32} {t : xT} {rc rs : Nat} (h : V_X8_isLet_0 K a0 x1 t) : xX Γ k_X8_isLet 0 [(0, .ref a0), (1, .int x1)] [] t rc rs := by
  unfold V_X8_isLet_0 at h
  refine x_iconst (v := (0 : Int32)) dX8_isLet_0 (by decide) ?_
  refine x_istore_n (L' := [(2, .int (0 : Int32)), (0, .ref a0), (1, .int x1)]) dX8_isLet_1 rfl (by decide) rfl ?_
  refine x_iconst (v := (0 : Int32)) dX8_isLet_2 (by decide) ?_
  refine x_istore_n (L' := [(3, .int (0 : Int32)), (2, .int (0 : Int32)), (0, .ref a0), (1, .int x1)]) dX8_isLet_3 rfl (by decide) rfl ?_
  obtain ⟨f_1, h⟩ := h
  refine x_sub (L' := [(0, .ref a0), (1, .int x1), (2, .int (0 : Int32)), (3, .int (0 : Int32))]) [2, 3, 1, 0] rfl ?_
  exact S_X8_isLet_4 hl ht hr  f_1 a0 x1 (0 : Int32) (0 : Int32) t _ _ h
theorem M_X8_isLet {l : Launch} {G : xG} (hl : l.stackTraces = false) {a0 : Nat} {x1 : Int32} {t : xT} {K : Int32 → xT → Prop} (h : V_X8_isLet_0 K a0 x1 t) : xMet l G yX8_isLet k_X8_isLet (some .boolean) [.ref a0, .int x1] t (xKi K) 0 0 := xMet.of (by decide +kernel) rfl hl (Nat.le_of_ble_eq_true rfl) (fun Γ e1 e2 ht hn hr => by subst e1; subst e2; exact S_X8_isLet_0 hl ht hr h)
/-! RentStreamModel.lease(II)I -/
def V_X8_lease_51 (K : Int32 → xT → Prop) (a0 : Nat) (x1 : Int32) (x2 : Int32) (xs0 : Int32) (as1 : Nat) (t : xT) : Prop :=
  (xis t as1 8 ∧ V_X8_holds_0 (fun x_2 t_1 => ((¬ x_2 = 0 → xgR t_1 a0 8 19 fun a_3 => xgI t_1 a0 8 18 fun x_4 => xsI 0 t_1 a_3 x_4 x1 fun t_5 => xgR t_5 a0 8 20 fun a_6 => xgI t_5 a0 8 18 fun x_7 => xsI 0 t_5 a_6 x_7 x2 fun t_8 => xgR t_8 a0 8 21 fun a_9 => xgI t_8 a0 8 18 fun x_10 => (xis t_8 a0 8 ∧ V_X8_month_0 (fun x_12 t_11 => xsI 0 t_11 a_9 x_10 (x_12 + (1 : Int32)) fun t_13 => xgR t_13 a0 8 22 fun a_14 => xgI t_13 a0 8 18 fun x_15 => xsI 0 t_13 a_14 x_15 (1000 : Int32) fun t_16 => xgI t_16 a0 8 18 fun x_17 => (xpF t_16 a0 8 18 (.int (x_17 + (1 : Int32))) fun t_18 => xgI t_18 a0 8 18 fun x_19 => K (x_19 - (1 : Int32)) t_18)) a0 t_8)) ∧ (x_2 = 0 → K (0 : Int32) t_1))) as1 xs0 t)
set_option maxRecDepth 20000 in
theorem S_X8_lease_51 {Γ : xΓ} {K : Int32 → xT → Prop} (hl : (gl Γ).stackTraces = false) (ht : (gM Γ).sig.returnType = (some .int)) (hr : xRet Γ (xKi K)) {a0 : Nat} {x1 : Int32} {x2 : Int32} {xs0 : Int32} {as1 : Nat} {t : xT} {rc rs : Nat} (h : V_X8_lease_51 K a0 x1 x2 xs0 as1 t) : xX Γ k_X8_lease 51 [(0, .ref a0), (1, .int x1), (2, .int x2)] [.int xs0, .ref as1] t rc rs := by
  unfold V_X8_lease_51 at h
  obtain ⟨⟨fs, hf⟩, h⟩ := h
  refine x_invV (as := [.int xs0]) (rest := []) dX8_lease_51 (q := (RX8, TX8, 40)) rfl xc_X8_lease_133 hf (M_X8_holds hl h) rfl rfl (Nat.le_of_ble_eq_true rfl) (Nat.zero_le _) (Nat.zero_le _) (xk_i fun x_2 t_1 h => ?_)
  obtain ⟨h1, h2⟩ := h
  refine x_if_ne (tgt := 59) dX8_lease_54 (by decide) (fun q => ?_) (fun q => ?_)
  · have h := h1 q
    refine x_aload_n 0 dX8_lease_59 rfl rfl ?_
    obtain ⟨fs, hf, a_3, hv, h⟩ := h
    refine x_get dX8_lease_60 xf_X8_50 hf hv ?_
    refine x_aload_n 0 dX8_lease_63 rfl rfl ?_
    obtain ⟨fs, hf, x_4, hv, h⟩ := h
    refine x_get dX8_lease_64 xf_X8_123 hf hv ?_
    refine x_iload_n 1 dX8_lease_67 rfl rfl ?_
    obtain ⟨n, f, hf, hi, h⟩ := h
    refine x_iast dX8_lease_68 hf hi ?_
    generalize hT : xup t_1 a_3 _ = t_5 at h ⊢
    clear hT
    refine x_aload_n 0 dX8_lease_69 rfl rfl ?_
    obtain ⟨fs, hf, a_6, hv, h⟩ := h
    refine x_get dX8_lease_70 xf_X8_53 hf hv ?_
    refine x_aload_n 0 dX8_lease_73 rfl rfl ?_
    obtain ⟨fs, hf, x_7, hv, h⟩ := h
    refine x_get dX8_lease_74 xf_X8_123 hf hv ?_
    refine x_iload_n 2 dX8_lease_77 rfl rfl ?_
    obtain ⟨n, f, hf, hi, h⟩ := h
    refine x_iast dX8_lease_78 hf hi ?_
    generalize hT : xup t_5 a_6 _ = t_8 at h ⊢
    clear hT
    refine x_aload_n 0 dX8_lease_79 rfl rfl ?_
    obtain ⟨fs, hf, a_9, hv, h⟩ := h
    refine x_get dX8_lease_80 xf_X8_56 hf hv ?_
    refine x_aload_n 0 dX8_lease_83 rfl rfl ?_
    obtain ⟨fs, hf, x_10, hv, h⟩ := h
    refine x_get dX8_lease_84 xf_X8_123 hf hv ?_
    refine x_aload_n 0 dX8_lease_87 rfl rfl ?_
    obtain ⟨⟨fs, hf⟩, h⟩ := h
    refine x_invV (as := []) (rest := [.int x_10, .ref a_9]) dX8_lease_88 (q := (RX8, TX8, 40)) rfl xc_X8_lease_129 hf (M_X8_month hl h) rfl rfl (Nat.le_of_ble_eq_true rfl) (Nat.zero_le _) (Nat.zero_le _) (xk_i fun x_12 t_11 h => ?_)
    refine x_iconst (v := (1 : Int32)) dX8_lease_91 (by decide) ?_
    refine x_iadd dX8_lease_92 ?_
    obtain ⟨n, f, hf, hi, h⟩ := h
    refine x_iast dX8_lease_93 hf hi ?_
    generalize hT : xup t_11 a_9 _ = t_13 at h ⊢
    clear hT
    refine x_aload_n 0 dX8_lease_94 rfl rfl ?_
    obtain ⟨fs, hf, a_14, hv, h⟩ := h
    refine x_get dX8_lease_95 xf_X8_59 hf hv ?_
    refine x_aload_n 0 dX8_lease_98 rfl rfl ?_
    obtain ⟨fs, hf, x_15, hv, h⟩ := h
    refine x_get dX8_lease_99 xf_X8_123 hf hv ?_
    refine x_sipush (v := (1000 : Int32)) dX8_lease_102 (by decide) ?_
    obtain ⟨n, f, hf, hi, h⟩ := h
    refine x_iast dX8_lease_105 hf hi ?_
    generalize hT : xup t_13 a_14 _ = t_16 at h ⊢
    clear hT
    refine x_aload_n 0 dX8_lease_106 rfl rfl ?_
    refine x_dup dX8_lease_107 rfl ?_
    obtain ⟨fs, hf, x_17, hv, h⟩ := h
    refine x_get dX8_lease_108 xf_X8_123 hf hv ?_
    refine x_iconst (v := (1 : Int32)) dX8_lease_111 (by decide) ?_
    refine x_iadd dX8_lease_112 ?_
    obtain ⟨fs, hf, hk, h⟩ := h
    refine x_put (v := .int (x_17 + (1 : Int32))) dX8_lease_113 xp_X8_123 hf rfl rfl hk ?_
    generalize hT : xup t_16 a0 _ = t_18 at h ⊢
    clear hT
    refine x_aload_n 0 dX8_lease_116 rfl rfl ?_
    obtain ⟨fs, hf, x_19, hv, h⟩ := h
    refine x_get dX8_lease_117 xf_X8_123 hf hv ?_
    refine x_iconst (v := (1 : Int32)) dX8_lease_120 (by decide) ?_
    refine x_isub dX8_lease_121 ?_
    exact x_zret dX8_lease_122 hr ht rfl ⟨_, rfl, h⟩
  · have h := h2 q
    refine x_iconst (v := (0 : Int32)) dX8_lease_57 (by decide) ?_
    exact x_zret dX8_lease_58 hr ht rfl ⟨_, rfl, h⟩
def V_X8_lease_0 (K : Int32 → xT → Prop) (a0 : Nat) (x1 : Int32) (x2 : Int32) (t : xT) : Prop :=
  (xis t a0 8 ∧ V_X8_isFlat_0 (fun x_2 t_1 => ((¬ x_2 = 0 → (V_X8_in_0 (fun x_4 t_3 => ((¬ x_4 = 0 → xgI t_3 a0 8 18 fun x_5 => ((x_5 = (12 : Int32) → V_X8_lease_51 K a0 x1 x2 (3 : Int32) a0 t_3) ∧ (¬ x_5 = (12 : Int32) → (xis t_3 a0 8 ∧ V_X8_isLet_0 (fun x_7 t_6 => ((x_7 = 0 → V_X8_lease_51 K a0 x1 x2 (0 : Int32) a0 t_6) ∧ (¬ x_7 = 0 → V_X8_lease_51 K a0 x1 x2 (3 : Int32) a0 t_6))) a0 x1 t_3)))) ∧ (x_4 = 0 → V_X8_lease_51 K a0 x1 x2 (2 : Int32) a0 t_3))) x2 (0 : Int32) (500000 : Int32) t_1)) ∧ (x_2 = 0 → V_X8_lease_51 K a0 x1 x2 (1 : Int32) a0 t_1))) a0 x1 t)
set_option maxRecDepth 20000 in
theorem S_X8_lease_0 {Γ : xΓ} {K : Int32 → xT → Prop} (hl : (gl Γ).stackTraces = false) (ht : (gM Γ).sig.returnType = (some .int)) (hr : xRet Γ (xKi K)) {a0 : Nat} {x1 : Int32} {x2 : Int32} {t : xT} {rc rs : Nat} (h : V_X8_lease_0 K a0 x1 x2 t) : xX Γ k_X8_lease 0 [(0, .ref a0), (1, .int x1), (2, .int x2)] [] t rc rs := by
  unfold V_X8_lease_0 at h
  refine x_aload_n 0 dX8_lease_0 rfl rfl ?_
  refine x_iload_n 1 dX8_lease_1 rfl rfl ?_
  obtain ⟨⟨fs, hf⟩, h⟩ := h
  refine x_invV (as := [.int x1]) (rest := []) dX8_lease_2 (q := (RX8, TX8, 40)) rfl xc_X8_lease_141 hf (M_X8_isFlat hl h) rfl rfl (Nat.le_of_ble_eq_true rfl) (Nat.zero_le _) (Nat.zero_le _) (xk_i fun x_2 t_1 h => ?_)
  refine x_istore_n (L' := [(3, .int x_2), (0, .ref a0), (1, .int x1), (2, .int x2)]) dX8_lease_5 rfl (by decide) rfl ?_
  refine x_aload_n 1 dX8_lease_6 rfl rfl ?_
  refine x_iload_n 0 dX8_lease_7 rfl rfl ?_
  obtain ⟨h1, h2⟩ := h
  refine x_if_ne (tgt := 15) dX8_lease_8 (by decide) (fun q => ?_) (fun q => ?_)
  · have h := h1 q
    refine x_iload_n 3 dX8_lease_15 rfl rfl ?_
    refine x_iconst (v := (0 : Int32)) dX8_lease_16 (by decide) ?_
    refine x_ldc dX8_lease_17 xw1366 ?_
    refine x_invS (as := [.int x2, .int (0 : Int32), .int (500000 : Int32)]) (rest := [.ref a0]) dX8_lease_19 xc_X8_lease_119 (M_X8_in hl h) rfl rfl (Nat.le_of_ble_eq_true rfl) (Nat.zero_le _) (Nat.zero_le _) (xk_i fun x_4 t_3 h => ?_)
    obtain ⟨h1, h2⟩ := h
    refine x_if_ne (tgt := 29) dX8_lease_22 (by decide) (fun q => ?_) (fun q => ?_)
    · have h := h1 q
      refine x_aload_n 1 dX8_lease_29 rfl rfl ?_
      obtain ⟨fs, hf, x_5, hv, h⟩ := h
      refine x_get dX8_lease_30 xf_X8_123 hf hv ?_
      refine x_bipush (v := (12 : Int32)) dX8_lease_33 (by decide) ?_
      obtain ⟨h1, h2⟩ := h
      refine x_icmp_eq (tgt := 46) dX8_lease_35 (by decide) (fun q => ?_) (fun q => ?_)
      · have h := h1 q
        refine x_iconst (v := (3 : Int32)) dX8_lease_46 (by decide) ?_
        refine x_goto (tgt := 51) dX8_lease_47 (by decide) ?_
        refine x_sub (L' := [(0, .ref a0), (1, .int x1), (2, .int x2)]) [1, 2, 3] rfl ?_
        exact S_X8_lease_51 hl ht hr  h
      · have h := h2 q
        refine x_aload_n 1 dX8_lease_38 rfl rfl ?_
        refine x_iload_n 2 dX8_lease_39 rfl rfl ?_
        obtain ⟨⟨fs, hf⟩, h⟩ := h
        refine x_invV (as := [.int x1]) (rest := [.ref a0]) dX8_lease_40 (q := (RX8, TX8, 40)) rfl xc_X8_lease_145 hf (M_X8_isLet hl h) rfl rfl (Nat.le_of_ble_eq_true rfl) (Nat.zero_le _) (Nat.zero_le _) (xk_i fun x_7 t_6 h => ?_)
        obtain ⟨h1, h2⟩ := h
        refine x_if_eq (tgt := 50) dX8_lease_43 (by decide) (fun q => ?_) (fun q => ?_)
        · have h := h1 q
          refine x_iconst (v := (0 : Int32)) dX8_lease_50 (by decide) ?_
          refine x_sub (L' := [(0, .ref a0), (1, .int x1), (2, .int x2)]) [1, 2, 3] rfl ?_
          exact S_X8_lease_51 hl ht hr  h
        · have h := h2 q
          refine x_iconst (v := (3 : Int32)) dX8_lease_46 (by decide) ?_
          refine x_goto (tgt := 51) dX8_lease_47 (by decide) ?_
          refine x_sub (L' := [(0, .ref a0), (1, .int x1), (2, .int x2)]) [1, 2, 3] rfl ?_
          exact S_X8_lease_51 hl ht hr  h
    · have h := h2 q
      refine x_iconst (v := (2 : Int32)) dX8_lease_25 (by decide) ?_
      refine x_goto (tgt := 51) dX8_lease_26 (by decide) ?_
      refine x_sub (L' := [(0, .ref a0), (1, .int x1), (2, .int x2)]) [1, 2, 3] rfl ?_
      exact S_X8_lease_51 hl ht hr  h
  · have h := h2 q
    refine x_iconst (v := (1 : Int32)) dX8_lease_11 (by decide) ?_
    refine x_goto (tgt := 51) dX8_lease_12 (by decide) ?_
    refine x_sub (L' := [(0, .ref a0), (1, .int x1), (2, .int x2)]) [1, 2, 3] rfl ?_
    exact S_X8_lease_51 hl ht hr  h
theorem M_X8_lease {l : Launch} {G : xG} (hl : l.stackTraces = false) {a0 : Nat} {x1 : Int32} {x2 : Int32} {t : xT} {K : Int32 → xT → Prop} (h : V_X8_lease_0 K a0 x1 x2 t) : xMet l G yX8_lease k_X8_lease (some .int) [.ref a0, .int x1, .int x2] t (xKi K) 0 0 := xMet.of (by decide +kernel) rfl hl (Nat.le_of_ble_eq_true rfl) (fun Γ e1 e2 ht hn hr => by subst e1; subst e2; exact S_X8_lease_0 hl ht hr h)
/-! RentStreamModel.line(III)C -/
def V_X8_line_38 (K : Int32 → xT → Prop) (a0 : Nat) (x1 : Int32) (x2 : Int32) (x3 : Int32) (xs0 : Int32) (as1 : Nat) (t : xT) : Prop :=
  (xis t as1 8 ∧ V_X8_holds_0 (fun x_2 t_1 => ((¬ x_2 = 0 → (V_X8_at_0 (fun x_4 t_3 => (xpF t_3 a0 8 39 (.int (0 : Int32)) fun t_5 => xgR t_5 a0 8 26 fun a_6 => xaI 2 t_5 a_6 x_4 fun x_7 => ((x_7 = 0 → xgI t_5 a0 8 39 fun x_8 => ((x_8 ≤ x3 → K (32 : Int32) t_5) ∧ (¬ x_8 ≤ x3 → xgR t_5 a0 8 38 fun a_9 => xaI 4 t_5 a_9 x3 fun x_10 => (narrow .char (.int x_10) = .int x_10 ∧ K x_10 t_5)))) ∧ (¬ x_7 = 0 → (xis t_5 a0 8 ∧ V_X8_adds_0 (fun t_11 => (xis t_11 a0 8 ∧ V_X8_addsNumber_0 (fun t_12 => (xis t_12 a0 8 ∧ V_X8_adds_0 (fun t_13 => (xis t_13 a0 8 ∧ V_X8_adds_0 (fun t_14 => (xis t_14 a0 8 ∧ V_X8_addsNumber_0 (fun t_15 => xgR t_15 a0 8 27 fun a_16 => xaI 0 t_15 a_16 x_4 fun x_17 => (xis t_15 a0 8 ∧ V_X8_addsAmount_0 (fun t_18 => xgR t_18 a0 8 28 fun a_19 => xaI 0 t_18 a_19 x_4 fun x_20 => (xis t_18 a0 8 ∧ V_X8_addsAmount_0 (fun t_21 => xgR t_21 a0 8 29 fun a_22 => xaI 0 t_21 a_22 x_4 fun x_23 => (xis t_21 a0 8 ∧ V_X8_addsAmount_0 (fun t_24 => xgR t_24 a0 8 30 fun a_25 => xaI 0 t_24 a_25 x_4 fun x_26 => (xis t_24 a0 8 ∧ V_X8_addsAmount_0 (fun t_27 => xgR t_27 a0 8 27 fun a_28 => xaI 0 t_27 a_28 x_4 fun x_29 => xgR t_27 a0 8 28 fun a_30 => xaI 0 t_27 a_30 x_4 fun x_31 => xgR t_27 a0 8 29 fun a_32 => xaI 0 t_27 a_32 x_4 fun x_33 => xgR t_27 a0 8 30 fun a_34 => xaI 0 t_27 a_34 x_4 fun x_35 => (xis t_27 a0 8 ∧ V_X8_addsAmount_0 (fun t_36 => xgI t_36 a0 8 39 fun x_37 => ((x_37 ≤ x3 → K (32 : Int32) t_36) ∧ (¬ x_37 ≤ x3 → xgR t_36 a0 8 38 fun a_38 => xaI 4 t_36 a_38 x3 fun x_39 => (narrow .char (.int x_39) = .int x_39 ∧ K x_39 t_36)))) a0 (84 : Int32) (((x_29 - x_31) - x_33) + x_35) t_27)) a0 (72 : Int32) x_26 t_24)) a0 (66 : Int32) x_23 t_21)) a0 (88 : Int32) x_20 t_18)) a0 (82 : Int32) x_17 t_15)) a0 x2 t_14)) a0 (77 : Int32) t_13)) a0 (32 : Int32) t_12)) a0 x1 t_11)) a0 (76 : Int32) t_5))))) x1 x2 t_1)) ∧ (x_2 = 0 → K (0 : Int32) t_1))) as1 xs0 t)
set_option maxRecDepth 20000 in
theorem S_X8_line_38 {Γ : xΓ} {K : Int32 → xT → Prop} (hl : (gl Γ).stackTraces = false) (ht : (gM Γ).sig.returnType = (some .char)) (hr : xRet Γ (xKi K)) {a0 : Nat} {x1 : Int32} {x2 : Int32} {x3 : Int32} {xs0 : Int32} {as1 : Nat} {t : xT} {rc rs : Nat} (h : V_X8_line_38 K a0 x1 x2 x3 xs0 as1 t) : xX Γ k_X8_line 38 [(0, .ref a0), (1, .int x1), (2, .int x2), (3, .int x3)] [.int xs0, .ref as1] t rc rs := by
  unfold V_X8_line_38 at h
  obtain ⟨⟨fs, hf⟩, h⟩ := h
  refine x_invV (as := [.int xs0]) (rest := []) dX8_line_38 (q := (RX8, TX8, 40)) rfl xc_X8_line_133 hf (M_X8_holds hl h) rfl rfl (Nat.le_of_ble_eq_true rfl) (Nat.zero_le _) (Nat.zero_le _) (xk_i fun x_2 t_1 h => ?_)
  obtain ⟨h1, h2⟩ := h
  refine x_if_ne (tgt := 46) dX8_line_41 (by decide) (fun q => ?_) (fun q => ?_)
  · have h := h1 q
    refine x_iload_n 1 dX8_line_46 rfl rfl ?_
    refine x_iload_n 2 dX8_line_47 rfl rfl ?_
    refine x_invS (as := [.int x1, .int x2]) (rest := []) dX8_line_48 xc_X8_line_173 (M_X8_at hl h) rfl rfl (Nat.le_of_ble_eq_true rfl) (Nat.zero_le _) (Nat.zero_le _) (xk_i fun x_4 t_3 h => ?_)
    refine x_istore (L' := [(5, .int x_4), (0, .ref a0), (1, .int x1), (2, .int x2), (3, .int x3)]) dX8_line_51 (by decide) rfl ?_
    refine x_aload_n 1 dX8_line_53 rfl rfl ?_
    refine x_iconst (v := (0 : Int32)) dX8_line_54 (by decide) ?_
    obtain ⟨fs, hf, hk, h⟩ := h
    refine x_put (v := .int (0 : Int32)) dX8_line_55 xp_X8_218 hf rfl rfl hk ?_
    generalize hT : xup t_3 a0 _ = t_5 at h ⊢
    clear hT
    refine x_aload_n 1 dX8_line_58 rfl rfl ?_
    obtain ⟨fs, hf, a_6, hv, h⟩ := h
    refine x_get dX8_line_59 xf_X8_72 hf hv ?_
    refine x_iload 0 dX8_line_62 rfl ?_
    obtain ⟨n, f, hf, hi, h⟩ := h
    refine x_zald dX8_line_64 hf hi ?_
    generalize f _ = x_7 at h ⊢
    obtain ⟨h1, h2⟩ := h
    refine x_if_eq (tgt := 185) dX8_line_65 (by decide) (fun q => ?_) (fun q => ?_)
    · have h := h1 q
      refine x_iload_n 4 dX8_line_185 rfl rfl ?_
      refine x_aload_n 1 dX8_line_186 rfl rfl ?_
      obtain ⟨fs, hf, x_8, hv, h⟩ := h
      refine x_get dX8_line_187 xf_X8_218 hf hv ?_
      obtain ⟨h1, h2⟩ := h
      refine x_icmp_ge (tgt := 202) dX8_line_190 (by decide) (fun q => ?_) (fun q => ?_)
      · have h := h1 q
        refine x_bipush (v := (32 : Int32)) dX8_line_202 (by decide) ?_
        exact x_zret dX8_line_204 hr ht (by decide) ⟨_, rfl, h⟩
      · have h := h2 q
        refine x_aload_n 1 dX8_line_193 rfl rfl ?_
        obtain ⟨fs, hf, a_9, hv, h⟩ := h
        refine x_get dX8_line_194 xf_X8_108 hf hv ?_
        refine x_iload_n 4 dX8_line_197 rfl rfl ?_
        obtain ⟨n, f, hf, hi, h⟩ := h
        refine x_cald dX8_line_198 hf hi ?_
        generalize f _ = x_10 at h ⊢
        refine x_goto (tgt := 204) dX8_line_199 (by decide) ?_
        obtain ⟨hn, h⟩ := h
        exact x_zret dX8_line_204 hr ht hn ⟨_, rfl, h⟩
    · have h := h2 q
      refine x_aload_n 1 dX8_line_68 rfl rfl ?_
      refine x_bipush (v := (76 : Int32)) dX8_line_69 (by decide) ?_
      obtain ⟨⟨fs, hf⟩, h⟩ := h
      refine x_invV (as := [.int (76 : Int32)]) (rest := []) dX8_line_71 (q := (RX8, TX8, 40)) rfl xc_X8_line_225 hf (M_X8_adds hl h) rfl rfl (Nat.le_of_ble_eq_true rfl) (Nat.zero_le _) (Nat.zero_le _) (xk_v fun t_11 h => ?_)
      refine x_aload_n 1 dX8_line_74 rfl rfl ?_
      refine x_iload_n 2 dX8_line_75 rfl rfl ?_
      obtain ⟨⟨fs, hf⟩, h⟩ := h
      refine x_invV (as := [.int x1]) (rest := []) dX8_line_76 (q := (RX8, TX8, 40)) rfl xc_X8_line_228 hf (M_X8_addsNumber hl h) rfl rfl (Nat.le_of_ble_eq_true rfl) (Nat.zero_le _) (Nat.zero_le _) (xk_v fun t_12 h => ?_)
      refine x_aload_n 1 dX8_line_79 rfl rfl ?_
      refine x_bipush (v := (32 : Int32)) dX8_line_80 (by decide) ?_
      obtain ⟨⟨fs, hf⟩, h⟩ := h
      refine x_invV (as := [.int (32 : Int32)]) (rest := []) dX8_line_82 (q := (RX8, TX8, 40)) rfl xc_X8_line_225 hf (M_X8_adds hl h) rfl rfl (Nat.le_of_ble_eq_true rfl) (Nat.zero_le _) (Nat.zero_le _) (xk_v fun t_13 h => ?_)
      refine x_aload_n 1 dX8_line_85 rfl rfl ?_
      refine x_bipush (v := (77 : Int32)) dX8_line_86 (by decide) ?_
      obtain ⟨⟨fs, hf⟩, h⟩ := h
      refine x_invV (as := [.int (77 : Int32)]) (rest := []) dX8_line_88 (q := (RX8, TX8, 40)) rfl xc_X8_line_225 hf (M_X8_adds hl h) rfl rfl (Nat.le_of_ble_eq_true rfl) (Nat.zero_le _) (Nat.zero_le _) (xk_v fun t_14 h => ?_)
      refine x_aload_n 1 dX8_line_91 rfl rfl ?_
      refine x_iload_n 3 dX8_line_92 rfl rfl ?_
      obtain ⟨⟨fs, hf⟩, h⟩ := h
      refine x_invV (as := [.int x2]) (rest := []) dX8_line_93 (q := (RX8, TX8, 40)) rfl xc_X8_line_228 hf (M_X8_addsNumber hl h) rfl rfl (Nat.le_of_ble_eq_true rfl) (Nat.zero_le _) (Nat.zero_le _) (xk_v fun t_15 h => ?_)
      refine x_aload_n 1 dX8_line_96 rfl rfl ?_
      refine x_bipush (v := (82 : Int32)) dX8_line_97 (by decide) ?_
      refine x_aload_n 1 dX8_line_99 rfl rfl ?_
      obtain ⟨fs, hf, a_16, hv, h⟩ := h
      refine x_get dX8_line_100 xf_X8_75 hf hv ?_
      refine x_iload 0 dX8_line_103 rfl ?_
      obtain ⟨n, f, hf, hi, h⟩ := h
      refine x_iald dX8_line_105 hf hi ?_
      generalize f _ = x_17 at h ⊢
      obtain ⟨⟨fs, hf⟩, h⟩ := h
      refine x_invV (as := [.int (82 : Int32), .int x_17]) (rest := []) dX8_line_106 (q := (RX8, TX8, 40)) rfl xc_X8_line_231 hf (M_X8_addsAmount hl h) rfl rfl (Nat.le_of_ble_eq_true rfl) (Nat.zero_le _) (Nat.zero_le _) (xk_v fun t_18 h => ?_)
      refine x_aload_n 1 dX8_line_109 rfl rfl ?_
      refine x_bipush (v := (88 : Int32)) dX8_line_110 (by decide) ?_
      refine x_aload_n 1 dX8_line_112 rfl rfl ?_
      obtain ⟨fs, hf, a_19, hv, h⟩ := h
      refine x_get dX8_line_113 xf_X8_78 hf hv ?_
      refine x_iload 0 dX8_line_116 rfl ?_
      obtain ⟨n, f, hf, hi, h⟩ := h
      refine x_iald dX8_line_118 hf hi ?_
      generalize f _ = x_20 at h ⊢
      obtain ⟨⟨fs, hf⟩, h⟩ := h
      refine x_invV (as := [.int (88 : Int32), .int x_20]) (rest := []) dX8_line_119 (q := (RX8, TX8, 40)) rfl xc_X8_line_231 hf (M_X8_addsAmount hl h) rfl rfl (Nat.le_of_ble_eq_true rfl) (Nat.zero_le _) (Nat.zero_le _) (xk_v fun t_21 h => ?_)
      refine x_aload_n 1 dX8_line_122 rfl rfl ?_
      refine x_bipush (v := (66 : Int32)) dX8_line_123 (by decide) ?_
      refine x_aload_n 1 dX8_line_125 rfl rfl ?_
      obtain ⟨fs, hf, a_22, hv, h⟩ := h
      refine x_get dX8_line_126 xf_X8_81 hf hv ?_
      refine x_iload 0 dX8_line_129 rfl ?_
      obtain ⟨n, f, hf, hi, h⟩ := h
      refine x_iald dX8_line_131 hf hi ?_
      generalize f _ = x_23 at h ⊢
      obtain ⟨⟨fs, hf⟩, h⟩ := h
      refine x_invV (as := [.int (66 : Int32), .int x_23]) (rest := []) dX8_line_132 (q := (RX8, TX8, 40)) rfl xc_X8_line_231 hf (M_X8_addsAmount hl h) rfl rfl (Nat.le_of_ble_eq_true rfl) (Nat.zero_le _) (Nat.zero_le _) (xk_v fun t_24 h => ?_)
      refine x_aload_n 1 dX8_line_135 rfl rfl ?_
      refine x_bipush (v := (72 : Int32)) dX8_line_136 (by decide) ?_
      refine x_aload_n 1 dX8_line_138 rfl rfl ?_
      obtain ⟨fs, hf, a_25, hv, h⟩ := h
      refine x_get dX8_line_139 xf_X8_84 hf hv ?_
      refine x_iload 0 dX8_line_142 rfl ?_
      obtain ⟨n, f, hf, hi, h⟩ := h
      refine x_iald dX8_line_144 hf hi ?_
      generalize f _ = x_26 at h ⊢
      obtain ⟨⟨fs, hf⟩, h⟩ := h
      refine x_invV (as := [.int (72 : Int32), .int x_26]) (rest := []) dX8_line_145 (q := (RX8, TX8, 40)) rfl xc_X8_line_231 hf (M_X8_addsAmount hl h) rfl rfl (Nat.le_of_ble_eq_true rfl) (Nat.zero_le _) (Nat.zero_le _) (xk_v fun t_27 h => ?_)
      refine x_aload_n 1 dX8_line_148 rfl rfl ?_
      refine x_bipush (v := (84 : Int32)) dX8_line_149 (by decide) ?_
      refine x_aload_n 1 dX8_line_151 rfl rfl ?_
      obtain ⟨fs, hf, a_28, hv, h⟩ := h
      refine x_get dX8_line_152 xf_X8_75 hf hv ?_
      refine x_iload 0 dX8_line_155 rfl ?_
      obtain ⟨n, f, hf, hi, h⟩ := h
      refine x_iald dX8_line_157 hf hi ?_
      generalize f _ = x_29 at h ⊢
      refine x_aload_n 1 dX8_line_158 rfl rfl ?_
      obtain ⟨fs, hf, a_30, hv, h⟩ := h
      refine x_get dX8_line_159 xf_X8_78 hf hv ?_
      refine x_iload 0 dX8_line_162 rfl ?_
      obtain ⟨n, f, hf, hi, h⟩ := h
      refine x_iald dX8_line_164 hf hi ?_
      generalize f _ = x_31 at h ⊢
      refine x_isub dX8_line_165 ?_
      refine x_aload_n 1 dX8_line_166 rfl rfl ?_
      obtain ⟨fs, hf, a_32, hv, h⟩ := h
      refine x_get dX8_line_167 xf_X8_81 hf hv ?_
      refine x_iload 0 dX8_line_170 rfl ?_
      obtain ⟨n, f, hf, hi, h⟩ := h
      refine x_iald dX8_line_172 hf hi ?_
      generalize f _ = x_33 at h ⊢
      refine x_isub dX8_line_173 ?_
      refine x_aload_n 1 dX8_line_174 rfl rfl ?_
      obtain ⟨fs, hf, a_34, hv, h⟩ := h
      refine x_get dX8_line_175 xf_X8_84 hf hv ?_
      refine x_iload 0 dX8_line_178 rfl ?_
      obtain ⟨n, f, hf, hi, h⟩ := h
      refine x_iald dX8_line_180 hf hi ?_
      generalize f _ = x_35 at h ⊢
      refine x_iadd dX8_line_181 ?_
      obtain ⟨⟨fs, hf⟩, h⟩ := h
      refine x_invV (as := [.int (84 : Int32), .int (((x_29 - x_31) - x_33) + x_35)]) (rest := []) dX8_line_182 (q := (RX8, TX8, 40)) rfl xc_X8_line_231 hf (M_X8_addsAmount hl h) rfl rfl (Nat.le_of_ble_eq_true rfl) (Nat.zero_le _) (Nat.zero_le _) (xk_v fun t_36 h => ?_)
      refine x_iload_n 4 dX8_line_185 rfl rfl ?_
      refine x_aload_n 1 dX8_line_186 rfl rfl ?_
      obtain ⟨fs, hf, x_37, hv, h⟩ := h
      refine x_get dX8_line_187 xf_X8_218 hf hv ?_
      obtain ⟨h1, h2⟩ := h
      refine x_icmp_ge (tgt := 202) dX8_line_190 (by decide) (fun q => ?_) (fun q => ?_)
      · have h := h1 q
        refine x_bipush (v := (32 : Int32)) dX8_line_202 (by decide) ?_
        exact x_zret dX8_line_204 hr ht (by decide) ⟨_, rfl, h⟩
      · have h := h2 q
        refine x_aload_n 1 dX8_line_193 rfl rfl ?_
        obtain ⟨fs, hf, a_38, hv, h⟩ := h
        refine x_get dX8_line_194 xf_X8_108 hf hv ?_
        refine x_iload_n 4 dX8_line_197 rfl rfl ?_
        obtain ⟨n, f, hf, hi, h⟩ := h
        refine x_cald dX8_line_198 hf hi ?_
        generalize f _ = x_39 at h ⊢
        refine x_goto (tgt := 204) dX8_line_199 (by decide) ?_
        obtain ⟨hn, h⟩ := h
        exact x_zret dX8_line_204 hr ht hn ⟨_, rfl, h⟩
  · have h := h2 q
    refine x_iconst (v := (0 : Int32)) dX8_line_44 (by decide) ?_
    exact x_zret dX8_line_45 hr ht (by decide) ⟨_, rfl, h⟩
def V_X8_line_0 (K : Int32 → xT → Prop) (a0 : Nat) (x1 : Int32) (x2 : Int32) (x3 : Int32) (t : xT) : Prop :=
  (xis t a0 8 ∧ V_X8_isLease_0 (fun x_2 t_1 => ((x_2 = 0 → (((0 : Int32) = 0 → V_X8_line_38 K a0 x1 x2 x3 (1 : Int32) a0 t_1) ∧ (¬ (0 : Int32) = 0 → V_X8_line_38 K a0 x1 x2 x3 (0 : Int32) a0 t_1))) ∧ (¬ x_2 = 0 → (xis t_1 a0 8 ∧ V_X8_isMonth_0 (fun x_4 t_3 => ((x_4 = 0 → (((0 : Int32) = 0 → V_X8_line_38 K a0 x1 x2 x3 (1 : Int32) a0 t_3) ∧ (¬ (0 : Int32) = 0 → V_X8_line_38 K a0 x1 x2 x3 (0 : Int32) a0 t_3))) ∧ (¬ x_4 = 0 → ((x3 < 0 → (((0 : Int32) = 0 → V_X8_line_38 K a0 x1 x2 x3 (1 : Int32) a0 t_3) ∧ (¬ (0 : Int32) = 0 → V_X8_line_38 K a0 x1 x2 x3 (0 : Int32) a0 t_3))) ∧ (¬ x3 < 0 → (((1 : Int32) = 0 → V_X8_line_38 K a0 x1 x2 x3 (1 : Int32) a0 t_3) ∧ (¬ (1 : Int32) = 0 → V_X8_line_38 K a0 x1 x2 x3 (0 : Int32) a0 t_3))))))) a0 x2 t_1)))) a0 x1 t)
set_option maxRecDepth 20000 in
theorem S_X8_line_0 {Γ : xΓ} {K : Int32 → xT → Prop} (hl : (gl Γ).stackTraces = false) (ht : (gM Γ).sig.returnType = (some .char)) (hr : xRet Γ (xKi K)) {a0 : Nat} {x1 : Int32} {x2 : Int32} {x3 : Int32} {t : xT} {rc rs : Nat} (h : V_X8_line_0 K a0 x1 x2 x3 t) : xX Γ k_X8_line 0 [(0, .ref a0), (1, .int x1), (2, .int x2), (3, .int x3)] [] t rc rs := by
  unfold V_X8_line_0 at h
  refine x_aload_n 0 dX8_line_0 rfl rfl ?_
  refine x_iload_n 1 dX8_line_1 rfl rfl ?_
  obtain ⟨⟨fs, hf⟩, h⟩ := h
  refine x_invV (as := [.int x1]) (rest := []) dX8_line_2 (q := (RX8, TX8, 40)) rfl xc_X8_line_148 hf (M_X8_isLease hl h) rfl rfl (Nat.le_of_ble_eq_true rfl) (Nat.zero_le _) (Nat.zero_le _) (xk_i fun x_2 t_1 h => ?_)
  obtain ⟨h1, h2⟩ := h
  refine x_if_eq (tgt := 24) dX8_line_5 (by decide) (fun q => ?_) (fun q => ?_)
  · have h := h1 q
    refine x_iconst (v := (0 : Int32)) dX8_line_24 (by decide) ?_
    refine x_istore (L' := [(4, .int (0 : Int32)), (0, .ref a0), (1, .int x1), (2, .int x2), (3, .int x3)]) dX8_line_25 (by decide) rfl ?_
    refine x_aload_n 1 dX8_line_27 rfl rfl ?_
    refine x_iload 0 dX8_line_28 rfl ?_
    obtain ⟨h1, h2⟩ := h
    refine x_if_eq (tgt := 37) dX8_line_30 (by decide) (fun q => ?_) (fun q => ?_)
    · have h := h1 q
      refine x_iconst (v := (1 : Int32)) dX8_line_37 (by decide) ?_
      refine x_sub (L' := [(0, .ref a0), (1, .int x1), (2, .int x2), (3, .int x3)]) [1, 2, 3, 4] rfl ?_
      exact S_X8_line_38 hl ht hr  h
    · have h := h2 q
      refine x_iconst (v := (0 : Int32)) dX8_line_33 (by decide) ?_
      refine x_goto (tgt := 38) dX8_line_34 (by decide) ?_
      refine x_sub (L' := [(0, .ref a0), (1, .int x1), (2, .int x2), (3, .int x3)]) [1, 2, 3, 4] rfl ?_
      exact S_X8_line_38 hl ht hr  h
  · have h := h2 q
    refine x_aload_n 0 dX8_line_8 rfl rfl ?_
    refine x_iload_n 2 dX8_line_9 rfl rfl ?_
    obtain ⟨⟨fs, hf⟩, h⟩ := h
    refine x_invV (as := [.int x2]) (rest := []) dX8_line_10 (q := (RX8, TX8, 40)) rfl xc_X8_line_202 hf (M_X8_isMonth hl h) rfl rfl (Nat.le_of_ble_eq_true rfl) (Nat.zero_le _) (Nat.zero_le _) (xk_i fun x_4 t_3 h => ?_)
    obtain ⟨h1, h2⟩ := h
    refine x_if_eq (tgt := 24) dX8_line_13 (by decide) (fun q => ?_) (fun q => ?_)
    · have h := h1 q
      refine x_iconst (v := (0 : Int32)) dX8_line_24 (by decide) ?_
      refine x_istore (L' := [(4, .int (0 : Int32)), (0, .ref a0), (1, .int x1), (2, .int x2), (3, .int x3)]) dX8_line_25 (by decide) rfl ?_
      refine x_aload_n 1 dX8_line_27 rfl rfl ?_
      refine x_iload 0 dX8_line_28 rfl ?_
      obtain ⟨h1, h2⟩ := h
      refine x_if_eq (tgt := 37) dX8_line_30 (by decide) (fun q => ?_) (fun q => ?_)
      · have h := h1 q
        refine x_iconst (v := (1 : Int32)) dX8_line_37 (by decide) ?_
        refine x_sub (L' := [(0, .ref a0), (1, .int x1), (2, .int x2), (3, .int x3)]) [1, 2, 3, 4] rfl ?_
        exact S_X8_line_38 hl ht hr  h
      · have h := h2 q
        refine x_iconst (v := (0 : Int32)) dX8_line_33 (by decide) ?_
        refine x_goto (tgt := 38) dX8_line_34 (by decide) ?_
        refine x_sub (L' := [(0, .ref a0), (1, .int x1), (2, .int x2), (3, .int x3)]) [1, 2, 3, 4] rfl ?_
        exact S_X8_line_38 hl ht hr  h
    · have h := h2 q
      refine x_iload_n 3 dX8_line_16 rfl rfl ?_
      obtain ⟨h1, h2⟩ := h
      refine x_if_lt (tgt := 24) dX8_line_17 (by decide) (fun q => ?_) (fun q => ?_)
      · have h := h1 q
        refine x_iconst (v := (0 : Int32)) dX8_line_24 (by decide) ?_
        refine x_istore (L' := [(4, .int (0 : Int32)), (0, .ref a0), (1, .int x1), (2, .int x2), (3, .int x3)]) dX8_line_25 (by decide) rfl ?_
        refine x_aload_n 1 dX8_line_27 rfl rfl ?_
        refine x_iload 0 dX8_line_28 rfl ?_
        obtain ⟨h1, h2⟩ := h
        refine x_if_eq (tgt := 37) dX8_line_30 (by decide) (fun q => ?_) (fun q => ?_)
        · have h := h1 q
          refine x_iconst (v := (1 : Int32)) dX8_line_37 (by decide) ?_
          refine x_sub (L' := [(0, .ref a0), (1, .int x1), (2, .int x2), (3, .int x3)]) [1, 2, 3, 4] rfl ?_
          exact S_X8_line_38 hl ht hr  h
        · have h := h2 q
          refine x_iconst (v := (0 : Int32)) dX8_line_33 (by decide) ?_
          refine x_goto (tgt := 38) dX8_line_34 (by decide) ?_
          refine x_sub (L' := [(0, .ref a0), (1, .int x1), (2, .int x2), (3, .int x3)]) [1, 2, 3, 4] rfl ?_
          exact S_X8_line_38 hl ht hr  h
      · have h := h2 q
        refine x_iconst (v := (1 : Int32)) dX8_line_20 (by decide) ?_
        refine x_goto (tgt := 25) dX8_line_21 (by decide) ?_
        refine x_istore (L' := [(4, .int (1 : Int32)), (0, .ref a0), (1, .int x1), (2, .int x2), (3, .int x3)]) dX8_line_25 (by decide) rfl ?_
        refine x_aload_n 1 dX8_line_27 rfl rfl ?_
        refine x_iload 0 dX8_line_28 rfl ?_
        obtain ⟨h1, h2⟩ := h
        refine x_if_eq (tgt := 37) dX8_line_30 (by decide) (fun q => ?_) (fun q => ?_)
        · have h := h1 q
          refine x_iconst (v := (1 : Int32)) dX8_line_37 (by decide) ?_
          refine x_sub (L' := [(0, .ref a0), (1, .int x1), (2, .int x2), (3, .int x3)]) [1, 2, 3, 4] rfl ?_
          exact S_X8_line_38 hl ht hr  h
        · have h := h2 q
          refine x_iconst (v := (0 : Int32)) dX8_line_33 (by decide) ?_
          refine x_goto (tgt := 38) dX8_line_34 (by decide) ?_
          refine x_sub (L' := [(0, .ref a0), (1, .int x1), (2, .int x2), (3, .int x3)]) [1, 2, 3, 4] rfl ?_
          exact S_X8_line_38 hl ht hr  h
theorem M_X8_line {l : Launch} {G : xG} (hl : l.stackTraces = false) {a0 : Nat} {x1 : Int32} {x2 : Int32} {x3 : Int32} {t : xT} {K : Int32 → xT → Prop} (h : V_X8_line_0 K a0 x1 x2 x3 t) : xMet l G yX8_line k_X8_line (some .char) [.ref a0, .int x1, .int x2, .int x3] t (xKi K) 0 0 := xMet.of (by decide +kernel) rfl hl (Nat.le_of_ble_eq_true rfl) (fun Γ e1 e2 ht hn hr => by subst e1; subst e2; exact S_X8_line_0 hl ht hr h)
/-! RentStreamModel.mend(I)I -/
def V_X8_mend_0 (K : Int32 → xT → Prop) (a0 : Nat) (x1 : Int32) (t : xT) : Prop :=
  xgI t a0 8 12 fun x_1 => (V_X8_in_0 (fun x_3 t_2 => ((¬ x_3 = 0 → xgR t_2 a0 8 17 fun a_4 => xaI 2 t_2 a_4 x1 fun x_5 => ((x_5 = 0 → (xis t_2 a0 8 ∧ V_X8_holds_0 (fun x_7 t_6 => ((¬ x_7 = 0 → xgR t_6 a0 8 17 fun a_8 => xsI 2 t_6 a_8 x1 (vp_nar .boolean (1 : Int32)) fun t_9 => xgR t_9 a0 8 16 fun a_10 => xaI 0 t_9 a_10 x1 fun x_11 => K x_11 t_9) ∧ (x_7 = 0 → K (0 : Int32) t_6))) a0 (0 : Int32) t_2)) ∧ (¬ x_5 = 0 → (xis t_2 a0 8 ∧ V_X8_holds_0 (fun x_13 t_12 => ((¬ x_13 = 0 → xgR t_12 a0 8 17 fun a_14 => xsI 2 t_12 a_14 x1 (vp_nar .boolean (1 : Int32)) fun t_15 => xgR t_15 a0 8 16 fun a_16 => xaI 0 t_15 a_16 x1 fun x_17 => K x_17 t_15) ∧ (x_13 = 0 → K (0 : Int32) t_12))) a0 (2 : Int32) t_2)))) ∧ (x_3 = 0 → (xis t_2 a0 8 ∧ V_X8_holds_0 (fun x_19 t_18 => ((¬ x_19 = 0 → xgR t_18 a0 8 17 fun a_20 => xsI 2 t_18 a_20 x1 (vp_nar .boolean (1 : Int32)) fun t_21 => xgR t_21 a0 8 16 fun a_22 => xaI 0 t_21 a_22 x1 fun x_23 => K x_23 t_21) ∧ (x_19 = 0 → K (0 : Int32) t_18))) a0 (1 : Int32) t_2)))) x1 (0 : Int32) (x_1 - (1 : Int32)) t)
set_option maxRecDepth 20000 in
theorem S_X8_mend_0 {Γ : xΓ} {K : Int32 → xT → Prop} (hl : (gl Γ).stackTraces = false) (ht : (gM Γ).sig.returnType = (some .int)) (hr : xRet Γ (xKi K)) {a0 : Nat} {x1 : Int32} {t : xT} {rc rs : Nat} (h : V_X8_mend_0 K a0 x1 t) : xX Γ k_X8_mend 0 [(0, .ref a0), (1, .int x1)] [] t rc rs := by
  unfold V_X8_mend_0 at h
  refine x_iload_n 1 dX8_mend_0 rfl rfl ?_
  refine x_iconst (v := (0 : Int32)) dX8_mend_1 (by decide) ?_
  refine x_aload_n 0 dX8_mend_2 rfl rfl ?_
  obtain ⟨fs, hf, x_1, hv, h⟩ := h
  refine x_get dX8_mend_3 xf_X8_156 hf hv ?_
  refine x_iconst (v := (1 : Int32)) dX8_mend_6 (by decide) ?_
  refine x_isub dX8_mend_7 ?_
  refine x_invS (as := [.int x1, .int (0 : Int32), .int (x_1 - (1 : Int32))]) (rest := []) dX8_mend_8 xc_X8_mend_119 (M_X8_in hl h) rfl rfl (Nat.le_of_ble_eq_true rfl) (Nat.zero_le _) (Nat.zero_le _) (xk_i fun x_3 t_2 h => ?_)
  refine x_istore_n (L' := [(2, .int x_3), (0, .ref a0), (1, .int x1)]) dX8_mend_11 rfl (by decide) rfl ?_
  refine x_aload_n 1 dX8_mend_12 rfl rfl ?_
  refine x_iload_n 0 dX8_mend_13 rfl rfl ?_
  obtain ⟨h1, h2⟩ := h
  refine x_if_ne (tgt := 21) dX8_mend_14 (by decide) (fun q => ?_) (fun q => ?_)
  · have h := h1 q
    refine x_aload_n 1 dX8_mend_21 rfl rfl ?_
    obtain ⟨fs, hf, a_4, hv, h⟩ := h
    refine x_get dX8_mend_22 xf_X8_46 hf hv ?_
    refine x_iload_n 2 dX8_mend_25 rfl rfl ?_
    obtain ⟨n, f, hf, hi, h⟩ := h
    refine x_zald dX8_mend_26 hf hi ?_
    generalize f _ = x_5 at h ⊢
    obtain ⟨h1, h2⟩ := h
    refine x_if_eq (tgt := 34) dX8_mend_27 (by decide) (fun q => ?_) (fun q => ?_)
    · have h := h1 q
      refine x_iconst (v := (0 : Int32)) dX8_mend_34 (by decide) ?_
      obtain ⟨⟨fs, hf⟩, h⟩ := h
      refine x_invV (as := [.int (0 : Int32)]) (rest := []) dX8_mend_35 (q := (RX8, TX8, 40)) rfl xc_X8_mend_133 hf (M_X8_holds hl h) rfl rfl (Nat.le_of_ble_eq_true rfl) (Nat.zero_le _) (Nat.zero_le _) (xk_i fun x_7 t_6 h => ?_)
      obtain ⟨h1, h2⟩ := h
      refine x_if_ne (tgt := 43) dX8_mend_38 (by decide) (fun q => ?_) (fun q => ?_)
      · have h := h1 q
        refine x_aload_n 1 dX8_mend_43 rfl rfl ?_
        obtain ⟨fs, hf, a_8, hv, h⟩ := h
        refine x_get dX8_mend_44 xf_X8_46 hf hv ?_
        refine x_iload_n 2 dX8_mend_47 rfl rfl ?_
        refine x_iconst (v := (1 : Int32)) dX8_mend_48 (by decide) ?_
        obtain ⟨n, f, hf, hi, h⟩ := h
        refine x_zast dX8_mend_49 hf hi ?_
        generalize hT : xup t_6 a_8 _ = t_9 at h ⊢
        clear hT
        refine x_aload_n 1 dX8_mend_50 rfl rfl ?_
        obtain ⟨fs, hf, a_10, hv, h⟩ := h
        refine x_get dX8_mend_51 xf_X8_43 hf hv ?_
        refine x_iload_n 2 dX8_mend_54 rfl rfl ?_
        obtain ⟨n, f, hf, hi, h⟩ := h
        refine x_iald dX8_mend_55 hf hi ?_
        generalize f _ = x_11 at h ⊢
        exact x_zret dX8_mend_56 hr ht rfl ⟨_, rfl, h⟩
      · have h := h2 q
        refine x_iconst (v := (0 : Int32)) dX8_mend_41 (by decide) ?_
        exact x_zret dX8_mend_42 hr ht rfl ⟨_, rfl, h⟩
    · have h := h2 q
      refine x_iconst (v := (2 : Int32)) dX8_mend_30 (by decide) ?_
      refine x_goto (tgt := 35) dX8_mend_31 (by decide) ?_
      obtain ⟨⟨fs, hf⟩, h⟩ := h
      refine x_invV (as := [.int (2 : Int32)]) (rest := []) dX8_mend_35 (q := (RX8, TX8, 40)) rfl xc_X8_mend_133 hf (M_X8_holds hl h) rfl rfl (Nat.le_of_ble_eq_true rfl) (Nat.zero_le _) (Nat.zero_le _) (xk_i fun x_13 t_12 h => ?_)
      obtain ⟨h1, h2⟩ := h
      refine x_if_ne (tgt := 43) dX8_mend_38 (by decide) (fun q => ?_) (fun q => ?_)
      · have h := h1 q
        refine x_aload_n 1 dX8_mend_43 rfl rfl ?_
        obtain ⟨fs, hf, a_14, hv, h⟩ := h
        refine x_get dX8_mend_44 xf_X8_46 hf hv ?_
        refine x_iload_n 2 dX8_mend_47 rfl rfl ?_
        refine x_iconst (v := (1 : Int32)) dX8_mend_48 (by decide) ?_
        obtain ⟨n, f, hf, hi, h⟩ := h
        refine x_zast dX8_mend_49 hf hi ?_
        generalize hT : xup t_12 a_14 _ = t_15 at h ⊢
        clear hT
        refine x_aload_n 1 dX8_mend_50 rfl rfl ?_
        obtain ⟨fs, hf, a_16, hv, h⟩ := h
        refine x_get dX8_mend_51 xf_X8_43 hf hv ?_
        refine x_iload_n 2 dX8_mend_54 rfl rfl ?_
        obtain ⟨n, f, hf, hi, h⟩ := h
        refine x_iald dX8_mend_55 hf hi ?_
        generalize f _ = x_17 at h ⊢
        exact x_zret dX8_mend_56 hr ht rfl ⟨_, rfl, h⟩
      · have h := h2 q
        refine x_iconst (v := (0 : Int32)) dX8_mend_41 (by decide) ?_
        exact x_zret dX8_mend_42 hr ht rfl ⟨_, rfl, h⟩
  · have h := h2 q
    refine x_iconst (v := (1 : Int32)) dX8_mend_17 (by decide) ?_
    refine x_goto (tgt := 35) dX8_mend_18 (by decide) ?_
    obtain ⟨⟨fs, hf⟩, h⟩ := h
    refine x_invV (as := [.int (1 : Int32)]) (rest := []) dX8_mend_35 (q := (RX8, TX8, 40)) rfl xc_X8_mend_133 hf (M_X8_holds hl h) rfl rfl (Nat.le_of_ble_eq_true rfl) (Nat.zero_le _) (Nat.zero_le _) (xk_i fun x_19 t_18 h => ?_)
    obtain ⟨h1, h2⟩ := h
    refine x_if_ne (tgt := 43) dX8_mend_38 (by decide) (fun q => ?_) (fun q => ?_)
    · have h := h1 q
      refine x_aload_n 1 dX8_mend_43 rfl rfl ?_
      obtain ⟨fs, hf, a_20, hv, h⟩ := h
      refine x_get dX8_mend_44 xf_X8_46 hf hv ?_
      refine x_iload_n 2 dX8_mend_47 rfl rfl ?_
      refine x_iconst (v := (1 : Int32)) dX8_mend_48 (by decide) ?_
      obtain ⟨n, f, hf, hi, h⟩ := h
      refine x_zast dX8_mend_49 hf hi ?_
      generalize hT : xup t_18 a_20 _ = t_21 at h ⊢
      clear hT
      refine x_aload_n 1 dX8_mend_50 rfl rfl ?_
      obtain ⟨fs, hf, a_22, hv, h⟩ := h
      refine x_get dX8_mend_51 xf_X8_43 hf hv ?_
      refine x_iload_n 2 dX8_mend_54 rfl rfl ?_
      obtain ⟨n, f, hf, hi, h⟩ := h
      refine x_iald dX8_mend_55 hf hi ?_
      generalize f _ = x_23 at h ⊢
      exact x_zret dX8_mend_56 hr ht rfl ⟨_, rfl, h⟩
    · have h := h2 q
      refine x_iconst (v := (0 : Int32)) dX8_mend_41 (by decide) ?_
      exact x_zret dX8_mend_42 hr ht rfl ⟨_, rfl, h⟩
theorem M_X8_mend {l : Launch} {G : xG} (hl : l.stackTraces = false) {a0 : Nat} {x1 : Int32} {t : xT} {K : Int32 → xT → Prop} (h : V_X8_mend_0 K a0 x1 t) : xMet l G yX8_mend k_X8_mend (some .int) [.ref a0, .int x1] t (xKi K) 0 0 := xMet.of (by decide +kernel) rfl hl (Nat.le_of_ble_eq_true rfl) (fun Γ e1 e2 ht hn hr => by subst e1; subst e2; exact S_X8_mend_0 hl ht hr h)
/-! RentStreamModel.owes(I)J -/
def V_X8_owes_0 (K : Int64 → xT → Prop) (a0 : Nat) (x1 : Int32) (t : xT) : Prop :=
  (xis t a0 8 ∧ V_X8_isLease_0 (fun x_2 t_1 => ((x_2 = 0 → (xis t_1 a0 8 ∧ V_X8_holds_0 (fun x_4 t_3 => ((x_4 = 0 → K (0 : Int64) t_3) ∧ (¬ x_4 = 0 → xgR t_3 a0 8 23 fun a_5 => xaJ t_3 a_5 x1 fun y_6 => K y_6 t_3))) a0 (1 : Int32) t_1)) ∧ (¬ x_2 = 0 → (xis t_1 a0 8 ∧ V_X8_holds_0 (fun x_8 t_7 => ((x_8 = 0 → K (0 : Int64) t_7) ∧ (¬ x_8 = 0 → xgR t_7 a0 8 23 fun a_9 => xaJ t_7 a_9 x1 fun y_10 => K y_10 t_7))) a0 (0 : Int32) t_1)))) a0 x1 t)
set_option maxRecDepth 20000 in
theorem S_X8_owes_0 {Γ : xΓ} {K : Int64 → xT → Prop} (hl : (gl Γ).stackTraces = false) (ht : (gM Γ).sig.returnType = (some .long)) (hr : xRet Γ (xKl K)) {a0 : Nat} {x1 : Int32} {t : xT} {rc rs : Nat} (h : V_X8_owes_0 K a0 x1 t) : xX Γ k_X8_owes 0 [(0, .ref a0), (1, .int x1)] [] t rc rs := by
  unfold V_X8_owes_0 at h
  refine x_aload_n 0 dX8_owes_0 rfl rfl ?_
  refine x_aload_n 0 dX8_owes_1 rfl rfl ?_
  refine x_iload_n 1 dX8_owes_2 rfl rfl ?_
  obtain ⟨⟨fs, hf⟩, h⟩ := h
  refine x_invV (as := [.int x1]) (rest := [.ref a0]) dX8_owes_3 (q := (RX8, TX8, 40)) rfl xc_X8_owes_148 hf (M_X8_isLease hl h) rfl rfl (Nat.le_of_ble_eq_true rfl) (Nat.zero_le _) (Nat.zero_le _) (xk_i fun x_2 t_1 h => ?_)
  obtain ⟨h1, h2⟩ := h
  refine x_if_eq (tgt := 13) dX8_owes_6 (by decide) (fun q => ?_) (fun q => ?_)
  · have h := h1 q
    refine x_iconst (v := (1 : Int32)) dX8_owes_13 (by decide) ?_
    obtain ⟨⟨fs, hf⟩, h⟩ := h
    refine x_invV (as := [.int (1 : Int32)]) (rest := []) dX8_owes_14 (q := (RX8, TX8, 40)) rfl xc_X8_owes_133 hf (M_X8_holds hl h) rfl rfl (Nat.le_of_ble_eq_true rfl) (Nat.zero_le _) (Nat.zero_le _) (xk_i fun x_4 t_3 h => ?_)
    obtain ⟨h1, h2⟩ := h
    refine x_if_eq (tgt := 29) dX8_owes_17 (by decide) (fun q => ?_) (fun q => ?_)
    · have h := h1 q
      refine x_lconst (v := (0 : Int64)) dX8_owes_29 (by decide) ?_
      exact x_lret dX8_owes_30 hr ht ⟨_, rfl, h⟩
    · have h := h2 q
      refine x_aload_n 0 dX8_owes_20 rfl rfl ?_
      obtain ⟨fs, hf, a_5, hv, h⟩ := h
      refine x_get dX8_owes_21 xf_X8_62 hf hv ?_
      refine x_iload_n 1 dX8_owes_24 rfl rfl ?_
      obtain ⟨n, f, hf, hi, h⟩ := h
      refine x_lald dX8_owes_25 hf hi ?_
      generalize f _ = y_6 at h ⊢
      refine x_goto (tgt := 30) dX8_owes_26 (by decide) ?_
      exact x_lret dX8_owes_30 hr ht ⟨_, rfl, h⟩
  · have h := h2 q
    refine x_iconst (v := (0 : Int32)) dX8_owes_9 (by decide) ?_
    refine x_goto (tgt := 14) dX8_owes_10 (by decide) ?_
    obtain ⟨⟨fs, hf⟩, h⟩ := h
    refine x_invV (as := [.int (0 : Int32)]) (rest := []) dX8_owes_14 (q := (RX8, TX8, 40)) rfl xc_X8_owes_133 hf (M_X8_holds hl h) rfl rfl (Nat.le_of_ble_eq_true rfl) (Nat.zero_le _) (Nat.zero_le _) (xk_i fun x_8 t_7 h => ?_)
    obtain ⟨h1, h2⟩ := h
    refine x_if_eq (tgt := 29) dX8_owes_17 (by decide) (fun q => ?_) (fun q => ?_)
    · have h := h1 q
      refine x_lconst (v := (0 : Int64)) dX8_owes_29 (by decide) ?_
      exact x_lret dX8_owes_30 hr ht ⟨_, rfl, h⟩
    · have h := h2 q
      refine x_aload_n 0 dX8_owes_20 rfl rfl ?_
      obtain ⟨fs, hf, a_9, hv, h⟩ := h
      refine x_get dX8_owes_21 xf_X8_62 hf hv ?_
      refine x_iload_n 1 dX8_owes_24 rfl rfl ?_
      obtain ⟨n, f, hf, hi, h⟩ := h
      refine x_lald dX8_owes_25 hf hi ?_
      generalize f _ = y_10 at h ⊢
      refine x_goto (tgt := 30) dX8_owes_26 (by decide) ?_
      exact x_lret dX8_owes_30 hr ht ⟨_, rfl, h⟩
theorem M_X8_owes {l : Launch} {G : xG} (hl : l.stackTraces = false) {a0 : Nat} {x1 : Int32} {t : xT} {K : Int64 → xT → Prop} (h : V_X8_owes_0 K a0 x1 t) : xMet l G yX8_owes k_X8_owes (some .long) [.ref a0, .int x1] t (xKl K) 0 0 := xMet.of (by decide +kernel) rfl hl (Nat.le_of_ble_eq_true rfl) (fun Γ e1 e2 ht hn hr => by subst e1; subst e2; exact S_X8_owes_0 hl ht hr h)
/-! RentStreamModel.owesAnew(I)J -/
def V_X8_owesAnew_0 (K : Int64 → xT → Prop) (a0 : Nat) (x1 : Int32) (t : xT) : Prop :=
  (xis t a0 8 ∧ V_X8_owes_0 (fun y_2 t_1 => K y_2 t_1) a0 x1 t)
set_option maxRecDepth 20000 in
theorem S_X8_owesAnew_0 {Γ : xΓ} {K : Int64 → xT → Prop} (hl : (gl Γ).stackTraces = false) (ht : (gM Γ).sig.returnType = (some .long)) (hr : xRet Γ (xKl K)) {a0 : Nat} {x1 : Int32} {t : xT} {rc rs : Nat} (h : V_X8_owesAnew_0 K a0 x1 t) : xX Γ k_X8_owesAnew 0 [(0, .ref a0), (1, .int x1)] [] t rc rs := by
  unfold V_X8_owesAnew_0 at h
  refine x_aload_n 0 dX8_owesAnew_0 rfl rfl ?_
  refine x_iload_n 1 dX8_owesAnew_1 rfl rfl ?_
  obtain ⟨⟨fs, hf⟩, h⟩ := h
  refine x_invV (as := [.int x1]) (rest := []) dX8_owesAnew_2 (q := (RX8, TX8, 40)) rfl xc_X8_owesAnew_214 hf (M_X8_owes hl h) rfl rfl (Nat.le_of_ble_eq_true rfl) (Nat.zero_le _) (Nat.zero_le _) (xk_l fun y_2 t_1 h => ?_)
  exact x_lret dX8_owesAnew_5 hr ht ⟨_, rfl, h⟩
theorem M_X8_owesAnew {l : Launch} {G : xG} (hl : l.stackTraces = false) {a0 : Nat} {x1 : Int32} {t : xT} {K : Int64 → xT → Prop} (h : V_X8_owesAnew_0 K a0 x1 t) : xMet l G yX8_owesAnew k_X8_owesAnew (some .long) [.ref a0, .int x1] t (xKl K) 0 0 := xMet.of (by decide +kernel) rfl hl (Nat.le_of_ble_eq_true rfl) (fun Γ e1 e2 ht hn hr => by subst e1; subst e2; exact S_X8_owesAnew_0 hl ht hr h)
/-! RentStreamModel.owner()J -/
def VS_X8_owner_9 (R9 : Nat → Int64 → Int32 → xT → Prop) (K : Int64 → xT → Prop) (a0 : Nat) (y1 : Int64) (x3 : Int32) (t : xT) : Prop :=
  xgI t a0 8 18 fun x_1 => ((x_1 ≤ x3 → K y1 t) ∧ (¬ x_1 ≤ x3 → xgR t a0 8 23 fun a_2 => xaJ t a_2 x3 fun y_3 => xgR t a0 8 24 fun a_4 => xaJ t a_4 x3 fun y_5 => R9 a0 (y1 - (y_3 + y_5)) (x3 + 1) t))
def V_X8_owner_9 (K : Int64 → xT → Prop) (n : Nat) : Nat → Int64 → Int32 → xT → Prop := Nat.rec (fun _ _ _ _ => False) (fun _ ih => VS_X8_owner_9 ih K) n
set_option maxRecDepth 20000 in
theorem S_X8_owner_9 {Γ : xΓ} {K : Int64 → xT → Prop} (hl : (gl Γ).stackTraces = false) (ht : (gM Γ).sig.returnType = (some .long)) (hr : xRet Γ (xKl K)) : ∀ (n : Nat) (a0 : Nat) (y1 : Int64) (x3 : Int32) (t : xT) (rc rs : Nat), V_X8_owner_9 K n a0 y1 x3 t → xX Γ k_X8_owner 9 [(0, .ref a0), (1, .long y1), (3, .int x3)] [] t rc rs := by
  intro n
  induction n with
  | zero =>
    intro a0 y1 x3 t rc rs h
    exact h.elim
  | succ n ih =>
    intro a0 y1 x3 t rc rs h
    replace h : VS_X8_owner_9 (V_X8_owner_9 K n) K a0 y1 x3 t := h
    unfold VS_X8_owner_9 at h
    refine x_iload_n 2 dX8_owner_9 rfl rfl ?_
    refine x_aload_n 0 dX8_owner_10 rfl rfl ?_
    obtain ⟨fs, hf, x_1, hv, h⟩ := h
    refine x_get dX8_owner_11 xf_X8_123 hf hv ?_
    obtain ⟨h1, h2⟩ := h
    refine x_icmp_ge (tgt := 39) dX8_owner_14 (by decide) (fun q => ?_) (fun q => ?_)
    · have h := h1 q
      refine x_lload_n 1 dX8_owner_39 rfl rfl ?_
      exact x_lret dX8_owner_40 hr ht ⟨_, rfl, h⟩
    · have h := h2 q
      refine x_lload_n 1 dX8_owner_17 rfl rfl ?_
      refine x_aload_n 0 dX8_owner_18 rfl rfl ?_
      obtain ⟨fs, hf, a_2, hv, h⟩ := h
      refine x_get dX8_owner_19 xf_X8_62 hf hv ?_
      refine x_iload_n 2 dX8_owner_22 rfl rfl ?_
      obtain ⟨n, f, hf, hi, h⟩ := h
      refine x_lald dX8_owner_23 hf hi ?_
      generalize f _ = y_3 at h ⊢
      refine x_aload_n 0 dX8_owner_24 rfl rfl ?_
      obtain ⟨fs, hf, a_4, hv, h⟩ := h
      refine x_get dX8_owner_25 xf_X8_66 hf hv ?_
      refine x_iload_n 2 dX8_owner_28 rfl rfl ?_
      obtain ⟨n, f, hf, hi, h⟩ := h
      refine x_lald dX8_owner_29 hf hi ?_
      generalize f _ = y_5 at h ⊢
      refine x_ladd dX8_owner_30 ?_
      refine x_lsub dX8_owner_31 ?_
      refine x_lstore_n (L' := [(1, .long (y1 - (y_3 + y_5))), (0, .ref a0), (3, .int x3)]) dX8_owner_32 rfl (by decide) rfl ?_
      refine x_iinc (v := (x3 + 1)) (L' := [(3, .int (x3 + 1)), (1, .long (y1 - (y_3 + y_5))), (0, .ref a0)]) (j := 2) dX8_owner_33 rfl rfl (by decide) rfl ?_
      refine x_goto (tgt := 9) dX8_owner_36 (by decide) ?_
      refine x_sub (L' := [(0, .ref a0), (1, .long (y1 - (y_3 + y_5))), (3, .int (x3 + 1))]) [2, 1, 0] rfl ?_
      exact ih a0 (y1 - (y_3 + y_5)) (x3 + 1) t _ _ h
def V_X8_owner_0 (K : Int64 → xT → Prop) (a0 : Nat) (t : xT) : Prop :=
  (xpF t a0 8 0 (.int (0 : Int32)) fun t_1 => ∃ f_2 : Nat, V_X8_owner_9 K f_2 a0 (0 : Int64) (0 : Int32) t_1)
set_option maxRecDepth 20000 in
theorem S_X8_owner_0 {Γ : xΓ} {K : Int64 → xT → Prop} (hl : (gl Γ).stackTraces = false) (ht : (gM Γ).sig.returnType = (some .long)) (hr : xRet Γ (xKl K)) {a0 : Nat} {t : xT} {rc rs : Nat} (h : V_X8_owner_0 K a0 t) : xX Γ k_X8_owner 0 [(0, .ref a0)] [] t rc rs := by
  unfold V_X8_owner_0 at h
  refine x_aload_n 0 dX8_owner_0 rfl rfl ?_
  refine x_iconst (v := (0 : Int32)) dX8_owner_1 (by decide) ?_
  obtain ⟨fs, hf, hk, h⟩ := h
  refine x_put (v := .int (0 : Int32)) dX8_owner_2 xp_X8_112 hf rfl rfl hk ?_
  generalize hT : xup t a0 _ = t_1 at h ⊢
  clear hT
  refine x_lconst (v := (0 : Int64)) dX8_owner_5 (by decide) ?_
  refine x_lstore_n (L' := [(1, .long (0 : Int64)), (0, .ref a0)]) dX8_owner_6 rfl (by decide) rfl ?_
  refine x_iconst (v := (0 : Int32)) dX8_owner_7 (by decide) ?_
  refine x_istore_n (L' := [(3, .int (0 : Int32)), (1, .long (0 : Int64)), (0, .ref a0)]) dX8_owner_8 rfl (by decide) rfl ?_
  obtain ⟨f_2, h⟩ := h
  refine x_sub (L' := [(0, .ref a0), (1, .long (0 : Int64)), (3, .int (0 : Int32))]) [2, 1, 0] rfl ?_
  exact S_X8_owner_9 hl ht hr  f_2 a0 (0 : Int64) (0 : Int32) t_1 _ _ h
theorem M_X8_owner {l : Launch} {G : xG} (hl : l.stackTraces = false) {a0 : Nat} {t : xT} {K : Int64 → xT → Prop} (h : V_X8_owner_0 K a0 t) : xMet l G yX8_owner k_X8_owner (some .long) [.ref a0] t (xKl K) 0 0 := xMet.of (by decide +kernel) rfl hl (Nat.le_of_ble_eq_true rfl) (fun Γ e1 e2 ht hn hr => by subst e1; subst e2; exact S_X8_owner_0 hl ht hr h)
/-! RentStreamModel.wears()V -/
def V_X8_wears_40 (R2 : Nat → Int32 → xT → Prop) (K : xT → Prop) (a0 : Nat) (x1 : Int32) (xs0 : Int32) (t : xT) : Prop :=
  xgR t a0 8 17 fun a_1 => xaI 2 t a_1 x1 fun x_2 => ((¬ x_2 = 0 → R2 a0 (x1 + 1) t) ∧ (x_2 = 0 → xgI t a0 8 1 fun x_3 => xgR t a0 8 15 fun a_4 => xaI 0 t a_4 x1 fun x_5 => (((x_3 - x_5) ≤ xs0 → R2 a0 (x1 + 1) t) ∧ (¬ (x_3 - x_5) ≤ xs0 → xgR t a0 8 8 fun a_6 => xgR t a0 8 13 fun a_7 => xaI 0 t a_7 x1 fun x_8 => xaI 0 t a_6 x_8 fun x_9 => xgR t a0 8 14 fun a_10 => xaI 0 t a_10 x1 fun x_11 => ((¬ x_11 = 0 → xgR t a0 8 14 fun a_12 => xaI 0 t a_12 x1 fun x_13 => ((¬ x_13 = (1 : Int32) → xsI 0 t a_6 x_8 (x_9 + (5 : Int32)) fun t_14 => xgR t_14 a0 8 16 fun a_15 => xaI 0 t_14 a_15 x1 fun x_16 => xsI 0 t_14 a_15 x1 (x_16 + (1 : Int32)) fun t_17 => R2 a0 (x1 + 1) t_17) ∧ (x_13 = (1 : Int32) → xsI 0 t a_6 x_8 (x_9 + (10 : Int32)) fun t_18 => xgR t_18 a0 8 16 fun a_19 => xaI 0 t_18 a_19 x1 fun x_20 => xsI 0 t_18 a_19 x1 (x_20 + (1 : Int32)) fun t_21 => R2 a0 (x1 + 1) t_21))) ∧ (x_11 = 0 → xsI 0 t a_6 x_8 (x_9 + (30 : Int32)) fun t_22 => xgR t_22 a0 8 16 fun a_23 => xaI 0 t_22 a_23 x1 fun x_24 => xsI 0 t_22 a_23 x1 (x_24 + (1 : Int32)) fun t_25 => R2 a0 (x1 + 1) t_25))))))
set_option maxRecDepth 20000 in
theorem S_X8_wears_40 {Γ : xΓ} {R2 : Nat → Int32 → xT → Prop} {K : xT → Prop} (hl : (gl Γ).stackTraces = false) (ht : (gM Γ).sig.returnType = none) (hr : xRet Γ (xKv K)) (hR2 : ∀ (a0 : Nat) (x1 : Int32) (t : xT) (rc rs : Nat), R2 a0 x1 t → xX Γ k_X8_wears 2 [(0, .ref a0), (1, .int x1)] [] t rc rs) {a0 : Nat} {x1 : Int32} {xs0 : Int32} {t : xT} {rc rs : Nat} (h : V_X8_wears_40 R2 K a0 x1 xs0 t) : xX Γ k_X8_wears 40 [(0, .ref a0), (1, .int x1)] [.int xs0] t rc rs := by
  unfold V_X8_wears_40 at h
  refine x_istore_n (L' := [(2, .int xs0), (0, .ref a0), (1, .int x1)]) dX8_wears_40 rfl (by decide) rfl ?_
  refine x_aload_n 1 dX8_wears_41 rfl rfl ?_
  obtain ⟨fs, hf, a_1, hv, h⟩ := h
  refine x_get dX8_wears_42 xf_X8_46 hf hv ?_
  refine x_iload_n 2 dX8_wears_45 rfl rfl ?_
  obtain ⟨n, f, hf, hi, h⟩ := h
  refine x_zald dX8_wears_46 hf hi ?_
  generalize f _ = x_2 at h ⊢
  obtain ⟨h1, h2⟩ := h
  refine x_if_ne (tgt := 119) dX8_wears_47 (by decide) (fun q => ?_) (fun q => ?_)
  · have h := h1 q
    refine x_iinc (v := (x1 + 1)) (L' := [(1, .int (x1 + 1)), (2, .int xs0), (0, .ref a0)]) (j := 2) dX8_wears_119 rfl rfl (by decide) rfl ?_
    refine x_goto (tgt := 2) dX8_wears_122 (by decide) ?_
    refine x_sub (L' := [(0, .ref a0), (1, .int (x1 + 1))]) [2, 0] rfl ?_
    exact hR2 a0 (x1 + 1) t _ _ h
  · have h := h2 q
    refine x_aload_n 1 dX8_wears_50 rfl rfl ?_
    obtain ⟨fs, hf, x_3, hv, h⟩ := h
    refine x_get dX8_wears_51 xf_X8_126 hf hv ?_
    refine x_aload_n 1 dX8_wears_54 rfl rfl ?_
    obtain ⟨fs, hf, a_4, hv, h⟩ := h
    refine x_get dX8_wears_55 xf_X8_40 hf hv ?_
    refine x_iload_n 2 dX8_wears_58 rfl rfl ?_
    obtain ⟨n, f, hf, hi, h⟩ := h
    refine x_iald dX8_wears_59 hf hi ?_
    generalize f _ = x_5 at h ⊢
    refine x_isub dX8_wears_60 ?_
    refine x_iload_n 0 dX8_wears_61 rfl rfl ?_
    obtain ⟨h1, h2⟩ := h
    refine x_icmp_le (tgt := 119) dX8_wears_62 (by decide) (fun q => ?_) (fun q => ?_)
    · have h := h1 q
      refine x_iinc (v := (x1 + 1)) (L' := [(1, .int (x1 + 1)), (2, .int xs0), (0, .ref a0)]) (j := 2) dX8_wears_119 rfl rfl (by decide) rfl ?_
      refine x_goto (tgt := 2) dX8_wears_122 (by decide) ?_
      refine x_sub (L' := [(0, .ref a0), (1, .int (x1 + 1))]) [2, 0] rfl ?_
      exact hR2 a0 (x1 + 1) t _ _ h
    · have h := h2 q
      refine x_aload_n 1 dX8_wears_65 rfl rfl ?_
      obtain ⟨fs, hf, a_6, hv, h⟩ := h
      refine x_get dX8_wears_66 xf_X8_25 hf hv ?_
      refine x_aload_n 1 dX8_wears_69 rfl rfl ?_
      obtain ⟨fs, hf, a_7, hv, h⟩ := h
      refine x_get dX8_wears_70 xf_X8_34 hf hv ?_
      refine x_iload_n 2 dX8_wears_73 rfl rfl ?_
      obtain ⟨n, f, hf, hi, h⟩ := h
      refine x_iald dX8_wears_74 hf hi ?_
      generalize f _ = x_8 at h ⊢
      refine x_dup2_11 dX8_wears_75 rfl rfl ?_
      obtain ⟨n, f, hf, hi, h⟩ := h
      refine x_iald dX8_wears_76 hf hi ?_
      generalize f _ = x_9 at h ⊢
      refine x_aload_n 1 dX8_wears_77 rfl rfl ?_
      obtain ⟨fs, hf, a_10, hv, h⟩ := h
      refine x_get dX8_wears_78 xf_X8_37 hf hv ?_
      refine x_iload_n 2 dX8_wears_81 rfl rfl ?_
      obtain ⟨n, f, hf, hi, h⟩ := h
      refine x_iald dX8_wears_82 hf hi ?_
      generalize f _ = x_11 at h ⊢
      obtain ⟨h1, h2⟩ := h
      refine x_if_ne (tgt := 91) dX8_wears_83 (by decide) (fun q => ?_) (fun q => ?_)
      · have h := h1 q
        refine x_aload_n 1 dX8_wears_91 rfl rfl ?_
        obtain ⟨fs, hf, a_12, hv, h⟩ := h
        refine x_get dX8_wears_92 xf_X8_37 hf hv ?_
        refine x_iload_n 2 dX8_wears_95 rfl rfl ?_
        obtain ⟨n, f, hf, hi, h⟩ := h
        refine x_iald dX8_wears_96 hf hi ?_
        generalize f _ = x_13 at h ⊢
        refine x_iconst (v := (1 : Int32)) dX8_wears_97 (by decide) ?_
        obtain ⟨h1, h2⟩ := h
        refine x_icmp_ne (tgt := 106) dX8_wears_98 (by decide) (fun q => ?_) (fun q => ?_)
        · have h := h1 q
          refine x_iconst (v := (5 : Int32)) dX8_wears_106 (by decide) ?_
          refine x_iadd dX8_wears_107 ?_
          obtain ⟨n, f, hf, hi, h⟩ := h
          refine x_iast dX8_wears_108 hf hi ?_
          generalize hT : xup t a_6 _ = t_14 at h ⊢
          clear hT
          refine x_aload_n 1 dX8_wears_109 rfl rfl ?_
          obtain ⟨fs, hf, a_15, hv, h⟩ := h
          refine x_get dX8_wears_110 xf_X8_43 hf hv ?_
          refine x_iload_n 2 dX8_wears_113 rfl rfl ?_
          refine x_dup2_11 dX8_wears_114 rfl rfl ?_
          obtain ⟨n, f, hf, hi, h⟩ := h
          refine x_iald dX8_wears_115 hf hi ?_
          generalize f _ = x_16 at h ⊢
          refine x_iconst (v := (1 : Int32)) dX8_wears_116 (by decide) ?_
          refine x_iadd dX8_wears_117 ?_
          obtain ⟨n, f, hf, hi, h⟩ := h
          refine x_iast dX8_wears_118 hf hi ?_
          generalize hT : xup t_14 a_15 _ = t_17 at h ⊢
          clear hT
          refine x_iinc (v := (x1 + 1)) (L' := [(1, .int (x1 + 1)), (2, .int xs0), (0, .ref a0)]) (j := 2) dX8_wears_119 rfl rfl (by decide) rfl ?_
          refine x_goto (tgt := 2) dX8_wears_122 (by decide) ?_
          refine x_sub (L' := [(0, .ref a0), (1, .int (x1 + 1))]) [2, 0] rfl ?_
          exact hR2 a0 (x1 + 1) t_17 _ _ h
        · have h := h2 q
          refine x_bipush (v := (10 : Int32)) dX8_wears_101 (by decide) ?_
          refine x_goto (tgt := 107) dX8_wears_103 (by decide) ?_
          refine x_iadd dX8_wears_107 ?_
          obtain ⟨n, f, hf, hi, h⟩ := h
          refine x_iast dX8_wears_108 hf hi ?_
          generalize hT : xup t a_6 _ = t_18 at h ⊢
          clear hT
          refine x_aload_n 1 dX8_wears_109 rfl rfl ?_
          obtain ⟨fs, hf, a_19, hv, h⟩ := h
          refine x_get dX8_wears_110 xf_X8_43 hf hv ?_
          refine x_iload_n 2 dX8_wears_113 rfl rfl ?_
          refine x_dup2_11 dX8_wears_114 rfl rfl ?_
          obtain ⟨n, f, hf, hi, h⟩ := h
          refine x_iald dX8_wears_115 hf hi ?_
          generalize f _ = x_20 at h ⊢
          refine x_iconst (v := (1 : Int32)) dX8_wears_116 (by decide) ?_
          refine x_iadd dX8_wears_117 ?_
          obtain ⟨n, f, hf, hi, h⟩ := h
          refine x_iast dX8_wears_118 hf hi ?_
          generalize hT : xup t_18 a_19 _ = t_21 at h ⊢
          clear hT
          refine x_iinc (v := (x1 + 1)) (L' := [(1, .int (x1 + 1)), (2, .int xs0), (0, .ref a0)]) (j := 2) dX8_wears_119 rfl rfl (by decide) rfl ?_
          refine x_goto (tgt := 2) dX8_wears_122 (by decide) ?_
          refine x_sub (L' := [(0, .ref a0), (1, .int (x1 + 1))]) [2, 0] rfl ?_
          exact hR2 a0 (x1 + 1) t_21 _ _ h
      · have h := h2 q
        refine x_bipush (v := (30 : Int32)) dX8_wears_86 (by decide) ?_
        refine x_goto (tgt := 107) dX8_wears_88 (by decide) ?_
        refine x_iadd dX8_wears_107 ?_
        obtain ⟨n, f, hf, hi, h⟩ := h
        refine x_iast dX8_wears_108 hf hi ?_
        generalize hT : xup t a_6 _ = t_22 at h ⊢
        clear hT
        refine x_aload_n 1 dX8_wears_109 rfl rfl ?_
        obtain ⟨fs, hf, a_23, hv, h⟩ := h
        refine x_get dX8_wears_110 xf_X8_43 hf hv ?_
        refine x_iload_n 2 dX8_wears_113 rfl rfl ?_
        refine x_dup2_11 dX8_wears_114 rfl rfl ?_
        obtain ⟨n, f, hf, hi, h⟩ := h
        refine x_iald dX8_wears_115 hf hi ?_
        generalize f _ = x_24 at h ⊢
        refine x_iconst (v := (1 : Int32)) dX8_wears_116 (by decide) ?_
        refine x_iadd dX8_wears_117 ?_
        obtain ⟨n, f, hf, hi, h⟩ := h
        refine x_iast dX8_wears_118 hf hi ?_
        generalize hT : xup t_22 a_23 _ = t_25 at h ⊢
        clear hT
        refine x_iinc (v := (x1 + 1)) (L' := [(1, .int (x1 + 1)), (2, .int xs0), (0, .ref a0)]) (j := 2) dX8_wears_119 rfl rfl (by decide) rfl ?_
        refine x_goto (tgt := 2) dX8_wears_122 (by decide) ?_
        refine x_sub (L' := [(0, .ref a0), (1, .int (x1 + 1))]) [2, 0] rfl ?_
        exact hR2 a0 (x1 + 1) t_25 _ _ h
def VS_X8_wears_2 (R2 : Nat → Int32 → xT → Prop) (K : xT → Prop) (a0 : Nat) (x1 : Int32) (t : xT) : Prop :=
  xgI t a0 8 12 fun x_1 => ((x_1 ≤ x1 → K t) ∧ (¬ x_1 ≤ x1 → xgR t a0 8 14 fun a_2 => xaI 0 t a_2 x1 fun x_3 => ((¬ x_3 = 0 → xgR t a0 8 14 fun a_4 => xaI 0 t a_4 x1 fun x_5 => ((¬ x_5 = (1 : Int32) → V_X8_wears_40 R2 K a0 x1 (30 : Int32) t) ∧ (x_5 = (1 : Int32) → V_X8_wears_40 R2 K a0 x1 (7 : Int32) t))) ∧ (x_3 = 0 → V_X8_wears_40 R2 K a0 x1 (2 : Int32) t))))
def V_X8_wears_2 (K : xT → Prop) (n : Nat) : Nat → Int32 → xT → Prop := Nat.rec (fun _ _ _ => False) (fun _ ih => VS_X8_wears_2 ih K) n
set_option maxRecDepth 20000 in
theorem S_X8_wears_2 {Γ : xΓ} {K : xT → Prop} (hl : (gl Γ).stackTraces = false) (ht : (gM Γ).sig.returnType = none) (hr : xRet Γ (xKv K)) : ∀ (n : Nat) (a0 : Nat) (x1 : Int32) (t : xT) (rc rs : Nat), V_X8_wears_2 K n a0 x1 t → xX Γ k_X8_wears 2 [(0, .ref a0), (1, .int x1)] [] t rc rs := by
  intro n
  induction n with
  | zero =>
    intro a0 x1 t rc rs h
    exact h.elim
  | succ n ih =>
    intro a0 x1 t rc rs h
    replace h : VS_X8_wears_2 (V_X8_wears_2 K n) K a0 x1 t := h
    unfold VS_X8_wears_2 at h
    refine x_iload_n 1 dX8_wears_2 rfl rfl ?_
    refine x_aload_n 0 dX8_wears_3 rfl rfl ?_
    obtain ⟨fs, hf, x_1, hv, h⟩ := h
    refine x_get dX8_wears_4 xf_X8_156 hf hv ?_
    obtain ⟨h1, h2⟩ := h
    refine x_icmp_ge (tgt := 125) dX8_wears_7 (by decide) (fun q => ?_) (fun q => ?_)
    · have h := h1 q
      exact x_vret dX8_wears_125 hr ht ⟨rfl, h⟩
    · have h := h2 q
      refine x_aload_n 0 dX8_wears_10 rfl rfl ?_
      obtain ⟨fs, hf, a_2, hv, h⟩ := h
      refine x_get dX8_wears_11 xf_X8_37 hf hv ?_
      refine x_iload_n 1 dX8_wears_14 rfl rfl ?_
      obtain ⟨n, f, hf, hi, h⟩ := h
      refine x_iald dX8_wears_15 hf hi ?_
      generalize f _ = x_3 at h ⊢
      obtain ⟨h1, h2⟩ := h
      refine x_if_ne (tgt := 23) dX8_wears_16 (by decide) (fun q => ?_) (fun q => ?_)
      · have h := h1 q
        refine x_aload_n 0 dX8_wears_23 rfl rfl ?_
        obtain ⟨fs, hf, a_4, hv, h⟩ := h
        refine x_get dX8_wears_24 xf_X8_37 hf hv ?_
        refine x_iload_n 1 dX8_wears_27 rfl rfl ?_
        obtain ⟨n, f, hf, hi, h⟩ := h
        refine x_iald dX8_wears_28 hf hi ?_
        generalize f _ = x_5 at h ⊢
        refine x_iconst (v := (1 : Int32)) dX8_wears_29 (by decide) ?_
        obtain ⟨h1, h2⟩ := h
        refine x_icmp_ne (tgt := 38) dX8_wears_30 (by decide) (fun q => ?_) (fun q => ?_)
        · have h := h1 q
          refine x_bipush (v := (30 : Int32)) dX8_wears_38 (by decide) ?_
          exact S_X8_wears_40 hl ht hr (fun p0 p1 p2 p3 p4 h => ih p0 p1 p2 p3 p4 h) h
        · have h := h2 q
          refine x_bipush (v := (7 : Int32)) dX8_wears_33 (by decide) ?_
          refine x_goto (tgt := 40) dX8_wears_35 (by decide) ?_
          exact S_X8_wears_40 hl ht hr (fun p0 p1 p2 p3 p4 h => ih p0 p1 p2 p3 p4 h) h
      · have h := h2 q
        refine x_iconst (v := (2 : Int32)) dX8_wears_19 (by decide) ?_
        refine x_goto (tgt := 40) dX8_wears_20 (by decide) ?_
        exact S_X8_wears_40 hl ht hr (fun p0 p1 p2 p3 p4 h => ih p0 p1 p2 p3 p4 h) h
def V_X8_wears_0 (K : xT → Prop) (a0 : Nat) (t : xT) : Prop :=
  ∃ f_1 : Nat, V_X8_wears_2 K f_1 a0 (0 : Int32) t
set_option maxRecDepth 20000 in
theorem S_X8_wears_0 {Γ : xΓ} {K : xT → Prop} (hl : (gl Γ).stackTraces = false) (ht : (gM Γ).sig.returnType = none) (hr : xRet Γ (xKv K)) {a0 : Nat} {t : xT} {rc rs : Nat} (h : V_X8_wears_0 K a0 t) : xX Γ k_X8_wears 0 [(0, .ref a0)] [] t rc rs := by
  unfold V_X8_wears_0 at h
  refine x_iconst (v := (0 : Int32)) dX8_wears_0 (by decide) ?_
  refine x_istore_n (L' := [(1, .int (0 : Int32)), (0, .ref a0)]) dX8_wears_1 rfl (by decide) rfl ?_
  obtain ⟨f_1, h⟩ := h
  refine x_sub (L' := [(0, .ref a0), (1, .int (0 : Int32))]) [1, 0] rfl ?_
  exact S_X8_wears_2 hl ht hr  f_1 a0 (0 : Int32) t _ _ h
theorem M_X8_wears {l : Launch} {G : xG} (hl : l.stackTraces = false) {a0 : Nat} {t : xT} {K : xT → Prop} (h : V_X8_wears_0 K a0 t) : xMet l G yX8_wears k_X8_wears none [.ref a0] t (xKv K) 0 0 := xMet.of (by decide +kernel) rfl hl (Nat.le_of_ble_eq_true rfl) (fun Γ e1 e2 ht hn hr => by subst e1; subst e2; exact S_X8_wears_0 hl ht hr h)
/-! RentStreamModel.pass(I)I -/
def VS_X8_pass_42 (R42 : Nat → Int32 → Int32 → xT → Prop) (K : Int32 → xT → Prop) (a0 : Nat) (x1 : Int32) (x2 : Int32) (t : xT) : Prop :=
  ((x1 ≤ x2 → xgI t a0 8 1 fun x_1 => K x_1 t) ∧ (¬ x1 ≤ x2 → (xis t a0 8 ∧ V_X8_wears_0 (fun t_2 => xgI t_2 a0 8 1 fun x_3 => (xpF t_2 a0 8 1 (.int (x_3 + (1 : Int32))) fun t_4 => xgI t_4 a0 8 1 fun x_5 => (¬ (30 : Int32) = 0 ∧ ((¬ (xrem x_5 (30 : Int32)) = 0 → R42 a0 x1 (x2 + 1) t_4) ∧ ((xrem x_5 (30 : Int32)) = 0 → (xis t_4 a0 8 ∧ V_X8_month_0 (fun x_7 t_6 => (xis t_6 a0 8 ∧ V_X8_ends_0 (fun t_8 => (xis t_8 a0 8 ∧ V_X8_month_0 (fun x_10 t_9 => (xis t_9 a0 8 ∧ V_X8_begins_0 (fun t_11 => R42 a0 x1 (x2 + 1) t_11) a0 x_10 t_9)) a0 t_8)) a0 (x_7 - (1 : Int32)) t_6)) a0 t_4)))))) a0 t)))
def V_X8_pass_42 (K : Int32 → xT → Prop) (n : Nat) : Nat → Int32 → Int32 → xT → Prop := Nat.rec (fun _ _ _ _ => False) (fun _ ih => VS_X8_pass_42 ih K) n
set_option maxRecDepth 20000 in
theorem S_X8_pass_42 {Γ : xΓ} {K : Int32 → xT → Prop} (hl : (gl Γ).stackTraces = false) (ht : (gM Γ).sig.returnType = (some .int)) (hr : xRet Γ (xKi K)) : ∀ (n : Nat) (a0 : Nat) (x1 : Int32) (x2 : Int32) (t : xT) (rc rs : Nat), V_X8_pass_42 K n a0 x1 x2 t → xX Γ k_X8_pass 42 [(0, .ref a0), (1, .int x1), (2, .int x2)] [] t rc rs := by
  intro n
  induction n with
  | zero =>
    intro a0 x1 x2 t rc rs h
    exact h.elim
  | succ n ih =>
    intro a0 x1 x2 t rc rs h
    replace h : VS_X8_pass_42 (V_X8_pass_42 K n) K a0 x1 x2 t := h
    unfold VS_X8_pass_42 at h
    refine x_iload_n 2 dX8_pass_42 rfl rfl ?_
    refine x_iload_n 1 dX8_pass_43 rfl rfl ?_
    obtain ⟨h1, h2⟩ := h
    refine x_icmp_ge (tgt := 95) dX8_pass_44 (by decide) (fun q => ?_) (fun q => ?_)
    · have h := h1 q
      refine x_aload_n 0 dX8_pass_95 rfl rfl ?_
      obtain ⟨fs, hf, x_1, hv, h⟩ := h
      refine x_get dX8_pass_96 xf_X8_126 hf hv ?_
      exact x_zret dX8_pass_99 hr ht rfl ⟨_, rfl, h⟩
    · have h := h2 q
      refine x_aload_n 0 dX8_pass_47 rfl rfl ?_
      obtain ⟨⟨fs, hf⟩, h⟩ := h
      refine x_invV (as := []) (rest := []) dX8_pass_48 (q := (RX8, TX8, 40)) rfl xc_X8_pass_205 hf (M_X8_wears hl h) rfl rfl (Nat.le_of_ble_eq_true rfl) (Nat.zero_le _) (Nat.zero_le _) (xk_v fun t_2 h => ?_)
      refine x_aload_n 0 dX8_pass_51 rfl rfl ?_
      refine x_dup dX8_pass_52 rfl ?_
      obtain ⟨fs, hf, x_3, hv, h⟩ := h
      refine x_get dX8_pass_53 xf_X8_126 hf hv ?_
      refine x_iconst (v := (1 : Int32)) dX8_pass_56 (by decide) ?_
      refine x_iadd dX8_pass_57 ?_
      obtain ⟨fs, hf, hk, h⟩ := h
      refine x_put (v := .int (x_3 + (1 : Int32))) dX8_pass_58 xp_X8_126 hf rfl rfl hk ?_
      generalize hT : xup t_2 a0 _ = t_4 at h ⊢
      clear hT
      refine x_aload_n 0 dX8_pass_61 rfl rfl ?_
      obtain ⟨fs, hf, x_5, hv, h⟩ := h
      refine x_get dX8_pass_62 xf_X8_126 hf hv ?_
      refine x_bipush (v := (30 : Int32)) dX8_pass_65 (by decide) ?_
      obtain ⟨q, h⟩ := h
      refine x_irem dX8_pass_67 q ?_
      obtain ⟨h1, h2⟩ := h
      refine x_if_ne (tgt := 89) dX8_pass_68 (by decide) (fun q => ?_) (fun q => ?_)
      · have h := h1 q
        refine x_iinc (v := (x2 + 1)) (L' := [(2, .int (x2 + 1)), (0, .ref a0), (1, .int x1)]) (j := 2) dX8_pass_89 rfl rfl (by decide) rfl ?_
        refine x_goto (tgt := 42) dX8_pass_92 (by decide) ?_
        refine x_sub (L' := [(0, .ref a0), (1, .int x1), (2, .int (x2 + 1))]) [1, 2, 0] rfl ?_
        exact ih a0 x1 (x2 + 1) t_4 _ _ h
      · have h := h2 q
        refine x_aload_n 0 dX8_pass_71 rfl rfl ?_
        refine x_aload_n 0 dX8_pass_72 rfl rfl ?_
        obtain ⟨⟨fs, hf⟩, h⟩ := h
        refine x_invV (as := []) (rest := [.ref a0]) dX8_pass_73 (q := (RX8, TX8, 40)) rfl xc_X8_pass_129 hf (M_X8_month hl h) rfl rfl (Nat.le_of_ble_eq_true rfl) (Nat.zero_le _) (Nat.zero_le _) (xk_i fun x_7 t_6 h => ?_)
        refine x_iconst (v := (1 : Int32)) dX8_pass_76 (by decide) ?_
        refine x_isub dX8_pass_77 ?_
        obtain ⟨⟨fs, hf⟩, h⟩ := h
        refine x_invV (as := [.int (x_7 - (1 : Int32))]) (rest := []) dX8_pass_78 (q := (RX8, TX8, 40)) rfl xc_X8_pass_208 hf (M_X8_ends hl h) rfl rfl (Nat.le_of_ble_eq_true rfl) (Nat.zero_le _) (Nat.zero_le _) (xk_v fun t_8 h => ?_)
        refine x_aload_n 0 dX8_pass_81 rfl rfl ?_
        refine x_aload_n 0 dX8_pass_82 rfl rfl ?_
        obtain ⟨⟨fs, hf⟩, h⟩ := h
        refine x_invV (as := []) (rest := [.ref a0]) dX8_pass_83 (q := (RX8, TX8, 40)) rfl xc_X8_pass_129 hf (M_X8_month hl h) rfl rfl (Nat.le_of_ble_eq_true rfl) (Nat.zero_le _) (Nat.zero_le _) (xk_i fun x_10 t_9 h => ?_)
        obtain ⟨⟨fs, hf⟩, h⟩ := h
        refine x_invV (as := [.int x_10]) (rest := []) dX8_pass_86 (q := (RX8, TX8, 40)) rfl xc_X8_pass_211 hf (M_X8_begins hl h) rfl rfl (Nat.le_of_ble_eq_true rfl) (Nat.zero_le _) (Nat.zero_le _) (xk_v fun t_11 h => ?_)
        refine x_iinc (v := (x2 + 1)) (L' := [(2, .int (x2 + 1)), (0, .ref a0), (1, .int x1)]) (j := 2) dX8_pass_89 rfl rfl (by decide) rfl ?_
        refine x_goto (tgt := 42) dX8_pass_92 (by decide) ?_
        refine x_sub (L' := [(0, .ref a0), (1, .int x1), (2, .int (x2 + 1))]) [1, 2, 0] rfl ?_
        exact ih a0 x1 (x2 + 1) t_11 _ _ h
def V_X8_pass_0 (K : Int32 → xT → Prop) (a0 : Nat) (x1 : Int32) (t : xT) : Prop :=
  (V_X8_in_0 (fun x_2 t_1 => ((¬ x_2 = 0 → xgI t_1 a0 8 1 fun x_3 => (((x_3 + x1) ≤ (3600 : Int32) → (xis t_1 a0 8 ∧ V_X8_holds_0 (fun x_5 t_4 => ((¬ x_5 = 0 → ∃ f_6 : Nat, V_X8_pass_42 K f_6 a0 x1 (0 : Int32) t_4) ∧ (x_5 = 0 → K (0 : Int32) t_4))) a0 (0 : Int32) t_1)) ∧ (¬ (x_3 + x1) ≤ (3600 : Int32) → (xis t_1 a0 8 ∧ V_X8_holds_0 (fun x_8 t_7 => ((¬ x_8 = 0 → ∃ f_9 : Nat, V_X8_pass_42 K f_9 a0 x1 (0 : Int32) t_7) ∧ (x_8 = 0 → K (0 : Int32) t_7))) a0 (2 : Int32) t_1)))) ∧ (x_2 = 0 → (xis t_1 a0 8 ∧ V_X8_holds_0 (fun x_11 t_10 => ((¬ x_11 = 0 → ∃ f_12 : Nat, V_X8_pass_42 K f_12 a0 x1 (0 : Int32) t_10) ∧ (x_11 = 0 → K (0 : Int32) t_10))) a0 (1 : Int32) t_1)))) x1 (1 : Int32) (60 : Int32) t)
set_option maxRecDepth 20000 in
theorem S_X8_pass_0 {Γ : xΓ} {K : Int32 → xT → Prop} (hl : (gl Γ).stackTraces = false) (ht : (gM Γ).sig.returnType = (some .int)) (hr : xRet Γ (xKi K)) {a0 : Nat} {x1 : Int32} {t : xT} {rc rs : Nat} (h : V_X8_pass_0 K a0 x1 t) : xX Γ k_X8_pass 0 [(0, .ref a0), (1, .int x1)] [] t rc rs := by
  unfold V_X8_pass_0 at h
  refine x_aload_n 0 dX8_pass_0 rfl rfl ?_
  refine x_iload_n 1 dX8_pass_1 rfl rfl ?_
  refine x_iconst (v := (1 : Int32)) dX8_pass_2 (by decide) ?_
  refine x_bipush (v := (60 : Int32)) dX8_pass_3 (by decide) ?_
  refine x_invS (as := [.int x1, .int (1 : Int32), .int (60 : Int32)]) (rest := [.ref a0]) dX8_pass_5 xc_X8_pass_119 (M_X8_in hl h) rfl rfl (Nat.le_of_ble_eq_true rfl) (Nat.zero_le _) (Nat.zero_le _) (xk_i fun x_2 t_1 h => ?_)
  obtain ⟨h1, h2⟩ := h
  refine x_if_ne (tgt := 15) dX8_pass_8 (by decide) (fun q => ?_) (fun q => ?_)
  · have h := h1 q
    refine x_aload_n 0 dX8_pass_15 rfl rfl ?_
    obtain ⟨fs, hf, x_3, hv, h⟩ := h
    refine x_get dX8_pass_16 xf_X8_126 hf hv ?_
    refine x_iload_n 1 dX8_pass_19 rfl rfl ?_
    refine x_iadd dX8_pass_20 ?_
    refine x_sipush (v := (3600 : Int32)) dX8_pass_21 (by decide) ?_
    obtain ⟨h1, h2⟩ := h
    refine x_icmp_le (tgt := 31) dX8_pass_24 (by decide) (fun q => ?_) (fun q => ?_)
    · have h := h1 q
      refine x_iconst (v := (0 : Int32)) dX8_pass_31 (by decide) ?_
      obtain ⟨⟨fs, hf⟩, h⟩ := h
      refine x_invV (as := [.int (0 : Int32)]) (rest := []) dX8_pass_32 (q := (RX8, TX8, 40)) rfl xc_X8_pass_133 hf (M_X8_holds hl h) rfl rfl (Nat.le_of_ble_eq_true rfl) (Nat.zero_le _) (Nat.zero_le _) (xk_i fun x_5 t_4 h => ?_)
      obtain ⟨h1, h2⟩ := h
      refine x_if_ne (tgt := 40) dX8_pass_35 (by decide) (fun q => ?_) (fun q => ?_)
      · have h := h1 q
        refine x_iconst (v := (0 : Int32)) dX8_pass_40 (by decide) ?_
        refine x_istore_n (L' := [(2, .int (0 : Int32)), (0, .ref a0), (1, .int x1)]) dX8_pass_41 rfl (by decide) rfl ?_
        obtain ⟨f_6, h⟩ := h
        refine x_sub (L' := [(0, .ref a0), (1, .int x1), (2, .int (0 : Int32))]) [1, 2, 0] rfl ?_
        exact S_X8_pass_42 hl ht hr  f_6 a0 x1 (0 : Int32) t_4 _ _ h
      · have h := h2 q
        refine x_iconst (v := (0 : Int32)) dX8_pass_38 (by decide) ?_
        exact x_zret dX8_pass_39 hr ht rfl ⟨_, rfl, h⟩
    · have h := h2 q
      refine x_iconst (v := (2 : Int32)) dX8_pass_27 (by decide) ?_
      refine x_goto (tgt := 32) dX8_pass_28 (by decide) ?_
      obtain ⟨⟨fs, hf⟩, h⟩ := h
      refine x_invV (as := [.int (2 : Int32)]) (rest := []) dX8_pass_32 (q := (RX8, TX8, 40)) rfl xc_X8_pass_133 hf (M_X8_holds hl h) rfl rfl (Nat.le_of_ble_eq_true rfl) (Nat.zero_le _) (Nat.zero_le _) (xk_i fun x_8 t_7 h => ?_)
      obtain ⟨h1, h2⟩ := h
      refine x_if_ne (tgt := 40) dX8_pass_35 (by decide) (fun q => ?_) (fun q => ?_)
      · have h := h1 q
        refine x_iconst (v := (0 : Int32)) dX8_pass_40 (by decide) ?_
        refine x_istore_n (L' := [(2, .int (0 : Int32)), (0, .ref a0), (1, .int x1)]) dX8_pass_41 rfl (by decide) rfl ?_
        obtain ⟨f_9, h⟩ := h
        refine x_sub (L' := [(0, .ref a0), (1, .int x1), (2, .int (0 : Int32))]) [1, 2, 0] rfl ?_
        exact S_X8_pass_42 hl ht hr  f_9 a0 x1 (0 : Int32) t_7 _ _ h
      · have h := h2 q
        refine x_iconst (v := (0 : Int32)) dX8_pass_38 (by decide) ?_
        exact x_zret dX8_pass_39 hr ht rfl ⟨_, rfl, h⟩
  · have h := h2 q
    refine x_iconst (v := (1 : Int32)) dX8_pass_11 (by decide) ?_
    refine x_goto (tgt := 32) dX8_pass_12 (by decide) ?_
    obtain ⟨⟨fs, hf⟩, h⟩ := h
    refine x_invV (as := [.int (1 : Int32)]) (rest := []) dX8_pass_32 (q := (RX8, TX8, 40)) rfl xc_X8_pass_133 hf (M_X8_holds hl h) rfl rfl (Nat.le_of_ble_eq_true rfl) (Nat.zero_le _) (Nat.zero_le _) (xk_i fun x_11 t_10 h => ?_)
    obtain ⟨h1, h2⟩ := h
    refine x_if_ne (tgt := 40) dX8_pass_35 (by decide) (fun q => ?_) (fun q => ?_)
    · have h := h1 q
      refine x_iconst (v := (0 : Int32)) dX8_pass_40 (by decide) ?_
      refine x_istore_n (L' := [(2, .int (0 : Int32)), (0, .ref a0), (1, .int x1)]) dX8_pass_41 rfl (by decide) rfl ?_
      obtain ⟨f_12, h⟩ := h
      refine x_sub (L' := [(0, .ref a0), (1, .int x1), (2, .int (0 : Int32))]) [1, 2, 0] rfl ?_
      exact S_X8_pass_42 hl ht hr  f_12 a0 x1 (0 : Int32) t_10 _ _ h
    · have h := h2 q
      refine x_iconst (v := (0 : Int32)) dX8_pass_38 (by decide) ?_
      exact x_zret dX8_pass_39 hr ht rfl ⟨_, rfl, h⟩
theorem M_X8_pass {l : Launch} {G : xG} (hl : l.stackTraces = false) {a0 : Nat} {x1 : Int32} {t : xT} {K : Int32 → xT → Prop} (h : V_X8_pass_0 K a0 x1 t) : xMet l G yX8_pass k_X8_pass (some .int) [.ref a0, .int x1] t (xKi K) 0 0 := xMet.of (by decide +kernel) rfl hl (Nat.le_of_ble_eq_true rfl) (fun Γ e1 e2 ht hn hr => by subst e1; subst e2; exact S_X8_pass_0 hl ht hr h)
/-! RentStreamModel.pay(II)J -/
def V_X8_pay_28 (K : Int64 → xT → Prop) (a0 : Nat) (x1 : Int32) (x2 : Int32) (xs0 : Int32) (as1 : Nat) (t : xT) : Prop :=
  (xis t as1 8 ∧ V_X8_holds_0 (fun x_2 t_1 => ((¬ x_2 = 0 → xgR t_1 a0 8 23 fun a_3 => xaJ t_1 a_3 x1 fun y_4 => xsJ t_1 a_3 x1 (y_4 - x2.toInt64) fun t_5 => xgR t_5 a0 8 23 fun a_6 => xaJ t_5 a_6 x1 fun y_7 => K y_7 t_5) ∧ (x_2 = 0 → K (0 : Int64) t_1))) as1 xs0 t)
set_option maxRecDepth 20000 in
theorem S_X8_pay_28 {Γ : xΓ} {K : Int64 → xT → Prop} (hl : (gl Γ).stackTraces = false) (ht : (gM Γ).sig.returnType = (some .long)) (hr : xRet Γ (xKl K)) {a0 : Nat} {x1 : Int32} {x2 : Int32} {xs0 : Int32} {as1 : Nat} {t : xT} {rc rs : Nat} (h : V_X8_pay_28 K a0 x1 x2 xs0 as1 t) : xX Γ k_X8_pay 28 [(0, .ref a0), (1, .int x1), (2, .int x2)] [.int xs0, .ref as1] t rc rs := by
  unfold V_X8_pay_28 at h
  obtain ⟨⟨fs, hf⟩, h⟩ := h
  refine x_invV (as := [.int xs0]) (rest := []) dX8_pay_28 (q := (RX8, TX8, 40)) rfl xc_X8_pay_133 hf (M_X8_holds hl h) rfl rfl (Nat.le_of_ble_eq_true rfl) (Nat.zero_le _) (Nat.zero_le _) (xk_i fun x_2 t_1 h => ?_)
  obtain ⟨h1, h2⟩ := h
  refine x_if_ne (tgt := 36) dX8_pay_31 (by decide) (fun q => ?_) (fun q => ?_)
  · have h := h1 q
    refine x_aload_n 0 dX8_pay_36 rfl rfl ?_
    obtain ⟨fs, hf, a_3, hv, h⟩ := h
    refine x_get dX8_pay_37 xf_X8_62 hf hv ?_
    refine x_iload_n 1 dX8_pay_40 rfl rfl ?_
    refine x_dup2_11 dX8_pay_41 rfl rfl ?_
    obtain ⟨n, f, hf, hi, h⟩ := h
    refine x_lald dX8_pay_42 hf hi ?_
    generalize f _ = y_4 at h ⊢
    refine x_iload_n 2 dX8_pay_43 rfl rfl ?_
    refine x_i2l dX8_pay_44 ?_
    refine x_lsub dX8_pay_45 ?_
    obtain ⟨n, f, hf, hi, h⟩ := h
    refine x_last dX8_pay_46 hf hi ?_
    generalize hT : xup t_1 a_3 _ = t_5 at h ⊢
    clear hT
    refine x_aload_n 0 dX8_pay_47 rfl rfl ?_
    obtain ⟨fs, hf, a_6, hv, h⟩ := h
    refine x_get dX8_pay_48 xf_X8_62 hf hv ?_
    refine x_iload_n 1 dX8_pay_51 rfl rfl ?_
    obtain ⟨n, f, hf, hi, h⟩ := h
    refine x_lald dX8_pay_52 hf hi ?_
    generalize f _ = y_7 at h ⊢
    exact x_lret dX8_pay_53 hr ht ⟨_, rfl, h⟩
  · have h := h2 q
    refine x_lconst (v := (0 : Int64)) dX8_pay_34 (by decide) ?_
    exact x_lret dX8_pay_35 hr ht ⟨_, rfl, h⟩
def V_X8_pay_0 (K : Int64 → xT → Prop) (a0 : Nat) (x1 : Int32) (x2 : Int32) (t : xT) : Prop :=
  (xis t a0 8 ∧ V_X8_isLease_0 (fun x_2 t_1 => ((¬ x_2 = 0 → (V_X8_in_0 (fun x_4 t_3 => ((x_4 = 0 → V_X8_pay_28 K a0 x1 x2 (2 : Int32) a0 t_3) ∧ (¬ x_4 = 0 → V_X8_pay_28 K a0 x1 x2 (0 : Int32) a0 t_3))) x2 (1 : Int32) (1000000 : Int32) t_1)) ∧ (x_2 = 0 → V_X8_pay_28 K a0 x1 x2 (1 : Int32) a0 t_1))) a0 x1 t)
set_option maxRecDepth 20000 in
theorem S_X8_pay_0 {Γ : xΓ} {K : Int64 → xT → Prop} (hl : (gl Γ).stackTraces = false) (ht : (gM Γ).sig.returnType = (some .long)) (hr : xRet Γ (xKl K)) {a0 : Nat} {x1 : Int32} {x2 : Int32} {t : xT} {rc rs : Nat} (h : V_X8_pay_0 K a0 x1 x2 t) : xX Γ k_X8_pay 0 [(0, .ref a0), (1, .int x1), (2, .int x2)] [] t rc rs := by
  unfold V_X8_pay_0 at h
  refine x_aload_n 0 dX8_pay_0 rfl rfl ?_
  refine x_aload_n 0 dX8_pay_1 rfl rfl ?_
  refine x_iload_n 1 dX8_pay_2 rfl rfl ?_
  obtain ⟨⟨fs, hf⟩, h⟩ := h
  refine x_invV (as := [.int x1]) (rest := [.ref a0]) dX8_pay_3 (q := (RX8, TX8, 40)) rfl xc_X8_pay_148 hf (M_X8_isLease hl h) rfl rfl (Nat.le_of_ble_eq_true rfl) (Nat.zero_le _) (Nat.zero_le _) (xk_i fun x_2 t_1 h => ?_)
  obtain ⟨h1, h2⟩ := h
  refine x_if_ne (tgt := 13) dX8_pay_6 (by decide) (fun q => ?_) (fun q => ?_)
  · have h := h1 q
    refine x_iload_n 2 dX8_pay_13 rfl rfl ?_
    refine x_iconst (v := (1 : Int32)) dX8_pay_14 (by decide) ?_
    refine x_ldc dX8_pay_15 xw1391 ?_
    refine x_invS (as := [.int x2, .int (1 : Int32), .int (1000000 : Int32)]) (rest := [.ref a0]) dX8_pay_17 xc_X8_pay_119 (M_X8_in hl h) rfl rfl (Nat.le_of_ble_eq_true rfl) (Nat.zero_le _) (Nat.zero_le _) (xk_i fun x_4 t_3 h => ?_)
    obtain ⟨h1, h2⟩ := h
    refine x_if_eq (tgt := 27) dX8_pay_20 (by decide) (fun q => ?_) (fun q => ?_)
    · have h := h1 q
      refine x_iconst (v := (2 : Int32)) dX8_pay_27 (by decide) ?_
      exact S_X8_pay_28 hl ht hr  h
    · have h := h2 q
      refine x_iconst (v := (0 : Int32)) dX8_pay_23 (by decide) ?_
      refine x_goto (tgt := 28) dX8_pay_24 (by decide) ?_
      exact S_X8_pay_28 hl ht hr  h
  · have h := h2 q
    refine x_iconst (v := (1 : Int32)) dX8_pay_9 (by decide) ?_
    refine x_goto (tgt := 28) dX8_pay_10 (by decide) ?_
    exact S_X8_pay_28 hl ht hr  h
theorem M_X8_pay {l : Launch} {G : xG} (hl : l.stackTraces = false) {a0 : Nat} {x1 : Int32} {x2 : Int32} {t : xT} {K : Int64 → xT → Prop} (h : V_X8_pay_0 K a0 x1 x2 t) : xMet l G yX8_pay k_X8_pay (some .long) [.ref a0, .int x1, .int x2] t (xKl K) 0 0 := xMet.of (by decide +kernel) rfl hl (Nat.le_of_ble_eq_true rfl) (fun Γ e1 e2 ht hn hr => by subst e1; subst e2; exact S_X8_pay_0 hl ht hr h)
/-! RentStreamModel.plan(II)J -/
def V_X8_plan_55 (K : Int64 → xT → Prop) (a0 : Nat) (x1 : Int32) (x2 : Int32) (xs0 : Int32) (as1 : Nat) (t : xT) : Prop :=
  (xis t as1 8 ∧ V_X8_holds_0 (fun x_2 t_1 => ((¬ x_2 = 0 → xgR t_1 a0 8 31 fun a_3 => xsI 0 t_1 a_3 x1 (1 : Int32) fun t_4 => xgR t_4 a0 8 32 fun a_5 => xgR t_4 a0 8 23 fun a_6 => xaJ t_4 a_6 x1 fun y_7 => xsJ t_4 a_5 x1 y_7 fun t_8 => xgR t_8 a0 8 33 fun a_9 => xgR t_8 a0 8 23 fun a_10 => xaJ t_8 a_10 x1 fun y_11 => (¬ x2.toInt64 = 0 ∧ xsJ t_8 a_9 x1 (((y_11 + x2.toInt64) - (1 : Int64)) / x2.toInt64) fun t_12 => xgR t_12 a0 8 34 fun a_13 => xsI 0 t_12 a_13 x1 (0 : Int32) fun t_14 => xgR t_14 a0 8 33 fun a_15 => xaJ t_14 a_15 x1 fun y_16 => K y_16 t_14)) ∧ (x_2 = 0 → K (0 : Int64) t_1))) as1 xs0 t)
set_option maxRecDepth 20000 in
theorem S_X8_plan_55 {Γ : xΓ} {K : Int64 → xT → Prop} (hl : (gl Γ).stackTraces = false) (ht : (gM Γ).sig.returnType = (some .long)) (hr : xRet Γ (xKl K)) {a0 : Nat} {x1 : Int32} {x2 : Int32} {xs0 : Int32} {as1 : Nat} {t : xT} {rc rs : Nat} (h : V_X8_plan_55 K a0 x1 x2 xs0 as1 t) : xX Γ k_X8_plan 55 [(0, .ref a0), (1, .int x1), (2, .int x2)] [.int xs0, .ref as1] t rc rs := by
  unfold V_X8_plan_55 at h
  obtain ⟨⟨fs, hf⟩, h⟩ := h
  refine x_invV (as := [.int xs0]) (rest := []) dX8_plan_55 (q := (RX8, TX8, 40)) rfl xc_X8_plan_133 hf (M_X8_holds hl h) rfl rfl (Nat.le_of_ble_eq_true rfl) (Nat.zero_le _) (Nat.zero_le _) (xk_i fun x_2 t_1 h => ?_)
  obtain ⟨h1, h2⟩ := h
  refine x_if_ne (tgt := 63) dX8_plan_58 (by decide) (fun q => ?_) (fun q => ?_)
  · have h := h1 q
    refine x_aload_n 0 dX8_plan_63 rfl rfl ?_
    obtain ⟨fs, hf, a_3, hv, h⟩ := h
    refine x_get dX8_plan_64 xf_X8_87 hf hv ?_
    refine x_iload_n 1 dX8_plan_67 rfl rfl ?_
    refine x_iconst (v := (1 : Int32)) dX8_plan_68 (by decide) ?_
    obtain ⟨n, f, hf, hi, h⟩ := h
    refine x_iast dX8_plan_69 hf hi ?_
    generalize hT : xup t_1 a_3 _ = t_4 at h ⊢
    clear hT
    refine x_aload_n 0 dX8_plan_70 rfl rfl ?_
    obtain ⟨fs, hf, a_5, hv, h⟩ := h
    refine x_get dX8_plan_71 xf_X8_90 hf hv ?_
    refine x_iload_n 1 dX8_plan_74 rfl rfl ?_
    refine x_aload_n 0 dX8_plan_75 rfl rfl ?_
    obtain ⟨fs, hf, a_6, hv, h⟩ := h
    refine x_get dX8_plan_76 xf_X8_62 hf hv ?_
    refine x_iload_n 1 dX8_plan_79 rfl rfl ?_
    obtain ⟨n, f, hf, hi, h⟩ := h
    refine x_lald dX8_plan_80 hf hi ?_
    generalize f _ = y_7 at h ⊢
    obtain ⟨n, f, hf, hi, h⟩ := h
    refine x_last dX8_plan_81 hf hi ?_
    generalize hT : xup t_4 a_5 _ = t_8 at h ⊢
    clear hT
    refine x_aload_n 0 dX8_plan_82 rfl rfl ?_
    obtain ⟨fs, hf, a_9, hv, h⟩ := h
    refine x_get dX8_plan_83 xf_X8_93 hf hv ?_
    refine x_iload_n 1 dX8_plan_86 rfl rfl ?_
    refine x_aload_n 0 dX8_plan_87 rfl rfl ?_
    obtain ⟨fs, hf, a_10, hv, h⟩ := h
    refine x_get dX8_plan_88 xf_X8_62 hf hv ?_
    refine x_iload_n 1 dX8_plan_91 rfl rfl ?_
    obtain ⟨n, f, hf, hi, h⟩ := h
    refine x_lald dX8_plan_92 hf hi ?_
    generalize f _ = y_11 at h ⊢
    refine x_iload_n 2 dX8_plan_93 rfl rfl ?_
    refine x_i2l dX8_plan_94 ?_
    refine x_ladd dX8_plan_95 ?_
    refine x_lconst (v := (1 : Int64)) dX8_plan_96 (by decide) ?_
    refine x_lsub dX8_plan_97 ?_
    refine x_iload_n 2 dX8_plan_98 rfl rfl ?_
    refine x_i2l dX8_plan_99 ?_
    obtain ⟨q, h⟩ := h
    refine x_ldiv dX8_plan_100 q ?_
    obtain ⟨n, f, hf, hi, h⟩ := h
    refine x_last dX8_plan_101 hf hi ?_
    generalize hT : xup t_8 a_9 _ = t_12 at h ⊢
    clear hT
    refine x_aload_n 0 dX8_plan_102 rfl rfl ?_
    obtain ⟨fs, hf, a_13, hv, h⟩ := h
    refine x_get dX8_plan_103 xf_X8_96 hf hv ?_
    refine x_iload_n 1 dX8_plan_106 rfl rfl ?_
    refine x_iconst (v := (0 : Int32)) dX8_plan_107 (by decide) ?_
    obtain ⟨n, f, hf, hi, h⟩ := h
    refine x_iast dX8_plan_108 hf hi ?_
    generalize hT : xup t_12 a_13 _ = t_14 at h ⊢
    clear hT
    refine x_aload_n 0 dX8_plan_109 rfl rfl ?_
    obtain ⟨fs, hf, a_15, hv, h⟩ := h
    refine x_get dX8_plan_110 xf_X8_93 hf hv ?_
    refine x_iload_n 1 dX8_plan_113 rfl rfl ?_
    obtain ⟨n, f, hf, hi, h⟩ := h
    refine x_lald dX8_plan_114 hf hi ?_
    generalize f _ = y_16 at h ⊢
    exact x_lret dX8_plan_115 hr ht ⟨_, rfl, h⟩
  · have h := h2 q
    refine x_lconst (v := (0 : Int64)) dX8_plan_61 (by decide) ?_
    exact x_lret dX8_plan_62 hr ht ⟨_, rfl, h⟩
def V_X8_plan_0 (K : Int64 → xT → Prop) (a0 : Nat) (x1 : Int32) (x2 : Int32) (t : xT) : Prop :=
  (xis t a0 8 ∧ V_X8_isLease_0 (fun x_2 t_1 => ((¬ x_2 = 0 → (V_X8_in_0 (fun x_4 t_3 => ((¬ x_4 = 0 → xgR t_3 a0 8 31 fun a_5 => xaI 0 t_3 a_5 x1 fun x_6 => ((x_6 = (1 : Int32) → V_X8_plan_55 K a0 x1 x2 (3 : Int32) a0 t_3) ∧ (¬ x_6 = (1 : Int32) → xgR t_3 a0 8 23 fun a_7 => xaJ t_3 a_7 x1 fun y_8 => (((0 : Int64) < y_8 → V_X8_plan_55 K a0 x1 x2 (0 : Int32) a0 t_3) ∧ (¬ (0 : Int64) < y_8 → V_X8_plan_55 K a0 x1 x2 (3 : Int32) a0 t_3))))) ∧ (x_4 = 0 → V_X8_plan_55 K a0 x1 x2 (2 : Int32) a0 t_3))) x2 (1 : Int32) (12 : Int32) t_1)) ∧ (x_2 = 0 → V_X8_plan_55 K a0 x1 x2 (1 : Int32) a0 t_1))) a0 x1 t)
set_option maxRecDepth 20000 in
theorem S_X8_plan_0 {Γ : xΓ} {K : Int64 → xT → Prop} (hl : (gl Γ).stackTraces = false) (ht : (gM Γ).sig.returnType = (some .long)) (hr : xRet Γ (xKl K)) {a0 : Nat} {x1 : Int32} {x2 : Int32} {t : xT} {rc rs : Nat} (h : V_X8_plan_0 K a0 x1 x2 t) : xX Γ k_X8_plan 0 [(0, .ref a0), (1, .int x1), (2, .int x2)] [] t rc rs := by
  unfold V_X8_plan_0 at h
  refine x_aload_n 0 dX8_plan_0 rfl rfl ?_
  refine x_iload_n 1 dX8_plan_1 rfl rfl ?_
  obtain ⟨⟨fs, hf⟩, h⟩ := h
  refine x_invV (as := [.int x1]) (rest := []) dX8_plan_2 (q := (RX8, TX8, 40)) rfl xc_X8_plan_148 hf (M_X8_isLease hl h) rfl rfl (Nat.le_of_ble_eq_true rfl) (Nat.zero_le _) (Nat.zero_le _) (xk_i fun x_2 t_1 h => ?_)
  refine x_istore_n (L' := [(3, .int x_2), (0, .ref a0), (1, .int x1), (2, .int x2)]) dX8_plan_5 rfl (by decide) rfl ?_
  refine x_aload_n 1 dX8_plan_6 rfl rfl ?_
  refine x_iload_n 0 dX8_plan_7 rfl rfl ?_
  obtain ⟨h1, h2⟩ := h
  refine x_if_ne (tgt := 15) dX8_plan_8 (by decide) (fun q => ?_) (fun q => ?_)
  · have h := h1 q
    refine x_iload_n 3 dX8_plan_15 rfl rfl ?_
    refine x_iconst (v := (1 : Int32)) dX8_plan_16 (by decide) ?_
    refine x_bipush (v := (12 : Int32)) dX8_plan_17 (by decide) ?_
    refine x_invS (as := [.int x2, .int (1 : Int32), .int (12 : Int32)]) (rest := [.ref a0]) dX8_plan_19 xc_X8_plan_119 (M_X8_in hl h) rfl rfl (Nat.le_of_ble_eq_true rfl) (Nat.zero_le _) (Nat.zero_le _) (xk_i fun x_4 t_3 h => ?_)
    obtain ⟨h1, h2⟩ := h
    refine x_if_ne (tgt := 29) dX8_plan_22 (by decide) (fun q => ?_) (fun q => ?_)
    · have h := h1 q
      refine x_aload_n 1 dX8_plan_29 rfl rfl ?_
      obtain ⟨fs, hf, a_5, hv, h⟩ := h
      refine x_get dX8_plan_30 xf_X8_87 hf hv ?_
      refine x_iload_n 2 dX8_plan_33 rfl rfl ?_
      obtain ⟨n, f, hf, hi, h⟩ := h
      refine x_iald dX8_plan_34 hf hi ?_
      generalize f _ = x_6 at h ⊢
      refine x_iconst (v := (1 : Int32)) dX8_plan_35 (by decide) ?_
      obtain ⟨h1, h2⟩ := h
      refine x_icmp_eq (tgt := 50) dX8_plan_36 (by decide) (fun q => ?_) (fun q => ?_)
      · have h := h1 q
        refine x_iconst (v := (3 : Int32)) dX8_plan_50 (by decide) ?_
        refine x_goto (tgt := 55) dX8_plan_51 (by decide) ?_
        refine x_sub (L' := [(0, .ref a0), (1, .int x1), (2, .int x2)]) [1, 2, 3] rfl ?_
        exact S_X8_plan_55 hl ht hr  h
      · have h := h2 q
        refine x_aload_n 1 dX8_plan_39 rfl rfl ?_
        obtain ⟨fs, hf, a_7, hv, h⟩ := h
        refine x_get dX8_plan_40 xf_X8_62 hf hv ?_
        refine x_iload_n 2 dX8_plan_43 rfl rfl ?_
        obtain ⟨n, f, hf, hi, h⟩ := h
        refine x_lald dX8_plan_44 hf hi ?_
        generalize f _ = y_8 at h ⊢
        refine x_lconst (v := (0 : Int64)) dX8_plan_45 (by decide) ?_
        obtain ⟨h1, h2⟩ := h
        refine x_lcmp_gt (tgt := 54) dX8_plan_46 dX8_plan_47 (by decide) (fun q => ?_) (fun q => ?_)
        · have h := h1 q
          refine x_iconst (v := (0 : Int32)) dX8_plan_54 (by decide) ?_
          refine x_sub (L' := [(0, .ref a0), (1, .int x1), (2, .int x2)]) [1, 2, 3] rfl ?_
          exact S_X8_plan_55 hl ht hr  h
        · have h := h2 q
          refine x_iconst (v := (3 : Int32)) dX8_plan_50 (by decide) ?_
          refine x_goto (tgt := 55) dX8_plan_51 (by decide) ?_
          refine x_sub (L' := [(0, .ref a0), (1, .int x1), (2, .int x2)]) [1, 2, 3] rfl ?_
          exact S_X8_plan_55 hl ht hr  h
    · have h := h2 q
      refine x_iconst (v := (2 : Int32)) dX8_plan_25 (by decide) ?_
      refine x_goto (tgt := 55) dX8_plan_26 (by decide) ?_
      refine x_sub (L' := [(0, .ref a0), (1, .int x1), (2, .int x2)]) [1, 2, 3] rfl ?_
      exact S_X8_plan_55 hl ht hr  h
  · have h := h2 q
    refine x_iconst (v := (1 : Int32)) dX8_plan_11 (by decide) ?_
    refine x_goto (tgt := 55) dX8_plan_12 (by decide) ?_
    refine x_sub (L' := [(0, .ref a0), (1, .int x1), (2, .int x2)]) [1, 2, 3] rfl ?_
    exact S_X8_plan_55 hl ht hr  h
theorem M_X8_plan {l : Launch} {G : xG} (hl : l.stackTraces = false) {a0 : Nat} {x1 : Int32} {x2 : Int32} {t : xT} {K : Int64 → xT → Prop} (h : V_X8_plan_0 K a0 x1 x2 t) : xMet l G yX8_plan k_X8_plan (some .long) [.ref a0, .int x1, .int x2] t (xKl K) 0 0 := xMet.of (by decide +kernel) rfl hl (Nat.le_of_ble_eq_true rfl) (fun Γ e1 e2 ht hn hr => by subst e1; subst e2; exact S_X8_plan_0 hl ht hr h)
/-! RentStreamModel.planOf(I)I -/
def V_X8_planOf_0 (K : Int32 → xT → Prop) (a0 : Nat) (x1 : Int32) (t : xT) : Prop :=
  (xis t a0 8 ∧ V_X8_isLease_0 (fun x_2 t_1 => ((x_2 = 0 → (xis t_1 a0 8 ∧ V_X8_holds_0 (fun x_4 t_3 => ((x_4 = 0 → K (0 : Int32) t_3) ∧ (¬ x_4 = 0 → xgR t_3 a0 8 31 fun a_5 => xaI 0 t_3 a_5 x1 fun x_6 => K x_6 t_3))) a0 (1 : Int32) t_1)) ∧ (¬ x_2 = 0 → (xis t_1 a0 8 ∧ V_X8_holds_0 (fun x_8 t_7 => ((x_8 = 0 → K (0 : Int32) t_7) ∧ (¬ x_8 = 0 → xgR t_7 a0 8 31 fun a_9 => xaI 0 t_7 a_9 x1 fun x_10 => K x_10 t_7))) a0 (0 : Int32) t_1)))) a0 x1 t)
set_option maxRecDepth 20000 in
theorem S_X8_planOf_0 {Γ : xΓ} {K : Int32 → xT → Prop} (hl : (gl Γ).stackTraces = false) (ht : (gM Γ).sig.returnType = (some .int)) (hr : xRet Γ (xKi K)) {a0 : Nat} {x1 : Int32} {t : xT} {rc rs : Nat} (h : V_X8_planOf_0 K a0 x1 t) : xX Γ k_X8_planOf 0 [(0, .ref a0), (1, .int x1)] [] t rc rs := by
  unfold V_X8_planOf_0 at h
  refine x_aload_n 0 dX8_planOf_0 rfl rfl ?_
  refine x_aload_n 0 dX8_planOf_1 rfl rfl ?_
  refine x_iload_n 1 dX8_planOf_2 rfl rfl ?_
  obtain ⟨⟨fs, hf⟩, h⟩ := h
  refine x_invV (as := [.int x1]) (rest := [.ref a0]) dX8_planOf_3 (q := (RX8, TX8, 40)) rfl xc_X8_planOf_148 hf (M_X8_isLease hl h) rfl rfl (Nat.le_of_ble_eq_true rfl) (Nat.zero_le _) (Nat.zero_le _) (xk_i fun x_2 t_1 h => ?_)
  obtain ⟨h1, h2⟩ := h
  refine x_if_eq (tgt := 13) dX8_planOf_6 (by decide) (fun q => ?_) (fun q => ?_)
  · have h := h1 q
    refine x_iconst (v := (1 : Int32)) dX8_planOf_13 (by decide) ?_
    obtain ⟨⟨fs, hf⟩, h⟩ := h
    refine x_invV (as := [.int (1 : Int32)]) (rest := []) dX8_planOf_14 (q := (RX8, TX8, 40)) rfl xc_X8_planOf_133 hf (M_X8_holds hl h) rfl rfl (Nat.le_of_ble_eq_true rfl) (Nat.zero_le _) (Nat.zero_le _) (xk_i fun x_4 t_3 h => ?_)
    obtain ⟨h1, h2⟩ := h
    refine x_if_eq (tgt := 29) dX8_planOf_17 (by decide) (fun q => ?_) (fun q => ?_)
    · have h := h1 q
      refine x_iconst (v := (0 : Int32)) dX8_planOf_29 (by decide) ?_
      exact x_zret dX8_planOf_30 hr ht rfl ⟨_, rfl, h⟩
    · have h := h2 q
      refine x_aload_n 0 dX8_planOf_20 rfl rfl ?_
      obtain ⟨fs, hf, a_5, hv, h⟩ := h
      refine x_get dX8_planOf_21 xf_X8_87 hf hv ?_
      refine x_iload_n 1 dX8_planOf_24 rfl rfl ?_
      obtain ⟨n, f, hf, hi, h⟩ := h
      refine x_iald dX8_planOf_25 hf hi ?_
      generalize f _ = x_6 at h ⊢
      refine x_goto (tgt := 30) dX8_planOf_26 (by decide) ?_
      exact x_zret dX8_planOf_30 hr ht rfl ⟨_, rfl, h⟩
  · have h := h2 q
    refine x_iconst (v := (0 : Int32)) dX8_planOf_9 (by decide) ?_
    refine x_goto (tgt := 14) dX8_planOf_10 (by decide) ?_
    obtain ⟨⟨fs, hf⟩, h⟩ := h
    refine x_invV (as := [.int (0 : Int32)]) (rest := []) dX8_planOf_14 (q := (RX8, TX8, 40)) rfl xc_X8_planOf_133 hf (M_X8_holds hl h) rfl rfl (Nat.le_of_ble_eq_true rfl) (Nat.zero_le _) (Nat.zero_le _) (xk_i fun x_8 t_7 h => ?_)
    obtain ⟨h1, h2⟩ := h
    refine x_if_eq (tgt := 29) dX8_planOf_17 (by decide) (fun q => ?_) (fun q => ?_)
    · have h := h1 q
      refine x_iconst (v := (0 : Int32)) dX8_planOf_29 (by decide) ?_
      exact x_zret dX8_planOf_30 hr ht rfl ⟨_, rfl, h⟩
    · have h := h2 q
      refine x_aload_n 0 dX8_planOf_20 rfl rfl ?_
      obtain ⟨fs, hf, a_9, hv, h⟩ := h
      refine x_get dX8_planOf_21 xf_X8_87 hf hv ?_
      refine x_iload_n 1 dX8_planOf_24 rfl rfl ?_
      obtain ⟨n, f, hf, hi, h⟩ := h
      refine x_iald dX8_planOf_25 hf hi ?_
      generalize f _ = x_10 at h ⊢
      refine x_goto (tgt := 30) dX8_planOf_26 (by decide) ?_
      exact x_zret dX8_planOf_30 hr ht rfl ⟨_, rfl, h⟩
theorem M_X8_planOf {l : Launch} {G : xG} (hl : l.stackTraces = false) {a0 : Nat} {x1 : Int32} {t : xT} {K : Int32 → xT → Prop} (h : V_X8_planOf_0 K a0 x1 t) : xMet l G yX8_planOf k_X8_planOf (some .int) [.ref a0, .int x1] t (xKi K) 0 0 := xMet.of (by decide +kernel) rfl hl (Nat.le_of_ble_eq_true rfl) (fun Γ e1 e2 ht hn hr => by subst e1; subst e2; exact S_X8_planOf_0 hl ht hr h)
/-! RentStreamModel.points(I)I -/
def V_X8_points_0 (K : Int32 → xT → Prop) (a0 : Nat) (x1 : Int32) (t : xT) : Prop :=
  (xis t a0 8 ∧ V_X8_isFlat_0 (fun x_2 t_1 => ((x_2 = 0 → (xis t_1 a0 8 ∧ V_X8_holds_0 (fun x_4 t_3 => ((x_4 = 0 → K (0 : Int32) t_3) ∧ (¬ x_4 = 0 → xgR t_3 a0 8 8 fun a_5 => xaI 0 t_3 a_5 x1 fun x_6 => K x_6 t_3))) a0 (1 : Int32) t_1)) ∧ (¬ x_2 = 0 → (xis t_1 a0 8 ∧ V_X8_holds_0 (fun x_8 t_7 => ((x_8 = 0 → K (0 : Int32) t_7) ∧ (¬ x_8 = 0 → xgR t_7 a0 8 8 fun a_9 => xaI 0 t_7 a_9 x1 fun x_10 => K x_10 t_7))) a0 (0 : Int32) t_1)))) a0 x1 t)
set_option maxRecDepth 20000 in
theorem S_X8_points_0 {Γ : xΓ} {K : Int32 → xT → Prop} (hl : (gl Γ).stackTraces = false) (ht : (gM Γ).sig.returnType = (some .int)) (hr : xRet Γ (xKi K)) {a0 : Nat} {x1 : Int32} {t : xT} {rc rs : Nat} (h : V_X8_points_0 K a0 x1 t) : xX Γ k_X8_points 0 [(0, .ref a0), (1, .int x1)] [] t rc rs := by
  unfold V_X8_points_0 at h
  refine x_aload_n 0 dX8_points_0 rfl rfl ?_
  refine x_aload_n 0 dX8_points_1 rfl rfl ?_
  refine x_iload_n 1 dX8_points_2 rfl rfl ?_
  obtain ⟨⟨fs, hf⟩, h⟩ := h
  refine x_invV (as := [.int x1]) (rest := [.ref a0]) dX8_points_3 (q := (RX8, TX8, 40)) rfl xc_X8_points_141 hf (M_X8_isFlat hl h) rfl rfl (Nat.le_of_ble_eq_true rfl) (Nat.zero_le _) (Nat.zero_le _) (xk_i fun x_2 t_1 h => ?_)
  obtain ⟨h1, h2⟩ := h
  refine x_if_eq (tgt := 13) dX8_points_6 (by decide) (fun q => ?_) (fun q => ?_)
  · have h := h1 q
    refine x_iconst (v := (1 : Int32)) dX8_points_13 (by decide) ?_
    obtain ⟨⟨fs, hf⟩, h⟩ := h
    refine x_invV (as := [.int (1 : Int32)]) (rest := []) dX8_points_14 (q := (RX8, TX8, 40)) rfl xc_X8_points_133 hf (M_X8_holds hl h) rfl rfl (Nat.le_of_ble_eq_true rfl) (Nat.zero_le _) (Nat.zero_le _) (xk_i fun x_4 t_3 h => ?_)
    obtain ⟨h1, h2⟩ := h
    refine x_if_eq (tgt := 29) dX8_points_17 (by decide) (fun q => ?_) (fun q => ?_)
    · have h := h1 q
      refine x_iconst (v := (0 : Int32)) dX8_points_29 (by decide) ?_
      exact x_zret dX8_points_30 hr ht rfl ⟨_, rfl, h⟩
    · have h := h2 q
      refine x_aload_n 0 dX8_points_20 rfl rfl ?_
      obtain ⟨fs, hf, a_5, hv, h⟩ := h
      refine x_get dX8_points_21 xf_X8_25 hf hv ?_
      refine x_iload_n 1 dX8_points_24 rfl rfl ?_
      obtain ⟨n, f, hf, hi, h⟩ := h
      refine x_iald dX8_points_25 hf hi ?_
      generalize f _ = x_6 at h ⊢
      refine x_goto (tgt := 30) dX8_points_26 (by decide) ?_
      exact x_zret dX8_points_30 hr ht rfl ⟨_, rfl, h⟩
  · have h := h2 q
    refine x_iconst (v := (0 : Int32)) dX8_points_9 (by decide) ?_
    refine x_goto (tgt := 14) dX8_points_10 (by decide) ?_
    obtain ⟨⟨fs, hf⟩, h⟩ := h
    refine x_invV (as := [.int (0 : Int32)]) (rest := []) dX8_points_14 (q := (RX8, TX8, 40)) rfl xc_X8_points_133 hf (M_X8_holds hl h) rfl rfl (Nat.le_of_ble_eq_true rfl) (Nat.zero_le _) (Nat.zero_le _) (xk_i fun x_8 t_7 h => ?_)
    obtain ⟨h1, h2⟩ := h
    refine x_if_eq (tgt := 29) dX8_points_17 (by decide) (fun q => ?_) (fun q => ?_)
    · have h := h1 q
      refine x_iconst (v := (0 : Int32)) dX8_points_29 (by decide) ?_
      exact x_zret dX8_points_30 hr ht rfl ⟨_, rfl, h⟩
    · have h := h2 q
      refine x_aload_n 0 dX8_points_20 rfl rfl ?_
      obtain ⟨fs, hf, a_9, hv, h⟩ := h
      refine x_get dX8_points_21 xf_X8_25 hf hv ?_
      refine x_iload_n 1 dX8_points_24 rfl rfl ?_
      obtain ⟨n, f, hf, hi, h⟩ := h
      refine x_iald dX8_points_25 hf hi ?_
      generalize f _ = x_10 at h ⊢
      refine x_goto (tgt := 30) dX8_points_26 (by decide) ?_
      exact x_zret dX8_points_30 hr ht rfl ⟨_, rfl, h⟩
theorem M_X8_points {l : Launch} {G : xG} (hl : l.stackTraces = false) {a0 : Nat} {x1 : Int32} {t : xT} {K : Int32 → xT → Prop} (h : V_X8_points_0 K a0 x1 t) : xMet l G yX8_points k_X8_points (some .int) [.ref a0, .int x1] t (xKi K) 0 0 := xMet.of (by decide +kernel) rfl hl (Nat.le_of_ble_eq_true rfl) (fun Γ e1 e2 ht hn hr => by subst e1; subst e2; exact S_X8_points_0 hl ht hr h)
/-! RentStreamModel.read(II)I -/
def V_X8_read_40 (K : Int32 → xT → Prop) (a0 : Nat) (x1 : Int32) (x2 : Int32) (xs0 : Int32) (as1 : Nat) (t : xT) : Prop :=
  (xis t as1 8 ∧ V_X8_holds_0 (fun x_2 t_1 => ((¬ x_2 = 0 → xgR t_1 a0 8 5 fun a_3 => xaI 0 t_1 a_3 x1 fun x_4 => xgR t_1 a0 8 5 fun a_5 => xsI 0 t_1 a_5 x1 x2 fun t_6 => xgR t_6 a0 8 6 fun a_7 => (xis t_6 a0 8 ∧ V_X8_month_0 (fun x_9 t_8 => xsI 0 t_8 a_7 x1 x_9 fun t_10 => K (x2 - x_4) t_10) a0 t_6)) ∧ (x_2 = 0 → K (0 : Int32) t_1))) as1 xs0 t)
set_option maxRecDepth 20000 in
theorem S_X8_read_40 {Γ : xΓ} {K : Int32 → xT → Prop} (hl : (gl Γ).stackTraces = false) (ht : (gM Γ).sig.returnType = (some .int)) (hr : xRet Γ (xKi K)) {a0 : Nat} {x1 : Int32} {x2 : Int32} {xs0 : Int32} {as1 : Nat} {t : xT} {rc rs : Nat} (h : V_X8_read_40 K a0 x1 x2 xs0 as1 t) : xX Γ k_X8_read 40 [(0, .ref a0), (1, .int x1), (2, .int x2)] [.int xs0, .ref as1] t rc rs := by
  unfold V_X8_read_40 at h
  obtain ⟨⟨fs, hf⟩, h⟩ := h
  refine x_invV (as := [.int xs0]) (rest := []) dX8_read_40 (q := (RX8, TX8, 40)) rfl xc_X8_read_133 hf (M_X8_holds hl h) rfl rfl (Nat.le_of_ble_eq_true rfl) (Nat.zero_le _) (Nat.zero_le _) (xk_i fun x_2 t_1 h => ?_)
  obtain ⟨h1, h2⟩ := h
  refine x_if_ne (tgt := 48) dX8_read_43 (by decide) (fun q => ?_) (fun q => ?_)
  · have h := h1 q
    refine x_iload_n 2 dX8_read_48 rfl rfl ?_
    refine x_aload_n 0 dX8_read_49 rfl rfl ?_
    obtain ⟨fs, hf, a_3, hv, h⟩ := h
    refine x_get dX8_read_50 xf_X8_16 hf hv ?_
    refine x_iload_n 1 dX8_read_53 rfl rfl ?_
    obtain ⟨n, f, hf, hi, h⟩ := h
    refine x_iald dX8_read_54 hf hi ?_
    generalize f _ = x_4 at h ⊢
    refine x_isub dX8_read_55 ?_
    refine x_istore (L' := [(4, .int (x2 - x_4)), (0, .ref a0), (1, .int x1), (2, .int x2)]) dX8_read_56 (by decide) rfl ?_
    refine x_aload_n 1 dX8_read_58 rfl rfl ?_
    obtain ⟨fs, hf, a_5, hv, h⟩ := h
    refine x_get dX8_read_59 xf_X8_16 hf hv ?_
    refine x_iload_n 2 dX8_read_62 rfl rfl ?_
    refine x_iload_n 3 dX8_read_63 rfl rfl ?_
    obtain ⟨n, f, hf, hi, h⟩ := h
    refine x_iast dX8_read_64 hf hi ?_
    generalize hT : xup t_1 a_5 _ = t_6 at h ⊢
    clear hT
    refine x_aload_n 1 dX8_read_65 rfl rfl ?_
    obtain ⟨fs, hf, a_7, hv, h⟩ := h
    refine x_get dX8_read_66 xf_X8_19 hf hv ?_
    refine x_iload_n 2 dX8_read_69 rfl rfl ?_
    refine x_aload_n 1 dX8_read_70 rfl rfl ?_
    obtain ⟨⟨fs, hf⟩, h⟩ := h
    refine x_invV (as := []) (rest := [.int x1, .ref a_7]) dX8_read_71 (q := (RX8, TX8, 40)) rfl xc_X8_read_129 hf (M_X8_month hl h) rfl rfl (Nat.le_of_ble_eq_true rfl) (Nat.zero_le _) (Nat.zero_le _) (xk_i fun x_9 t_8 h => ?_)
    obtain ⟨n, f, hf, hi, h⟩ := h
    refine x_iast dX8_read_74 hf hi ?_
    generalize hT : xup t_8 a_7 _ = t_10 at h ⊢
    clear hT
    refine x_iload 0 dX8_read_75 rfl ?_
    exact x_zret dX8_read_77 hr ht rfl ⟨_, rfl, h⟩
  · have h := h2 q
    refine x_iconst (v := (0 : Int32)) dX8_read_46 (by decide) ?_
    exact x_zret dX8_read_47 hr ht rfl ⟨_, rfl, h⟩
def V_X8_read_0 (K : Int32 → xT → Prop) (a0 : Nat) (x1 : Int32) (x2 : Int32) (t : xT) : Prop :=
  (xis t a0 8 ∧ V_X8_isFlat_0 (fun x_2 t_1 => ((¬ x_2 = 0 → (V_X8_in_0 (fun x_4 t_3 => ((x_4 = 0 → V_X8_read_40 K a0 x1 x2 (2 : Int32) a0 t_3) ∧ (¬ x_4 = 0 → xgR t_3 a0 8 5 fun a_5 => xaI 0 t_3 a_5 x1 fun x_6 => ((x_6 ≤ x2 → V_X8_read_40 K a0 x1 x2 (0 : Int32) a0 t_3) ∧ (¬ x_6 ≤ x2 → V_X8_read_40 K a0 x1 x2 (2 : Int32) a0 t_3))))) x2 (0 : Int32) (1000000 : Int32) t_1)) ∧ (x_2 = 0 → V_X8_read_40 K a0 x1 x2 (1 : Int32) a0 t_1))) a0 x1 t)
set_option maxRecDepth 20000 in
theorem S_X8_read_0 {Γ : xΓ} {K : Int32 → xT → Prop} (hl : (gl Γ).stackTraces = false) (ht : (gM Γ).sig.returnType = (some .int)) (hr : xRet Γ (xKi K)) {a0 : Nat} {x1 : Int32} {x2 : Int32} {t : xT} {rc rs : Nat} (h : V_X8_read_0 K a0 x1 x2 t) : xX Γ k_X8_read 0 [(0, .ref a0), (1, .int x1), (2, .int x2)] [] t rc rs := by
  unfold V_X8_read_0 at h
  refine x_aload_n 0 dX8_read_0 rfl rfl ?_
  refine x_iload_n 1 dX8_read_1 rfl rfl ?_
  obtain ⟨⟨fs, hf⟩, h⟩ := h
  refine x_invV (as := [.int x1]) (rest := []) dX8_read_2 (q := (RX8, TX8, 40)) rfl xc_X8_read_141 hf (M_X8_isFlat hl h) rfl rfl (Nat.le_of_ble_eq_true rfl) (Nat.zero_le _) (Nat.zero_le _) (xk_i fun x_2 t_1 h => ?_)
  refine x_istore_n (L' := [(3, .int x_2), (0, .ref a0), (1, .int x1), (2, .int x2)]) dX8_read_5 rfl (by decide) rfl ?_
  refine x_aload_n 1 dX8_read_6 rfl rfl ?_
  refine x_iload_n 0 dX8_read_7 rfl rfl ?_
  obtain ⟨h1, h2⟩ := h
  refine x_if_ne (tgt := 15) dX8_read_8 (by decide) (fun q => ?_) (fun q => ?_)
  · have h := h1 q
    refine x_iload_n 3 dX8_read_15 rfl rfl ?_
    refine x_iconst (v := (0 : Int32)) dX8_read_16 (by decide) ?_
    refine x_ldc dX8_read_17 xw1391 ?_
    refine x_invS (as := [.int x2, .int (0 : Int32), .int (1000000 : Int32)]) (rest := [.ref a0]) dX8_read_19 xc_X8_read_119 (M_X8_in hl h) rfl rfl (Nat.le_of_ble_eq_true rfl) (Nat.zero_le _) (Nat.zero_le _) (xk_i fun x_4 t_3 h => ?_)
    obtain ⟨h1, h2⟩ := h
    refine x_if_eq (tgt := 35) dX8_read_22 (by decide) (fun q => ?_) (fun q => ?_)
    · have h := h1 q
      refine x_iconst (v := (2 : Int32)) dX8_read_35 (by decide) ?_
      refine x_goto (tgt := 40) dX8_read_36 (by decide) ?_
      refine x_sub (L' := [(0, .ref a0), (1, .int x1), (2, .int x2)]) [1, 2, 3] rfl ?_
      exact S_X8_read_40 hl ht hr  h
    · have h := h2 q
      refine x_iload_n 3 dX8_read_25 rfl rfl ?_
      refine x_aload_n 1 dX8_read_26 rfl rfl ?_
      obtain ⟨fs, hf, a_5, hv, h⟩ := h
      refine x_get dX8_read_27 xf_X8_16 hf hv ?_
      refine x_iload_n 2 dX8_read_30 rfl rfl ?_
      obtain ⟨n, f, hf, hi, h⟩ := h
      refine x_iald dX8_read_31 hf hi ?_
      generalize f _ = x_6 at h ⊢
      obtain ⟨h1, h2⟩ := h
      refine x_icmp_ge (tgt := 39) dX8_read_32 (by decide) (fun q => ?_) (fun q => ?_)
      · have h := h1 q
        refine x_iconst (v := (0 : Int32)) dX8_read_39 (by decide) ?_
        refine x_sub (L' := [(0, .ref a0), (1, .int x1), (2, .int x2)]) [1, 2, 3] rfl ?_
        exact S_X8_read_40 hl ht hr  h
      · have h := h2 q
        refine x_iconst (v := (2 : Int32)) dX8_read_35 (by decide) ?_
        refine x_goto (tgt := 40) dX8_read_36 (by decide) ?_
        refine x_sub (L' := [(0, .ref a0), (1, .int x1), (2, .int x2)]) [1, 2, 3] rfl ?_
        exact S_X8_read_40 hl ht hr  h
  · have h := h2 q
    refine x_iconst (v := (1 : Int32)) dX8_read_11 (by decide) ?_
    refine x_goto (tgt := 40) dX8_read_12 (by decide) ?_
    refine x_sub (L' := [(0, .ref a0), (1, .int x1), (2, .int x2)]) [1, 2, 3] rfl ?_
    exact S_X8_read_40 hl ht hr  h
theorem M_X8_read {l : Launch} {G : xG} (hl : l.stackTraces = false) {a0 : Nat} {x1 : Int32} {x2 : Int32} {t : xT} {K : Int32 → xT → Prop} (h : V_X8_read_0 K a0 x1 x2 t) : xMet l G yX8_read k_X8_read (some .int) [.ref a0, .int x1, .int x2] t (xKi K) 0 0 := xMet.of (by decide +kernel) rfl hl (Nat.le_of_ble_eq_true rfl) (fun Γ e1 e2 ht hn hr => by subst e1; subst e2; exact S_X8_read_0 hl ht hr h)
/-! RentStreamModel.report(II)I -/
def V_X8_report_42 (K : Int32 → xT → Prop) (a0 : Nat) (x1 : Int32) (x2 : Int32) (xs0 : Int32) (as1 : Nat) (t : xT) : Prop :=
  (xis t as1 8 ∧ V_X8_holds_0 (fun x_2 t_1 => ((¬ x_2 = 0 → xgR t_1 a0 8 13 fun a_3 => xgI t_1 a0 8 12 fun x_4 => xsI 0 t_1 a_3 x_4 x1 fun t_5 => xgR t_5 a0 8 14 fun a_6 => xgI t_5 a0 8 12 fun x_7 => xsI 0 t_5 a_6 x_7 x2 fun t_8 => xgR t_8 a0 8 15 fun a_9 => xgI t_8 a0 8 12 fun x_10 => xgI t_8 a0 8 1 fun x_11 => xsI 0 t_8 a_9 x_10 x_11 fun t_12 => xgI t_12 a0 8 12 fun x_13 => (xpF t_12 a0 8 12 (.int (x_13 + (1 : Int32))) fun t_14 => xgI t_14 a0 8 12 fun x_15 => K (x_15 - (1 : Int32)) t_14)) ∧ (x_2 = 0 → K (0 : Int32) t_1))) as1 xs0 t)
set_option maxRecDepth 20000 in
theorem S_X8_report_42 {Γ : xΓ} {K : Int32 → xT → Prop} (hl : (gl Γ).stackTraces = false) (ht : (gM Γ).sig.returnType = (some .int)) (hr : xRet Γ (xKi K)) {a0 : Nat} {x1 : Int32} {x2 : Int32} {xs0 : Int32} {as1 : Nat} {t : xT} {rc rs : Nat} (h : V_X8_report_42 K a0 x1 x2 xs0 as1 t) : xX Γ k_X8_report 42 [(0, .ref a0), (1, .int x1), (2, .int x2)] [.int xs0, .ref as1] t rc rs := by
  unfold V_X8_report_42 at h
  obtain ⟨⟨fs, hf⟩, h⟩ := h
  refine x_invV (as := [.int xs0]) (rest := []) dX8_report_42 (q := (RX8, TX8, 40)) rfl xc_X8_report_133 hf (M_X8_holds hl h) rfl rfl (Nat.le_of_ble_eq_true rfl) (Nat.zero_le _) (Nat.zero_le _) (xk_i fun x_2 t_1 h => ?_)
  obtain ⟨h1, h2⟩ := h
  refine x_if_ne (tgt := 50) dX8_report_45 (by decide) (fun q => ?_) (fun q => ?_)
  · have h := h1 q
    refine x_aload_n 0 dX8_report_50 rfl rfl ?_
    obtain ⟨fs, hf, a_3, hv, h⟩ := h
    refine x_get dX8_report_51 xf_X8_34 hf hv ?_
    refine x_aload_n 0 dX8_report_54 rfl rfl ?_
    obtain ⟨fs, hf, x_4, hv, h⟩ := h
    refine x_get dX8_report_55 xf_X8_156 hf hv ?_
    refine x_iload_n 1 dX8_report_58 rfl rfl ?_
    obtain ⟨n, f, hf, hi, h⟩ := h
    refine x_iast dX8_report_59 hf hi ?_
    generalize hT : xup t_1 a_3 _ = t_5 at h ⊢
    clear hT
    refine x_aload_n 0 dX8_report_60 rfl rfl ?_
    obtain ⟨fs, hf, a_6, hv, h⟩ := h
    refine x_get dX8_report_61 xf_X8_37 hf hv ?_
    refine x_aload_n 0 dX8_report_64 rfl rfl ?_
    obtain ⟨fs, hf, x_7, hv, h⟩ := h
    refine x_get dX8_report_65 xf_X8_156 hf hv ?_
    refine x_iload_n 2 dX8_report_68 rfl rfl ?_
    obtain ⟨n, f, hf, hi, h⟩ := h
    refine x_iast dX8_report_69 hf hi ?_
    generalize hT : xup t_5 a_6 _ = t_8 at h ⊢
    clear hT
    refine x_aload_n 0 dX8_report_70 rfl rfl ?_
    obtain ⟨fs, hf, a_9, hv, h⟩ := h
    refine x_get dX8_report_71 xf_X8_40 hf hv ?_
    refine x_aload_n 0 dX8_report_74 rfl rfl ?_
    obtain ⟨fs, hf, x_10, hv, h⟩ := h
    refine x_get dX8_report_75 xf_X8_156 hf hv ?_
    refine x_aload_n 0 dX8_report_78 rfl rfl ?_
    obtain ⟨fs, hf, x_11, hv, h⟩ := h
    refine x_get dX8_report_79 xf_X8_126 hf hv ?_
    obtain ⟨n, f, hf, hi, h⟩ := h
    refine x_iast dX8_report_82 hf hi ?_
    generalize hT : xup t_8 a_9 _ = t_12 at h ⊢
    clear hT
    refine x_aload_n 0 dX8_report_83 rfl rfl ?_
    refine x_dup dX8_report_84 rfl ?_
    obtain ⟨fs, hf, x_13, hv, h⟩ := h
    refine x_get dX8_report_85 xf_X8_156 hf hv ?_
    refine x_iconst (v := (1 : Int32)) dX8_report_88 (by decide) ?_
    refine x_iadd dX8_report_89 ?_
    obtain ⟨fs, hf, hk, h⟩ := h
    refine x_put (v := .int (x_13 + (1 : Int32))) dX8_report_90 xp_X8_156 hf rfl rfl hk ?_
    generalize hT : xup t_12 a0 _ = t_14 at h ⊢
    clear hT
    refine x_aload_n 0 dX8_report_93 rfl rfl ?_
    obtain ⟨fs, hf, x_15, hv, h⟩ := h
    refine x_get dX8_report_94 xf_X8_156 hf hv ?_
    refine x_iconst (v := (1 : Int32)) dX8_report_97 (by decide) ?_
    refine x_isub dX8_report_98 ?_
    exact x_zret dX8_report_99 hr ht rfl ⟨_, rfl, h⟩
  · have h := h2 q
    refine x_iconst (v := (0 : Int32)) dX8_report_48 (by decide) ?_
    exact x_zret dX8_report_49 hr ht rfl ⟨_, rfl, h⟩
def V_X8_report_0 (K : Int32 → xT → Prop) (a0 : Nat) (x1 : Int32) (x2 : Int32) (t : xT) : Prop :=
  (xis t a0 8 ∧ V_X8_isFlat_0 (fun x_2 t_1 => ((¬ x_2 = 0 → (V_X8_in_0 (fun x_4 t_3 => ((¬ x_4 = 0 → xgI t_3 a0 8 12 fun x_5 => ((¬ x_5 = (60 : Int32) → V_X8_report_42 K a0 x1 x2 (0 : Int32) a0 t_3) ∧ (x_5 = (60 : Int32) → V_X8_report_42 K a0 x1 x2 (3 : Int32) a0 t_3))) ∧ (x_4 = 0 → V_X8_report_42 K a0 x1 x2 (2 : Int32) a0 t_3))) x2 (0 : Int32) (2 : Int32) t_1)) ∧ (x_2 = 0 → V_X8_report_42 K a0 x1 x2 (1 : Int32) a0 t_1))) a0 x1 t)
set_option maxRecDepth 20000 in
theorem S_X8_report_0 {Γ : xΓ} {K : Int32 → xT → Prop} (hl : (gl Γ).stackTraces = false) (ht : (gM Γ).sig.returnType = (some .int)) (hr : xRet Γ (xKi K)) {a0 : Nat} {x1 : Int32} {x2 : Int32} {t : xT} {rc rs : Nat} (h : V_X8_report_0 K a0 x1 x2 t) : xX Γ k_X8_report 0 [(0, .ref a0), (1, .int x1), (2, .int x2)] [] t rc rs := by
  unfold V_X8_report_0 at h
  refine x_aload_n 0 dX8_report_0 rfl rfl ?_
  refine x_iload_n 1 dX8_report_1 rfl rfl ?_
  obtain ⟨⟨fs, hf⟩, h⟩ := h
  refine x_invV (as := [.int x1]) (rest := []) dX8_report_2 (q := (RX8, TX8, 40)) rfl xc_X8_report_141 hf (M_X8_isFlat hl h) rfl rfl (Nat.le_of_ble_eq_true rfl) (Nat.zero_le _) (Nat.zero_le _) (xk_i fun x_2 t_1 h => ?_)
  refine x_istore_n (L' := [(3, .int x_2), (0, .ref a0), (1, .int x1), (2, .int x2)]) dX8_report_5 rfl (by decide) rfl ?_
  refine x_aload_n 1 dX8_report_6 rfl rfl ?_
  refine x_iload_n 0 dX8_report_7 rfl rfl ?_
  obtain ⟨h1, h2⟩ := h
  refine x_if_ne (tgt := 15) dX8_report_8 (by decide) (fun q => ?_) (fun q => ?_)
  · have h := h1 q
    refine x_iload_n 3 dX8_report_15 rfl rfl ?_
    refine x_iconst (v := (0 : Int32)) dX8_report_16 (by decide) ?_
    refine x_iconst (v := (2 : Int32)) dX8_report_17 (by decide) ?_
    refine x_invS (as := [.int x2, .int (0 : Int32), .int (2 : Int32)]) (rest := [.ref a0]) dX8_report_18 xc_X8_report_119 (M_X8_in hl h) rfl rfl (Nat.le_of_ble_eq_true rfl) (Nat.zero_le _) (Nat.zero_le _) (xk_i fun x_4 t_3 h => ?_)
    obtain ⟨h1, h2⟩ := h
    refine x_if_ne (tgt := 28) dX8_report_21 (by decide) (fun q => ?_) (fun q => ?_)
    · have h := h1 q
      refine x_aload_n 1 dX8_report_28 rfl rfl ?_
      obtain ⟨fs, hf, x_5, hv, h⟩ := h
      refine x_get dX8_report_29 xf_X8_156 hf hv ?_
      refine x_bipush (v := (60 : Int32)) dX8_report_32 (by decide) ?_
      obtain ⟨h1, h2⟩ := h
      refine x_icmp_ne (tgt := 41) dX8_report_34 (by decide) (fun q => ?_) (fun q => ?_)
      · have h := h1 q
        refine x_iconst (v := (0 : Int32)) dX8_report_41 (by decide) ?_
        refine x_sub (L' := [(0, .ref a0), (1, .int x1), (2, .int x2)]) [1, 2, 3] rfl ?_
        exact S_X8_report_42 hl ht hr  h
      · have h := h2 q
        refine x_iconst (v := (3 : Int32)) dX8_report_37 (by decide) ?_
        refine x_goto (tgt := 42) dX8_report_38 (by decide) ?_
        refine x_sub (L' := [(0, .ref a0), (1, .int x1), (2, .int x2)]) [1, 2, 3] rfl ?_
        exact S_X8_report_42 hl ht hr  h
    · have h := h2 q
      refine x_iconst (v := (2 : Int32)) dX8_report_24 (by decide) ?_
      refine x_goto (tgt := 42) dX8_report_25 (by decide) ?_
      refine x_sub (L' := [(0, .ref a0), (1, .int x1), (2, .int x2)]) [1, 2, 3] rfl ?_
      exact S_X8_report_42 hl ht hr  h
  · have h := h2 q
    refine x_iconst (v := (1 : Int32)) dX8_report_11 (by decide) ?_
    refine x_goto (tgt := 42) dX8_report_12 (by decide) ?_
    refine x_sub (L' := [(0, .ref a0), (1, .int x1), (2, .int x2)]) [1, 2, 3] rfl ?_
    exact S_X8_report_42 hl ht hr  h
theorem M_X8_report {l : Launch} {G : xG} (hl : l.stackTraces = false) {a0 : Nat} {x1 : Int32} {x2 : Int32} {t : xT} {K : Int32 → xT → Prop} (h : V_X8_report_0 K a0 x1 x2 t) : xMet l G yX8_report k_X8_report (some .int) [.ref a0, .int x1, .int x2] t (xKi K) 0 0 := xMet.of (by decide +kernel) rfl hl (Nat.le_of_ble_eq_true rfl) (fun Γ e1 e2 ht hn hr => by subst e1; subst e2; exact S_X8_report_0 hl ht hr h)
/-! RentStreamModel.thrown()I -/
def V_X8_thrown_0 (K : Int32 → xT → Prop) (a0 : Nat) (t : xT) : Prop :=
  xgI t a0 8 0 fun x_1 => K x_1 t
set_option maxRecDepth 20000 in
theorem S_X8_thrown_0 {Γ : xΓ} {K : Int32 → xT → Prop} (hl : (gl Γ).stackTraces = false) (ht : (gM Γ).sig.returnType = (some .int)) (hr : xRet Γ (xKi K)) {a0 : Nat} {t : xT} {rc rs : Nat} (h : V_X8_thrown_0 K a0 t) : xX Γ k_X8_thrown 0 [(0, .ref a0)] [] t rc rs := by
  unfold V_X8_thrown_0 at h
  refine x_aload_n 0 dX8_thrown_0 rfl rfl ?_
  obtain ⟨fs, hf, x_1, hv, h⟩ := h
  refine x_get dX8_thrown_1 xf_X8_112 hf hv ?_
  exact x_zret dX8_thrown_4 hr ht rfl ⟨_, rfl, h⟩
theorem M_X8_thrown {l : Launch} {G : xG} (hl : l.stackTraces = false) {a0 : Nat} {t : xT} {K : Int32 → xT → Prop} (h : V_X8_thrown_0 K a0 t) : xMet l G yX8_thrown k_X8_thrown (some .int) [.ref a0] t (xKi K) 0 0 := xMet.of (by decide +kernel) rfl hl (Nat.le_of_ble_eq_true rfl) (fun Γ e1 e2 ht hn hr => by subst e1; subst e2; exact S_X8_thrown_0 hl ht hr h)
/-! RentStreamModel.use(II)I -/
def V_X8_use_21 (K : Int32 → xT → Prop) (a0 : Nat) (x1 : Int32) (x2 : Int32) (xs0 : Int32) (t : xT) : Prop :=
  ((xs0 = 0 → (xis t a0 8 ∧ V_X8_holds_0 (fun x_2 t_1 => ((x_2 = 0 → K (0 : Int32) t_1) ∧ (¬ x_2 = 0 → xgR t_1 a0 8 9 fun a_3 => xaI 0 t_1 a_3 (((121 : Int32) * x1) + x2) fun x_4 => K x_4 t_1))) a0 (1 : Int32) t)) ∧ (¬ xs0 = 0 → (xis t a0 8 ∧ V_X8_holds_0 (fun x_6 t_5 => ((x_6 = 0 → K (0 : Int32) t_5) ∧ (¬ x_6 = 0 → xgR t_5 a0 8 9 fun a_7 => xaI 0 t_5 a_7 (((121 : Int32) * x1) + x2) fun x_8 => K x_8 t_5))) a0 (0 : Int32) t)))
set_option maxRecDepth 20000 in
theorem S_X8_use_21 {Γ : xΓ} {K : Int32 → xT → Prop} (hl : (gl Γ).stackTraces = false) (ht : (gM Γ).sig.returnType = (some .int)) (hr : xRet Γ (xKi K)) {a0 : Nat} {x1 : Int32} {x2 : Int32} {xs0 : Int32} {t : xT} {rc rs : Nat} (h : V_X8_use_21 K a0 x1 x2 xs0 t) : xX Γ k_X8_use 21 [(0, .ref a0), (1, .int x1), (2, .int x2)] [.int xs0] t rc rs := by
  unfold V_X8_use_21 at h
  refine x_istore_n (L' := [(3, .int xs0), (0, .ref a0), (1, .int x1), (2, .int x2)]) dX8_use_21 rfl (by decide) rfl ?_
  refine x_aload_n 1 dX8_use_22 rfl rfl ?_
  refine x_iload_n 0 dX8_use_23 rfl rfl ?_
  obtain ⟨h1, h2⟩ := h
  refine x_if_eq (tgt := 31) dX8_use_24 (by decide) (fun q => ?_) (fun q => ?_)
  · have h := h1 q
    refine x_iconst (v := (1 : Int32)) dX8_use_31 (by decide) ?_
    obtain ⟨⟨fs, hf⟩, h⟩ := h
    refine x_invV (as := [.int (1 : Int32)]) (rest := []) dX8_use_32 (q := (RX8, TX8, 40)) rfl xc_X8_use_133 hf (M_X8_holds hl h) rfl rfl (Nat.le_of_ble_eq_true rfl) (Nat.zero_le _) (Nat.zero_le _) (xk_i fun x_2 t_1 h => ?_)
    obtain ⟨h1, h2⟩ := h
    refine x_if_eq (tgt := 52) dX8_use_35 (by decide) (fun q => ?_) (fun q => ?_)
    · have h := h1 q
      refine x_iconst (v := (0 : Int32)) dX8_use_52 (by decide) ?_
      exact x_zret dX8_use_53 hr ht rfl ⟨_, rfl, h⟩
    · have h := h2 q
      refine x_aload_n 1 dX8_use_38 rfl rfl ?_
      obtain ⟨fs, hf, a_3, hv, h⟩ := h
      refine x_get dX8_use_39 xf_X8_28 hf hv ?_
      refine x_bipush (v := (121 : Int32)) dX8_use_42 (by decide) ?_
      refine x_iload_n 2 dX8_use_44 rfl rfl ?_
      refine x_imul dX8_use_45 ?_
      refine x_iload_n 3 dX8_use_46 rfl rfl ?_
      refine x_iadd dX8_use_47 ?_
      obtain ⟨n, f, hf, hi, h⟩ := h
      refine x_iald dX8_use_48 hf hi ?_
      generalize f _ = x_4 at h ⊢
      refine x_goto (tgt := 53) dX8_use_49 (by decide) ?_
      exact x_zret dX8_use_53 hr ht rfl ⟨_, rfl, h⟩
  · have h := h2 q
    refine x_iconst (v := (0 : Int32)) dX8_use_27 (by decide) ?_
    refine x_goto (tgt := 32) dX8_use_28 (by decide) ?_
    obtain ⟨⟨fs, hf⟩, h⟩ := h
    refine x_invV (as := [.int (0 : Int32)]) (rest := []) dX8_use_32 (q := (RX8, TX8, 40)) rfl xc_X8_use_133 hf (M_X8_holds hl h) rfl rfl (Nat.le_of_ble_eq_true rfl) (Nat.zero_le _) (Nat.zero_le _) (xk_i fun x_6 t_5 h => ?_)
    obtain ⟨h1, h2⟩ := h
    refine x_if_eq (tgt := 52) dX8_use_35 (by decide) (fun q => ?_) (fun q => ?_)
    · have h := h1 q
      refine x_iconst (v := (0 : Int32)) dX8_use_52 (by decide) ?_
      exact x_zret dX8_use_53 hr ht rfl ⟨_, rfl, h⟩
    · have h := h2 q
      refine x_aload_n 1 dX8_use_38 rfl rfl ?_
      obtain ⟨fs, hf, a_7, hv, h⟩ := h
      refine x_get dX8_use_39 xf_X8_28 hf hv ?_
      refine x_bipush (v := (121 : Int32)) dX8_use_42 (by decide) ?_
      refine x_iload_n 2 dX8_use_44 rfl rfl ?_
      refine x_imul dX8_use_45 ?_
      refine x_iload_n 3 dX8_use_46 rfl rfl ?_
      refine x_iadd dX8_use_47 ?_
      obtain ⟨n, f, hf, hi, h⟩ := h
      refine x_iald dX8_use_48 hf hi ?_
      generalize f _ = x_8 at h ⊢
      refine x_goto (tgt := 53) dX8_use_49 (by decide) ?_
      exact x_zret dX8_use_53 hr ht rfl ⟨_, rfl, h⟩
def V_X8_use_0 (K : Int32 → xT → Prop) (a0 : Nat) (x1 : Int32) (x2 : Int32) (t : xT) : Prop :=
  (xis t a0 8 ∧ V_X8_isFlat_0 (fun x_2 t_1 => ((x_2 = 0 → V_X8_use_21 K a0 x1 x2 (0 : Int32) t_1) ∧ (¬ x_2 = 0 → (xis t_1 a0 8 ∧ V_X8_isMonth_0 (fun x_4 t_3 => ((x_4 = 0 → V_X8_use_21 K a0 x1 x2 (0 : Int32) t_3) ∧ (¬ x_4 = 0 → V_X8_use_21 K a0 x1 x2 (1 : Int32) t_3))) a0 x2 t_1)))) a0 x1 t)
set_option maxRecDepth 20000 in
theorem S_X8_use_0 {Γ : xΓ} {K : Int32 → xT → Prop} (hl : (gl Γ).stackTraces = false) (ht : (gM Γ).sig.returnType = (some .int)) (hr : xRet Γ (xKi K)) {a0 : Nat} {x1 : Int32} {x2 : Int32} {t : xT} {rc rs : Nat} (h : V_X8_use_0 K a0 x1 x2 t) : xX Γ k_X8_use 0 [(0, .ref a0), (1, .int x1), (2, .int x2)] [] t rc rs := by
  unfold V_X8_use_0 at h
  refine x_aload_n 0 dX8_use_0 rfl rfl ?_
  refine x_iload_n 1 dX8_use_1 rfl rfl ?_
  obtain ⟨⟨fs, hf⟩, h⟩ := h
  refine x_invV (as := [.int x1]) (rest := []) dX8_use_2 (q := (RX8, TX8, 40)) rfl xc_X8_use_141 hf (M_X8_isFlat hl h) rfl rfl (Nat.le_of_ble_eq_true rfl) (Nat.zero_le _) (Nat.zero_le _) (xk_i fun x_2 t_1 h => ?_)
  obtain ⟨h1, h2⟩ := h
  refine x_if_eq (tgt := 20) dX8_use_5 (by decide) (fun q => ?_) (fun q => ?_)
  · have h := h1 q
    refine x_iconst (v := (0 : Int32)) dX8_use_20 (by decide) ?_
    exact S_X8_use_21 hl ht hr  h
  · have h := h2 q
    refine x_aload_n 0 dX8_use_8 rfl rfl ?_
    refine x_iload_n 2 dX8_use_9 rfl rfl ?_
    obtain ⟨⟨fs, hf⟩, h⟩ := h
    refine x_invV (as := [.int x2]) (rest := []) dX8_use_10 (q := (RX8, TX8, 40)) rfl xc_X8_use_202 hf (M_X8_isMonth hl h) rfl rfl (Nat.le_of_ble_eq_true rfl) (Nat.zero_le _) (Nat.zero_le _) (xk_i fun x_4 t_3 h => ?_)
    obtain ⟨h1, h2⟩ := h
    refine x_if_eq (tgt := 20) dX8_use_13 (by decide) (fun q => ?_) (fun q => ?_)
    · have h := h1 q
      refine x_iconst (v := (0 : Int32)) dX8_use_20 (by decide) ?_
      exact S_X8_use_21 hl ht hr  h
    · have h := h2 q
      refine x_iconst (v := (1 : Int32)) dX8_use_16 (by decide) ?_
      refine x_goto (tgt := 21) dX8_use_17 (by decide) ?_
      exact S_X8_use_21 hl ht hr  h
theorem M_X8_use {l : Launch} {G : xG} (hl : l.stackTraces = false) {a0 : Nat} {x1 : Int32} {x2 : Int32} {t : xT} {K : Int32 → xT → Prop} (h : V_X8_use_0 K a0 x1 x2 t) : xMet l G yX8_use k_X8_use (some .int) [.ref a0, .int x1, .int x2] t (xKi K) 0 0 := xMet.of (by decide +kernel) rfl hl (Nat.le_of_ble_eq_true rfl) (fun Γ e1 e2 ht hn hr => by subst e1; subst e2; exact S_X8_use_0 hl ht hr h)
