/-! RentStream$Repair.<init>(LRentStream$Flat;II)V -/
def V_X6_init_0 (K : xT → Prop) (a0 : Nat) (a1 : Nat) (x2 : Int32) (x3 : Int32) (t : xT) : Prop :=
  (xpF t a0 6 0 (.int (0 : Int32)) fun t_1 => (xpF t_1 a0 6 1 (.int (0 : Int32)) fun t_2 => (xpF t_2 a0 6 2 (.ref a1) fun t_3 => (xpF t_3 a0 6 3 (.int x2) fun t_4 => (xpF t_4 a0 6 4 (.int x3) fun t_5 => K t_5)))))
set_option maxRecDepth 20000 in
theorem S_X6_init_0 {Γ : xΓ} {K : xT → Prop} (hl : (gl Γ).stackTraces = false) (ht : (gM Γ).sig.returnType = none) (hr : xRet Γ (xKv K)) (hnm : (gM Γ).name = "<init>") {a0 : Nat} {a1 : Nat} {x2 : Int32} {x3 : Int32} {t : xT} {rc rs : Nat} (h : V_X6_init_0 K a0 a1 x2 x3 t) : xX Γ k_X6_init 0 [(0, .ref a0), (1, .ref a1), (2, .int x2), (3, .int x3)] [] t rc rs := by
  unfold V_X6_init_0 at h
  refine x_aload_n 0 dX6_init_0 rfl rfl ?_
  refine x_objInit dX6_init_1 (List.forall_mem_cons.mpr ⟨xw626, List.forall_mem_cons.mpr ⟨xw89, List.forall_mem_cons.mpr ⟨xw90, fun _ h => absurd h List.not_mem_nil⟩⟩⟩) (by decide) (by decide) (Nat.le_of_ble_eq_true rfl) ?_
  refine x_aload_n 0 dX6_init_4 rfl rfl ?_
  refine x_iconst (v := (0 : Int32)) dX6_init_5 (by decide) ?_
  obtain ⟨fs, hf, hk, h⟩ := h
  refine x_put (v := .int (0 : Int32)) dX6_init_6 xp_X6_9 hf rfl rfl hk ?_
  generalize hT : xup t a0 _ = t_1 at h ⊢
  clear hT
  refine x_aload_n 0 dX6_init_9 rfl rfl ?_
  refine x_iconst (v := (0 : Int32)) dX6_init_10 (by decide) ?_
  obtain ⟨fs, hf, hk, h⟩ := h
  refine x_put (v := .int (0 : Int32)) dX6_init_11 xp_X6_15 hf rfl rfl hk ?_
  generalize hT : xup t_1 a0 _ = t_2 at h ⊢
  clear hT
  refine x_aload_n 0 dX6_init_14 rfl rfl ?_
  refine x_aload_n 1 dX6_init_15 rfl rfl ?_
  obtain ⟨fs, hf, hk, h⟩ := h
  refine x_putF (v := .ref a1) dX6_init_16 xp_X6_19 hnm hf rfl rfl hk ?_
  generalize hT : xup t_2 a0 _ = t_3 at h ⊢
  clear hT
  refine x_aload_n 0 dX6_init_19 rfl rfl ?_
  refine x_iload_n 2 dX6_init_20 rfl rfl ?_
  obtain ⟨fs, hf, hk, h⟩ := h
  refine x_putF (v := .int x2) dX6_init_21 xp_X6_23 hnm hf rfl rfl hk ?_
  generalize hT : xup t_3 a0 _ = t_4 at h ⊢
  clear hT
  refine x_aload_n 0 dX6_init_24 rfl rfl ?_
  refine x_iload_n 3 dX6_init_25 rfl rfl ?_
  obtain ⟨fs, hf, hk, h⟩ := h
  refine x_putF (v := .int x3) dX6_init_26 xp_X6_26 hnm hf rfl rfl hk ?_
  generalize hT : xup t_4 a0 _ = t_5 at h ⊢
  clear hT
  exact x_vret dX6_init_29 hr ht ⟨rfl, h⟩
theorem M_X6_init {l : Launch} {G : xG} (hl : l.stackTraces = false) {a0 : Nat} {a1 : Nat} {x2 : Int32} {x3 : Int32} {t : xT} {K : xT → Prop} (h : V_X6_init_0 K a0 a1 x2 x3 t) : xMet l G yX6_init k_X6_init none [.ref a0, .ref a1, .int x2, .int x3] t (xKv K) 0 0 := xMet.of (by decide +kernel) rfl hl (Nat.le_of_ble_eq_true rfl) (fun Γ e1 e2 ht hn hr => by subst e1; subst e2; exact S_X6_init_0 hl ht hr hn h)
/-! RentStream.report(II)I -/
def V_X7_report_0 (E : Nat → Nat) (KX : String → xT → Prop) (K : Int32 → xT → Prop) (a0 : Nat) (x1 : Int32) (x2 : Int32) (t : xT) (rc rs : Nat) : Prop :=
  (xis t a0 7 ∧ ∃ m_3 z_4 : Nat, m_3 ≤ rc ∧ z_4 ≤ rs ∧ V_X7_flatAt_0 KX (fun o_2 t_1 => ((x2 < 0 → (1 ≤ (rc - m_3) ∧ 6 ≤ (rs - z_4) ∧ KX "java/lang/IllegalArgumentException" t_1)) ∧ (¬ x2 < 0 → ((x2 ≤ (2 : Int32) → xgR t_1 a0 7 2 fun a_5 => (xis t_1 a_5 10 ∧ V_Jx4a65c_size_8abf5_0 (fun x_7 t_6 => ((x_7 < (60 : Int32) → xgR t_6 a0 7 2 fun a_8 => xnw (.inr (6, [.int 0, .int 0, .null, .int 0, .int 0])) 5 t_6 (rc - m_3) (rs - z_4) fun a_9 t_10 => xgI t_10 a0 7 8 fun x_11 => xnl o_2 fun a_12 => (V_X6_init_0 (fun t_13 => (xis t_13 a_8 10 ∧ ∃ m_16 z_17 : Nat, m_16 ≤ ((rc - m_3) - 1) ∧ z_17 ≤ ((rs - z_4) - 5) ∧ V_Jx4a65c_add_9ea2d_0 E (fun x_15 t_14 => xgR t_14 a0 7 2 fun a_18 => (xis t_14 a_18 10 ∧ V_Jx4a65c_size_8abf5_0 (fun x_20 t_19 => K (x_20 - (1 : Int32)) t_19) a_18 t_14)) a_8 a_9 t_13 m_16 z_17)) a_9 a_12 x2 x_11 t_10)) ∧ (¬ x_7 < (60 : Int32) → (1 ≤ (rc - m_3) ∧ 6 ≤ (rs - z_4) ∧ KX "java/lang/IllegalStateException" t_6)))) a_5 t_1)) ∧ (¬ x2 ≤ (2 : Int32) → (1 ≤ (rc - m_3) ∧ 6 ≤ (rs - z_4) ∧ KX "java/lang/IllegalArgumentException" t_1)))))) a0 x1 t m_3 z_4)
set_option maxRecDepth 20000 in
theorem S_X7_report_0 {Γ : xΓ} {KX : String → xT → Prop} {K : Int32 → xT → Prop} (hl : (gl Γ).stackTraces = false) (ht : (gM Γ).sig.returnType = (some .int)) (hr : xRet Γ (xKi K)) (hx : xThr Γ KX) {a0 : Nat} {x1 : Int32} {x2 : Int32} {t : xT} {rc rs : Nat} (h : V_X7_report_0 (gG Γ).2.2.2 KX K a0 x1 x2 t rc rs) : xX Γ k_X7_report 0 [(0, .ref a0), (1, .int x1), (2, .int x2)] [] t rc rs := by
  unfold V_X7_report_0 at h
  refine x_aload_n 0 dX7_report_0 rfl rfl ?_
  refine x_iload_n 1 dX7_report_1 rfl rfl ?_
  obtain ⟨⟨fs, hf⟩, h⟩ := h
  obtain ⟨m_3, z_4, hm, hs, h⟩ := h
  refine x_invVX (as := [.int x1]) (rest := []) dX7_report_2 (q := (RX7, TX7, 10)) rfl xc_X7_report_82 hf (M_X7_flatAt hl h) rfl rfl (Nat.le_of_ble_eq_true rfl) hm hs (fun _ _ h => x_thrown hx h) (xk_r fun o_2 t_1 h => ?_)
  refine x_ostore_n (L' := [(3, va_rf o_2), (0, .ref a0), (1, .int x1), (2, .int x2)]) dX7_report_5 rfl (by decide) rfl ?_
  refine x_iload_n 3 dX7_report_6 rfl rfl ?_
  obtain ⟨h1, h2⟩ := h
  refine x_if_lt (tgt := 15) dX7_report_7 (by decide) (fun q => ?_) (fun q => ?_)
  · have h := h1 q
    obtain ⟨q1, q2, h⟩ := h
    exact x_throw dX7_report_15 dX7_report_18 dX7_report_19 dX7_report_21 dX7_report_24 xtw_59 (List.mem_of_getElem? (i := 11) rfl) hx (Nat.le_of_ble_eq_true rfl) (Nat.le_of_ble_eq_true rfl) (Nat.le_of_ble_eq_true rfl) q1 q2 h
  · have h := h2 q
    refine x_iload_n 3 dX7_report_10 rfl rfl ?_
    refine x_iconst (v := (2 : Int32)) dX7_report_11 (by decide) ?_
    obtain ⟨h1, h2⟩ := h
    refine x_icmp_le (tgt := 25) dX7_report_12 (by decide) (fun q => ?_) (fun q => ?_)
    · have h := h1 q
      refine x_aload_n 1 dX7_report_25 rfl rfl ?_
      obtain ⟨fs, hf, a_5, hv, h⟩ := h
      refine x_get dX7_report_26 xf_X7_19 hf hv ?_
      obtain ⟨⟨fs, hf⟩, h⟩ := h
      refine x_invV (as := []) (rest := []) dX7_report_29 (q := (RJx4a65c, TJx4a65c, 3)) rfl xc_X7_report_66 hf (M_Jx4a65c_size_8abf5 hl h) rfl rfl (Nat.le_of_ble_eq_true rfl) (Nat.zero_le _) (Nat.zero_le _) (xk_i fun x_7 t_6 h => ?_)
      refine x_bipush (v := (60 : Int32)) dX7_report_32 (by decide) ?_
      obtain ⟨h1, h2⟩ := h
      refine x_icmp_lt (tgt := 47) dX7_report_34 (by decide) (fun q => ?_) (fun q => ?_)
      · have h := h1 q
        refine x_aload_n 1 dX7_report_47 rfl rfl ?_
        obtain ⟨fs, hf, a_8, hv, h⟩ := h
        refine x_get dX7_report_48 xf_X7_19 hf hv ?_
        obtain ⟨q1, q2, h⟩ := h
        refine x_new dX7_report_51 xn_X7_141 q1 q2 (fun a_9 hq => ?_)
        replace h := h a_9 hq
        generalize hT : xup t_6 a_9 _ = t_10 at h ⊢
        clear hT
        refine x_dup dX7_report_54 rfl ?_
        refine x_oload_n 0 dX7_report_55 rfl rfl ?_
        refine x_iload_n 3 dX7_report_56 rfl rfl ?_
        refine x_aload_n 1 dX7_report_57 rfl rfl ?_
        obtain ⟨fs, hf, x_11, hv, h⟩ := h
        refine x_get dX7_report_58 xf_X7_52 hf hv ?_
        obtain ⟨a_12, e, h⟩ := h
        revert h
        subst e
        intro h
        refine x_invI (as := [.ref a_12, .int x2, .int x_11]) (rest := [.ref a_9, .ref a_8]) dX7_report_61 xc_X7_report_143 (M_X6_init hl h) rfl rfl (Nat.le_of_ble_eq_true rfl) (Nat.zero_le _) (Nat.zero_le _) (xk_v fun t_13 h => ?_)
        obtain ⟨⟨fs, hf⟩, h⟩ := h
        obtain ⟨m_16, z_17, hm, hs, h⟩ := h
        refine x_invV (as := [.ref a_9]) (rest := []) dX7_report_64 (q := (RJx4a65c, TJx4a65c, 3)) rfl xc_X7_report_78 hf (M_Jx4a65c_add_9ea2d hl h) rfl rfl (Nat.le_of_ble_eq_true rfl) hm hs (xk_i fun x_15 t_14 h => ?_)
        refine x_pop dX7_report_67 rfl ?_
        refine x_aload_n 1 dX7_report_68 rfl rfl ?_
        obtain ⟨fs, hf, a_18, hv, h⟩ := h
        refine x_get dX7_report_69 xf_X7_19 hf hv ?_
        obtain ⟨⟨fs, hf⟩, h⟩ := h
        refine x_invV (as := []) (rest := []) dX7_report_72 (q := (RJx4a65c, TJx4a65c, 3)) rfl xc_X7_report_66 hf (M_Jx4a65c_size_8abf5 hl h) rfl rfl (Nat.le_of_ble_eq_true rfl) (Nat.zero_le _) (Nat.zero_le _) (xk_i fun x_20 t_19 h => ?_)
        refine x_iconst (v := (1 : Int32)) dX7_report_75 (by decide) ?_
        refine x_isub dX7_report_76 ?_
        exact x_zret dX7_report_77 hr ht rfl ⟨_, rfl, h⟩
      · have h := h2 q
        obtain ⟨q1, q2, h⟩ := h
        exact x_throw dX7_report_37 dX7_report_40 dX7_report_41 dX7_report_43 dX7_report_46 xtw_70 (List.mem_of_getElem? (i := 12) rfl) hx (Nat.le_of_ble_eq_true rfl) (Nat.le_of_ble_eq_true rfl) (Nat.le_of_ble_eq_true rfl) q1 q2 h
    · have h := h2 q
      obtain ⟨q1, q2, h⟩ := h
      exact x_throw dX7_report_15 dX7_report_18 dX7_report_19 dX7_report_21 dX7_report_24 xtw_59 (List.mem_of_getElem? (i := 11) rfl) hx (Nat.le_of_ble_eq_true rfl) (Nat.le_of_ble_eq_true rfl) (Nat.le_of_ble_eq_true rfl) q1 q2 h
theorem M_X7_report {l : Launch} {G : xG} (hl : l.stackTraces = false) {a0 : Nat} {x1 : Int32} {x2 : Int32} {t : xT} {KX : String → xT → Prop} {K : Int32 → xT → Prop} {rc rs : Nat} (h : V_X7_report_0 G.2.2.2 KX K a0 x1 x2 t rc rs) : xMetX l G yX7_report k_X7_report (some .int) [.ref a0, .int x1, .int x2] t (xKi K) KX rc rs := xMetX.of (by decide +kernel) rfl hl (Nat.le_of_ble_eq_true rfl) (fun Γ e1 e2 ht hn hr hx => by subst e1; subst e2; exact S_X7_report_0 hl ht hr hx h)
/-! RentStream.use(II)I -/
def V_X7_use_0 (KX : String → xT → Prop) (K : Int32 → xT → Prop) (a0 : Nat) (x1 : Int32) (x2 : Int32) (t : xT) (rc rs : Nat) : Prop :=
  (xis t a0 7 ∧ ∃ m_3 z_4 : Nat, m_3 ≤ rc ∧ z_4 ≤ rs ∧ V_X7_flatAt_0 KX (fun o_2 t_1 => (xis t_1 a0 7 ∧ ∃ m_6 z_7 : Nat, m_6 ≤ (rc - m_3) ∧ z_7 ≤ (rs - z_4) ∧ V_X7_needMonth_0 KX (fun t_5 => xnl o_2 fun a_8 => xgR t_5 a_8 1 1 fun a_9 => (xis t_5 a_9 4 ∧ V_X4_in_0 (fun x_11 t_10 => K x_11 t_10) a_9 x2 t_5)) a0 x2 t_1 m_6 z_7)) a0 x1 t m_3 z_4)
set_option maxRecDepth 20000 in
theorem S_X7_use_0 {Γ : xΓ} {KX : String → xT → Prop} {K : Int32 → xT → Prop} (hl : (gl Γ).stackTraces = false) (ht : (gM Γ).sig.returnType = (some .int)) (hr : xRet Γ (xKi K)) (hx : xThr Γ KX) {a0 : Nat} {x1 : Int32} {x2 : Int32} {t : xT} {rc rs : Nat} (h : V_X7_use_0 KX K a0 x1 x2 t rc rs) : xX Γ k_X7_use 0 [(0, .ref a0), (1, .int x1), (2, .int x2)] [] t rc rs := by
  unfold V_X7_use_0 at h
  refine x_aload_n 0 dX7_use_0 rfl rfl ?_
  refine x_iload_n 1 dX7_use_1 rfl rfl ?_
  obtain ⟨⟨fs, hf⟩, h⟩ := h
  obtain ⟨m_3, z_4, hm, hs, h⟩ := h
  refine x_invVX (as := [.int x1]) (rest := []) dX7_use_2 (q := (RX7, TX7, 10)) rfl xc_X7_use_82 hf (M_X7_flatAt hl h) rfl rfl (Nat.le_of_ble_eq_true rfl) hm hs (fun _ _ h => x_thrown hx h) (xk_r fun o_2 t_1 h => ?_)
  refine x_ostore_n (L' := [(3, va_rf o_2), (0, .ref a0), (1, .int x1), (2, .int x2)]) dX7_use_5 rfl (by decide) rfl ?_
  refine x_aload_n 1 dX7_use_6 rfl rfl ?_
  refine x_iload_n 3 dX7_use_7 rfl rfl ?_
  obtain ⟨⟨fs, hf⟩, h⟩ := h
  obtain ⟨m_6, z_7, hm, hs, h⟩ := h
  refine x_invVX (as := [.int x2]) (rest := []) dX7_use_8 (q := (RX7, TX7, 10)) rfl xc_X7_use_162 hf (M_X7_needMonth hl h) rfl rfl (Nat.le_of_ble_eq_true rfl) hm hs (fun _ _ h => x_thrown hx h) (xk_v fun t_5 h => ?_)
  refine x_oload_n 0 dX7_use_11 rfl rfl ?_
  obtain ⟨a_8, e, h⟩ := h
  revert h
  subst e
  intro h
  obtain ⟨fs, hf, a_9, hv, h⟩ := h
  refine x_get dX7_use_12 xf_X7_253 hf hv ?_
  refine x_iload_n 3 dX7_use_15 rfl rfl ?_
  obtain ⟨⟨fs, hf⟩, h⟩ := h
  refine x_invV (as := [.int x2]) (rest := []) dX7_use_16 (q := (RX4, TX4, 1)) rfl xc_X7_use_114 hf (M_X4_in hl h) rfl rfl (Nat.le_of_ble_eq_true rfl) (Nat.zero_le _) (Nat.zero_le _) (xk_i fun x_11 t_10 h => ?_)
  exact x_zret dX7_use_19 hr ht rfl ⟨_, rfl, h⟩
theorem M_X7_use {l : Launch} {G : xG} (hl : l.stackTraces = false) {a0 : Nat} {x1 : Int32} {x2 : Int32} {t : xT} {KX : String → xT → Prop} {K : Int32 → xT → Prop} {rc rs : Nat} (h : V_X7_use_0 KX K a0 x1 x2 t rc rs) : xMetX l G yX7_use k_X7_use (some .int) [.ref a0, .int x1, .int x2] t (xKi K) KX rc rs := xMetX.of (by decide +kernel) rfl hl (Nat.le_of_ble_eq_true rfl) (fun Γ e1 e2 ht hn hr hx => by subst e1; subst e2; exact S_X7_use_0 hl ht hr hx h)
/-! RentStreamModel.<init>()V -/
def VS_X8_init_315 (R315 : Nat → Int32 → xT → Nat → Nat → Prop) (K : xT → Prop) (a0 : Nat) (x1 : Int32) (t : xT) (rc rs : Nat) : Prop :=
  (((968 : Int32) ≤ x1 → K t) ∧ (¬ (968 : Int32) ≤ x1 → xgR t a0 8 9 fun a_1 => xsI 0 t a_1 x1 (-1 : Int32) fun t_2 => R315 a0 (x1 + 1) t_2 rc rs))
def V_X8_init_315 (K : xT → Prop) (n : Nat) : Nat → Int32 → xT → Nat → Nat → Prop := Nat.rec (fun _ _ _ _ _ => False) (fun _ ih => VS_X8_init_315 ih K) n
set_option maxRecDepth 20000 in
theorem S_X8_init_315 {Γ : xΓ} {K : xT → Prop} (hl : (gl Γ).stackTraces = false) (ht : (gM Γ).sig.returnType = none) (hr : xRet Γ (xKv K)) (hnm : (gM Γ).name = "<init>") : ∀ (n : Nat) (a0 : Nat) (x1 : Int32) (t : xT) (rc rs : Nat), V_X8_init_315 K n a0 x1 t rc rs → xX Γ k_X8_init 315 [(0, .ref a0), (1, .int x1)] [] t rc rs := by
  intro n
  induction n with
  | zero =>
    intro a0 x1 t rc rs h
    exact h.elim
  | succ n ih =>
    intro a0 x1 t rc rs h
    replace h : VS_X8_init_315 (V_X8_init_315 K n) K a0 x1 t rc rs := h
    unfold VS_X8_init_315 at h
    refine x_iload_n 1 dX8_init_315 rfl rfl ?_
    refine x_sipush (v := (968 : Int32)) dX8_init_316 (by decide) ?_
    obtain ⟨h1, h2⟩ := h
    refine x_icmp_ge (tgt := 335) dX8_init_319 (by decide) (fun q => ?_) (fun q => ?_)
    · have h := h1 q
      exact x_vret dX8_init_335 hr ht ⟨rfl, h⟩
    · have h := h2 q
      refine x_aload_n 0 dX8_init_322 rfl rfl ?_
      obtain ⟨fs, hf, a_1, hv, h⟩ := h
      refine x_get dX8_init_323 xf_X8_28 hf hv ?_
      refine x_iload_n 1 dX8_init_326 rfl rfl ?_
      refine x_iconst (v := (-1 : Int32)) dX8_init_327 (by decide) ?_
      obtain ⟨n, f, hf, hi, h⟩ := h
      refine x_iast dX8_init_328 hf hi ?_
      generalize hT : xup t a_1 _ = t_2 at h ⊢
      clear hT
      refine x_iinc (v := (x1 + 1)) (L' := [(1, .int (x1 + 1)), (0, .ref a0)]) (j := 1) dX8_init_329 rfl rfl (by decide) rfl ?_
      refine x_goto (tgt := 315) dX8_init_332 (by decide) ?_
      refine x_sub (L' := [(0, .ref a0), (1, .int (x1 + 1))]) [1, 0] rfl ?_
      exact ih a0 (x1 + 1) t_2 rc rs h
def VS_X8_init_293 (R293 : Nat → Int32 → xT → Nat → Nat → Prop) (K : xT → Prop) (a0 : Nat) (x1 : Int32) (t : xT) (rc rs : Nat) : Prop :=
  (((1452 : Int32) ≤ x1 → ∃ f_1 : Nat, V_X8_init_315 K f_1 a0 (0 : Int32) t rc rs) ∧ (¬ (1452 : Int32) ≤ x1 → xgR t a0 8 25 fun a_2 => xsI 0 t a_2 x1 (-1 : Int32) fun t_3 => R293 a0 (x1 + 1) t_3 rc rs))
def V_X8_init_293 (K : xT → Prop) (n : Nat) : Nat → Int32 → xT → Nat → Nat → Prop := Nat.rec (fun _ _ _ _ _ => False) (fun _ ih => VS_X8_init_293 ih K) n
set_option maxRecDepth 20000 in
theorem S_X8_init_293 {Γ : xΓ} {K : xT → Prop} (hl : (gl Γ).stackTraces = false) (ht : (gM Γ).sig.returnType = none) (hr : xRet Γ (xKv K)) (hnm : (gM Γ).name = "<init>") : ∀ (n : Nat) (a0 : Nat) (x1 : Int32) (t : xT) (rc rs : Nat), V_X8_init_293 K n a0 x1 t rc rs → xX Γ k_X8_init 293 [(0, .ref a0), (1, .int x1)] [] t rc rs := by
  intro n
  induction n with
  | zero =>
    intro a0 x1 t rc rs h
    exact h.elim
  | succ n ih =>
    intro a0 x1 t rc rs h
    replace h : VS_X8_init_293 (V_X8_init_293 K n) K a0 x1 t rc rs := h
    unfold VS_X8_init_293 at h
    refine x_iload_n 1 dX8_init_293 rfl rfl ?_
    refine x_sipush (v := (1452 : Int32)) dX8_init_294 (by decide) ?_
    obtain ⟨h1, h2⟩ := h
    refine x_icmp_ge (tgt := 313) dX8_init_297 (by decide) (fun q => ?_) (fun q => ?_)
    · have h := h1 q
      refine x_iconst (v := (0 : Int32)) dX8_init_313 (by decide) ?_
      refine x_istore_n (L' := [(1, .int (0 : Int32)), (0, .ref a0)]) dX8_init_314 rfl (by decide) rfl ?_
      obtain ⟨f_1, h⟩ := h
      refine x_sub (L' := [(0, .ref a0), (1, .int (0 : Int32))]) [1, 0] rfl ?_
      exact S_X8_init_315 hl ht hr hnm  f_1 a0 (0 : Int32) t rc rs h
    · have h := h2 q
      refine x_aload_n 0 dX8_init_300 rfl rfl ?_
      obtain ⟨fs, hf, a_2, hv, h⟩ := h
      refine x_get dX8_init_301 xf_X8_69 hf hv ?_
      refine x_iload_n 1 dX8_init_304 rfl rfl ?_
      refine x_iconst (v := (-1 : Int32)) dX8_init_305 (by decide) ?_
      obtain ⟨n, f, hf, hi, h⟩ := h
      refine x_iast dX8_init_306 hf hi ?_
      generalize hT : xup t a_2 _ = t_3 at h ⊢
      clear hT
      refine x_iinc (v := (x1 + 1)) (L' := [(1, .int (x1 + 1)), (0, .ref a0)]) (j := 1) dX8_init_307 rfl rfl (by decide) rfl ?_
      refine x_goto (tgt := 293) dX8_init_310 (by decide) ?_
      refine x_sub (L' := [(0, .ref a0), (1, .int (x1 + 1))]) [1, 0] rfl ?_
      exact ih a0 (x1 + 1) t_3 rc rs h
def V_X8_init_0 (K : xT → Prop) (a0 : Nat) (t : xT) (rc rs : Nat) : Prop :=
  xnA 0 (.inl (fun _ => 0)) (8 : Int32) t rc rs fun a_1 t_2 => (xpF t_2 a0 8 3 (.ref a_1) fun t_3 => xnA 0 (.inl (fun _ => 0)) (8 : Int32) t_3 (rc - 1) (rs - (8 : Int32).toNatClampNeg) fun a_4 t_5 => (xpF t_5 a0 8 4 (.ref a_4) fun t_6 => xnA 0 (.inl (fun _ => 0)) (8 : Int32) t_6 ((rc - 1) - 1) ((rs - (8 : Int32).toNatClampNeg) - (8 : Int32).toNatClampNeg) fun a_7 t_8 => (xpF t_8 a0 8 5 (.ref a_7) fun t_9 => xnA 0 (.inl (fun _ => 0)) (8 : Int32) t_9 (((rc - 1) - 1) - 1) (((rs - (8 : Int32).toNatClampNeg) - (8 : Int32).toNatClampNeg) - (8 : Int32).toNatClampNeg) fun a_10 t_11 => (xpF t_11 a0 8 6 (.ref a_10) fun t_12 => xnA 0 (.inl (fun _ => 0)) (8 : Int32) t_12 ((((rc - 1) - 1) - 1) - 1) ((((rs - (8 : Int32).toNatClampNeg) - (8 : Int32).toNatClampNeg) - (8 : Int32).toNatClampNeg) - (8 : Int32).toNatClampNeg) fun a_13 t_14 => (xpF t_14 a0 8 7 (.ref a_13) fun t_15 => xnA 0 (.inl (fun _ => 0)) (8 : Int32) t_15 (((((rc - 1) - 1) - 1) - 1) - 1) (((((rs - (8 : Int32).toNatClampNeg) - (8 : Int32).toNatClampNeg) - (8 : Int32).toNatClampNeg) - (8 : Int32).toNatClampNeg) - (8 : Int32).toNatClampNeg) fun a_16 t_17 => (xpF t_17 a0 8 8 (.ref a_16) fun t_18 => xnA 0 (.inl (fun _ => 0)) (968 : Int32) t_18 ((((((rc - 1) - 1) - 1) - 1) - 1) - 1) ((((((rs - (8 : Int32).toNatClampNeg) - (8 : Int32).toNatClampNeg) - (8 : Int32).toNatClampNeg) - (8 : Int32).toNatClampNeg) - (8 : Int32).toNatClampNeg) - (8 : Int32).toNatClampNeg) fun a_19 t_20 => (xpF t_20 a0 8 9 (.ref a_19) fun t_21 => xnA 0 (.inl (fun _ => 0)) (122 : Int32) t_21 (((((((rc - 1) - 1) - 1) - 1) - 1) - 1) - 1) (((((((rs - (8 : Int32).toNatClampNeg) - (8 : Int32).toNatClampNeg) - (8 : Int32).toNatClampNeg) - (8 : Int32).toNatClampNeg) - (8 : Int32).toNatClampNeg) - (8 : Int32).toNatClampNeg) - (968 : Int32).toNatClampNeg) fun a_22 t_23 => (xpF t_23 a0 8 10 (.ref a_22) fun t_24 => xnA 0 (.inl (fun _ => 0)) (60 : Int32) t_24 ((((((((rc - 1) - 1) - 1) - 1) - 1) - 1) - 1) - 1) ((((((((rs - (8 : Int32).toNatClampNeg) - (8 : Int32).toNatClampNeg) - (8 : Int32).toNatClampNeg) - (8 : Int32).toNatClampNeg) - (8 : Int32).toNatClampNeg) - (8 : Int32).toNatClampNeg) - (968 : Int32).toNatClampNeg) - (122 : Int32).toNatClampNeg) fun a_25 t_26 => (xpF t_26 a0 8 13 (.ref a_25) fun t_27 => xnA 0 (.inl (fun _ => 0)) (60 : Int32) t_27 (((((((((rc - 1) - 1) - 1) - 1) - 1) - 1) - 1) - 1) - 1) (((((((((rs - (8 : Int32).toNatClampNeg) - (8 : Int32).toNatClampNeg) - (8 : Int32).toNatClampNeg) - (8 : Int32).toNatClampNeg) - (8 : Int32).toNatClampNeg) - (8 : Int32).toNatClampNeg) - (968 : Int32).toNatClampNeg) - (122 : Int32).toNatClampNeg) - (60 : Int32).toNatClampNeg) fun a_28 t_29 => (xpF t_29 a0 8 14 (.ref a_28) fun t_30 => xnA 0 (.inl (fun _ => 0)) (60 : Int32) t_30 ((((((((((rc - 1) - 1) - 1) - 1) - 1) - 1) - 1) - 1) - 1) - 1) ((((((((((rs - (8 : Int32).toNatClampNeg) - (8 : Int32).toNatClampNeg) - (8 : Int32).toNatClampNeg) - (8 : Int32).toNatClampNeg) - (8 : Int32).toNatClampNeg) - (8 : Int32).toNatClampNeg) - (968 : Int32).toNatClampNeg) - (122 : Int32).toNatClampNeg) - (60 : Int32).toNatClampNeg) - (60 : Int32).toNatClampNeg) fun a_31 t_32 => (xpF t_32 a0 8 15 (.ref a_31) fun t_33 => xnA 0 (.inl (fun _ => 0)) (60 : Int32) t_33 (((((((((((rc - 1) - 1) - 1) - 1) - 1) - 1) - 1) - 1) - 1) - 1) - 1) (((((((((((rs - (8 : Int32).toNatClampNeg) - (8 : Int32).toNatClampNeg) - (8 : Int32).toNatClampNeg) - (8 : Int32).toNatClampNeg) - (8 : Int32).toNatClampNeg) - (8 : Int32).toNatClampNeg) - (968 : Int32).toNatClampNeg) - (122 : Int32).toNatClampNeg) - (60 : Int32).toNatClampNeg) - (60 : Int32).toNatClampNeg) - (60 : Int32).toNatClampNeg) fun a_34 t_35 => (xpF t_35 a0 8 16 (.ref a_34) fun t_36 => xnA 2 (.inl (fun _ => 0)) (60 : Int32) t_36 ((((((((((((rc - 1) - 1) - 1) - 1) - 1) - 1) - 1) - 1) - 1) - 1) - 1) - 1) ((((((((((((rs - (8 : Int32).toNatClampNeg) - (8 : Int32).toNatClampNeg) - (8 : Int32).toNatClampNeg) - (8 : Int32).toNatClampNeg) - (8 : Int32).toNatClampNeg) - (8 : Int32).toNatClampNeg) - (968 : Int32).toNatClampNeg) - (122 : Int32).toNatClampNeg) - (60 : Int32).toNatClampNeg) - (60 : Int32).toNatClampNeg) - (60 : Int32).toNatClampNeg) - (60 : Int32).toNatClampNeg) fun a_37 t_38 => (xpF t_38 a0 8 17 (.ref a_37) fun t_39 => xnA 0 (.inl (fun _ => 0)) (12 : Int32) t_39 (((((((((((((rc - 1) - 1) - 1) - 1) - 1) - 1) - 1) - 1) - 1) - 1) - 1) - 1) - 1) (((((((((((((rs - (8 : Int32).toNatClampNeg) - (8 : Int32).toNatClampNeg) - (8 : Int32).toNatClampNeg) - (8 : Int32).toNatClampNeg) - (8 : Int32).toNatClampNeg) - (8 : Int32).toNatClampNeg) - (968 : Int32).toNatClampNeg) - (122 : Int32).toNatClampNeg) - (60 : Int32).toNatClampNeg) - (60 : Int32).toNatClampNeg) - (60 : Int32).toNatClampNeg) - (60 : Int32).toNatClampNeg) - (60 : Int32).toNatClampNeg) fun a_40 t_41 => (xpF t_41 a0 8 19 (.ref a_40) fun t_42 => xnA 0 (.inl (fun _ => 0)) (12 : Int32) t_42 ((((((((((((((rc - 1) - 1) - 1) - 1) - 1) - 1) - 1) - 1) - 1) - 1) - 1) - 1) - 1) - 1) ((((((((((((((rs - (8 : Int32).toNatClampNeg) - (8 : Int32).toNatClampNeg) - (8 : Int32).toNatClampNeg) - (8 : Int32).toNatClampNeg) - (8 : Int32).toNatClampNeg) - (8 : Int32).toNatClampNeg) - (968 : Int32).toNatClampNeg) - (122 : Int32).toNatClampNeg) - (60 : Int32).toNatClampNeg) - (60 : Int32).toNatClampNeg) - (60 : Int32).toNatClampNeg) - (60 : Int32).toNatClampNeg) - (60 : Int32).toNatClampNeg) - (12 : Int32).toNatClampNeg) fun a_43 t_44 => (xpF t_44 a0 8 20 (.ref a_43) fun t_45 => xnA 0 (.inl (fun _ => 0)) (12 : Int32) t_45 (((((((((((((((rc - 1) - 1) - 1) - 1) - 1) - 1) - 1) - 1) - 1) - 1) - 1) - 1) - 1) - 1) - 1) (((((((((((((((rs - (8 : Int32).toNatClampNeg) - (8 : Int32).toNatClampNeg) - (8 : Int32).toNatClampNeg) - (8 : Int32).toNatClampNeg) - (8 : Int32).toNatClampNeg) - (8 : Int32).toNatClampNeg) - (968 : Int32).toNatClampNeg) - (122 : Int32).toNatClampNeg) - (60 : Int32).toNatClampNeg) - (60 : Int32).toNatClampNeg) - (60 : Int32).toNatClampNeg) - (60 : Int32).toNatClampNeg) - (60 : Int32).toNatClampNeg) - (12 : Int32).toNatClampNeg) - (12 : Int32).toNatClampNeg) fun a_46 t_47 => (xpF t_47 a0 8 21 (.ref a_46) fun t_48 => xnA 0 (.inl (fun _ => 0)) (12 : Int32) t_48 ((((((((((((((((rc - 1) - 1) - 1) - 1) - 1) - 1) - 1) - 1) - 1) - 1) - 1) - 1) - 1) - 1) - 1) - 1) ((((((((((((((((rs - (8 : Int32).toNatClampNeg) - (8 : Int32).toNatClampNeg) - (8 : Int32).toNatClampNeg) - (8 : Int32).toNatClampNeg) - (8 : Int32).toNatClampNeg) - (8 : Int32).toNatClampNeg) - (968 : Int32).toNatClampNeg) - (122 : Int32).toNatClampNeg) - (60 : Int32).toNatClampNeg) - (60 : Int32).toNatClampNeg) - (60 : Int32).toNatClampNeg) - (60 : Int32).toNatClampNeg) - (60 : Int32).toNatClampNeg) - (12 : Int32).toNatClampNeg) - (12 : Int32).toNatClampNeg) - (12 : Int32).toNatClampNeg) fun a_49 t_50 => (xpF t_50 a0 8 22 (.ref a_49) fun t_51 => xnA 1 (.inr (.inl (fun _ => 0))) (12 : Int32) t_51 (((((((((((((((((rc - 1) - 1) - 1) - 1) - 1) - 1) - 1) - 1) - 1) - 1) - 1) - 1) - 1) - 1) - 1) - 1) - 1) (((((((((((((((((rs - (8 : Int32).toNatClampNeg) - (8 : Int32).toNatClampNeg) - (8 : Int32).toNatClampNeg) - (8 : Int32).toNatClampNeg) - (8 : Int32).toNatClampNeg) - (8 : Int32).toNatClampNeg) - (968 : Int32).toNatClampNeg) - (122 : Int32).toNatClampNeg) - (60 : Int32).toNatClampNeg) - (60 : Int32).toNatClampNeg) - (60 : Int32).toNatClampNeg) - (60 : Int32).toNatClampNeg) - (60 : Int32).toNatClampNeg) - (12 : Int32).toNatClampNeg) - (12 : Int32).toNatClampNeg) - (12 : Int32).toNatClampNeg) - (12 : Int32).toNatClampNeg) fun a_52 t_53 => (xpF t_53 a0 8 23 (.ref a_52) fun t_54 => xnA 1 (.inr (.inl (fun _ => 0))) (12 : Int32) t_54 ((((((((((((((((((rc - 1) - 1) - 1) - 1) - 1) - 1) - 1) - 1) - 1) - 1) - 1) - 1) - 1) - 1) - 1) - 1) - 1) - 1) ((((((((((((((((((rs - (8 : Int32).toNatClampNeg) - (8 : Int32).toNatClampNeg) - (8 : Int32).toNatClampNeg) - (8 : Int32).toNatClampNeg) - (8 : Int32).toNatClampNeg) - (8 : Int32).toNatClampNeg) - (968 : Int32).toNatClampNeg) - (122 : Int32).toNatClampNeg) - (60 : Int32).toNatClampNeg) - (60 : Int32).toNatClampNeg) - (60 : Int32).toNatClampNeg) - (60 : Int32).toNatClampNeg) - (60 : Int32).toNatClampNeg) - (12 : Int32).toNatClampNeg) - (12 : Int32).toNatClampNeg) - (12 : Int32).toNatClampNeg) - (12 : Int32).toNatClampNeg) - (12 : Int32).toNatClampNeg) fun a_55 t_56 => (xpF t_56 a0 8 24 (.ref a_55) fun t_57 => xnA 0 (.inl (fun _ => 0)) (1452 : Int32) t_57 (((((((((((((((((((rc - 1) - 1) - 1) - 1) - 1) - 1) - 1) - 1) - 1) - 1) - 1) - 1) - 1) - 1) - 1) - 1) - 1) - 1) - 1) (((((((((((((((((((rs - (8 : Int32).toNatClampNeg) - (8 : Int32).toNatClampNeg) - (8 : Int32).toNatClampNeg) - (8 : Int32).toNatClampNeg) - (8 : Int32).toNatClampNeg) - (8 : Int32).toNatClampNeg) - (968 : Int32).toNatClampNeg) - (122 : Int32).toNatClampNeg) - (60 : Int32).toNatClampNeg) - (60 : Int32).toNatClampNeg) - (60 : Int32).toNatClampNeg) - (60 : Int32).toNatClampNeg) - (60 : Int32).toNatClampNeg) - (12 : Int32).toNatClampNeg) - (12 : Int32).toNatClampNeg) - (12 : Int32).toNatClampNeg) - (12 : Int32).toNatClampNeg) - (12 : Int32).toNatClampNeg) - (12 : Int32).toNatClampNeg) fun a_58 t_59 => (xpF t_59 a0 8 25 (.ref a_58) fun t_60 => xnA 2 (.inl (fun _ => 0)) (1452 : Int32) t_60 ((((((((((((((((((((rc - 1) - 1) - 1) - 1) - 1) - 1) - 1) - 1) - 1) - 1) - 1) - 1) - 1) - 1) - 1) - 1) - 1) - 1) - 1) - 1) ((((((((((((((((((((rs - (8 : Int32).toNatClampNeg) - (8 : Int32).toNatClampNeg) - (8 : Int32).toNatClampNeg) - (8 : Int32).toNatClampNeg) - (8 : Int32).toNatClampNeg) - (8 : Int32).toNatClampNeg) - (968 : Int32).toNatClampNeg) - (122 : Int32).toNatClampNeg) - (60 : Int32).toNatClampNeg) - (60 : Int32).toNatClampNeg) - (60 : Int32).toNatClampNeg) - (60 : Int32).toNatClampNeg) - (60 : Int32).toNatClampNeg) - (12 : Int32).toNatClampNeg) - (12 : Int32).toNatClampNeg) - (12 : Int32).toNatClampNeg) - (12 : Int32).toNatClampNeg) - (12 : Int32).toNatClampNeg) - (12 : Int32).toNatClampNeg) - (1452 : Int32).toNatClampNeg) fun a_61 t_62 => (xpF t_62 a0 8 26 (.ref a_61) fun t_63 => xnA 0 (.inl (fun _ => 0)) (1452 : Int32) t_63 (((((((((((((((((((((rc - 1) - 1) - 1) - 1) - 1) - 1) - 1) - 1) - 1) - 1) - 1) - 1) - 1) - 1) - 1) - 1) - 1) - 1) - 1) - 1) - 1) (((((((((((((((((((((rs - (8 : Int32).toNatClampNeg) - (8 : Int32).toNatClampNeg) - (8 : Int32).toNatClampNeg) - (8 : Int32).toNatClampNeg) - (8 : Int32).toNatClampNeg) - (8 : Int32).toNatClampNeg) - (968 : Int32).toNatClampNeg) - (122 : Int32).toNatClampNeg) - (60 : Int32).toNatClampNeg) - (60 : Int32).toNatClampNeg) - (60 : Int32).toNatClampNeg) - (60 : Int32).toNatClampNeg) - (60 : Int32).toNatClampNeg) - (12 : Int32).toNatClampNeg) - (12 : Int32).toNatClampNeg) - (12 : Int32).toNatClampNeg) - (12 : Int32).toNatClampNeg) - (12 : Int32).toNatClampNeg) - (12 : Int32).toNatClampNeg) - (1452 : Int32).toNatClampNeg) - (1452 : Int32).toNatClampNeg) fun a_64 t_65 => (xpF t_65 a0 8 27 (.ref a_64) fun t_66 => xnA 0 (.inl (fun _ => 0)) (1452 : Int32) t_66 ((((((((((((((((((((((rc - 1) - 1) - 1) - 1) - 1) - 1) - 1) - 1) - 1) - 1) - 1) - 1) - 1) - 1) - 1) - 1) - 1) - 1) - 1) - 1) - 1) - 1) ((((((((((((((((((((((rs - (8 : Int32).toNatClampNeg) - (8 : Int32).toNatClampNeg) - (8 : Int32).toNatClampNeg) - (8 : Int32).toNatClampNeg) - (8 : Int32).toNatClampNeg) - (8 : Int32).toNatClampNeg) - (968 : Int32).toNatClampNeg) - (122 : Int32).toNatClampNeg) - (60 : Int32).toNatClampNeg) - (60 : Int32).toNatClampNeg) - (60 : Int32).toNatClampNeg) - (60 : Int32).toNatClampNeg) - (60 : Int32).toNatClampNeg) - (12 : Int32).toNatClampNeg) - (12 : Int32).toNatClampNeg) - (12 : Int32).toNatClampNeg) - (12 : Int32).toNatClampNeg) - (12 : Int32).toNatClampNeg) - (12 : Int32).toNatClampNeg) - (1452 : Int32).toNatClampNeg) - (1452 : Int32).toNatClampNeg) - (1452 : Int32).toNatClampNeg) fun a_67 t_68 => (xpF t_68 a0 8 28 (.ref a_67) fun t_69 => xnA 0 (.inl (fun _ => 0)) (1452 : Int32) t_69 (((((((((((((((((((((((rc - 1) - 1) - 1) - 1) - 1) - 1) - 1) - 1) - 1) - 1) - 1) - 1) - 1) - 1) - 1) - 1) - 1) - 1) - 1) - 1) - 1) - 1) - 1) (((((((((((((((((((((((rs - (8 : Int32).toNatClampNeg) - (8 : Int32).toNatClampNeg) - (8 : Int32).toNatClampNeg) - (8 : Int32).toNatClampNeg) - (8 : Int32).toNatClampNeg) - (8 : Int32).toNatClampNeg) - (968 : Int32).toNatClampNeg) - (122 : Int32).toNatClampNeg) - (60 : Int32).toNatClampNeg) - (60 : Int32).toNatClampNeg) - (60 : Int32).toNatClampNeg) - (60 : Int32).toNatClampNeg) - (60 : Int32).toNatClampNeg) - (12 : Int32).toNatClampNeg) - (12 : Int32).toNatClampNeg) - (12 : Int32).toNatClampNeg) - (12 : Int32).toNatClampNeg) - (12 : Int32).toNatClampNeg) - (12 : Int32).toNatClampNeg) - (1452 : Int32).toNatClampNeg) - (1452 : Int32).toNatClampNeg) - (1452 : Int32).toNatClampNeg) - (1452 : Int32).toNatClampNeg) fun a_70 t_71 => (xpF t_71 a0 8 29 (.ref a_70) fun t_72 => xnA 0 (.inl (fun _ => 0)) (1452 : Int32) t_72 ((((((((((((((((((((((((rc - 1) - 1) - 1) - 1) - 1) - 1) - 1) - 1) - 1) - 1) - 1) - 1) - 1) - 1) - 1) - 1) - 1) - 1) - 1) - 1) - 1) - 1) - 1) - 1) ((((((((((((((((((((((((rs - (8 : Int32).toNatClampNeg) - (8 : Int32).toNatClampNeg) - (8 : Int32).toNatClampNeg) - (8 : Int32).toNatClampNeg) - (8 : Int32).toNatClampNeg) - (8 : Int32).toNatClampNeg) - (968 : Int32).toNatClampNeg) - (122 : Int32).toNatClampNeg) - (60 : Int32).toNatClampNeg) - (60 : Int32).toNatClampNeg) - (60 : Int32).toNatClampNeg) - (60 : Int32).toNatClampNeg) - (60 : Int32).toNatClampNeg) - (12 : Int32).toNatClampNeg) - (12 : Int32).toNatClampNeg) - (12 : Int32).toNatClampNeg) - (12 : Int32).toNatClampNeg) - (12 : Int32).toNatClampNeg) - (12 : Int32).toNatClampNeg) - (1452 : Int32).toNatClampNeg) - (1452 : Int32).toNatClampNeg) - (1452 : Int32).toNatClampNeg) - (1452 : Int32).toNatClampNeg) - (1452 : Int32).toNatClampNeg) fun a_73 t_74 => (xpF t_74 a0 8 30 (.ref a_73) fun t_75 => xnA 0 (.inl (fun _ => 0)) (12 : Int32) t_75 (((((((((((((((((((((((((rc - 1) - 1) - 1) - 1) - 1) - 1) - 1) - 1) - 1) - 1) - 1) - 1) - 1) - 1) - 1) - 1) - 1) - 1) - 1) - 1) - 1) - 1) - 1) - 1) - 1) (((((((((((((((((((((((((rs - (8 : Int32).toNatClampNeg) - (8 : Int32).toNatClampNeg) - (8 : Int32).toNatClampNeg) - (8 : Int32).toNatClampNeg) - (8 : Int32).toNatClampNeg) - (8 : Int32).toNatClampNeg) - (968 : Int32).toNatClampNeg) - (122 : Int32).toNatClampNeg) - (60 : Int32).toNatClampNeg) - (60 : Int32).toNatClampNeg) - (60 : Int32).toNatClampNeg) - (60 : Int32).toNatClampNeg) - (60 : Int32).toNatClampNeg) - (12 : Int32).toNatClampNeg) - (12 : Int32).toNatClampNeg) - (12 : Int32).toNatClampNeg) - (12 : Int32).toNatClampNeg) - (12 : Int32).toNatClampNeg) - (12 : Int32).toNatClampNeg) - (1452 : Int32).toNatClampNeg) - (1452 : Int32).toNatClampNeg) - (1452 : Int32).toNatClampNeg) - (1452 : Int32).toNatClampNeg) - (1452 : Int32).toNatClampNeg) - (1452 : Int32).toNatClampNeg) fun a_76 t_77 => (xpF t_77 a0 8 31 (.ref a_76) fun t_78 => xnA 1 (.inr (.inl (fun _ => 0))) (12 : Int32) t_78 ((((((((((((((((((((((((((rc - 1) - 1) - 1) - 1) - 1) - 1) - 1) - 1) - 1) - 1) - 1) - 1) - 1) - 1) - 1) - 1) - 1) - 1) - 1) - 1) - 1) - 1) - 1) - 1) - 1) - 1) ((((((((((((((((((((((((((rs - (8 : Int32).toNatClampNeg) - (8 : Int32).toNatClampNeg) - (8 : Int32).toNatClampNeg) - (8 : Int32).toNatClampNeg) - (8 : Int32).toNatClampNeg) - (8 : Int32).toNatClampNeg) - (968 : Int32).toNatClampNeg) - (122 : Int32).toNatClampNeg) - (60 : Int32).toNatClampNeg) - (60 : Int32).toNatClampNeg) - (60 : Int32).toNatClampNeg) - (60 : Int32).toNatClampNeg) - (60 : Int32).toNatClampNeg) - (12 : Int32).toNatClampNeg) - (12 : Int32).toNatClampNeg) - (12 : Int32).toNatClampNeg) - (12 : Int32).toNatClampNeg) - (12 : Int32).toNatClampNeg) - (12 : Int32).toNatClampNeg) - (1452 : Int32).toNatClampNeg) - (1452 : Int32).toNatClampNeg) - (1452 : Int32).toNatClampNeg) - (1452 : Int32).toNatClampNeg) - (1452 : Int32).toNatClampNeg) - (1452 : Int32).toNatClampNeg) - (12 : Int32).toNatClampNeg) fun a_79 t_80 => (xpF t_80 a0 8 32 (.ref a_79) fun t_81 => xnA 1 (.inr (.inl (fun _ => 0))) (12 : Int32) t_81 (((((((((((((((((((((((((((rc - 1) - 1) - 1) - 1) - 1) - 1) - 1) - 1) - 1) - 1) - 1) - 1) - 1) - 1) - 1) - 1) - 1) - 1) - 1) - 1) - 1) - 1) - 1) - 1) - 1) - 1) - 1) (((((((((((((((((((((((((((rs - (8 : Int32).toNatClampNeg) - (8 : Int32).toNatClampNeg) - (8 : Int32).toNatClampNeg) - (8 : Int32).toNatClampNeg) - (8 : Int32).toNatClampNeg) - (8 : Int32).toNatClampNeg) - (968 : Int32).toNatClampNeg) - (122 : Int32).toNatClampNeg) - (60 : Int32).toNatClampNeg) - (60 : Int32).toNatClampNeg) - (60 : Int32).toNatClampNeg) - (60 : Int32).toNatClampNeg) - (60 : Int32).toNatClampNeg) - (12 : Int32).toNatClampNeg) - (12 : Int32).toNatClampNeg) - (12 : Int32).toNatClampNeg) - (12 : Int32).toNatClampNeg) - (12 : Int32).toNatClampNeg) - (12 : Int32).toNatClampNeg) - (1452 : Int32).toNatClampNeg) - (1452 : Int32).toNatClampNeg) - (1452 : Int32).toNatClampNeg) - (1452 : Int32).toNatClampNeg) - (1452 : Int32).toNatClampNeg) - (1452 : Int32).toNatClampNeg) - (12 : Int32).toNatClampNeg) - (12 : Int32).toNatClampNeg) fun a_82 t_83 => (xpF t_83 a0 8 33 (.ref a_82) fun t_84 => xnA 0 (.inl (fun _ => 0)) (12 : Int32) t_84 ((((((((((((((((((((((((((((rc - 1) - 1) - 1) - 1) - 1) - 1) - 1) - 1) - 1) - 1) - 1) - 1) - 1) - 1) - 1) - 1) - 1) - 1) - 1) - 1) - 1) - 1) - 1) - 1) - 1) - 1) - 1) - 1) ((((((((((((((((((((((((((((rs - (8 : Int32).toNatClampNeg) - (8 : Int32).toNatClampNeg) - (8 : Int32).toNatClampNeg) - (8 : Int32).toNatClampNeg) - (8 : Int32).toNatClampNeg) - (8 : Int32).toNatClampNeg) - (968 : Int32).toNatClampNeg) - (122 : Int32).toNatClampNeg) - (60 : Int32).toNatClampNeg) - (60 : Int32).toNatClampNeg) - (60 : Int32).toNatClampNeg) - (60 : Int32).toNatClampNeg) - (60 : Int32).toNatClampNeg) - (12 : Int32).toNatClampNeg) - (12 : Int32).toNatClampNeg) - (12 : Int32).toNatClampNeg) - (12 : Int32).toNatClampNeg) - (12 : Int32).toNatClampNeg) - (12 : Int32).toNatClampNeg) - (1452 : Int32).toNatClampNeg) - (1452 : Int32).toNatClampNeg) - (1452 : Int32).toNatClampNeg) - (1452 : Int32).toNatClampNeg) - (1452 : Int32).toNatClampNeg) - (1452 : Int32).toNatClampNeg) - (12 : Int32).toNatClampNeg) - (12 : Int32).toNatClampNeg) - (12 : Int32).toNatClampNeg) fun a_85 t_86 => (xpF t_86 a0 8 34 (.ref a_85) fun t_87 => xnA 1 (.inr (.inl (fun _ => 0))) (12 : Int32) t_87 (((((((((((((((((((((((((((((rc - 1) - 1) - 1) - 1) - 1) - 1) - 1) - 1) - 1) - 1) - 1) - 1) - 1) - 1) - 1) - 1) - 1) - 1) - 1) - 1) - 1) - 1) - 1) - 1) - 1) - 1) - 1) - 1) - 1) (((((((((((((((((((((((((((((rs - (8 : Int32).toNatClampNeg) - (8 : Int32).toNatClampNeg) - (8 : Int32).toNatClampNeg) - (8 : Int32).toNatClampNeg) - (8 : Int32).toNatClampNeg) - (8 : Int32).toNatClampNeg) - (968 : Int32).toNatClampNeg) - (122 : Int32).toNatClampNeg) - (60 : Int32).toNatClampNeg) - (60 : Int32).toNatClampNeg) - (60 : Int32).toNatClampNeg) - (60 : Int32).toNatClampNeg) - (60 : Int32).toNatClampNeg) - (12 : Int32).toNatClampNeg) - (12 : Int32).toNatClampNeg) - (12 : Int32).toNatClampNeg) - (12 : Int32).toNatClampNeg) - (12 : Int32).toNatClampNeg) - (12 : Int32).toNatClampNeg) - (1452 : Int32).toNatClampNeg) - (1452 : Int32).toNatClampNeg) - (1452 : Int32).toNatClampNeg) - (1452 : Int32).toNatClampNeg) - (1452 : Int32).toNatClampNeg) - (1452 : Int32).toNatClampNeg) - (12 : Int32).toNatClampNeg) - (12 : Int32).toNatClampNeg) - (12 : Int32).toNatClampNeg) - (12 : Int32).toNatClampNeg) fun a_88 t_89 => (xpF t_89 a0 8 35 (.ref a_88) fun t_90 => xnA 1 (.inr (.inl (fun _ => 0))) (12 : Int32) t_90 ((((((((((((((((((((((((((((((rc - 1) - 1) - 1) - 1) - 1) - 1) - 1) - 1) - 1) - 1) - 1) - 1) - 1) - 1) - 1) - 1) - 1) - 1) - 1) - 1) - 1) - 1) - 1) - 1) - 1) - 1) - 1) - 1) - 1) - 1) ((((((((((((((((((((((((((((((rs - (8 : Int32).toNatClampNeg) - (8 : Int32).toNatClampNeg) - (8 : Int32).toNatClampNeg) - (8 : Int32).toNatClampNeg) - (8 : Int32).toNatClampNeg) - (8 : Int32).toNatClampNeg) - (968 : Int32).toNatClampNeg) - (122 : Int32).toNatClampNeg) - (60 : Int32).toNatClampNeg) - (60 : Int32).toNatClampNeg) - (60 : Int32).toNatClampNeg) - (60 : Int32).toNatClampNeg) - (60 : Int32).toNatClampNeg) - (12 : Int32).toNatClampNeg) - (12 : Int32).toNatClampNeg) - (12 : Int32).toNatClampNeg) - (12 : Int32).toNatClampNeg) - (12 : Int32).toNatClampNeg) - (12 : Int32).toNatClampNeg) - (1452 : Int32).toNatClampNeg) - (1452 : Int32).toNatClampNeg) - (1452 : Int32).toNatClampNeg) - (1452 : Int32).toNatClampNeg) - (1452 : Int32).toNatClampNeg) - (1452 : Int32).toNatClampNeg) - (12 : Int32).toNatClampNeg) - (12 : Int32).toNatClampNeg) - (12 : Int32).toNatClampNeg) - (12 : Int32).toNatClampNeg) - (12 : Int32).toNatClampNeg) fun a_91 t_92 => (xpF t_92 a0 8 36 (.ref a_91) fun t_93 => xnA 1 (.inr (.inl (fun _ => 0))) (12 : Int32) t_93 (((((((((((((((((((((((((((((((rc - 1) - 1) - 1) - 1) - 1) - 1) - 1) - 1) - 1) - 1) - 1) - 1) - 1) - 1) - 1) - 1) - 1) - 1) - 1) - 1) - 1) - 1) - 1) - 1) - 1) - 1) - 1) - 1) - 1) - 1) - 1) (((((((((((((((((((((((((((((((rs - (8 : Int32).toNatClampNeg) - (8 : Int32).toNatClampNeg) - (8 : Int32).toNatClampNeg) - (8 : Int32).toNatClampNeg) - (8 : Int32).toNatClampNeg) - (8 : Int32).toNatClampNeg) - (968 : Int32).toNatClampNeg) - (122 : Int32).toNatClampNeg) - (60 : Int32).toNatClampNeg) - (60 : Int32).toNatClampNeg) - (60 : Int32).toNatClampNeg) - (60 : Int32).toNatClampNeg) - (60 : Int32).toNatClampNeg) - (12 : Int32).toNatClampNeg) - (12 : Int32).toNatClampNeg) - (12 : Int32).toNatClampNeg) - (12 : Int32).toNatClampNeg) - (12 : Int32).toNatClampNeg) - (12 : Int32).toNatClampNeg) - (1452 : Int32).toNatClampNeg) - (1452 : Int32).toNatClampNeg) - (1452 : Int32).toNatClampNeg) - (1452 : Int32).toNatClampNeg) - (1452 : Int32).toNatClampNeg) - (1452 : Int32).toNatClampNeg) - (12 : Int32).toNatClampNeg) - (12 : Int32).toNatClampNeg) - (12 : Int32).toNatClampNeg) - (12 : Int32).toNatClampNeg) - (12 : Int32).toNatClampNeg) - (12 : Int32).toNatClampNeg) fun a_94 t_95 => (xpF t_95 a0 8 37 (.ref a_94) fun t_96 => xnA 4 (.inl (fun _ => 0)) (100 : Int32) t_96 ((((((((((((((((((((((((((((((((rc - 1) - 1) - 1) - 1) - 1) - 1) - 1) - 1) - 1) - 1) - 1) - 1) - 1) - 1) - 1) - 1) - 1) - 1) - 1) - 1) - 1) - 1) - 1) - 1) - 1) - 1) - 1) - 1) - 1) - 1) - 1) - 1) ((((((((((((((((((((((((((((((((rs - (8 : Int32).toNatClampNeg) - (8 : Int32).toNatClampNeg) - (8 : Int32).toNatClampNeg) - (8 : Int32).toNatClampNeg) - (8 : Int32).toNatClampNeg) - (8 : Int32).toNatClampNeg) - (968 : Int32).toNatClampNeg) - (122 : Int32).toNatClampNeg) - (60 : Int32).toNatClampNeg) - (60 : Int32).toNatClampNeg) - (60 : Int32).toNatClampNeg) - (60 : Int32).toNatClampNeg) - (60 : Int32).toNatClampNeg) - (12 : Int32).toNatClampNeg) - (12 : Int32).toNatClampNeg) - (12 : Int32).toNatClampNeg) - (12 : Int32).toNatClampNeg) - (12 : Int32).toNatClampNeg) - (12 : Int32).toNatClampNeg) - (1452 : Int32).toNatClampNeg) - (1452 : Int32).toNatClampNeg) - (1452 : Int32).toNatClampNeg) - (1452 : Int32).toNatClampNeg) - (1452 : Int32).toNatClampNeg) - (1452 : Int32).toNatClampNeg) - (12 : Int32).toNatClampNeg) - (12 : Int32).toNatClampNeg) - (12 : Int32).toNatClampNeg) - (12 : Int32).toNatClampNeg) - (12 : Int32).toNatClampNeg) - (12 : Int32).toNatClampNeg) - (12 : Int32).toNatClampNeg) fun a_97 t_98 => (xpF t_98 a0 8 38 (.ref a_97) fun t_99 => xgR t_99 a0 8 10 fun a_100 => xsI 0 t_99 a_100 (0 : Int32) (100 : Int32) fun t_101 => xgR t_101 a0 8 10 fun a_102 => xsI 0 t_101 a_102 (1 : Int32) (100 : Int32) fun t_103 => ∃ f_104 : Nat, V_X8_init_293 K f_104 a0 (0 : Int32) t_103 (((((((((((((((((((((((((((((((((rc - 1) - 1) - 1) - 1) - 1) - 1) - 1) - 1) - 1) - 1) - 1) - 1) - 1) - 1) - 1) - 1) - 1) - 1) - 1) - 1) - 1) - 1) - 1) - 1) - 1) - 1) - 1) - 1) - 1) - 1) - 1) - 1) - 1) (((((((((((((((((((((((((((((((((rs - (8 : Int32).toNatClampNeg) - (8 : Int32).toNatClampNeg) - (8 : Int32).toNatClampNeg) - (8 : Int32).toNatClampNeg) - (8 : Int32).toNatClampNeg) - (8 : Int32).toNatClampNeg) - (968 : Int32).toNatClampNeg) - (122 : Int32).toNatClampNeg) - (60 : Int32).toNatClampNeg) - (60 : Int32).toNatClampNeg) - (60 : Int32).toNatClampNeg) - (60 : Int32).toNatClampNeg) - (60 : Int32).toNatClampNeg) - (12 : Int32).toNatClampNeg) - (12 : Int32).toNatClampNeg) - (12 : Int32).toNatClampNeg) - (12 : Int32).toNatClampNeg) - (12 : Int32).toNatClampNeg) - (12 : Int32).toNatClampNeg) - (1452 : Int32).toNatClampNeg) - (1452 : Int32).toNatClampNeg) - (1452 : Int32).toNatClampNeg) - (1452 : Int32).toNatClampNeg) - (1452 : Int32).toNatClampNeg) - (1452 : Int32).toNatClampNeg) - (12 : Int32).toNatClampNeg) - (12 : Int32).toNatClampNeg) - (12 : Int32).toNatClampNeg) - (12 : Int32).toNatClampNeg) - (12 : Int32).toNatClampNeg) - (12 : Int32).toNatClampNeg) - (12 : Int32).toNatClampNeg) - (100 : Int32).toNatClampNeg))))))))))))))))))))))))))))))))))
set_option maxRecDepth 20000 in
theorem S_X8_init_0 {Γ : xΓ} {K : xT → Prop} (hl : (gl Γ).stackTraces = false) (ht : (gM Γ).sig.returnType = none) (hr : xRet Γ (xKv K)) (hnm : (gM Γ).name = "<init>") {a0 : Nat} {t : xT} {rc rs : Nat} (h : V_X8_init_0 K a0 t rc rs) : xX Γ k_X8_init 0 [(0, .ref a0)] [] t rc rs := by
  unfold V_X8_init_0 at h
  refine x_aload_n 0 dX8_init_0 rfl rfl ?_
  refine x_objInit dX8_init_1 (List.forall_mem_cons.mpr ⟨xw1214, List.forall_mem_cons.mpr ⟨xw89, List.forall_mem_cons.mpr ⟨xw90, fun _ h => absurd h List.not_mem_nil⟩⟩⟩) (by decide) (by decide) (Nat.le_of_ble_eq_true rfl) ?_
  refine x_aload_n 0 dX8_init_4 rfl rfl ?_
  refine x_bipush (v := (8 : Int32)) dX8_init_5 (by decide) ?_
  obtain ⟨q0, qb, q1, q2, h⟩ := h
  refine x_newa0 dX8_init_7 xw127 q0 qb q1 q2 (fun a_1 hq => ?_)
  replace h := h a_1 hq
  generalize hT : xup t a_1 _ = t_2 at h ⊢
  clear hT
  obtain ⟨fs, hf, hk, h⟩ := h
  refine x_putF (v := .ref a_1) dX8_init_9 xp_X8_7 hnm hf rfl rfl hk ?_
  generalize hT : xup t_2 a0 _ = t_3 at h ⊢
  clear hT
  refine x_aload_n 0 dX8_init_12 rfl rfl ?_
  refine x_bipush (v := (8 : Int32)) dX8_init_13 (by decide) ?_
  obtain ⟨q0, qb, q1, q2, h⟩ := h
  refine x_newa0 dX8_init_15 xw127 q0 qb q1 q2 (fun a_4 hq => ?_)
  replace h := h a_4 hq
  generalize hT : xup t_3 a_4 _ = t_5 at h ⊢
  clear hT
  obtain ⟨fs, hf, hk, h⟩ := h
  refine x_putF (v := .ref a_4) dX8_init_17 xp_X8_13 hnm hf rfl rfl hk ?_
  generalize hT : xup t_5 a0 _ = t_6 at h ⊢
  clear hT
  refine x_aload_n 0 dX8_init_20 rfl rfl ?_
  refine x_bipush (v := (8 : Int32)) dX8_init_21 (by decide) ?_
  obtain ⟨q0, qb, q1, q2, h⟩ := h
  refine x_newa0 dX8_init_23 xw127 q0 qb q1 q2 (fun a_7 hq => ?_)
  replace h := h a_7 hq
  generalize hT : xup t_6 a_7 _ = t_8 at h ⊢
  clear hT
  obtain ⟨fs, hf, hk, h⟩ := h
  refine x_putF (v := .ref a_7) dX8_init_25 xp_X8_16 hnm hf rfl rfl hk ?_
  generalize hT : xup t_8 a0 _ = t_9 at h ⊢
  clear hT
  refine x_aload_n 0 dX8_init_28 rfl rfl ?_
  refine x_bipush (v := (8 : Int32)) dX8_init_29 (by decide) ?_
  obtain ⟨q0, qb, q1, q2, h⟩ := h
  refine x_newa0 dX8_init_31 xw127 q0 qb q1 q2 (fun a_10 hq => ?_)
  replace h := h a_10 hq
  generalize hT : xup t_9 a_10 _ = t_11 at h ⊢
  clear hT
  obtain ⟨fs, hf, hk, h⟩ := h
  refine x_putF (v := .ref a_10) dX8_init_33 xp_X8_19 hnm hf rfl rfl hk ?_
  generalize hT : xup t_11 a0 _ = t_12 at h ⊢
  clear hT
  refine x_aload_n 0 dX8_init_36 rfl rfl ?_
  refine x_bipush (v := (8 : Int32)) dX8_init_37 (by decide) ?_
  obtain ⟨q0, qb, q1, q2, h⟩ := h
  refine x_newa0 dX8_init_39 xw127 q0 qb q1 q2 (fun a_13 hq => ?_)
  replace h := h a_13 hq
  generalize hT : xup t_12 a_13 _ = t_14 at h ⊢
  clear hT
  obtain ⟨fs, hf, hk, h⟩ := h
  refine x_putF (v := .ref a_13) dX8_init_41 xp_X8_22 hnm hf rfl rfl hk ?_
  generalize hT : xup t_14 a0 _ = t_15 at h ⊢
  clear hT
  refine x_aload_n 0 dX8_init_44 rfl rfl ?_
  refine x_bipush (v := (8 : Int32)) dX8_init_45 (by decide) ?_
  obtain ⟨q0, qb, q1, q2, h⟩ := h
  refine x_newa0 dX8_init_47 xw127 q0 qb q1 q2 (fun a_16 hq => ?_)
  replace h := h a_16 hq
  generalize hT : xup t_15 a_16 _ = t_17 at h ⊢
  clear hT
  obtain ⟨fs, hf, hk, h⟩ := h
  refine x_putF (v := .ref a_16) dX8_init_49 xp_X8_25 hnm hf rfl rfl hk ?_
  generalize hT : xup t_17 a0 _ = t_18 at h ⊢
  clear hT
  refine x_aload_n 0 dX8_init_52 rfl rfl ?_
  refine x_sipush (v := (968 : Int32)) dX8_init_53 (by decide) ?_
  obtain ⟨q0, qb, q1, q2, h⟩ := h
  refine x_newa0 dX8_init_56 xw127 q0 qb q1 q2 (fun a_19 hq => ?_)
  replace h := h a_19 hq
  generalize hT : xup t_18 a_19 _ = t_20 at h ⊢
  clear hT
  obtain ⟨fs, hf, hk, h⟩ := h
  refine x_putF (v := .ref a_19) dX8_init_58 xp_X8_28 hnm hf rfl rfl hk ?_
  generalize hT : xup t_20 a0 _ = t_21 at h ⊢
  clear hT
  refine x_aload_n 0 dX8_init_61 rfl rfl ?_
  refine x_bipush (v := (122 : Int32)) dX8_init_62 (by decide) ?_
  obtain ⟨q0, qb, q1, q2, h⟩ := h
  refine x_newa0 dX8_init_64 xw127 q0 qb q1 q2 (fun a_22 hq => ?_)
  replace h := h a_22 hq
  generalize hT : xup t_21 a_22 _ = t_23 at h ⊢
  clear hT
  obtain ⟨fs, hf, hk, h⟩ := h
  refine x_putF (v := .ref a_22) dX8_init_66 xp_X8_31 hnm hf rfl rfl hk ?_
  generalize hT : xup t_23 a0 _ = t_24 at h ⊢
  clear hT
  refine x_aload_n 0 dX8_init_69 rfl rfl ?_
  refine x_bipush (v := (60 : Int32)) dX8_init_70 (by decide) ?_
  obtain ⟨q0, qb, q1, q2, h⟩ := h
  refine x_newa0 dX8_init_72 xw127 q0 qb q1 q2 (fun a_25 hq => ?_)
  replace h := h a_25 hq
  generalize hT : xup t_24 a_25 _ = t_26 at h ⊢
  clear hT
  obtain ⟨fs, hf, hk, h⟩ := h
  refine x_putF (v := .ref a_25) dX8_init_74 xp_X8_34 hnm hf rfl rfl hk ?_
  generalize hT : xup t_26 a0 _ = t_27 at h ⊢
  clear hT
  refine x_aload_n 0 dX8_init_77 rfl rfl ?_
  refine x_bipush (v := (60 : Int32)) dX8_init_78 (by decide) ?_
  obtain ⟨q0, qb, q1, q2, h⟩ := h
  refine x_newa0 dX8_init_80 xw127 q0 qb q1 q2 (fun a_28 hq => ?_)
  replace h := h a_28 hq
  generalize hT : xup t_27 a_28 _ = t_29 at h ⊢
  clear hT
  obtain ⟨fs, hf, hk, h⟩ := h
  refine x_putF (v := .ref a_28) dX8_init_82 xp_X8_37 hnm hf rfl rfl hk ?_
  generalize hT : xup t_29 a0 _ = t_30 at h ⊢
  clear hT
  refine x_aload_n 0 dX8_init_85 rfl rfl ?_
  refine x_bipush (v := (60 : Int32)) dX8_init_86 (by decide) ?_
  obtain ⟨q0, qb, q1, q2, h⟩ := h
  refine x_newa0 dX8_init_88 xw127 q0 qb q1 q2 (fun a_31 hq => ?_)
  replace h := h a_31 hq
  generalize hT : xup t_30 a_31 _ = t_32 at h ⊢
  clear hT
  obtain ⟨fs, hf, hk, h⟩ := h
  refine x_putF (v := .ref a_31) dX8_init_90 xp_X8_40 hnm hf rfl rfl hk ?_
  generalize hT : xup t_32 a0 _ = t_33 at h ⊢
  clear hT
  refine x_aload_n 0 dX8_init_93 rfl rfl ?_
  refine x_bipush (v := (60 : Int32)) dX8_init_94 (by decide) ?_
  obtain ⟨q0, qb, q1, q2, h⟩ := h
  refine x_newa0 dX8_init_96 xw127 q0 qb q1 q2 (fun a_34 hq => ?_)
  replace h := h a_34 hq
  generalize hT : xup t_33 a_34 _ = t_35 at h ⊢
  clear hT
  obtain ⟨fs, hf, hk, h⟩ := h
  refine x_putF (v := .ref a_34) dX8_init_98 xp_X8_43 hnm hf rfl rfl hk ?_
  generalize hT : xup t_35 a0 _ = t_36 at h ⊢
  clear hT
  refine x_aload_n 0 dX8_init_101 rfl rfl ?_
  refine x_bipush (v := (60 : Int32)) dX8_init_102 (by decide) ?_
  obtain ⟨q0, qb, q1, q2, h⟩ := h
  refine x_newa2 dX8_init_104 xw1336 q0 qb q1 q2 (fun a_37 hq => ?_)
  replace h := h a_37 hq
  generalize hT : xup t_36 a_37 _ = t_38 at h ⊢
  clear hT
  obtain ⟨fs, hf, hk, h⟩ := h
  refine x_putF (v := .ref a_37) dX8_init_106 xp_X8_46 hnm hf rfl rfl hk ?_
  generalize hT : xup t_38 a0 _ = t_39 at h ⊢
  clear hT
  refine x_aload_n 0 dX8_init_109 rfl rfl ?_
  refine x_bipush (v := (12 : Int32)) dX8_init_110 (by decide) ?_
  obtain ⟨q0, qb, q1, q2, h⟩ := h
  refine x_newa0 dX8_init_112 xw127 q0 qb q1 q2 (fun a_40 hq => ?_)
  replace h := h a_40 hq
  generalize hT : xup t_39 a_40 _ = t_41 at h ⊢
  clear hT
  obtain ⟨fs, hf, hk, h⟩ := h
  refine x_putF (v := .ref a_40) dX8_init_114 xp_X8_50 hnm hf rfl rfl hk ?_
  generalize hT : xup t_41 a0 _ = t_42 at h ⊢
  clear hT
  refine x_aload_n 0 dX8_init_117 rfl rfl ?_
  refine x_bipush (v := (12 : Int32)) dX8_init_118 (by decide) ?_
  obtain ⟨q0, qb, q1, q2, h⟩ := h
  refine x_newa0 dX8_init_120 xw127 q0 qb q1 q2 (fun a_43 hq => ?_)
  replace h := h a_43 hq
  generalize hT : xup t_42 a_43 _ = t_44 at h ⊢
  clear hT
  obtain ⟨fs, hf, hk, h⟩ := h
  refine x_putF (v := .ref a_43) dX8_init_122 xp_X8_53 hnm hf rfl rfl hk ?_
  generalize hT : xup t_44 a0 _ = t_45 at h ⊢
  clear hT
  refine x_aload_n 0 dX8_init_125 rfl rfl ?_
  refine x_bipush (v := (12 : Int32)) dX8_init_126 (by decide) ?_
  obtain ⟨q0, qb, q1, q2, h⟩ := h
  refine x_newa0 dX8_init_128 xw127 q0 qb q1 q2 (fun a_46 hq => ?_)
  replace h := h a_46 hq
  generalize hT : xup t_45 a_46 _ = t_47 at h ⊢
  clear hT
  obtain ⟨fs, hf, hk, h⟩ := h
  refine x_putF (v := .ref a_46) dX8_init_130 xp_X8_56 hnm hf rfl rfl hk ?_
  generalize hT : xup t_47 a0 _ = t_48 at h ⊢
  clear hT
  refine x_aload_n 0 dX8_init_133 rfl rfl ?_
  refine x_bipush (v := (12 : Int32)) dX8_init_134 (by decide) ?_
  obtain ⟨q0, qb, q1, q2, h⟩ := h
  refine x_newa0 dX8_init_136 xw127 q0 qb q1 q2 (fun a_49 hq => ?_)
  replace h := h a_49 hq
  generalize hT : xup t_48 a_49 _ = t_50 at h ⊢
  clear hT
  obtain ⟨fs, hf, hk, h⟩ := h
  refine x_putF (v := .ref a_49) dX8_init_138 xp_X8_59 hnm hf rfl rfl hk ?_
  generalize hT : xup t_50 a0 _ = t_51 at h ⊢
  clear hT
  refine x_aload_n 0 dX8_init_141 rfl rfl ?_
  refine x_bipush (v := (12 : Int32)) dX8_init_142 (by decide) ?_
  obtain ⟨q0, qb, q1, q2, h⟩ := h
  refine x_newa1 dX8_init_144 xw1337 q0 qb q1 q2 (fun a_52 hq => ?_)
  replace h := h a_52 hq
  generalize hT : xup t_51 a_52 _ = t_53 at h ⊢
  clear hT
  obtain ⟨fs, hf, hk, h⟩ := h
  refine x_putF (v := .ref a_52) dX8_init_146 xp_X8_62 hnm hf rfl rfl hk ?_
  generalize hT : xup t_53 a0 _ = t_54 at h ⊢
  clear hT
  refine x_aload_n 0 dX8_init_149 rfl rfl ?_
  refine x_bipush (v := (12 : Int32)) dX8_init_150 (by decide) ?_
  obtain ⟨q0, qb, q1, q2, h⟩ := h
  refine x_newa1 dX8_init_152 xw1337 q0 qb q1 q2 (fun a_55 hq => ?_)
  replace h := h a_55 hq
  generalize hT : xup t_54 a_55 _ = t_56 at h ⊢
  clear hT
  obtain ⟨fs, hf, hk, h⟩ := h
  refine x_putF (v := .ref a_55) dX8_init_154 xp_X8_66 hnm hf rfl rfl hk ?_
  generalize hT : xup t_56 a0 _ = t_57 at h ⊢
  clear hT
  refine x_aload_n 0 dX8_init_157 rfl rfl ?_
  refine x_sipush (v := (1452 : Int32)) dX8_init_158 (by decide) ?_
  obtain ⟨q0, qb, q1, q2, h⟩ := h
  refine x_newa0 dX8_init_161 xw127 q0 qb q1 q2 (fun a_58 hq => ?_)
  replace h := h a_58 hq
  generalize hT : xup t_57 a_58 _ = t_59 at h ⊢
  clear hT
  obtain ⟨fs, hf, hk, h⟩ := h
  refine x_putF (v := .ref a_58) dX8_init_163 xp_X8_69 hnm hf rfl rfl hk ?_
  generalize hT : xup t_59 a0 _ = t_60 at h ⊢
  clear hT
  refine x_aload_n 0 dX8_init_166 rfl rfl ?_
  refine x_sipush (v := (1452 : Int32)) dX8_init_167 (by decide) ?_
  obtain ⟨q0, qb, q1, q2, h⟩ := h
  refine x_newa2 dX8_init_170 xw1336 q0 qb q1 q2 (fun a_61 hq => ?_)
  replace h := h a_61 hq
  generalize hT : xup t_60 a_61 _ = t_62 at h ⊢
  clear hT
  obtain ⟨fs, hf, hk, h⟩ := h
  refine x_putF (v := .ref a_61) dX8_init_172 xp_X8_72 hnm hf rfl rfl hk ?_
  generalize hT : xup t_62 a0 _ = t_63 at h ⊢
  clear hT
  refine x_aload_n 0 dX8_init_175 rfl rfl ?_
  refine x_sipush (v := (1452 : Int32)) dX8_init_176 (by decide) ?_
  obtain ⟨q0, qb, q1, q2, h⟩ := h
  refine x_newa0 dX8_init_179 xw127 q0 qb q1 q2 (fun a_64 hq => ?_)
  replace h := h a_64 hq
  generalize hT : xup t_63 a_64 _ = t_65 at h ⊢
  clear hT
  obtain ⟨fs, hf, hk, h⟩ := h
  refine x_putF (v := .ref a_64) dX8_init_181 xp_X8_75 hnm hf rfl rfl hk ?_
  generalize hT : xup t_65 a0 _ = t_66 at h ⊢
  clear hT
  refine x_aload_n 0 dX8_init_184 rfl rfl ?_
  refine x_sipush (v := (1452 : Int32)) dX8_init_185 (by decide) ?_
  obtain ⟨q0, qb, q1, q2, h⟩ := h
  refine x_newa0 dX8_init_188 xw127 q0 qb q1 q2 (fun a_67 hq => ?_)
  replace h := h a_67 hq
  generalize hT : xup t_66 a_67 _ = t_68 at h ⊢
  clear hT
  obtain ⟨fs, hf, hk, h⟩ := h
  refine x_putF (v := .ref a_67) dX8_init_190 xp_X8_78 hnm hf rfl rfl hk ?_
  generalize hT : xup t_68 a0 _ = t_69 at h ⊢
  clear hT
  refine x_aload_n 0 dX8_init_193 rfl rfl ?_
  refine x_sipush (v := (1452 : Int32)) dX8_init_194 (by decide) ?_
  obtain ⟨q0, qb, q1, q2, h⟩ := h
  refine x_newa0 dX8_init_197 xw127 q0 qb q1 q2 (fun a_70 hq => ?_)
  replace h := h a_70 hq
  generalize hT : xup t_69 a_70 _ = t_71 at h ⊢
  clear hT
  obtain ⟨fs, hf, hk, h⟩ := h
  refine x_putF (v := .ref a_70) dX8_init_199 xp_X8_81 hnm hf rfl rfl hk ?_
  generalize hT : xup t_71 a0 _ = t_72 at h ⊢
  clear hT
  refine x_aload_n 0 dX8_init_202 rfl rfl ?_
  refine x_sipush (v := (1452 : Int32)) dX8_init_203 (by decide) ?_
  obtain ⟨q0, qb, q1, q2, h⟩ := h
  refine x_newa0 dX8_init_206 xw127 q0 qb q1 q2 (fun a_73 hq => ?_)
  replace h := h a_73 hq
  generalize hT : xup t_72 a_73 _ = t_74 at h ⊢
  clear hT
  obtain ⟨fs, hf, hk, h⟩ := h
  refine x_putF (v := .ref a_73) dX8_init_208 xp_X8_84 hnm hf rfl rfl hk ?_
  generalize hT : xup t_74 a0 _ = t_75 at h ⊢
  clear hT
  refine x_aload_n 0 dX8_init_211 rfl rfl ?_
  refine x_bipush (v := (12 : Int32)) dX8_init_212 (by decide) ?_
  obtain ⟨q0, qb, q1, q2, h⟩ := h
  refine x_newa0 dX8_init_214 xw127 q0 qb q1 q2 (fun a_76 hq => ?_)
  replace h := h a_76 hq
  generalize hT : xup t_75 a_76 _ = t_77 at h ⊢
  clear hT
  obtain ⟨fs, hf, hk, h⟩ := h
  refine x_putF (v := .ref a_76) dX8_init_216 xp_X8_87 hnm hf rfl rfl hk ?_
  generalize hT : xup t_77 a0 _ = t_78 at h ⊢
  clear hT
  refine x_aload_n 0 dX8_init_219 rfl rfl ?_
  refine x_bipush (v := (12 : Int32)) dX8_init_220 (by decide) ?_
  obtain ⟨q0, qb, q1, q2, h⟩ := h
  refine x_newa1 dX8_init_222 xw1337 q0 qb q1 q2 (fun a_79 hq => ?_)
  replace h := h a_79 hq
  generalize hT : xup t_78 a_79 _ = t_80 at h ⊢
  clear hT
  obtain ⟨fs, hf, hk, h⟩ := h
  refine x_putF (v := .ref a_79) dX8_init_224 xp_X8_90 hnm hf rfl rfl hk ?_
  generalize hT : xup t_80 a0 _ = t_81 at h ⊢
  clear hT
  refine x_aload_n 0 dX8_init_227 rfl rfl ?_
  refine x_bipush (v := (12 : Int32)) dX8_init_228 (by decide) ?_
  obtain ⟨q0, qb, q1, q2, h⟩ := h
  refine x_newa1 dX8_init_230 xw1337 q0 qb q1 q2 (fun a_82 hq => ?_)
  replace h := h a_82 hq
  generalize hT : xup t_81 a_82 _ = t_83 at h ⊢
  clear hT
  obtain ⟨fs, hf, hk, h⟩ := h
  refine x_putF (v := .ref a_82) dX8_init_232 xp_X8_93 hnm hf rfl rfl hk ?_
  generalize hT : xup t_83 a0 _ = t_84 at h ⊢
  clear hT
  refine x_aload_n 0 dX8_init_235 rfl rfl ?_
  refine x_bipush (v := (12 : Int32)) dX8_init_236 (by decide) ?_
  obtain ⟨q0, qb, q1, q2, h⟩ := h
  refine x_newa0 dX8_init_238 xw127 q0 qb q1 q2 (fun a_85 hq => ?_)
  replace h := h a_85 hq
  generalize hT : xup t_84 a_85 _ = t_86 at h ⊢
  clear hT
  obtain ⟨fs, hf, hk, h⟩ := h
  refine x_putF (v := .ref a_85) dX8_init_240 xp_X8_96 hnm hf rfl rfl hk ?_
  generalize hT : xup t_86 a0 _ = t_87 at h ⊢
  clear hT
  refine x_aload_n 0 dX8_init_243 rfl rfl ?_
  refine x_bipush (v := (12 : Int32)) dX8_init_244 (by decide) ?_
  obtain ⟨q0, qb, q1, q2, h⟩ := h
  refine x_newa1 dX8_init_246 xw1337 q0 qb q1 q2 (fun a_88 hq => ?_)
  replace h := h a_88 hq
  generalize hT : xup t_87 a_88 _ = t_89 at h ⊢
  clear hT
  obtain ⟨fs, hf, hk, h⟩ := h
  refine x_putF (v := .ref a_88) dX8_init_248 xp_X8_99 hnm hf rfl rfl hk ?_
  generalize hT : xup t_89 a0 _ = t_90 at h ⊢
  clear hT
  refine x_aload_n 0 dX8_init_251 rfl rfl ?_
  refine x_bipush (v := (12 : Int32)) dX8_init_252 (by decide) ?_
  obtain ⟨q0, qb, q1, q2, h⟩ := h
  refine x_newa1 dX8_init_254 xw1337 q0 qb q1 q2 (fun a_91 hq => ?_)
  replace h := h a_91 hq
  generalize hT : xup t_90 a_91 _ = t_92 at h ⊢
  clear hT
  obtain ⟨fs, hf, hk, h⟩ := h
  refine x_putF (v := .ref a_91) dX8_init_256 xp_X8_102 hnm hf rfl rfl hk ?_
  generalize hT : xup t_92 a0 _ = t_93 at h ⊢
  clear hT
  refine x_aload_n 0 dX8_init_259 rfl rfl ?_
  refine x_bipush (v := (12 : Int32)) dX8_init_260 (by decide) ?_
  obtain ⟨q0, qb, q1, q2, h⟩ := h
  refine x_newa1 dX8_init_262 xw1337 q0 qb q1 q2 (fun a_94 hq => ?_)
  replace h := h a_94 hq
  generalize hT : xup t_93 a_94 _ = t_95 at h ⊢
  clear hT
  obtain ⟨fs, hf, hk, h⟩ := h
  refine x_putF (v := .ref a_94) dX8_init_264 xp_X8_105 hnm hf rfl rfl hk ?_
  generalize hT : xup t_95 a0 _ = t_96 at h ⊢
  clear hT
  refine x_aload_n 0 dX8_init_267 rfl rfl ?_
  refine x_bipush (v := (100 : Int32)) dX8_init_268 (by decide) ?_
  obtain ⟨q0, qb, q1, q2, h⟩ := h
  refine x_newa4 dX8_init_270 xw1338 q0 qb q1 q2 (fun a_97 hq => ?_)
  replace h := h a_97 hq
  generalize hT : xup t_96 a_97 _ = t_98 at h ⊢
  clear hT
  obtain ⟨fs, hf, hk, h⟩ := h
  refine x_putF (v := .ref a_97) dX8_init_272 xp_X8_108 hnm hf rfl rfl hk ?_
  generalize hT : xup t_98 a0 _ = t_99 at h ⊢
  clear hT
  refine x_aload_n 0 dX8_init_275 rfl rfl ?_
  obtain ⟨fs, hf, a_100, hv, h⟩ := h
  refine x_get dX8_init_276 xf_X8_31 hf hv ?_
  refine x_iconst (v := (0 : Int32)) dX8_init_279 (by decide) ?_
  refine x_bipush (v := (100 : Int32)) dX8_init_280 (by decide) ?_
  obtain ⟨n, f, hf, hi, h⟩ := h
  refine x_iast dX8_init_282 hf hi ?_
  generalize hT : xup t_99 a_100 _ = t_101 at h ⊢
  clear hT
  refine x_aload_n 0 dX8_init_283 rfl rfl ?_
  obtain ⟨fs, hf, a_102, hv, h⟩ := h
  refine x_get dX8_init_284 xf_X8_31 hf hv ?_
  refine x_iconst (v := (1 : Int32)) dX8_init_287 (by decide) ?_
  refine x_bipush (v := (100 : Int32)) dX8_init_288 (by decide) ?_
  obtain ⟨n, f, hf, hi, h⟩ := h
  refine x_iast dX8_init_290 hf hi ?_
  generalize hT : xup t_101 a_102 _ = t_103 at h ⊢
  clear hT
  refine x_iconst (v := (0 : Int32)) dX8_init_291 (by decide) ?_
  refine x_istore_n (L' := [(1, .int (0 : Int32)), (0, .ref a0)]) dX8_init_292 rfl (by decide) rfl ?_
  obtain ⟨f_104, h⟩ := h
  refine x_sub (L' := [(0, .ref a0), (1, .int (0 : Int32))]) [1, 0] rfl ?_
  exact S_X8_init_293 hl ht hr hnm  f_104 a0 (0 : Int32) t_103 (((((((((((((((((((((((((((((((((rc - 1) - 1) - 1) - 1) - 1) - 1) - 1) - 1) - 1) - 1) - 1) - 1) - 1) - 1) - 1) - 1) - 1) - 1) - 1) - 1) - 1) - 1) - 1) - 1) - 1) - 1) - 1) - 1) - 1) - 1) - 1) - 1) - 1) (((((((((((((((((((((((((((((((((rs - (8 : Int32).toNatClampNeg) - (8 : Int32).toNatClampNeg) - (8 : Int32).toNatClampNeg) - (8 : Int32).toNatClampNeg) - (8 : Int32).toNatClampNeg) - (8 : Int32).toNatClampNeg) - (968 : Int32).toNatClampNeg) - (122 : Int32).toNatClampNeg) - (60 : Int32).toNatClampNeg) - (60 : Int32).toNatClampNeg) - (60 : Int32).toNatClampNeg) - (60 : Int32).toNatClampNeg) - (60 : Int32).toNatClampNeg) - (12 : Int32).toNatClampNeg) - (12 : Int32).toNatClampNeg) - (12 : Int32).toNatClampNeg) - (12 : Int32).toNatClampNeg) - (12 : Int32).toNatClampNeg) - (12 : Int32).toNatClampNeg) - (1452 : Int32).toNatClampNeg) - (1452 : Int32).toNatClampNeg) - (1452 : Int32).toNatClampNeg) - (1452 : Int32).toNatClampNeg) - (1452 : Int32).toNatClampNeg) - (1452 : Int32).toNatClampNeg) - (12 : Int32).toNatClampNeg) - (12 : Int32).toNatClampNeg) - (12 : Int32).toNatClampNeg) - (12 : Int32).toNatClampNeg) - (12 : Int32).toNatClampNeg) - (12 : Int32).toNatClampNeg) - (12 : Int32).toNatClampNeg) - (100 : Int32).toNatClampNeg) h
theorem M_X8_init {l : Launch} {G : xG} (hl : l.stackTraces = false) {a0 : Nat} {t : xT} {K : xT → Prop} {rc rs : Nat} (h : V_X8_init_0 K a0 t rc rs) : xMet l G yX8_init k_X8_init none [.ref a0] t (xKv K) rc rs := xMet.of (by decide +kernel) rfl hl (Nat.le_of_ble_eq_true rfl) (fun Γ e1 e2 ht hn hr => by subst e1; subst e2; exact S_X8_init_0 hl ht hr hn h)
/-! RentStreamModel.at(II)I -/
def V_X8_at_0 (K : Int32 → xT → Prop) (x0 : Int32) (x1 : Int32) (t : xT) : Prop :=
  K (((121 : Int32) * x0) + x1) t
set_option maxRecDepth 20000 in
theorem S_X8_at_0 {Γ : xΓ} {K : Int32 → xT → Prop} (hl : (gl Γ).stackTraces = false) (ht : (gM Γ).sig.returnType = (some .int)) (hr : xRet Γ (xKi K)) {x0 : Int32} {x1 : Int32} {t : xT} {rc rs : Nat} (h : V_X8_at_0 K x0 x1 t) : xX Γ k_X8_at 0 [(0, .int x0), (1, .int x1)] [] t rc rs := by
  unfold V_X8_at_0 at h
  refine x_bipush (v := (121 : Int32)) dX8_at_0 (by decide) ?_
  refine x_iload_n 0 dX8_at_2 rfl rfl ?_
  refine x_imul dX8_at_3 ?_
  refine x_iload_n 1 dX8_at_4 rfl rfl ?_
  refine x_iadd dX8_at_5 ?_
  exact x_zret dX8_at_6 hr ht rfl ⟨_, rfl, h⟩
theorem M_X8_at {l : Launch} {G : xG} (hl : l.stackTraces = false) {x0 : Int32} {x1 : Int32} {t : xT} {K : Int32 → xT → Prop} (h : V_X8_at_0 K x0 x1 t) : xMet l G yX8_at k_X8_at (some .int) [.int x0, .int x1] t (xKi K) 0 0 := xMet.of (by decide +kernel) rfl hl (Nat.le_of_ble_eq_true rfl) (fun Γ e1 e2 ht hn hr => by subst e1; subst e2; exact S_X8_at_0 hl ht hr h)
/-! RentStreamModel.holds(I)Z -/
def V_X8_holds_0 (K : Int32 → xT → Prop) (a0 : Nat) (x1 : Int32) (t : xT) : Prop :=
  (xpF t a0 8 0 (.int x1) fun t_1 => ((¬ x1 = 0 → K (0 : Int32) t_1) ∧ (x1 = 0 → K (1 : Int32) t_1)))
set_option maxRecDepth 20000 in
theorem S_X8_holds_0 {Γ : xΓ} {K : Int32 → xT → Prop} (hl : (gl Γ).stackTraces = false) (ht : (gM Γ).sig.returnType = (some .boolean)) (hr : xRet Γ (xKi K)) {a0 : Nat} {x1 : Int32} {t : xT} {rc rs : Nat} (h : V_X8_holds_0 K a0 x1 t) : xX Γ k_X8_holds 0 [(0, .ref a0), (1, .int x1)] [] t rc rs := by
  unfold V_X8_holds_0 at h
  refine x_aload_n 0 dX8_holds_0 rfl rfl ?_
  refine x_iload_n 1 dX8_holds_1 rfl rfl ?_
  obtain ⟨fs, hf, hk, h⟩ := h
  refine x_put (v := .int x1) dX8_holds_2 xp_X8_112 hf rfl rfl hk ?_
  generalize hT : xup t a0 _ = t_1 at h ⊢
  clear hT
  refine x_iload_n 1 dX8_holds_5 rfl rfl ?_
  obtain ⟨h1, h2⟩ := h
  refine x_if_ne (tgt := 13) dX8_holds_6 (by decide) (fun q => ?_) (fun q => ?_)
  · have h := h1 q
    refine x_iconst (v := (0 : Int32)) dX8_holds_13 (by decide) ?_
    exact x_zret dX8_holds_14 hr ht (by decide) ⟨_, rfl, h⟩
  · have h := h2 q
    refine x_iconst (v := (1 : Int32)) dX8_holds_9 (by decide) ?_
    refine x_goto (tgt := 14) dX8_holds_10 (by decide) ?_
    exact x_zret dX8_holds_14 hr ht (by decide) ⟨_, rfl, h⟩
theorem M_X8_holds {l : Launch} {G : xG} (hl : l.stackTraces = false) {a0 : Nat} {x1 : Int32} {t : xT} {K : Int32 → xT → Prop} (h : V_X8_holds_0 K a0 x1 t) : xMet l G yX8_holds k_X8_holds (some .boolean) [.ref a0, .int x1] t (xKi K) 0 0 := xMet.of (by decide +kernel) rfl hl (Nat.le_of_ble_eq_true rfl) (fun Γ e1 e2 ht hn hr => by subst e1; subst e2; exact S_X8_holds_0 hl ht hr h)
/-! RentStreamModel.in(III)Z -/
def V_X8_in_0 (K : Int32 → xT → Prop) (x0 : Int32) (x1 : Int32) (x2 : Int32) (t : xT) : Prop :=
  ((x0 < x1 → K (0 : Int32) t) ∧ (¬ x0 < x1 → ((x2 < x0 → K (0 : Int32) t) ∧ (¬ x2 < x0 → K (1 : Int32) t))))
set_option maxRecDepth 20000 in
theorem S_X8_in_0 {Γ : xΓ} {K : Int32 → xT → Prop} (hl : (gl Γ).stackTraces = false) (ht : (gM Γ).sig.returnType = (some .boolean)) (hr : xRet Γ (xKi K)) {x0 : Int32} {x1 : Int32} {x2 : Int32} {t : xT} {rc rs : Nat} (h : V_X8_in_0 K x0 x1 x2 t) : xX Γ k_X8_in 0 [(0, .int x0), (1, .int x1), (2, .int x2)] [] t rc rs := by
  unfold V_X8_in_0 at h
  refine x_iload_n 0 dX8_in_0 rfl rfl ?_
  refine x_iload_n 1 dX8_in_1 rfl rfl ?_
  obtain ⟨h1, h2⟩ := h
  refine x_icmp_lt (tgt := 14) dX8_in_2 (by decide) (fun q => ?_) (fun q => ?_)
  · have h := h1 q
    refine x_iconst (v := (0 : Int32)) dX8_in_14 (by decide) ?_
    exact x_zret dX8_in_15 hr ht (by decide) ⟨_, rfl, h⟩
  · have h := h2 q
    refine x_iload_n 0 dX8_in_5 rfl rfl ?_
    refine x_iload_n 2 dX8_in_6 rfl rfl ?_
    obtain ⟨h1, h2⟩ := h
    refine x_icmp_gt (tgt := 14) dX8_in_7 (by decide) (fun q => ?_) (fun q => ?_)
    · have h := h1 q
      refine x_iconst (v := (0 : Int32)) dX8_in_14 (by decide) ?_
      exact x_zret dX8_in_15 hr ht (by decide) ⟨_, rfl, h⟩
    · have h := h2 q
      refine x_iconst (v := (1 : Int32)) dX8_in_10 (by decide) ?_
      refine x_goto (tgt := 15) dX8_in_11 (by decide) ?_
      exact x_zret dX8_in_15 hr ht (by decide) ⟨_, rfl, h⟩
theorem M_X8_in {l : Launch} {G : xG} (hl : l.stackTraces = false) {x0 : Int32} {x1 : Int32} {x2 : Int32} {t : xT} {K : Int32 → xT → Prop} (h : V_X8_in_0 K x0 x1 x2 t) : xMet l G yX8_in k_X8_in (some .boolean) [.int x0, .int x1, .int x2] t (xKi K) 0 0 := xMet.of (by decide +kernel) rfl hl (Nat.le_of_ble_eq_true rfl) (fun Γ e1 e2 ht hn hr => by subst e1; subst e2; exact S_X8_in_0 hl ht hr h)
/-! RentStreamModel.isLease(I)Z -/
def V_X8_isLease_0 (K : Int32 → xT → Prop) (a0 : Nat) (x1 : Int32) (t : xT) : Prop :=
  xgI t a0 8 18 fun x_1 => (V_X8_in_0 (fun x_3 t_2 => (narrow .boolean (.int x_3) = .int x_3 ∧ K x_3 t_2)) x1 (0 : Int32) (x_1 - (1 : Int32)) t)
set_option maxRecDepth 20000 in
theorem S_X8_isLease_0 {Γ : xΓ} {K : Int32 → xT → Prop} (hl : (gl Γ).stackTraces = false) (ht : (gM Γ).sig.returnType = (some .boolean)) (hr : xRet Γ (xKi K)) {a0 : Nat} {x1 : Int32} {t : xT} {rc rs : Nat} (h : V_X8_isLease_0 K a0 x1 t) : xX Γ k_X8_isLease 0 [(0, .ref a0), (1, .int x1)] [] t rc rs := by
  unfold V_X8_isLease_0 at h
  refine x_iload_n 1 dX8_isLease_0 rfl rfl ?_
  refine x_iconst (v := (0 : Int32)) dX8_isLease_1 (by decide) ?_
  refine x_aload_n 0 dX8_isLease_2 rfl rfl ?_
  obtain ⟨fs, hf, x_1, hv, h⟩ := h
  refine x_get dX8_isLease_3 xf_X8_123 hf hv ?_
  refine x_iconst (v := (1 : Int32)) dX8_isLease_6 (by decide) ?_
  refine x_isub dX8_isLease_7 ?_
  refine x_invS (as := [.int x1, .int (0 : Int32), .int (x_1 - (1 : Int32))]) (rest := []) dX8_isLease_8 xc_X8_isLease_119 (M_X8_in hl h) rfl rfl (Nat.le_of_ble_eq_true rfl) (Nat.zero_le _) (Nat.zero_le _) (xk_i fun x_3 t_2 h => ?_)
  obtain ⟨hn, h⟩ := h
  exact x_zret dX8_isLease_11 hr ht hn ⟨_, rfl, h⟩
theorem M_X8_isLease {l : Launch} {G : xG} (hl : l.stackTraces = false) {a0 : Nat} {x1 : Int32} {t : xT} {K : Int32 → xT → Prop} (h : V_X8_isLease_0 K a0 x1 t) : xMet l G yX8_isLease k_X8_isLease (some .boolean) [.ref a0, .int x1] t (xKi K) 0 0 := xMet.of (by decide +kernel) rfl hl (Nat.le_of_ble_eq_true rfl) (fun Γ e1 e2 ht hn hr => by subst e1; subst e2; exact S_X8_isLease_0 hl ht hr h)
/-! RentStreamModel.month()I -/
def V_X8_month_0 (K : Int32 → xT → Prop) (a0 : Nat) (t : xT) : Prop :=
  xgI t a0 8 1 fun x_1 => (¬ (30 : Int32) = 0 ∧ K (x_1 / (30 : Int32)) t)
set_option maxRecDepth 20000 in
theorem S_X8_month_0 {Γ : xΓ} {K : Int32 → xT → Prop} (hl : (gl Γ).stackTraces = false) (ht : (gM Γ).sig.returnType = (some .int)) (hr : xRet Γ (xKi K)) {a0 : Nat} {t : xT} {rc rs : Nat} (h : V_X8_month_0 K a0 t) : xX Γ k_X8_month 0 [(0, .ref a0)] [] t rc rs := by
  unfold V_X8_month_0 at h
  refine x_aload_n 0 dX8_month_0 rfl rfl ?_
  obtain ⟨fs, hf, x_1, hv, h⟩ := h
  refine x_get dX8_month_1 xf_X8_126 hf hv ?_
  refine x_bipush (v := (30 : Int32)) dX8_month_4 (by decide) ?_
  obtain ⟨q, h⟩ := h
  refine x_idiv dX8_month_6 q ?_
  exact x_zret dX8_month_7 hr ht rfl ⟨_, rfl, h⟩
theorem M_X8_month {l : Launch} {G : xG} (hl : l.stackTraces = false) {a0 : Nat} {t : xT} {K : Int32 → xT → Prop} (h : V_X8_month_0 K a0 t) : xMet l G yX8_month k_X8_month (some .int) [.ref a0] t (xKi K) 0 0 := xMet.of (by decide +kernel) rfl hl (Nat.le_of_ble_eq_true rfl) (fun Γ e1 e2 ht hn hr => by subst e1; subst e2; exact S_X8_month_0 hl ht hr h)
/-! RentStreamModel.isMonth(I)Z -/
def V_X8_isMonth_0 (K : Int32 → xT → Prop) (a0 : Nat) (x1 : Int32) (t : xT) : Prop :=
  (xis t a0 8 ∧ V_X8_month_0 (fun x_2 t_1 => (V_X8_in_0 (fun x_4 t_3 => (narrow .boolean (.int x_4) = .int x_4 ∧ K x_4 t_3)) x1 (0 : Int32) x_2 t_1)) a0 t)
set_option maxRecDepth 20000 in
theorem S_X8_isMonth_0 {Γ : xΓ} {K : Int32 → xT → Prop} (hl : (gl Γ).stackTraces = false) (ht : (gM Γ).sig.returnType = (some .boolean)) (hr : xRet Γ (xKi K)) {a0 : Nat} {x1 : Int32} {t : xT} {rc rs : Nat} (h : V_X8_isMonth_0 K a0 x1 t) : xX Γ k_X8_isMonth 0 [(0, .ref a0), (1, .int x1)] [] t rc rs := by
  unfold V_X8_isMonth_0 at h
  refine x_iload_n 1 dX8_isMonth_0 rfl rfl ?_
  refine x_iconst (v := (0 : Int32)) dX8_isMonth_1 (by decide) ?_
  refine x_aload_n 0 dX8_isMonth_2 rfl rfl ?_
  obtain ⟨⟨fs, hf⟩, h⟩ := h
  refine x_invV (as := []) (rest := [.int (0 : Int32), .int x1]) dX8_isMonth_3 (q := (RX8, TX8, 40)) rfl xc_X8_isMonth_129 hf (M_X8_month hl h) rfl rfl (Nat.le_of_ble_eq_true rfl) (Nat.zero_le _) (Nat.zero_le _) (xk_i fun x_2 t_1 h => ?_)
  refine x_invS (as := [.int x1, .int (0 : Int32), .int x_2]) (rest := []) dX8_isMonth_6 xc_X8_isMonth_119 (M_X8_in hl h) rfl rfl (Nat.le_of_ble_eq_true rfl) (Nat.zero_le _) (Nat.zero_le _) (xk_i fun x_4 t_3 h => ?_)
  obtain ⟨hn, h⟩ := h
  exact x_zret dX8_isMonth_9 hr ht hn ⟨_, rfl, h⟩
theorem M_X8_isMonth {l : Launch} {G : xG} (hl : l.stackTraces = false) {a0 : Nat} {x1 : Int32} {t : xT} {K : Int32 → xT → Prop} (h : V_X8_isMonth_0 K a0 x1 t) : xMet l G yX8_isMonth k_X8_isMonth (some .boolean) [.ref a0, .int x1] t (xKi K) 0 0 := xMet.of (by decide +kernel) rfl hl (Nat.le_of_ble_eq_true rfl) (fun Γ e1 e2 ht hn hr => by subst e1; subst e2; exact S_X8_isMonth_0 hl ht hr h)
/-! RentStreamModel.bill(III)J -/
def V_X8_bill_47 (K : Int64 → xT → Prop) (a0 : Nat) (x1 : Int32) (x2 : Int32) (x3 : Int32) (xs0 : Int32) (as1 : Nat) (t : xT) : Prop :=
  (xis t as1 8 ∧ V_X8_holds_0 (fun x_2 t_1 => ((¬ x_2 = 0 → (V_X8_at_0 (fun x_4 t_3 => xgR t_3 a0 8 26 fun a_5 => xaI 2 t_3 a_5 x_4 fun x_6 => ((¬ x_6 = 0 → ((¬ x3 = 0 → ((¬ x3 = (1 : Int32) → ((¬ x3 = (2 : Int32) → xgR t_3 a0 8 30 fun a_7 => xaI 0 t_3 a_7 x_4 fun x_8 => K x_8.toInt64 t_3) ∧ (x3 = (2 : Int32) → xgR t_3 a0 8 29 fun a_9 => xaI 0 t_3 a_9 x_4 fun x_10 => K x_10.toInt64 t_3))) ∧ (x3 = (1 : Int32) → xgR t_3 a0 8 28 fun a_11 => xaI 0 t_3 a_11 x_4 fun x_12 => K x_12.toInt64 t_3))) ∧ (x3 = 0 → xgR t_3 a0 8 27 fun a_13 => xaI 0 t_3 a_13 x_4 fun x_14 => K x_14.toInt64 t_3))) ∧ (x_6 = 0 → K (-1 : Int64) t_3))) x1 x2 t_1)) ∧ (x_2 = 0 → K (0 : Int64) t_1))) as1 xs0 t)
set_option maxRecDepth 20000 in
theorem S_X8_bill_47 {Γ : xΓ} {K : Int64 → xT → Prop} (hl : (gl Γ).stackTraces = false) (ht : (gM Γ).sig.returnType = (some .long)) (hr : xRet Γ (xKl K)) {a0 : Nat} {x1 : Int32} {x2 : Int32} {x3 : Int32} {xs0 : Int32} {as1 : Nat} {t : xT} {rc rs : Nat} (h : V_X8_bill_47 K a0 x1 x2 x3 xs0 as1 t) : xX Γ k_X8_bill 47 [(0, .ref a0), (1, .int x1), (2, .int x2), (3, .int x3)] [.int xs0, .ref as1] t rc rs := by
  unfold V_X8_bill_47 at h
  obtain ⟨⟨fs, hf⟩, h⟩ := h
  refine x_invV (as := [.int xs0]) (rest := []) dX8_bill_47 (q := (RX8, TX8, 40)) rfl xc_X8_bill_133 hf (M_X8_holds hl h) rfl rfl (Nat.le_of_ble_eq_true rfl) (Nat.zero_le _) (Nat.zero_le _) (xk_i fun x_2 t_1 h => ?_)
  obtain ⟨h1, h2⟩ := h
  refine x_if_ne (tgt := 55) dX8_bill_50 (by decide) (fun q => ?_) (fun q => ?_)
  · have h := h1 q
    refine x_iload_n 1 dX8_bill_55 rfl rfl ?_
    refine x_iload_n 2 dX8_bill_56 rfl rfl ?_
    refine x_invS (as := [.int x1, .int x2]) (rest := []) dX8_bill_57 xc_X8_bill_173 (M_X8_at hl h) rfl rfl (Nat.le_of_ble_eq_true rfl) (Nat.zero_le _) (Nat.zero_le _) (xk_i fun x_4 t_3 h => ?_)
    refine x_istore (L' := [(5, .int x_4), (0, .ref a0), (1, .int x1), (2, .int x2), (3, .int x3)]) dX8_bill_60 (by decide) rfl ?_
    refine x_aload_n 1 dX8_bill_62 rfl rfl ?_
    obtain ⟨fs, hf, a_5, hv, h⟩ := h
    refine x_get dX8_bill_63 xf_X8_72 hf hv ?_
    refine x_iload 0 dX8_bill_66 rfl ?_
    obtain ⟨n, f, hf, hi, h⟩ := h
    refine x_zald dX8_bill_68 hf hi ?_
    generalize f _ = x_6 at h ⊢
    obtain ⟨h1, h2⟩ := h
    refine x_if_ne (tgt := 78) dX8_bill_69 (by decide) (fun q => ?_) (fun q => ?_)
    · have h := h1 q
      refine x_iload_n 4 dX8_bill_78 rfl rfl ?_
      obtain ⟨h1, h2⟩ := h
      refine x_if_ne (tgt := 93) dX8_bill_79 (by decide) (fun q => ?_) (fun q => ?_)
      · have h := h1 q
        refine x_iload_n 4 dX8_bill_93 rfl rfl ?_
        refine x_iconst (v := (1 : Int32)) dX8_bill_94 (by decide) ?_
        obtain ⟨h1, h2⟩ := h
        refine x_icmp_ne (tgt := 109) dX8_bill_95 (by decide) (fun q => ?_) (fun q => ?_)
        · have h := h1 q
          refine x_iload_n 4 dX8_bill_109 rfl rfl ?_
          refine x_iconst (v := (2 : Int32)) dX8_bill_110 (by decide) ?_
          obtain ⟨h1, h2⟩ := h
          refine x_icmp_ne (tgt := 125) dX8_bill_111 (by decide) (fun q => ?_) (fun q => ?_)
          · have h := h1 q
            refine x_aload_n 1 dX8_bill_125 rfl rfl ?_
            obtain ⟨fs, hf, a_7, hv, h⟩ := h
            refine x_get dX8_bill_126 xf_X8_84 hf hv ?_
            refine x_iload 0 dX8_bill_129 rfl ?_
            obtain ⟨n, f, hf, hi, h⟩ := h
            refine x_iald dX8_bill_131 hf hi ?_
            generalize f _ = x_8 at h ⊢
            refine x_i2l dX8_bill_132 ?_
            exact x_lret dX8_bill_133 hr ht ⟨_, rfl, h⟩
          · have h := h2 q
            refine x_aload_n 1 dX8_bill_114 rfl rfl ?_
            obtain ⟨fs, hf, a_9, hv, h⟩ := h
            refine x_get dX8_bill_115 xf_X8_81 hf hv ?_
            refine x_iload 0 dX8_bill_118 rfl ?_
            obtain ⟨n, f, hf, hi, h⟩ := h
            refine x_iald dX8_bill_120 hf hi ?_
            generalize f _ = x_10 at h ⊢
            refine x_i2l dX8_bill_121 ?_
            refine x_goto (tgt := 133) dX8_bill_122 (by decide) ?_
            exact x_lret dX8_bill_133 hr ht ⟨_, rfl, h⟩
        · have h := h2 q
          refine x_aload_n 1 dX8_bill_98 rfl rfl ?_
          obtain ⟨fs, hf, a_11, hv, h⟩ := h
          refine x_get dX8_bill_99 xf_X8_78 hf hv ?_
          refine x_iload 0 dX8_bill_102 rfl ?_
          obtain ⟨n, f, hf, hi, h⟩ := h
          refine x_iald dX8_bill_104 hf hi ?_
          generalize f _ = x_12 at h ⊢
          refine x_i2l dX8_bill_105 ?_
          refine x_goto (tgt := 133) dX8_bill_106 (by decide) ?_
          exact x_lret dX8_bill_133 hr ht ⟨_, rfl, h⟩
      · have h := h2 q
        refine x_aload_n 1 dX8_bill_82 rfl rfl ?_
        obtain ⟨fs, hf, a_13, hv, h⟩ := h
        refine x_get dX8_bill_83 xf_X8_75 hf hv ?_
        refine x_iload 0 dX8_bill_86 rfl ?_
        obtain ⟨n, f, hf, hi, h⟩ := h
        refine x_iald dX8_bill_88 hf hi ?_
        generalize f _ = x_14 at h ⊢
        refine x_i2l dX8_bill_89 ?_
        refine x_goto (tgt := 133) dX8_bill_90 (by decide) ?_
        exact x_lret dX8_bill_133 hr ht ⟨_, rfl, h⟩
    · have h := h2 q
      refine x_ldc2 dX8_bill_72 xw1461 ?_
      refine x_goto (tgt := 133) dX8_bill_75 (by decide) ?_
      exact x_lret dX8_bill_133 hr ht ⟨_, rfl, h⟩
  · have h := h2 q
    refine x_lconst (v := (0 : Int64)) dX8_bill_53 (by decide) ?_
    exact x_lret dX8_bill_54 hr ht ⟨_, rfl, h⟩
def V_X8_bill_21 (K : Int64 → xT → Prop) (a0 : Nat) (x1 : Int32) (x2 : Int32) (x3 : Int32) (xs0 : Int32) (t : xT) : Prop :=
  ((¬ xs0 = 0 → (V_X8_in_0 (fun x_2 t_1 => ((x_2 = 0 → V_X8_bill_47 K a0 x1 x2 x3 (2 : Int32) a0 t_1) ∧ (¬ x_2 = 0 → V_X8_bill_47 K a0 x1 x2 x3 (0 : Int32) a0 t_1))) x3 (0 : Int32) (3 : Int32) t)) ∧ (xs0 = 0 → V_X8_bill_47 K a0 x1 x2 x3 (1 : Int32) a0 t))
set_option maxRecDepth 20000 in
theorem S_X8_bill_21 {Γ : xΓ} {K : Int64 → xT → Prop} (hl : (gl Γ).stackTraces = false) (ht : (gM Γ).sig.returnType = (some .long)) (hr : xRet Γ (xKl K)) {a0 : Nat} {x1 : Int32} {x2 : Int32} {x3 : Int32} {xs0 : Int32} {t : xT} {rc rs : Nat} (h : V_X8_bill_21 K a0 x1 x2 x3 xs0 t) : xX Γ k_X8_bill 21 [(0, .ref a0), (1, .int x1), (2, .int x2), (3, .int x3)] [.int xs0] t rc rs := by
  unfold V_X8_bill_21 at h
  refine x_istore (L' := [(4, .int xs0), (0, .ref a0), (1, .int x1), (2, .int x2), (3, .int x3)]) dX8_bill_21 (by decide) rfl ?_
  refine x_aload_n 1 dX8_bill_23 rfl rfl ?_
  refine x_iload 0 dX8_bill_24 rfl ?_
  obtain ⟨h1, h2⟩ := h
  refine x_if_ne (tgt := 33) dX8_bill_26 (by decide) (fun q => ?_) (fun q => ?_)
  · have h := h1 q
    refine x_iload_n 4 dX8_bill_33 rfl rfl ?_
    refine x_iconst (v := (0 : Int32)) dX8_bill_34 (by decide) ?_
    refine x_iconst (v := (3 : Int32)) dX8_bill_35 (by decide) ?_
    refine x_invS (as := [.int x3, .int (0 : Int32), .int (3 : Int32)]) (rest := [.ref a0]) dX8_bill_36 xc_X8_bill_119 (M_X8_in hl h) rfl rfl (Nat.le_of_ble_eq_true rfl) (Nat.zero_le _) (Nat.zero_le _) (xk_i fun x_2 t_1 h => ?_)
    obtain ⟨h1, h2⟩ := h
    refine x_if_eq (tgt := 46) dX8_bill_39 (by decide) (fun q => ?_) (fun q => ?_)
    · have h := h1 q
      refine x_iconst (v := (2 : Int32)) dX8_bill_46 (by decide) ?_
      refine x_sub (L' := [(0, .ref a0), (1, .int x1), (2, .int x2), (3, .int x3)]) [1, 2, 3, 4] rfl ?_
      exact S_X8_bill_47 hl ht hr  h
    · have h := h2 q
      refine x_iconst (v := (0 : Int32)) dX8_bill_42 (by decide) ?_
      refine x_goto (tgt := 47) dX8_bill_43 (by decide) ?_
      refine x_sub (L' := [(0, .ref a0), (1, .int x1), (2, .int x2), (3, .int x3)]) [1, 2, 3, 4] rfl ?_
      exact S_X8_bill_47 hl ht hr  h
  · have h := h2 q
    refine x_iconst (v := (1 : Int32)) dX8_bill_29 (by decide) ?_
    refine x_goto (tgt := 47) dX8_bill_30 (by decide) ?_
    refine x_sub (L' := [(0, .ref a0), (1, .int x1), (2, .int x2), (3, .int x3)]) [1, 2, 3, 4] rfl ?_
    exact S_X8_bill_47 hl ht hr  h
def V_X8_bill_0 (K : Int64 → xT → Prop) (a0 : Nat) (x1 : Int32) (x2 : Int32) (x3 : Int32) (t : xT) : Prop :=
  (xis t a0 8 ∧ V_X8_isLease_0 (fun x_2 t_1 => ((x_2 = 0 → V_X8_bill_21 K a0 x1 x2 x3 (0 : Int32) t_1) ∧ (¬ x_2 = 0 → (xis t_1 a0 8 ∧ V_X8_isMonth_0 (fun x_4 t_3 => ((x_4 = 0 → V_X8_bill_21 K a0 x1 x2 x3 (0 : Int32) t_3) ∧ (¬ x_4 = 0 → V_X8_bill_21 K a0 x1 x2 x3 (1 : Int32) t_3))) a0 x2 t_1)))) a0 x1 t)
set_option maxRecDepth 20000 in
theorem S_X8_bill_0 {Γ : xΓ} {K : Int64 → xT → Prop} (hl : (gl Γ).stackTraces = false) (ht : (gM Γ).sig.returnType = (some .long)) (hr : xRet Γ (xKl K)) {a0 : Nat} {x1 : Int32} {x2 : Int32} {x3 : Int32} {t : xT} {rc rs : Nat} (h : V_X8_bill_0 K a0 x1 x2 x3 t) : xX Γ k_X8_bill 0 [(0, .ref a0), (1, .int x1), (2, .int x2), (3, .int x3)] [] t rc rs := by
  unfold V_X8_bill_0 at h
  refine x_aload_n 0 dX8_bill_0 rfl rfl ?_
  refine x_iload_n 1 dX8_bill_1 rfl rfl ?_
  obtain ⟨⟨fs, hf⟩, h⟩ := h
  refine x_invV (as := [.int x1]) (rest := []) dX8_bill_2 (q := (RX8, TX8, 40)) rfl xc_X8_bill_148 hf (M_X8_isLease hl h) rfl rfl (Nat.le_of_ble_eq_true rfl) (Nat.zero_le _) (Nat.zero_le _) (xk_i fun x_2 t_1 h => ?_)
  obtain ⟨h1, h2⟩ := h
  refine x_if_eq (tgt := 20) dX8_bill_5 (by decide) (fun q => ?_) (fun q => ?_)
  · have h := h1 q
    refine x_iconst (v := (0 : Int32)) dX8_bill_20 (by decide) ?_
    exact S_X8_bill_21 hl ht hr  h
  · have h := h2 q
    refine x_aload_n 0 dX8_bill_8 rfl rfl ?_
    refine x_iload_n 2 dX8_bill_9 rfl rfl ?_
    obtain ⟨⟨fs, hf⟩, h⟩ := h
    refine x_invV (as := [.int x2]) (rest := []) dX8_bill_10 (q := (RX8, TX8, 40)) rfl xc_X8_bill_202 hf (M_X8_isMonth hl h) rfl rfl (Nat.le_of_ble_eq_true rfl) (Nat.zero_le _) (Nat.zero_le _) (xk_i fun x_4 t_3 h => ?_)
    obtain ⟨h1, h2⟩ := h
    refine x_if_eq (tgt := 20) dX8_bill_13 (by decide) (fun q => ?_) (fun q => ?_)
    · have h := h1 q
      refine x_iconst (v := (0 : Int32)) dX8_bill_20 (by decide) ?_
      exact S_X8_bill_21 hl ht hr  h
    · have h := h2 q
      refine x_iconst (v := (1 : Int32)) dX8_bill_16 (by decide) ?_
      refine x_goto (tgt := 21) dX8_bill_17 (by decide) ?_
      exact S_X8_bill_21 hl ht hr  h
theorem M_X8_bill {l : Launch} {G : xG} (hl : l.stackTraces = false) {a0 : Nat} {x1 : Int32} {x2 : Int32} {x3 : Int32} {t : xT} {K : Int64 → xT → Prop} (h : V_X8_bill_0 K a0 x1 x2 x3 t) : xMet l G yX8_bill k_X8_bill (some .long) [.ref a0, .int x1, .int x2, .int x3] t (xKl K) 0 0 := xMet.of (by decide +kernel) rfl hl (Nat.le_of_ble_eq_true rfl) (fun Γ e1 e2 ht hn hr => by subst e1; subst e2; exact S_X8_bill_0 hl ht hr h)
/-! RentStreamModel.desk(I)J -/
def V_X8_desk_0 (K : Int64 → xT → Prop) (a0 : Nat) (x1 : Int32) (t : xT) : Prop :=
  (xis t a0 8 ∧ V_X8_isLease_0 (fun x_2 t_1 => ((x_2 = 0 → (xis t_1 a0 8 ∧ V_X8_holds_0 (fun x_4 t_3 => ((x_4 = 0 → K (0 : Int64) t_3) ∧ (¬ x_4 = 0 → xgR t_3 a0 8 24 fun a_5 => xaJ t_3 a_5 x1 fun y_6 => K y_6 t_3))) a0 (1 : Int32) t_1)) ∧ (¬ x_2 = 0 → (xis t_1 a0 8 ∧ V_X8_holds_0 (fun x_8 t_7 => ((x_8 = 0 → K (0 : Int64) t_7) ∧ (¬ x_8 = 0 → xgR t_7 a0 8 24 fun a_9 => xaJ t_7 a_9 x1 fun y_10 => K y_10 t_7))) a0 (0 : Int32) t_1)))) a0 x1 t)
set_option maxRecDepth 20000 in
theorem S_X8_desk_0 {Γ : xΓ} {K : Int64 → xT → Prop} (hl : (gl Γ).stackTraces = false) (ht : (gM Γ).sig.returnType = (some .long)) (hr : xRet Γ (xKl K)) {a0 : Nat} {x1 : Int32} {t : xT} {rc rs : Nat} (h : V_X8_desk_0 K a0 x1 t) : xX Γ k_X8_desk 0 [(0, .ref a0), (1, .int x1)] [] t rc rs := by
  unfold V_X8_desk_0 at h
  refine x_aload_n 0 dX8_desk_0 rfl rfl ?_
  refine x_aload_n 0 dX8_desk_1 rfl rfl ?_
  refine x_iload_n 1 dX8_desk_2 rfl rfl ?_
  obtain ⟨⟨fs, hf⟩, h⟩ := h
  refine x_invV (as := [.int x1]) (rest := [.ref a0]) dX8_desk_3 (q := (RX8, TX8, 40)) rfl xc_X8_desk_148 hf (M_X8_isLease hl h) rfl rfl (Nat.le_of_ble_eq_true rfl) (Nat.zero_le _) (Nat.zero_le _) (xk_i fun x_2 t_1 h => ?_)
  obtain ⟨h1, h2⟩ := h
  refine x_if_eq (tgt := 13) dX8_desk_6 (by decide) (fun q => ?_) (fun q => ?_)
  · have h := h1 q
    refine x_iconst (v := (1 : Int32)) dX8_desk_13 (by decide) ?_
    obtain ⟨⟨fs, hf⟩, h⟩ := h
    refine x_invV (as := [.int (1 : Int32)]) (rest := []) dX8_desk_14 (q := (RX8, TX8, 40)) rfl xc_X8_desk_133 hf (M_X8_holds hl h) rfl rfl (Nat.le_of_ble_eq_true rfl) (Nat.zero_le _) (Nat.zero_le _) (xk_i fun x_4 t_3 h => ?_)
    obtain ⟨h1, h2⟩ := h
    refine x_if_eq (tgt := 29) dX8_desk_17 (by decide) (fun q => ?_) (fun q => ?_)
    · have h := h1 q
      refine x_lconst (v := (0 : Int64)) dX8_desk_29 (by decide) ?_
      exact x_lret dX8_desk_30 hr ht ⟨_, rfl, h⟩
    · have h := h2 q
      refine x_aload_n 0 dX8_desk_20 rfl rfl ?_
      obtain ⟨fs, hf, a_5, hv, h⟩ := h
      refine x_get dX8_desk_21 xf_X8_66 hf hv ?_
      refine x_iload_n 1 dX8_desk_24 rfl rfl ?_
      obtain ⟨n, f, hf, hi, h⟩ := h
      refine x_lald dX8_desk_25 hf hi ?_
      generalize f _ = y_6 at h ⊢
      refine x_goto (tgt := 30) dX8_desk_26 (by decide) ?_
      exact x_lret dX8_desk_30 hr ht ⟨_, rfl, h⟩
  · have h := h2 q
    refine x_iconst (v := (0 : Int32)) dX8_desk_9 (by decide) ?_
    refine x_goto (tgt := 14) dX8_desk_10 (by decide) ?_
    obtain ⟨⟨fs, hf⟩, h⟩ := h
    refine x_invV (as := [.int (0 : Int32)]) (rest := []) dX8_desk_14 (q := (RX8, TX8, 40)) rfl xc_X8_desk_133 hf (M_X8_holds hl h) rfl rfl (Nat.le_of_ble_eq_true rfl) (Nat.zero_le _) (Nat.zero_le _) (xk_i fun x_8 t_7 h => ?_)
    obtain ⟨h1, h2⟩ := h
    refine x_if_eq (tgt := 29) dX8_desk_17 (by decide) (fun q => ?_) (fun q => ?_)
    · have h := h1 q
      refine x_lconst (v := (0 : Int64)) dX8_desk_29 (by decide) ?_
      exact x_lret dX8_desk_30 hr ht ⟨_, rfl, h⟩
    · have h := h2 q
      refine x_aload_n 0 dX8_desk_20 rfl rfl ?_
      obtain ⟨fs, hf, a_9, hv, h⟩ := h
      refine x_get dX8_desk_21 xf_X8_66 hf hv ?_
      refine x_iload_n 1 dX8_desk_24 rfl rfl ?_
      obtain ⟨n, f, hf, hi, h⟩ := h
      refine x_lald dX8_desk_25 hf hi ?_
      generalize f _ = y_10 at h ⊢
      refine x_goto (tgt := 30) dX8_desk_26 (by decide) ?_
      exact x_lret dX8_desk_30 hr ht ⟨_, rfl, h⟩
theorem M_X8_desk {l : Launch} {G : xG} (hl : l.stackTraces = false) {a0 : Nat} {x1 : Int32} {t : xT} {K : Int64 → xT → Prop} (h : V_X8_desk_0 K a0 x1 t) : xMet l G yX8_desk k_X8_desk (some .long) [.ref a0, .int x1] t (xKl K) 0 0 := xMet.of (by decide +kernel) rfl hl (Nat.le_of_ble_eq_true rfl) (fun Γ e1 e2 ht hn hr => by subst e1; subst e2; exact S_X8_desk_0 hl ht hr h)
/-! RentStreamModel.end(I)I -/
def V_X8_end_0 (K : Int32 → xT → Prop) (a0 : Nat) (x1 : Int32) (t : xT) : Prop :=
  (xis t a0 8 ∧ V_X8_isLease_0 (fun x_2 t_1 => ((¬ x_2 = 0 → xgR t_1 a0 8 22 fun a_3 => xaI 0 t_1 a_3 x1 fun x_4 => ((x_4 = (1000 : Int32) → (xis t_1 a0 8 ∧ V_X8_holds_0 (fun x_6 t_5 => ((¬ x_6 = 0 → xgR t_5 a0 8 22 fun a_7 => (xis t_5 a0 8 ∧ V_X8_month_0 (fun x_9 t_8 => xsI 0 t_8 a_7 x1 x_9 fun t_10 => (xis t_10 a0 8 ∧ V_X8_month_0 (fun x_12 t_11 => K x_12 t_11) a0 t_10)) a0 t_5)) ∧ (x_6 = 0 → K (0 : Int32) t_5))) a0 (0 : Int32) t_1)) ∧ (¬ x_4 = (1000 : Int32) → (xis t_1 a0 8 ∧ V_X8_holds_0 (fun x_14 t_13 => ((¬ x_14 = 0 → xgR t_13 a0 8 22 fun a_15 => (xis t_13 a0 8 ∧ V_X8_month_0 (fun x_17 t_16 => xsI 0 t_16 a_15 x1 x_17 fun t_18 => (xis t_18 a0 8 ∧ V_X8_month_0 (fun x_20 t_19 => K x_20 t_19) a0 t_18)) a0 t_13)) ∧ (x_14 = 0 → K (0 : Int32) t_13))) a0 (2 : Int32) t_1)))) ∧ (x_2 = 0 → (xis t_1 a0 8 ∧ V_X8_holds_0 (fun x_22 t_21 => ((¬ x_22 = 0 → xgR t_21 a0 8 22 fun a_23 => (xis t_21 a0 8 ∧ V_X8_month_0 (fun x_25 t_24 => xsI 0 t_24 a_23 x1 x_25 fun t_26 => (xis t_26 a0 8 ∧ V_X8_month_0 (fun x_28 t_27 => K x_28 t_27) a0 t_26)) a0 t_21)) ∧ (x_22 = 0 → K (0 : Int32) t_21))) a0 (1 : Int32) t_1)))) a0 x1 t)
set_option maxRecDepth 20000 in
theorem S_X8_end_0 {Γ : xΓ} {K : Int32 → xT → Prop} (hl : (gl Γ).stackTraces = false) (ht : (gM Γ).sig.returnType = (some .int)) (hr : xRet Γ (xKi K)) {a0 : Nat} {x1 : Int32} {t : xT} {rc rs : Nat} (h : V_X8_end_0 K a0 x1 t) : xX Γ k_X8_end 0 [(0, .ref a0), (1, .int x1)] [] t rc rs := by
  unfold V_X8_end_0 at h
  refine x_aload_n 0 dX8_end_0 rfl rfl ?_
  refine x_iload_n 1 dX8_end_1 rfl rfl ?_
  obtain ⟨⟨fs, hf⟩, h⟩ := h
  refine x_invV (as := [.int x1]) (rest := []) dX8_end_2 (q := (RX8, TX8, 40)) rfl xc_X8_end_148 hf (M_X8_isLease hl h) rfl rfl (Nat.le_of_ble_eq_true rfl) (Nat.zero_le _) (Nat.zero_le _) (xk_i fun x_2 t_1 h => ?_)
  refine x_istore_n (L' := [(2, .int x_2), (0, .ref a0), (1, .int x1)]) dX8_end_5 rfl (by decide) rfl ?_
  refine x_aload_n 1 dX8_end_6 rfl rfl ?_
  refine x_iload_n 0 dX8_end_7 rfl rfl ?_
  obtain ⟨h1, h2⟩ := h
  refine x_if_ne (tgt := 15) dX8_end_8 (by decide) (fun q => ?_) (fun q => ?_)
  · have h := h1 q
    refine x_aload_n 1 dX8_end_15 rfl rfl ?_
    obtain ⟨fs, hf, a_3, hv, h⟩ := h
    refine x_get dX8_end_16 xf_X8_59 hf hv ?_
    refine x_iload_n 2 dX8_end_19 rfl rfl ?_
    obtain ⟨n, f, hf, hi, h⟩ := h
    refine x_iald dX8_end_20 hf hi ?_
    generalize f _ = x_4 at h ⊢
    refine x_sipush (v := (1000 : Int32)) dX8_end_21 (by decide) ?_
    obtain ⟨h1, h2⟩ := h
    refine x_icmp_eq (tgt := 31) dX8_end_24 (by decide) (fun q => ?_) (fun q => ?_)
    · have h := h1 q
      refine x_iconst (v := (0 : Int32)) dX8_end_31 (by decide) ?_
      obtain ⟨⟨fs, hf⟩, h⟩ := h
      refine x_invV (as := [.int (0 : Int32)]) (rest := []) dX8_end_32 (q := (RX8, TX8, 40)) rfl xc_X8_end_133 hf (M_X8_holds hl h) rfl rfl (Nat.le_of_ble_eq_true rfl) (Nat.zero_le _) (Nat.zero_le _) (xk_i fun x_6 t_5 h => ?_)
      obtain ⟨h1, h2⟩ := h
      refine x_if_ne (tgt := 40) dX8_end_35 (by decide) (fun q => ?_) (fun q => ?_)
      · have h := h1 q
        refine x_aload_n 1 dX8_end_40 rfl rfl ?_
        obtain ⟨fs, hf, a_7, hv, h⟩ := h
        refine x_get dX8_end_41 xf_X8_59 hf hv ?_
        refine x_iload_n 2 dX8_end_44 rfl rfl ?_
        refine x_aload_n 1 dX8_end_45 rfl rfl ?_
        obtain ⟨⟨fs, hf⟩, h⟩ := h
        refine x_invV (as := []) (rest := [.int x1, .ref a_7]) dX8_end_46 (q := (RX8, TX8, 40)) rfl xc_X8_end_129 hf (M_X8_month hl h) rfl rfl (Nat.le_of_ble_eq_true rfl) (Nat.zero_le _) (Nat.zero_le _) (xk_i fun x_9 t_8 h => ?_)
        obtain ⟨n, f, hf, hi, h⟩ := h
        refine x_iast dX8_end_49 hf hi ?_
        generalize hT : xup t_8 a_7 _ = t_10 at h ⊢
        clear hT
        refine x_aload_n 1 dX8_end_50 rfl rfl ?_
        obtain ⟨⟨fs, hf⟩, h⟩ := h
        refine x_invV (as := []) (rest := []) dX8_end_51 (q := (RX8, TX8, 40)) rfl xc_X8_end_129 hf (M_X8_month hl h) rfl rfl (Nat.le_of_ble_eq_true rfl) (Nat.zero_le _) (Nat.zero_le _) (xk_i fun x_12 t_11 h => ?_)
        exact x_zret dX8_end_54 hr ht rfl ⟨_, rfl, h⟩
      · have h := h2 q
        refine x_iconst (v := (0 : Int32)) dX8_end_38 (by decide) ?_
        exact x_zret dX8_end_39 hr ht rfl ⟨_, rfl, h⟩
    · have h := h2 q
      refine x_iconst (v := (2 : Int32)) dX8_end_27 (by decide) ?_
      refine x_goto (tgt := 32) dX8_end_28 (by decide) ?_
      obtain ⟨⟨fs, hf⟩, h⟩ := h
      refine x_invV (as := [.int (2 : Int32)]) (rest := []) dX8_end_32 (q := (RX8, TX8, 40)) rfl xc_X8_end_133 hf (M_X8_holds hl h) rfl rfl (Nat.le_of_ble_eq_true rfl) (Nat.zero_le _) (Nat.zero_le _) (xk_i fun x_14 t_13 h => ?_)
      obtain ⟨h1, h2⟩ := h
      refine x_if_ne (tgt := 40) dX8_end_35 (by decide) (fun q => ?_) (fun q => ?_)
      · have h := h1 q
        refine x_aload_n 1 dX8_end_40 rfl rfl ?_
        obtain ⟨fs, hf, a_15, hv, h⟩ := h
        refine x_get dX8_end_41 xf_X8_59 hf hv ?_
        refine x_iload_n 2 dX8_end_44 rfl rfl ?_
        refine x_aload_n 1 dX8_end_45 rfl rfl ?_
        obtain ⟨⟨fs, hf⟩, h⟩ := h
        refine x_invV (as := []) (rest := [.int x1, .ref a_15]) dX8_end_46 (q := (RX8, TX8, 40)) rfl xc_X8_end_129 hf (M_X8_month hl h) rfl rfl (Nat.le_of_ble_eq_true rfl) (Nat.zero_le _) (Nat.zero_le _) (xk_i fun x_17 t_16 h => ?_)
        obtain ⟨n, f, hf, hi, h⟩ := h
        refine x_iast dX8_end_49 hf hi ?_
        generalize hT : xup t_16 a_15 _ = t_18 at h ⊢
        clear hT
        refine x_aload_n 1 dX8_end_50 rfl rfl ?_
        obtain ⟨⟨fs, hf⟩, h⟩ := h
        refine x_invV (as := []) (rest := []) dX8_end_51 (q := (RX8, TX8, 40)) rfl xc_X8_end_129 hf (M_X8_month hl h) rfl rfl (Nat.le_of_ble_eq_true rfl) (Nat.zero_le _) (Nat.zero_le _) (xk_i fun x_20 t_19 h => ?_)
        exact x_zret dX8_end_54 hr ht rfl ⟨_, rfl, h⟩
      · have h := h2 q
        refine x_iconst (v := (0 : Int32)) dX8_end_38 (by decide) ?_
        exact x_zret dX8_end_39 hr ht rfl ⟨_, rfl, h⟩
  · have h := h2 q
    refine x_iconst (v := (1 : Int32)) dX8_end_11 (by decide) ?_
    refine x_goto (tgt := 32) dX8_end_12 (by decide) ?_
    obtain ⟨⟨fs, hf⟩, h⟩ := h
    refine x_invV (as := [.int (1 : Int32)]) (rest := []) dX8_end_32 (q := (RX8, TX8, 40)) rfl xc_X8_end_133 hf (M_X8_holds hl h) rfl rfl (Nat.le_of_ble_eq_true rfl) (Nat.zero_le _) (Nat.zero_le _) (xk_i fun x_22 t_21 h => ?_)
    obtain ⟨h1, h2⟩ := h
    refine x_if_ne (tgt := 40) dX8_end_35 (by decide) (fun q => ?_) (fun q => ?_)
    · have h := h1 q
      refine x_aload_n 1 dX8_end_40 rfl rfl ?_
      obtain ⟨fs, hf, a_23, hv, h⟩ := h
      refine x_get dX8_end_41 xf_X8_59 hf hv ?_
      refine x_iload_n 2 dX8_end_44 rfl rfl ?_
      refine x_aload_n 1 dX8_end_45 rfl rfl ?_
      obtain ⟨⟨fs, hf⟩, h⟩ := h
      refine x_invV (as := []) (rest := [.int x1, .ref a_23]) dX8_end_46 (q := (RX8, TX8, 40)) rfl xc_X8_end_129 hf (M_X8_month hl h) rfl rfl (Nat.le_of_ble_eq_true rfl) (Nat.zero_le _) (Nat.zero_le _) (xk_i fun x_25 t_24 h => ?_)
      obtain ⟨n, f, hf, hi, h⟩ := h
      refine x_iast dX8_end_49 hf hi ?_
      generalize hT : xup t_24 a_23 _ = t_26 at h ⊢
      clear hT
      refine x_aload_n 1 dX8_end_50 rfl rfl ?_
      obtain ⟨⟨fs, hf⟩, h⟩ := h
      refine x_invV (as := []) (rest := []) dX8_end_51 (q := (RX8, TX8, 40)) rfl xc_X8_end_129 hf (M_X8_month hl h) rfl rfl (Nat.le_of_ble_eq_true rfl) (Nat.zero_le _) (Nat.zero_le _) (xk_i fun x_28 t_27 h => ?_)
      exact x_zret dX8_end_54 hr ht rfl ⟨_, rfl, h⟩
    · have h := h2 q
      refine x_iconst (v := (0 : Int32)) dX8_end_38 (by decide) ?_
      exact x_zret dX8_end_39 hr ht rfl ⟨_, rfl, h⟩
theorem M_X8_end {l : Launch} {G : xG} (hl : l.stackTraces = false) {a0 : Nat} {x1 : Int32} {t : xT} {K : Int32 → xT → Prop} (h : V_X8_end_0 K a0 x1 t) : xMet l G yX8_end k_X8_end (some .int) [.ref a0, .int x1] t (xKi K) 0 0 := xMet.of (by decide +kernel) rfl hl (Nat.le_of_ble_eq_true rfl) (fun Γ e1 e2 ht hn hr => by subst e1; subst e2; exact S_X8_end_0 hl ht hr h)
/-! RentStreamModel.flat(I)I -/
def V_X8_flat_29 (K : Int32 → xT → Prop) (a0 : Nat) (x1 : Int32) (xs0 : Int32) (as1 : Nat) (t : xT) : Prop :=
  (xis t as1 8 ∧ V_X8_holds_0 (fun x_2 t_1 => ((¬ x_2 = 0 → xgR t_1 a0 8 3 fun a_3 => xgI t_1 a0 8 2 fun x_4 => xsI 0 t_1 a_3 x_4 x1 fun t_5 => xgR t_5 a0 8 4 fun a_6 => xgI t_5 a0 8 2 fun x_7 => (xis t_5 a0 8 ∧ V_X8_month_0 (fun x_9 t_8 => xsI 0 t_8 a_6 x_7 x_9 fun t_10 => xgR t_10 a0 8 6 fun a_11 => xgI t_10 a0 8 2 fun x_12 => xsI 0 t_10 a_11 x_12 (-1 : Int32) fun t_13 => xgI t_13 a0 8 2 fun x_14 => (xpF t_13 a0 8 2 (.int (x_14 + (1 : Int32))) fun t_15 => xgI t_15 a0 8 2 fun x_16 => K (x_16 - (1 : Int32)) t_15)) a0 t_5)) ∧ (x_2 = 0 → K (0 : Int32) t_1))) as1 xs0 t)
set_option maxRecDepth 20000 in
theorem S_X8_flat_29 {Γ : xΓ} {K : Int32 → xT → Prop} (hl : (gl Γ).stackTraces = false) (ht : (gM Γ).sig.returnType = (some .int)) (hr : xRet Γ (xKi K)) {a0 : Nat} {x1 : Int32} {xs0 : Int32} {as1 : Nat} {t : xT} {rc rs : Nat} (h : V_X8_flat_29 K a0 x1 xs0 as1 t) : xX Γ k_X8_flat 29 [(0, .ref a0), (1, .int x1)] [.int xs0, .ref as1] t rc rs := by
  unfold V_X8_flat_29 at h
  obtain ⟨⟨fs, hf⟩, h⟩ := h
  refine x_invV (as := [.int xs0]) (rest := []) dX8_flat_29 (q := (RX8, TX8, 40)) rfl xc_X8_flat_133 hf (M_X8_holds hl h) rfl rfl (Nat.le_of_ble_eq_true rfl) (Nat.zero_le _) (Nat.zero_le _) (xk_i fun x_2 t_1 h => ?_)
  obtain ⟨h1, h2⟩ := h
  refine x_if_ne (tgt := 37) dX8_flat_32 (by decide) (fun q => ?_) (fun q => ?_)
  · have h := h1 q
    refine x_aload_n 0 dX8_flat_37 rfl rfl ?_
    obtain ⟨fs, hf, a_3, hv, h⟩ := h
    refine x_get dX8_flat_38 xf_X8_7 hf hv ?_
    refine x_aload_n 0 dX8_flat_41 rfl rfl ?_
    obtain ⟨fs, hf, x_4, hv, h⟩ := h
    refine x_get dX8_flat_42 xf_X8_116 hf hv ?_
    refine x_iload_n 1 dX8_flat_45 rfl rfl ?_
    obtain ⟨n, f, hf, hi, h⟩ := h
    refine x_iast dX8_flat_46 hf hi ?_
    generalize hT : xup t_1 a_3 _ = t_5 at h ⊢
    clear hT
    refine x_aload_n 0 dX8_flat_47 rfl rfl ?_
    obtain ⟨fs, hf, a_6, hv, h⟩ := h
    refine x_get dX8_flat_48 xf_X8_13 hf hv ?_
    refine x_aload_n 0 dX8_flat_51 rfl rfl ?_
    obtain ⟨fs, hf, x_7, hv, h⟩ := h
    refine x_get dX8_flat_52 xf_X8_116 hf hv ?_
    refine x_aload_n 0 dX8_flat_55 rfl rfl ?_
    obtain ⟨⟨fs, hf⟩, h⟩ := h
    refine x_invV (as := []) (rest := [.int x_7, .ref a_6]) dX8_flat_56 (q := (RX8, TX8, 40)) rfl xc_X8_flat_129 hf (M_X8_month hl h) rfl rfl (Nat.le_of_ble_eq_true rfl) (Nat.zero_le _) (Nat.zero_le _) (xk_i fun x_9 t_8 h => ?_)
    obtain ⟨n, f, hf, hi, h⟩ := h
    refine x_iast dX8_flat_59 hf hi ?_
    generalize hT : xup t_8 a_6 _ = t_10 at h ⊢
    clear hT
    refine x_aload_n 0 dX8_flat_60 rfl rfl ?_
    obtain ⟨fs, hf, a_11, hv, h⟩ := h
    refine x_get dX8_flat_61 xf_X8_19 hf hv ?_
    refine x_aload_n 0 dX8_flat_64 rfl rfl ?_
    obtain ⟨fs, hf, x_12, hv, h⟩ := h
    refine x_get dX8_flat_65 xf_X8_116 hf hv ?_
    refine x_iconst (v := (-1 : Int32)) dX8_flat_68 (by decide) ?_
    obtain ⟨n, f, hf, hi, h⟩ := h
    refine x_iast dX8_flat_69 hf hi ?_
    generalize hT : xup t_10 a_11 _ = t_13 at h ⊢
    clear hT
    refine x_aload_n 0 dX8_flat_70 rfl rfl ?_
    refine x_dup dX8_flat_71 rfl ?_
    obtain ⟨fs, hf, x_14, hv, h⟩ := h
    refine x_get dX8_flat_72 xf_X8_116 hf hv ?_
    refine x_iconst (v := (1 : Int32)) dX8_flat_75 (by decide) ?_
    refine x_iadd dX8_flat_76 ?_
    obtain ⟨fs, hf, hk, h⟩ := h
    refine x_put (v := .int (x_14 + (1 : Int32))) dX8_flat_77 xp_X8_116 hf rfl rfl hk ?_
    generalize hT : xup t_13 a0 _ = t_15 at h ⊢
    clear hT
    refine x_aload_n 0 dX8_flat_80 rfl rfl ?_
    obtain ⟨fs, hf, x_16, hv, h⟩ := h
    refine x_get dX8_flat_81 xf_X8_116 hf hv ?_
    refine x_iconst (v := (1 : Int32)) dX8_flat_84 (by decide) ?_
    refine x_isub dX8_flat_85 ?_
    exact x_zret dX8_flat_86 hr ht rfl ⟨_, rfl, h⟩
  · have h := h2 q
    refine x_iconst (v := (0 : Int32)) dX8_flat_35 (by decide) ?_
    exact x_zret dX8_flat_36 hr ht rfl ⟨_, rfl, h⟩
def V_X8_flat_0 (K : Int32 → xT → Prop) (a0 : Nat) (x1 : Int32) (t : xT) : Prop :=
  (V_X8_in_0 (fun x_2 t_1 => ((¬ x_2 = 0 → xgI t_1 a0 8 2 fun x_3 => ((¬ x_3 = (8 : Int32) → V_X8_flat_29 K a0 x1 (0 : Int32) a0 t_1) ∧ (x_3 = (8 : Int32) → V_X8_flat_29 K a0 x1 (2 : Int32) a0 t_1))) ∧ (x_2 = 0 → V_X8_flat_29 K a0 x1 (1 : Int32) a0 t_1))) x1 (1 : Int32) (9 : Int32) t)
set_option maxRecDepth 20000 in
theorem S_X8_flat_0 {Γ : xΓ} {K : Int32 → xT → Prop} (hl : (gl Γ).stackTraces = false) (ht : (gM Γ).sig.returnType = (some .int)) (hr : xRet Γ (xKi K)) {a0 : Nat} {x1 : Int32} {t : xT} {rc rs : Nat} (h : V_X8_flat_0 K a0 x1 t) : xX Γ k_X8_flat 0 [(0, .ref a0), (1, .int x1)] [] t rc rs := by
  unfold V_X8_flat_0 at h
  refine x_aload_n 0 dX8_flat_0 rfl rfl ?_
  refine x_iload_n 1 dX8_flat_1 rfl rfl ?_
  refine x_iconst (v := (1 : Int32)) dX8_flat_2 (by decide) ?_
  refine x_bipush (v := (9 : Int32)) dX8_flat_3 (by decide) ?_
  refine x_invS (as := [.int x1, .int (1 : Int32), .int (9 : Int32)]) (rest := [.ref a0]) dX8_flat_5 xc_X8_flat_119 (M_X8_in hl h) rfl rfl (Nat.le_of_ble_eq_true rfl) (Nat.zero_le _) (Nat.zero_le _) (xk_i fun x_2 t_1 h => ?_)
  obtain ⟨h1, h2⟩ := h
  refine x_if_ne (tgt := 15) dX8_flat_8 (by decide) (fun q => ?_) (fun q => ?_)
  · have h := h1 q
    refine x_aload_n 0 dX8_flat_15 rfl rfl ?_
    obtain ⟨fs, hf, x_3, hv, h⟩ := h
    refine x_get dX8_flat_16 xf_X8_116 hf hv ?_
    refine x_bipush (v := (8 : Int32)) dX8_flat_19 (by decide) ?_
    obtain ⟨h1, h2⟩ := h
    refine x_icmp_ne (tgt := 28) dX8_flat_21 (by decide) (fun q => ?_) (fun q => ?_)
    · have h := h1 q
      refine x_iconst (v := (0 : Int32)) dX8_flat_28 (by decide) ?_
      exact S_X8_flat_29 hl ht hr  h
    · have h := h2 q
      refine x_iconst (v := (2 : Int32)) dX8_flat_24 (by decide) ?_
      refine x_goto (tgt := 29) dX8_flat_25 (by decide) ?_
      exact S_X8_flat_29 hl ht hr  h
  · have h := h2 q
    refine x_iconst (v := (1 : Int32)) dX8_flat_11 (by decide) ?_
    refine x_goto (tgt := 29) dX8_flat_12 (by decide) ?_
    exact S_X8_flat_29 hl ht hr  h
theorem M_X8_flat {l : Launch} {G : xG} (hl : l.stackTraces = false) {a0 : Nat} {x1 : Int32} {t : xT} {K : Int32 → xT → Prop} (h : V_X8_flat_0 K a0 x1 t) : xMet l G yX8_flat k_X8_flat (some .int) [.ref a0, .int x1] t (xKi K) 0 0 := xMet.of (by decide +kernel) rfl hl (Nat.le_of_ble_eq_true rfl) (fun Γ e1 e2 ht hn hr => by subst e1; subst e2; exact S_X8_flat_0 hl ht hr h)
/-! RentStreamModel.heat(I)I -/
def V_X8_heat_0 (K : Int32 → xT → Prop) (a0 : Nat) (x1 : Int32) (t : xT) : Prop :=
  (V_X8_in_0 (fun x_2 t_1 => ((¬ x_2 = 0 → xgI t_1 a0 8 11 fun x_3 => (((x_3 + x1) ≤ (10000000 : Int32) → (xis t_1 a0 8 ∧ V_X8_holds_0 (fun x_5 t_4 => ((¬ x_5 = 0 → xgI t_4 a0 8 11 fun x_6 => (xpF t_4 a0 8 11 (.int (x_6 + x1)) fun t_7 => xgI t_7 a0 8 11 fun x_8 => K x_8 t_7)) ∧ (x_5 = 0 → K (0 : Int32) t_4))) a0 (0 : Int32) t_1)) ∧ (¬ (x_3 + x1) ≤ (10000000 : Int32) → (xis t_1 a0 8 ∧ V_X8_holds_0 (fun x_10 t_9 => ((¬ x_10 = 0 → xgI t_9 a0 8 11 fun x_11 => (xpF t_9 a0 8 11 (.int (x_11 + x1)) fun t_12 => xgI t_12 a0 8 11 fun x_13 => K x_13 t_12)) ∧ (x_10 = 0 → K (0 : Int32) t_9))) a0 (2 : Int32) t_1)))) ∧ (x_2 = 0 → (xis t_1 a0 8 ∧ V_X8_holds_0 (fun x_15 t_14 => ((¬ x_15 = 0 → xgI t_14 a0 8 11 fun x_16 => (xpF t_14 a0 8 11 (.int (x_16 + x1)) fun t_17 => xgI t_17 a0 8 11 fun x_18 => K x_18 t_17)) ∧ (x_15 = 0 → K (0 : Int32) t_14))) a0 (1 : Int32) t_1)))) x1 (1 : Int32) (1000000 : Int32) t)
set_option maxRecDepth 20000 in
theorem S_X8_heat_0 {Γ : xΓ} {K : Int32 → xT → Prop} (hl : (gl Γ).stackTraces = false) (ht : (gM Γ).sig.returnType = (some .int)) (hr : xRet Γ (xKi K)) {a0 : Nat} {x1 : Int32} {t : xT} {rc rs : Nat} (h : V_X8_heat_0 K a0 x1 t) : xX Γ k_X8_heat 0 [(0, .ref a0), (1, .int x1)] [] t rc rs := by
  unfold V_X8_heat_0 at h
  refine x_aload_n 0 dX8_heat_0 rfl rfl ?_
  refine x_iload_n 1 dX8_heat_1 rfl rfl ?_
  refine x_iconst (v := (1 : Int32)) dX8_heat_2 (by decide) ?_
  refine x_ldc dX8_heat_3 xw1391 ?_
  refine x_invS (as := [.int x1, .int (1 : Int32), .int (1000000 : Int32)]) (rest := [.ref a0]) dX8_heat_5 xc_X8_heat_119 (M_X8_in hl h) rfl rfl (Nat.le_of_ble_eq_true rfl) (Nat.zero_le _) (Nat.zero_le _) (xk_i fun x_2 t_1 h => ?_)
  obtain ⟨h1, h2⟩ := h
  refine x_if_ne (tgt := 15) dX8_heat_8 (by decide) (fun q => ?_) (fun q => ?_)
  · have h := h1 q
    refine x_aload_n 0 dX8_heat_15 rfl rfl ?_
    obtain ⟨fs, hf, x_3, hv, h⟩ := h
    refine x_get dX8_heat_16 xf_X8_152 hf hv ?_
    refine x_iload_n 1 dX8_heat_19 rfl rfl ?_
    refine x_iadd dX8_heat_20 ?_
    refine x_ldc dX8_heat_21 xw1396 ?_
    obtain ⟨h1, h2⟩ := h
    refine x_icmp_le (tgt := 30) dX8_heat_23 (by decide) (fun q => ?_) (fun q => ?_)
    · have h := h1 q
      refine x_iconst (v := (0 : Int32)) dX8_heat_30 (by decide) ?_
      obtain ⟨⟨fs, hf⟩, h⟩ := h
      refine x_invV (as := [.int (0 : Int32)]) (rest := []) dX8_heat_31 (q := (RX8, TX8, 40)) rfl xc_X8_heat_133 hf (M_X8_holds hl h) rfl rfl (Nat.le_of_ble_eq_true rfl) (Nat.zero_le _) (Nat.zero_le _) (xk_i fun x_5 t_4 h => ?_)
      obtain ⟨h1, h2⟩ := h
      refine x_if_ne (tgt := 39) dX8_heat_34 (by decide) (fun q => ?_) (fun q => ?_)
      · have h := h1 q
        refine x_aload_n 0 dX8_heat_39 rfl rfl ?_
        refine x_dup dX8_heat_40 rfl ?_
        obtain ⟨fs, hf, x_6, hv, h⟩ := h
        refine x_get dX8_heat_41 xf_X8_152 hf hv ?_
        refine x_iload_n 1 dX8_heat_44 rfl rfl ?_
        refine x_iadd dX8_heat_45 ?_
        obtain ⟨fs, hf, hk, h⟩ := h
        refine x_put (v := .int (x_6 + x1)) dX8_heat_46 xp_X8_152 hf rfl rfl hk ?_
        generalize hT : xup t_4 a0 _ = t_7 at h ⊢
        clear hT
        refine x_aload_n 0 dX8_heat_49 rfl rfl ?_
        obtain ⟨fs, hf, x_8, hv, h⟩ := h
        refine x_get dX8_heat_50 xf_X8_152 hf hv ?_
        exact x_zret dX8_heat_53 hr ht rfl ⟨_, rfl, h⟩
      · have h := h2 q
        refine x_iconst (v := (0 : Int32)) dX8_heat_37 (by decide) ?_
        exact x_zret dX8_heat_38 hr ht rfl ⟨_, rfl, h⟩
    · have h := h2 q
      refine x_iconst (v := (2 : Int32)) dX8_heat_26 (by decide) ?_
      refine x_goto (tgt := 31) dX8_heat_27 (by decide) ?_
      obtain ⟨⟨fs, hf⟩, h⟩ := h
      refine x_invV (as := [.int (2 : Int32)]) (rest := []) dX8_heat_31 (q := (RX8, TX8, 40)) rfl xc_X8_heat_133 hf (M_X8_holds hl h) rfl rfl (Nat.le_of_ble_eq_true rfl) (Nat.zero_le _) (Nat.zero_le _) (xk_i fun x_10 t_9 h => ?_)
      obtain ⟨h1, h2⟩ := h
      refine x_if_ne (tgt := 39) dX8_heat_34 (by decide) (fun q => ?_) (fun q => ?_)
      · have h := h1 q
        refine x_aload_n 0 dX8_heat_39 rfl rfl ?_
        refine x_dup dX8_heat_40 rfl ?_
        obtain ⟨fs, hf, x_11, hv, h⟩ := h
        refine x_get dX8_heat_41 xf_X8_152 hf hv ?_
        refine x_iload_n 1 dX8_heat_44 rfl rfl ?_
        refine x_iadd dX8_heat_45 ?_
        obtain ⟨fs, hf, hk, h⟩ := h
        refine x_put (v := .int (x_11 + x1)) dX8_heat_46 xp_X8_152 hf rfl rfl hk ?_
        generalize hT : xup t_9 a0 _ = t_12 at h ⊢
        clear hT
        refine x_aload_n 0 dX8_heat_49 rfl rfl ?_
        obtain ⟨fs, hf, x_13, hv, h⟩ := h
        refine x_get dX8_heat_50 xf_X8_152 hf hv ?_
        exact x_zret dX8_heat_53 hr ht rfl ⟨_, rfl, h⟩
      · have h := h2 q
        refine x_iconst (v := (0 : Int32)) dX8_heat_37 (by decide) ?_
        exact x_zret dX8_heat_38 hr ht rfl ⟨_, rfl, h⟩
  · have h := h2 q
    refine x_iconst (v := (1 : Int32)) dX8_heat_11 (by decide) ?_
    refine x_goto (tgt := 31) dX8_heat_12 (by decide) ?_
    obtain ⟨⟨fs, hf⟩, h⟩ := h
    refine x_invV (as := [.int (1 : Int32)]) (rest := []) dX8_heat_31 (q := (RX8, TX8, 40)) rfl xc_X8_heat_133 hf (M_X8_holds hl h) rfl rfl (Nat.le_of_ble_eq_true rfl) (Nat.zero_le _) (Nat.zero_le _) (xk_i fun x_15 t_14 h => ?_)
    obtain ⟨h1, h2⟩ := h
    refine x_if_ne (tgt := 39) dX8_heat_34 (by decide) (fun q => ?_) (fun q => ?_)
    · have h := h1 q
      refine x_aload_n 0 dX8_heat_39 rfl rfl ?_
      refine x_dup dX8_heat_40 rfl ?_
      obtain ⟨fs, hf, x_16, hv, h⟩ := h
      refine x_get dX8_heat_41 xf_X8_152 hf hv ?_
      refine x_iload_n 1 dX8_heat_44 rfl rfl ?_
      refine x_iadd dX8_heat_45 ?_
      obtain ⟨fs, hf, hk, h⟩ := h
      refine x_put (v := .int (x_16 + x1)) dX8_heat_46 xp_X8_152 hf rfl rfl hk ?_
      generalize hT : xup t_14 a0 _ = t_17 at h ⊢
      clear hT
      refine x_aload_n 0 dX8_heat_49 rfl rfl ?_
      obtain ⟨fs, hf, x_18, hv, h⟩ := h
      refine x_get dX8_heat_50 xf_X8_152 hf hv ?_
      exact x_zret dX8_heat_53 hr ht rfl ⟨_, rfl, h⟩
    · have h := h2 q
      refine x_iconst (v := (0 : Int32)) dX8_heat_37 (by decide) ?_
      exact x_zret dX8_heat_38 hr ht rfl ⟨_, rfl, h⟩
theorem M_X8_heat {l : Launch} {G : xG} (hl : l.stackTraces = false) {a0 : Nat} {x1 : Int32} {t : xT} {K : Int32 → xT → Prop} (h : V_X8_heat_0 K a0 x1 t) : xMet l G yX8_heat k_X8_heat (some .int) [.ref a0, .int x1] t (xKi K) 0 0 := xMet.of (by decide +kernel) rfl hl (Nat.le_of_ble_eq_true rfl) (fun Γ e1 e2 ht hn hr => by subst e1; subst e2; exact S_X8_heat_0 hl ht hr h)
/-! RentStreamModel.benefitFor(II)I -/
def V_X8_benefitFor_0 (K : Int32 → xT → Prop) (x0 : Int32) (x1 : Int32) (t : xT) : Prop :=
  (¬ (10 : Int32) = 0 ∧ (¬ (10 : Int32) = 0 ∧ ((0 ≤ (x0 - (((3 : Int32) * x1) / (10 : Int32))) → (((x0 - (((3 : Int32) * x1) / (10 : Int32))) ≤ (((8 : Int32) * x0) / (10 : Int32)) → K (x0 - (((3 : Int32) * x1) / (10 : Int32))) t) ∧ (¬ (x0 - (((3 : Int32) * x1) / (10 : Int32))) ≤ (((8 : Int32) * x0) / (10 : Int32)) → K (((8 : Int32) * x0) / (10 : Int32)) t))) ∧ (¬ 0 ≤ (x0 - (((3 : Int32) * x1) / (10 : Int32))) → K (0 : Int32) t))))
set_option maxRecDepth 20000 in
theorem S_X8_benefitFor_0 {Γ : xΓ} {K : Int32 → xT → Prop} (hl : (gl Γ).stackTraces = false) (ht : (gM Γ).sig.returnType = (some .int)) (hr : xRet Γ (xKi K)) {x0 : Int32} {x1 : Int32} {t : xT} {rc rs : Nat} (h : V_X8_benefitFor_0 K x0 x1 t) : xX Γ k_X8_benefitFor 0 [(0, .int x0), (1, .int x1)] [] t rc rs := by
  unfold V_X8_benefitFor_0 at h
  refine x_iload_n 0 dX8_benefitFor_0 rfl rfl ?_
  refine x_iconst (v := (3 : Int32)) dX8_benefitFor_1 (by decide) ?_
  refine x_iload_n 1 dX8_benefitFor_2 rfl rfl ?_
  refine x_imul dX8_benefitFor_3 ?_
  refine x_bipush (v := (10 : Int32)) dX8_benefitFor_4 (by decide) ?_
  obtain ⟨q, h⟩ := h
  refine x_idiv dX8_benefitFor_6 q ?_
  refine x_isub dX8_benefitFor_7 ?_
  refine x_istore_n (L' := [(2, .int (x0 - (((3 : Int32) * x1) / (10 : Int32)))), (0, .int x0), (1, .int x1)]) dX8_benefitFor_8 rfl (by decide) rfl ?_
  refine x_bipush (v := (8 : Int32)) dX8_benefitFor_9 (by decide) ?_
  refine x_iload_n 1 dX8_benefitFor_11 rfl rfl ?_
  refine x_imul dX8_benefitFor_12 ?_
  refine x_bipush (v := (10 : Int32)) dX8_benefitFor_13 (by decide) ?_
  obtain ⟨q, h⟩ := h
  refine x_idiv dX8_benefitFor_15 q ?_
  refine x_istore_n (L' := [(3, .int (((8 : Int32) * x0) / (10 : Int32))), (2, .int (x0 - (((3 : Int32) * x1) / (10 : Int32)))), (0, .int x0), (1, .int x1)]) dX8_benefitFor_16 rfl (by decide) rfl ?_
  refine x_iload_n 1 dX8_benefitFor_17 rfl rfl ?_
  obtain ⟨h1, h2⟩ := h
  refine x_if_ge (tgt := 25) dX8_benefitFor_18 (by decide) (fun q => ?_) (fun q => ?_)
  · have h := h1 q
    refine x_iload_n 1 dX8_benefitFor_25 rfl rfl ?_
    refine x_iload_n 0 dX8_benefitFor_26 rfl rfl ?_
    obtain ⟨h1, h2⟩ := h
    refine x_icmp_le (tgt := 34) dX8_benefitFor_27 (by decide) (fun q => ?_) (fun q => ?_)
    · have h := h1 q
      refine x_iload_n 1 dX8_benefitFor_34 rfl rfl ?_
      exact x_zret dX8_benefitFor_35 hr ht rfl ⟨_, rfl, h⟩
    · have h := h2 q
      refine x_iload_n 0 dX8_benefitFor_30 rfl rfl ?_
      refine x_goto (tgt := 35) dX8_benefitFor_31 (by decide) ?_
      exact x_zret dX8_benefitFor_35 hr ht rfl ⟨_, rfl, h⟩
  · have h := h2 q
    refine x_iconst (v := (0 : Int32)) dX8_benefitFor_21 (by decide) ?_
    refine x_goto (tgt := 35) dX8_benefitFor_22 (by decide) ?_
    exact x_zret dX8_benefitFor_35 hr ht rfl ⟨_, rfl, h⟩
theorem M_X8_benefitFor {l : Launch} {G : xG} (hl : l.stackTraces = false) {x0 : Int32} {x1 : Int32} {t : xT} {K : Int32 → xT → Prop} (h : V_X8_benefitFor_0 K x0 x1 t) : xMet l G yX8_benefitFor k_X8_benefitFor (some .int) [.int x0, .int x1] t (xKi K) 0 0 := xMet.of (by decide +kernel) rfl hl (Nat.le_of_ble_eq_true rfl) (fun Γ e1 e2 ht hn hr => by subst e1; subst e2; exact S_X8_benefitFor_0 hl ht hr h)
/-! RentStreamModel.incomeIn(II)I -/
def VS_X8_incomeIn_5 (R5 : Nat → Int32 → Int32 → Int32 → Int32 → xT → Prop) (K : Int32 → xT → Prop) (a0 : Nat) (x1 : Int32) (x2 : Int32) (x3 : Int32) (x4 : Int32) (t : xT) : Prop :=
  ((x2 < x4 → K x3 t) ∧ (¬ x2 < x4 → xgR t a0 8 25 fun a_1 => (V_X8_at_0 (fun x_3 t_2 => xaI 0 t_2 a_1 x_3 fun x_4 => ((¬ x_4 = (-1 : Int32) → xgR t_2 a0 8 25 fun a_5 => (V_X8_at_0 (fun x_7 t_6 => xaI 0 t_6 a_5 x_7 fun x_8 => R5 a0 x1 x2 x_8 (x4 + 1) t_6) x1 x4 t_2)) ∧ (x_4 = (-1 : Int32) → R5 a0 x1 x2 x3 (x4 + 1) t_2))) x1 x4 t)))
def V_X8_incomeIn_5 (K : Int32 → xT → Prop) (n : Nat) : Nat → Int32 → Int32 → Int32 → Int32 → xT → Prop := Nat.rec (fun _ _ _ _ _ _ => False) (fun _ ih => VS_X8_incomeIn_5 ih K) n
set_option maxRecDepth 20000 in
theorem S_X8_incomeIn_5 {Γ : xΓ} {K : Int32 → xT → Prop} (hl : (gl Γ).stackTraces = false) (ht : (gM Γ).sig.returnType = (some .int)) (hr : xRet Γ (xKi K)) : ∀ (n : Nat) (a0 : Nat) (x1 : Int32) (x2 : Int32) (x3 : Int32) (x4 : Int32) (t : xT) (rc rs : Nat), V_X8_incomeIn_5 K n a0 x1 x2 x3 x4 t → xX Γ k_X8_incomeIn 5 [(0, .ref a0), (1, .int x1), (2, .int x2), (3, .int x3), (4, .int x4)] [] t rc rs := by
  intro n
  induction n with
  | zero =>
    intro a0 x1 x2 x3 x4 t rc rs h
    exact h.elim
  | succ n ih =>
    intro a0 x1 x2 x3 x4 t rc rs h
    replace h : VS_X8_incomeIn_5 (V_X8_incomeIn_5 K n) K a0 x1 x2 x3 x4 t := h
    unfold VS_X8_incomeIn_5 at h
    refine x_iload 4 dX8_incomeIn_5 rfl ?_
    refine x_iload_n 2 dX8_incomeIn_7 rfl rfl ?_
    obtain ⟨h1, h2⟩ := h
    refine x_icmp_gt (tgt := 48) dX8_incomeIn_8 (by decide) (fun q => ?_) (fun q => ?_)
    · have h := h1 q
      refine x_iload_n 3 dX8_incomeIn_48 rfl rfl ?_
      exact x_zret dX8_incomeIn_49 hr ht rfl ⟨_, rfl, h⟩
    · have h := h2 q
      refine x_aload_n 0 dX8_incomeIn_11 rfl rfl ?_
      obtain ⟨fs, hf, a_1, hv, h⟩ := h
      refine x_get dX8_incomeIn_12 xf_X8_69 hf hv ?_
      refine x_iload_n 1 dX8_incomeIn_15 rfl rfl ?_
      refine x_iload 4 dX8_incomeIn_16 rfl ?_
      refine x_invS (as := [.int x1, .int x4]) (rest := [.ref a_1]) dX8_incomeIn_18 xc_X8_incomeIn_173 (M_X8_at hl h) rfl rfl (Nat.le_of_ble_eq_true rfl) (Nat.zero_le _) (Nat.zero_le _) (xk_i fun x_3 t_2 h => ?_)
      obtain ⟨n, f, hf, hi, h⟩ := h
      refine x_iald dX8_incomeIn_21 hf hi ?_
      generalize f _ = x_4 at h ⊢
      refine x_iconst (v := (-1 : Int32)) dX8_incomeIn_22 (by decide) ?_
      obtain ⟨h1, h2⟩ := h
      refine x_icmp_ne (tgt := 30) dX8_incomeIn_23 (by decide) (fun q => ?_) (fun q => ?_)
      · have h := h1 q
        refine x_aload_n 0 dX8_incomeIn_30 rfl rfl ?_
        obtain ⟨fs, hf, a_5, hv, h⟩ := h
        refine x_get dX8_incomeIn_31 xf_X8_69 hf hv ?_
        refine x_iload_n 1 dX8_incomeIn_34 rfl rfl ?_
        refine x_iload 4 dX8_incomeIn_35 rfl ?_
        refine x_invS (as := [.int x1, .int x4]) (rest := [.ref a_5]) dX8_incomeIn_37 xc_X8_incomeIn_173 (M_X8_at hl h) rfl rfl (Nat.le_of_ble_eq_true rfl) (Nat.zero_le _) (Nat.zero_le _) (xk_i fun x_7 t_6 h => ?_)
        obtain ⟨n, f, hf, hi, h⟩ := h
        refine x_iald dX8_incomeIn_40 hf hi ?_
        generalize f _ = x_8 at h ⊢
        refine x_istore_n (L' := [(3, .int x_8), (0, .ref a0), (1, .int x1), (2, .int x2), (4, .int x4)]) dX8_incomeIn_41 rfl (by decide) rfl ?_
        refine x_iinc (v := (x4 + 1)) (L' := [(4, .int (x4 + 1)), (3, .int x_8), (0, .ref a0), (1, .int x1), (2, .int x2)]) (j := 4) dX8_incomeIn_42 rfl rfl (by decide) rfl ?_
        refine x_goto (tgt := 5) dX8_incomeIn_45 (by decide) ?_
        refine x_sub (L' := [(0, .ref a0), (1, .int x1), (2, .int x2), (3, .int x_8), (4, .int (x4 + 1))]) [2, 3, 4, 1, 0] rfl ?_
        exact ih a0 x1 x2 x_8 (x4 + 1) t_6 _ _ h
      · have h := h2 q
        refine x_iload_n 3 dX8_incomeIn_26 rfl rfl ?_
        refine x_goto (tgt := 41) dX8_incomeIn_27 (by decide) ?_
        refine x_istore_n (L' := [(3, .int x3), (0, .ref a0), (1, .int x1), (2, .int x2), (4, .int x4)]) dX8_incomeIn_41 rfl (by decide) rfl ?_
        refine x_iinc (v := (x4 + 1)) (L' := [(4, .int (x4 + 1)), (3, .int x3), (0, .ref a0), (1, .int x1), (2, .int x2)]) (j := 4) dX8_incomeIn_42 rfl rfl (by decide) rfl ?_
        refine x_goto (tgt := 5) dX8_incomeIn_45 (by decide) ?_
        refine x_sub (L' := [(0, .ref a0), (1, .int x1), (2, .int x2), (3, .int x3), (4, .int (x4 + 1))]) [2, 3, 4, 1, 0] rfl ?_
        exact ih a0 x1 x2 x3 (x4 + 1) t_2 _ _ h
def V_X8_incomeIn_0 (K : Int32 → xT → Prop) (a0 : Nat) (x1 : Int32) (x2 : Int32) (t : xT) : Prop :=
  ∃ f_1 : Nat, V_X8_incomeIn_5 K f_1 a0 x1 x2 (0 : Int32) (0 : Int32) t
set_option maxRecDepth 20000 in
theorem S_X8_incomeIn_0 {Γ : xΓ} {K : Int32 → xT → Prop} (hl : (gl Γ).stackTraces = false) (ht : (gM Γ).sig.returnType = (some .int)) (hr : xRet Γ (xKi K)) {a0 : Nat} {x1 : Int32} {x2 : Int32} {t : xT} {rc rs : Nat} (h : V_X8_incomeIn_0 K a0 x1 x2 t) : xX Γ k_X8_incomeIn 0 [(0, .ref a0), (1, .int x1), (2, .int x2)] [] t rc rs := by
  unfold V_X8_incomeIn_0 at h
  refine x_iconst (v := (0 : Int32)) dX8_incomeIn_0 (by decide) ?_
  refine x_istore_n (L' := [(3, .int (0 : Int32)), (0, .ref a0), (1, .int x1), (2, .int x2)]) dX8_incomeIn_1 rfl (by decide) rfl ?_
  refine x_iconst (v := (0 : Int32)) dX8_incomeIn_2 (by decide) ?_
  refine x_istore (L' := [(4, .int (0 : Int32)), (3, .int (0 : Int32)), (0, .ref a0), (1, .int x1), (2, .int x2)]) dX8_incomeIn_3 (by decide) rfl ?_
  obtain ⟨f_1, h⟩ := h
  refine x_sub (L' := [(0, .ref a0), (1, .int x1), (2, .int x2), (3, .int (0 : Int32)), (4, .int (0 : Int32))]) [2, 3, 4, 1, 0] rfl ?_
  exact S_X8_incomeIn_5 hl ht hr  f_1 a0 x1 x2 (0 : Int32) (0 : Int32) t _ _ h
theorem M_X8_incomeIn {l : Launch} {G : xG} (hl : l.stackTraces = false) {a0 : Nat} {x1 : Int32} {x2 : Int32} {t : xT} {K : Int32 → xT → Prop} (h : V_X8_incomeIn_0 K a0 x1 x2 t) : xMet l G yX8_incomeIn k_X8_incomeIn (some .int) [.ref a0, .int x1, .int x2] t (xKi K) 0 0 := xMet.of (by decide +kernel) rfl hl (Nat.le_of_ble_eq_true rfl) (fun Γ e1 e2 ht hn hr => by subst e1; subst e2; exact S_X8_incomeIn_0 hl ht hr h)
/-! RentStreamModel.income(III)J -/
def VS_X8_income_73 (R73 : Nat → Int32 → Int64 → Int32 → xT → Prop) (K : Int64 → xT → Prop) (a0 : Nat) (x1 : Int32) (y5 : Int64) (x7 : Int32) (t : xT) : Prop :=
  (xis t a0 8 ∧ V_X8_month_0 (fun x_2 t_1 => ((x_2 < x7 → xgR t_1 a0 8 23 fun a_3 => xaJ t_1 a_3 x1 fun y_4 => xsJ t_1 a_3 x1 (y_4 + y5) fun t_5 => xgR t_5 a0 8 24 fun a_6 => xaJ t_5 a_6 x1 fun y_7 => xsJ t_5 a_6 x1 (y_7 - y5) fun t_8 => K y5 t_8) ∧ (¬ x_2 < x7 → (V_X8_at_0 (fun x_10 t_9 => xgR t_9 a0 8 26 fun a_11 => xaI 2 t_9 a_11 x_10 fun x_12 => ((x_12 = 0 → R73 a0 x1 y5 (x7 + 1) t_9) ∧ (¬ x_12 = 0 → xgR t_9 a0 8 27 fun a_13 => xaI 0 t_9 a_13 x_10 fun x_14 => xgR t_9 a0 8 28 fun a_15 => xaI 0 t_9 a_15 x_10 fun x_16 => (xis t_9 a0 8 ∧ V_X8_incomeIn_0 (fun x_18 t_17 => (V_X8_benefitFor_0 (fun x_20 t_19 => xgR t_19 a0 8 29 fun a_21 => xaI 0 t_19 a_21 x_10 fun x_22 => xgR t_19 a0 8 29 fun a_23 => xsI 0 t_19 a_23 x_10 x_20 fun t_24 => R73 a0 x1 (y5 + ((x_22 - x_20)).toInt64) (x7 + 1) t_24) (x_14 - x_16) x_18 t_17)) a0 x1 x7 t_9)))) x1 x7 t_1)))) a0 t)
def V_X8_income_73 (K : Int64 → xT → Prop) (n : Nat) : Nat → Int32 → Int64 → Int32 → xT → Prop := Nat.rec (fun _ _ _ _ _ => False) (fun _ ih => VS_X8_income_73 ih K) n
set_option maxRecDepth 20000 in
theorem S_X8_income_73 {Γ : xΓ} {K : Int64 → xT → Prop} (hl : (gl Γ).stackTraces = false) (ht : (gM Γ).sig.returnType = (some .long)) (hr : xRet Γ (xKl K)) : ∀ (n : Nat) (a0 : Nat) (x1 : Int32) (y5 : Int64) (x7 : Int32) (t : xT) (rc rs : Nat), V_X8_income_73 K n a0 x1 y5 x7 t → xX Γ k_X8_income 73 [(0, .ref a0), (1, .int x1), (5, .long y5), (7, .int x7)] [] t rc rs := by
  intro n
  induction n with
  | zero =>
    intro a0 x1 y5 x7 t rc rs h
    exact h.elim
  | succ n ih =>
    intro a0 x1 y5 x7 t rc rs h
    replace h : VS_X8_income_73 (V_X8_income_73 K n) K a0 x1 y5 x7 t := h
    unfold VS_X8_income_73 at h
    refine x_iload 3 dX8_income_73 rfl ?_
    refine x_aload_n 0 dX8_income_75 rfl rfl ?_
    obtain ⟨⟨fs, hf⟩, h⟩ := h
    refine x_invV (as := []) (rest := [.int x7]) dX8_income_76 (q := (RX8, TX8, 40)) rfl xc_X8_income_129 hf (M_X8_month hl h) rfl rfl (Nat.le_of_ble_eq_true rfl) (Nat.zero_le _) (Nat.zero_le _) (xk_i fun x_2 t_1 h => ?_)
    obtain ⟨h1, h2⟩ := h
    refine x_icmp_gt (tgt := 158) dX8_income_79 (by decide) (fun q => ?_) (fun q => ?_)
    · have h := h1 q
      refine x_aload_n 0 dX8_income_158 rfl rfl ?_
      obtain ⟨fs, hf, a_3, hv, h⟩ := h
      refine x_get dX8_income_159 xf_X8_62 hf hv ?_
      refine x_iload_n 1 dX8_income_162 rfl rfl ?_
      refine x_dup2_11 dX8_income_163 rfl rfl ?_
      obtain ⟨n, f, hf, hi, h⟩ := h
      refine x_lald dX8_income_164 hf hi ?_
      generalize f _ = y_4 at h ⊢
      refine x_lload 2 dX8_income_165 rfl ?_
      refine x_ladd dX8_income_167 ?_
      obtain ⟨n, f, hf, hi, h⟩ := h
      refine x_last dX8_income_168 hf hi ?_
      generalize hT : xup t_1 a_3 _ = t_5 at h ⊢
      clear hT
      refine x_aload_n 0 dX8_income_169 rfl rfl ?_
      obtain ⟨fs, hf, a_6, hv, h⟩ := h
      refine x_get dX8_income_170 xf_X8_66 hf hv ?_
      refine x_iload_n 1 dX8_income_173 rfl rfl ?_
      refine x_dup2_11 dX8_income_174 rfl rfl ?_
      obtain ⟨n, f, hf, hi, h⟩ := h
      refine x_lald dX8_income_175 hf hi ?_
      generalize f _ = y_7 at h ⊢
      refine x_lload 2 dX8_income_176 rfl ?_
      refine x_lsub dX8_income_178 ?_
      obtain ⟨n, f, hf, hi, h⟩ := h
      refine x_last dX8_income_179 hf hi ?_
      generalize hT : xup t_5 a_6 _ = t_8 at h ⊢
      clear hT
      refine x_lload 2 dX8_income_180 rfl ?_
      exact x_lret dX8_income_182 hr ht ⟨_, rfl, h⟩
    · have h := h2 q
      refine x_iload_n 1 dX8_income_82 rfl rfl ?_
      refine x_iload 3 dX8_income_83 rfl ?_
      refine x_invS (as := [.int x1, .int x7]) (rest := []) dX8_income_85 xc_X8_income_173 (M_X8_at hl h) rfl rfl (Nat.le_of_ble_eq_true rfl) (Nat.zero_le _) (Nat.zero_le _) (xk_i fun x_10 t_9 h => ?_)
      refine x_istore (L' := [(8, .int x_10), (0, .ref a0), (1, .int x1), (5, .long y5), (7, .int x7)]) dX8_income_88 (by decide) rfl ?_
      refine x_aload_n 1 dX8_income_90 rfl rfl ?_
      obtain ⟨fs, hf, a_11, hv, h⟩ := h
      refine x_get dX8_income_91 xf_X8_72 hf hv ?_
      refine x_iload 0 dX8_income_94 rfl ?_
      obtain ⟨n, f, hf, hi, h⟩ := h
      refine x_zald dX8_income_96 hf hi ?_
      generalize f _ = x_12 at h ⊢
      obtain ⟨h1, h2⟩ := h
      refine x_if_eq (tgt := 152) dX8_income_97 (by decide) (fun q => ?_) (fun q => ?_)
      · have h := h1 q
        refine x_iinc (v := (x7 + 1)) (L' := [(7, .int (x7 + 1)), (8, .int x_10), (0, .ref a0), (1, .int x1), (5, .long y5)]) (j := 4) dX8_income_152 rfl rfl (by decide) rfl ?_
        refine x_goto (tgt := 73) dX8_income_155 (by decide) ?_
        refine x_sub (L' := [(0, .ref a0), (1, .int x1), (5, .long y5), (7, .int (x7 + 1))]) [2, 3, 4, 0] rfl ?_
        exact ih a0 x1 y5 (x7 + 1) t_9 _ _ h
      · have h := h2 q
        refine x_aload_n 1 dX8_income_100 rfl rfl ?_
        obtain ⟨fs, hf, a_13, hv, h⟩ := h
        refine x_get dX8_income_101 xf_X8_75 hf hv ?_
        refine x_iload 0 dX8_income_104 rfl ?_
        obtain ⟨n, f, hf, hi, h⟩ := h
        refine x_iald dX8_income_106 hf hi ?_
        generalize f _ = x_14 at h ⊢
        refine x_aload_n 1 dX8_income_107 rfl rfl ?_
        obtain ⟨fs, hf, a_15, hv, h⟩ := h
        refine x_get dX8_income_108 xf_X8_78 hf hv ?_
        refine x_iload 0 dX8_income_111 rfl ?_
        obtain ⟨n, f, hf, hi, h⟩ := h
        refine x_iald dX8_income_113 hf hi ?_
        generalize f _ = x_16 at h ⊢
        refine x_isub dX8_income_114 ?_
        refine x_aload_n 1 dX8_income_115 rfl rfl ?_
        refine x_iload_n 2 dX8_income_116 rfl rfl ?_
        refine x_iload 4 dX8_income_117 rfl ?_
        obtain ⟨⟨fs, hf⟩, h⟩ := h
        refine x_invV (as := [.int x1, .int x7]) (rest := [.int (x_14 - x_16)]) dX8_income_119 (q := (RX8, TX8, 40)) rfl xc_X8_income_182 hf (M_X8_incomeIn hl h) rfl rfl (Nat.le_of_ble_eq_true rfl) (Nat.zero_le _) (Nat.zero_le _) (xk_i fun x_18 t_17 h => ?_)
        refine x_invS (as := [.int (x_14 - x_16), .int x_18]) (rest := []) dX8_income_122 xc_X8_income_185 (M_X8_benefitFor hl h) rfl rfl (Nat.le_of_ble_eq_true rfl) (Nat.zero_le _) (Nat.zero_le _) (xk_i fun x_20 t_19 h => ?_)
        refine x_istore (L' := [(9, .int x_20), (8, .int x_10), (0, .ref a0), (1, .int x1), (5, .long y5), (7, .int x7)]) dX8_income_125 (by decide) rfl ?_
        refine x_lload 4 dX8_income_127 rfl ?_
        refine x_aload_n 2 dX8_income_129 rfl rfl ?_
        obtain ⟨fs, hf, a_21, hv, h⟩ := h
        refine x_get dX8_income_130 xf_X8_81 hf hv ?_
        refine x_iload 1 dX8_income_133 rfl ?_
        obtain ⟨n, f, hf, hi, h⟩ := h
        refine x_iald dX8_income_135 hf hi ?_
        generalize f _ = x_22 at h ⊢
        refine x_iload 0 dX8_income_136 rfl ?_
        refine x_isub dX8_income_138 ?_
        refine x_i2l dX8_income_139 ?_
        refine x_ladd dX8_income_140 ?_
        refine x_lstore (L' := [(5, .long (y5 + ((x_22 - x_20)).toInt64)), (9, .int x_20), (8, .int x_10), (0, .ref a0), (1, .int x1), (7, .int x7)]) dX8_income_141 (by decide) rfl ?_
        refine x_aload_n 3 dX8_income_143 rfl rfl ?_
        obtain ⟨fs, hf, a_23, hv, h⟩ := h
        refine x_get dX8_income_144 xf_X8_81 hf hv ?_
        refine x_iload 2 dX8_income_147 rfl ?_
        refine x_iload 1 dX8_income_149 rfl ?_
        obtain ⟨n, f, hf, hi, h⟩ := h
        refine x_iast dX8_income_151 hf hi ?_
        generalize hT : xup t_19 a_23 _ = t_24 at h ⊢
        clear hT
        refine x_iinc (v := (x7 + 1)) (L' := [(7, .int (x7 + 1)), (5, .long (y5 + ((x_22 - x_20)).toInt64)), (9, .int x_20), (8, .int x_10), (0, .ref a0), (1, .int x1)]) (j := 5) dX8_income_152 rfl rfl (by decide) rfl ?_
        refine x_goto (tgt := 73) dX8_income_155 (by decide) ?_
        refine x_sub (L' := [(0, .ref a0), (1, .int x1), (5, .long (y5 + ((x_22 - x_20)).toInt64)), (7, .int (x7 + 1))]) [4, 5, 1, 0] rfl ?_
        exact ih a0 x1 (y5 + ((x_22 - x_20)).toInt64) (x7 + 1) t_24 _ _ h
def V_X8_income_48 (K : Int64 → xT → Prop) (a0 : Nat) (x1 : Int32) (x2 : Int32) (x3 : Int32) (xs0 : Int32) (as1 : Nat) (t : xT) : Prop :=
  (xis t as1 8 ∧ V_X8_holds_0 (fun x_2 t_1 => ((¬ x_2 = 0 → xgR t_1 a0 8 25 fun a_3 => (V_X8_at_0 (fun x_5 t_4 => xsI 0 t_4 a_3 x_5 x3 fun t_6 => ∃ f_7 : Nat, V_X8_income_73 K f_7 a0 x1 (0 : Int64) x2 t_6) x1 x2 t_1)) ∧ (x_2 = 0 → K (0 : Int64) t_1))) as1 xs0 t)
set_option maxRecDepth 20000 in
theorem S_X8_income_48 {Γ : xΓ} {K : Int64 → xT → Prop} (hl : (gl Γ).stackTraces = false) (ht : (gM Γ).sig.returnType = (some .long)) (hr : xRet Γ (xKl K)) {a0 : Nat} {x1 : Int32} {x2 : Int32} {x3 : Int32} {xs0 : Int32} {as1 : Nat} {t : xT} {rc rs : Nat} (h : V_X8_income_48 K a0 x1 x2 x3 xs0 as1 t) : xX Γ k_X8_income 48 [(0, .ref a0), (1, .int x1), (2, .int x2), (3, .int x3)] [.int xs0, .ref as1] t rc rs := by
  unfold V_X8_income_48 at h
  obtain ⟨⟨fs, hf⟩, h⟩ := h
  refine x_invV (as := [.int xs0]) (rest := []) dX8_income_48 (q := (RX8, TX8, 40)) rfl xc_X8_income_133 hf (M_X8_holds hl h) rfl rfl (Nat.le_of_ble_eq_true rfl) (Nat.zero_le _) (Nat.zero_le _) (xk_i fun x_2 t_1 h => ?_)
  obtain ⟨h1, h2⟩ := h
  refine x_if_ne (tgt := 56) dX8_income_51 (by decide) (fun q => ?_) (fun q => ?_)
  · have h := h1 q
    refine x_aload_n 0 dX8_income_56 rfl rfl ?_
    obtain ⟨fs, hf, a_3, hv, h⟩ := h
    refine x_get dX8_income_57 xf_X8_69 hf hv ?_
    refine x_iload_n 1 dX8_income_60 rfl rfl ?_
    refine x_iload_n 2 dX8_income_61 rfl rfl ?_
    refine x_invS (as := [.int x1, .int x2]) (rest := [.ref a_3]) dX8_income_62 xc_X8_income_173 (M_X8_at hl h) rfl rfl (Nat.le_of_ble_eq_true rfl) (Nat.zero_le _) (Nat.zero_le _) (xk_i fun x_5 t_4 h => ?_)
    refine x_iload_n 3 dX8_income_65 rfl rfl ?_
    obtain ⟨n, f, hf, hi, h⟩ := h
    refine x_iast dX8_income_66 hf hi ?_
    generalize hT : xup t_4 a_3 _ = t_6 at h ⊢
    clear hT
    refine x_lconst (v := (0 : Int64)) dX8_income_67 (by decide) ?_
    refine x_lstore (L' := [(5, .long (0 : Int64)), (0, .ref a0), (1, .int x1), (2, .int x2), (3, .int x3)]) dX8_income_68 (by decide) rfl ?_
    refine x_iload_n 3 dX8_income_70 rfl rfl ?_
    refine x_istore (L' := [(7, .int x2), (5, .long (0 : Int64)), (0, .ref a0), (1, .int x1), (2, .int x2), (3, .int x3)]) dX8_income_71 (by decide) rfl ?_
    obtain ⟨f_7, h⟩ := h
    refine x_sub (L' := [(0, .ref a0), (1, .int x1), (5, .long (0 : Int64)), (7, .int x2)]) [2, 3, 1, 0] rfl ?_
    exact S_X8_income_73 hl ht hr  f_7 a0 x1 (0 : Int64) x2 t_6 _ _ h
  · have h := h2 q
    refine x_lconst (v := (0 : Int64)) dX8_income_54 (by decide) ?_
    exact x_lret dX8_income_55 hr ht ⟨_, rfl, h⟩
def V_X8_income_21 (K : Int64 → xT → Prop) (a0 : Nat) (x1 : Int32) (x2 : Int32) (x3 : Int32) (xs0 : Int32) (t : xT) : Prop :=
  ((¬ xs0 = 0 → (V_X8_in_0 (fun x_2 t_1 => ((x_2 = 0 → V_X8_income_48 K a0 x1 x2 x3 (2 : Int32) a0 t_1) ∧ (¬ x_2 = 0 → V_X8_income_48 K a0 x1 x2 x3 (0 : Int32) a0 t_1))) x3 (0 : Int32) (1000000 : Int32) t)) ∧ (xs0 = 0 → V_X8_income_48 K a0 x1 x2 x3 (1 : Int32) a0 t))
set_option maxRecDepth 20000 in
theorem S_X8_income_21 {Γ : xΓ} {K : Int64 → xT → Prop} (hl : (gl Γ).stackTraces = false) (ht : (gM Γ).sig.returnType = (some .long)) (hr : xRet Γ (xKl K)) {a0 : Nat} {x1 : Int32} {x2 : Int32} {x3 : Int32} {xs0 : Int32} {t : xT} {rc rs : Nat} (h : V_X8_income_21 K a0 x1 x2 x3 xs0 t) : xX Γ k_X8_income 21 [(0, .ref a0), (1, .int x1), (2, .int x2), (3, .int x3)] [.int xs0] t rc rs := by
  unfold V_X8_income_21 at h
  refine x_istore (L' := [(4, .int xs0), (0, .ref a0), (1, .int x1), (2, .int x2), (3, .int x3)]) dX8_income_21 (by decide) rfl ?_
  refine x_aload_n 1 dX8_income_23 rfl rfl ?_
  refine x_iload 0 dX8_income_24 rfl ?_
  obtain ⟨h1, h2⟩ := h
  refine x_if_ne (tgt := 33) dX8_income_26 (by decide) (fun q => ?_) (fun q => ?_)
  · have h := h1 q
    refine x_iload_n 4 dX8_income_33 rfl rfl ?_
    refine x_iconst (v := (0 : Int32)) dX8_income_34 (by decide) ?_
    refine x_ldc dX8_income_35 xw1391 ?_
    refine x_invS (as := [.int x3, .int (0 : Int32), .int (1000000 : Int32)]) (rest := [.ref a0]) dX8_income_37 xc_X8_income_119 (M_X8_in hl h) rfl rfl (Nat.le_of_ble_eq_true rfl) (Nat.zero_le _) (Nat.zero_le _) (xk_i fun x_2 t_1 h => ?_)
    obtain ⟨h1, h2⟩ := h
    refine x_if_eq (tgt := 47) dX8_income_40 (by decide) (fun q => ?_) (fun q => ?_)
    · have h := h1 q
      refine x_iconst (v := (2 : Int32)) dX8_income_47 (by decide) ?_
      refine x_sub (L' := [(0, .ref a0), (1, .int x1), (2, .int x2), (3, .int x3)]) [1, 2, 3, 4] rfl ?_
      exact S_X8_income_48 hl ht hr  h
    · have h := h2 q
      refine x_iconst (v := (0 : Int32)) dX8_income_43 (by decide) ?_
      refine x_goto (tgt := 48) dX8_income_44 (by decide) ?_
      refine x_sub (L' := [(0, .ref a0), (1, .int x1), (2, .int x2), (3, .int x3)]) [1, 2, 3, 4] rfl ?_
      exact S_X8_income_48 hl ht hr  h
  · have h := h2 q
    refine x_iconst (v := (1 : Int32)) dX8_income_29 (by decide) ?_
    refine x_goto (tgt := 48) dX8_income_30 (by decide) ?_
    refine x_sub (L' := [(0, .ref a0), (1, .int x1), (2, .int x2), (3, .int x3)]) [1, 2, 3, 4] rfl ?_
    exact S_X8_income_48 hl ht hr  h
def V_X8_income_0 (K : Int64 → xT → Prop) (a0 : Nat) (x1 : Int32) (x2 : Int32) (x3 : Int32) (t : xT) : Prop :=
  (xis t a0 8 ∧ V_X8_isLease_0 (fun x_2 t_1 => ((x_2 = 0 → V_X8_income_21 K a0 x1 x2 x3 (0 : Int32) t_1) ∧ (¬ x_2 = 0 → (xis t_1 a0 8 ∧ V_X8_isMonth_0 (fun x_4 t_3 => ((x_4 = 0 → V_X8_income_21 K a0 x1 x2 x3 (0 : Int32) t_3) ∧ (¬ x_4 = 0 → V_X8_income_21 K a0 x1 x2 x3 (1 : Int32) t_3))) a0 x2 t_1)))) a0 x1 t)
set_option maxRecDepth 20000 in
theorem S_X8_income_0 {Γ : xΓ} {K : Int64 → xT → Prop} (hl : (gl Γ).stackTraces = false) (ht : (gM Γ).sig.returnType = (some .long)) (hr : xRet Γ (xKl K)) {a0 : Nat} {x1 : Int32} {x2 : Int32} {x3 : Int32} {t : xT} {rc rs : Nat} (h : V_X8_income_0 K a0 x1 x2 x3 t) : xX Γ k_X8_income 0 [(0, .ref a0), (1, .int x1), (2, .int x2), (3, .int x3)] [] t rc rs := by
  unfold V_X8_income_0 at h
  refine x_aload_n 0 dX8_income_0 rfl rfl ?_
  refine x_iload_n 1 dX8_income_1 rfl rfl ?_
  obtain ⟨⟨fs, hf⟩, h⟩ := h
  refine x_invV (as := [.int x1]) (rest := []) dX8_income_2 (q := (RX8, TX8, 40)) rfl xc_X8_income_148 hf (M_X8_isLease hl h) rfl rfl (Nat.le_of_ble_eq_true rfl) (Nat.zero_le _) (Nat.zero_le _) (xk_i fun x_2 t_1 h => ?_)
  obtain ⟨h1, h2⟩ := h
  refine x_if_eq (tgt := 20) dX8_income_5 (by decide) (fun q => ?_) (fun q => ?_)
  · have h := h1 q
    refine x_iconst (v := (0 : Int32)) dX8_income_20 (by decide) ?_
    exact S_X8_income_21 hl ht hr  h
  · have h := h2 q
    refine x_aload_n 0 dX8_income_8 rfl rfl ?_
    refine x_iload_n 2 dX8_income_9 rfl rfl ?_
    obtain ⟨⟨fs, hf⟩, h⟩ := h
    refine x_invV (as := [.int x2]) (rest := []) dX8_income_10 (q := (RX8, TX8, 40)) rfl xc_X8_income_202 hf (M_X8_isMonth hl h) rfl rfl (Nat.le_of_ble_eq_true rfl) (Nat.zero_le _) (Nat.zero_le _) (xk_i fun x_4 t_3 h => ?_)
    obtain ⟨h1, h2⟩ := h
    refine x_if_eq (tgt := 20) dX8_income_13 (by decide) (fun q => ?_) (fun q => ?_)
    · have h := h1 q
      refine x_iconst (v := (0 : Int32)) dX8_income_20 (by decide) ?_
      exact S_X8_income_21 hl ht hr  h
    · have h := h2 q
      refine x_iconst (v := (1 : Int32)) dX8_income_16 (by decide) ?_
      refine x_goto (tgt := 21) dX8_income_17 (by decide) ?_
      exact S_X8_income_21 hl ht hr  h
theorem M_X8_income {l : Launch} {G : xG} (hl : l.stackTraces = false) {a0 : Nat} {x1 : Int32} {x2 : Int32} {x3 : Int32} {t : xT} {K : Int64 → xT → Prop} (h : V_X8_income_0 K a0 x1 x2 x3 t) : xMet l G yX8_income k_X8_income (some .long) [.ref a0, .int x1, .int x2, .int x3] t (xKl K) 0 0 := xMet.of (by decide +kernel) rfl hl (Nat.le_of_ble_eq_true rfl) (fun Γ e1 e2 ht hn hr => by subst e1; subst e2; exact S_X8_income_0 hl ht hr h)
/-! RentStreamModel.index(I)I -/
def V_X8_index_18 (K : Int32 → xT → Prop) (a0 : Nat) (x1 : Int32) (xs0 : Int32) (as1 : Nat) (t : xT) : Prop :=
  (xis t as1 8 ∧ V_X8_holds_0 (fun x_2 t_1 => ((¬ x_2 = 0 → xgR t_1 a0 8 10 fun a_3 => (xis t_1 a0 8 ∧ V_X8_month_0 (fun x_5 t_4 => xsI 0 t_4 a_3 (x_5 + (1 : Int32)) x1 fun t_6 => xgR t_6 a0 8 10 fun a_7 => (xis t_6 a0 8 ∧ V_X8_month_0 (fun x_9 t_8 => xaI 0 t_8 a_7 x_9 fun x_10 => K x_10 t_8) a0 t_6)) a0 t_1)) ∧ (x_2 = 0 → K (0 : Int32) t_1))) as1 xs0 t)
set_option maxRecDepth 20000 in
theorem S_X8_index_18 {Γ : xΓ} {K : Int32 → xT → Prop} (hl : (gl Γ).stackTraces = false) (ht : (gM Γ).sig.returnType = (some .int)) (hr : xRet Γ (xKi K)) {a0 : Nat} {x1 : Int32} {xs0 : Int32} {as1 : Nat} {t : xT} {rc rs : Nat} (h : V_X8_index_18 K a0 x1 xs0 as1 t) : xX Γ k_X8_index 18 [(0, .ref a0), (1, .int x1)] [.int xs0, .ref as1] t rc rs := by
  unfold V_X8_index_18 at h
  obtain ⟨⟨fs, hf⟩, h⟩ := h
  refine x_invV (as := [.int xs0]) (rest := []) dX8_index_18 (q := (RX8, TX8, 40)) rfl xc_X8_index_133 hf (M_X8_holds hl h) rfl rfl (Nat.le_of_ble_eq_true rfl) (Nat.zero_le _) (Nat.zero_le _) (xk_i fun x_2 t_1 h => ?_)
  obtain ⟨h1, h2⟩ := h
  refine x_if_ne (tgt := 26) dX8_index_21 (by decide) (fun q => ?_) (fun q => ?_)
  · have h := h1 q
    refine x_aload_n 0 dX8_index_26 rfl rfl ?_
    obtain ⟨fs, hf, a_3, hv, h⟩ := h
    refine x_get dX8_index_27 xf_X8_31 hf hv ?_
    refine x_aload_n 0 dX8_index_30 rfl rfl ?_
    obtain ⟨⟨fs, hf⟩, h⟩ := h
    refine x_invV (as := []) (rest := [.ref a_3]) dX8_index_31 (q := (RX8, TX8, 40)) rfl xc_X8_index_129 hf (M_X8_month hl h) rfl rfl (Nat.le_of_ble_eq_true rfl) (Nat.zero_le _) (Nat.zero_le _) (xk_i fun x_5 t_4 h => ?_)
    refine x_iconst (v := (1 : Int32)) dX8_index_34 (by decide) ?_
    refine x_iadd dX8_index_35 ?_
    refine x_iload_n 1 dX8_index_36 rfl rfl ?_
    obtain ⟨n, f, hf, hi, h⟩ := h
    refine x_iast dX8_index_37 hf hi ?_
    generalize hT : xup t_4 a_3 _ = t_6 at h ⊢
    clear hT
    refine x_aload_n 0 dX8_index_38 rfl rfl ?_
    obtain ⟨fs, hf, a_7, hv, h⟩ := h
    refine x_get dX8_index_39 xf_X8_31 hf hv ?_
    refine x_aload_n 0 dX8_index_42 rfl rfl ?_
    obtain ⟨⟨fs, hf⟩, h⟩ := h
    refine x_invV (as := []) (rest := [.ref a_7]) dX8_index_43 (q := (RX8, TX8, 40)) rfl xc_X8_index_129 hf (M_X8_month hl h) rfl rfl (Nat.le_of_ble_eq_true rfl) (Nat.zero_le _) (Nat.zero_le _) (xk_i fun x_9 t_8 h => ?_)
    obtain ⟨n, f, hf, hi, h⟩ := h
    refine x_iald dX8_index_46 hf hi ?_
    generalize f _ = x_10 at h ⊢
    exact x_zret dX8_index_47 hr ht rfl ⟨_, rfl, h⟩
  · have h := h2 q
    refine x_iconst (v := (0 : Int32)) dX8_index_24 (by decide) ?_
    exact x_zret dX8_index_25 hr ht rfl ⟨_, rfl, h⟩
def V_X8_index_0 (K : Int32 → xT → Prop) (a0 : Nat) (x1 : Int32) (t : xT) : Prop :=
  (V_X8_in_0 (fun x_2 t_1 => ((x_2 = 0 → V_X8_index_18 K a0 x1 (1 : Int32) a0 t_1) ∧ (¬ x_2 = 0 → V_X8_index_18 K a0 x1 (0 : Int32) a0 t_1))) x1 (50 : Int32) (200 : Int32) t)
set_option maxRecDepth 20000 in
theorem S_X8_index_0 {Γ : xΓ} {K : Int32 → xT → Prop} (hl : (gl Γ).stackTraces = false) (ht : (gM Γ).sig.returnType = (some .int)) (hr : xRet Γ (xKi K)) {a0 : Nat} {x1 : Int32} {t : xT} {rc rs : Nat} (h : V_X8_index_0 K a0 x1 t) : xX Γ k_X8_index 0 [(0, .ref a0), (1, .int x1)] [] t rc rs := by
  unfold V_X8_index_0 at h
  refine x_aload_n 0 dX8_index_0 rfl rfl ?_
  refine x_iload_n 1 dX8_index_1 rfl rfl ?_
  refine x_bipush (v := (50 : Int32)) dX8_index_2 (by decide) ?_
  refine x_sipush (v := (200 : Int32)) dX8_index_4 (by decide) ?_
  refine x_invS (as := [.int x1, .int (50 : Int32), .int (200 : Int32)]) (rest := [.ref a0]) dX8_index_7 xc_X8_index_119 (M_X8_in hl h) rfl rfl (Nat.le_of_ble_eq_true rfl) (Nat.zero_le _) (Nat.zero_le _) (xk_i fun x_2 t_1 h => ?_)
  obtain ⟨h1, h2⟩ := h
  refine x_if_eq (tgt := 17) dX8_index_10 (by decide) (fun q => ?_) (fun q => ?_)
  · have h := h1 q
    refine x_iconst (v := (1 : Int32)) dX8_index_17 (by decide) ?_
    exact S_X8_index_18 hl ht hr  h
  · have h := h2 q
    refine x_iconst (v := (0 : Int32)) dX8_index_13 (by decide) ?_
    refine x_goto (tgt := 18) dX8_index_14 (by decide) ?_
    exact S_X8_index_18 hl ht hr  h
theorem M_X8_index {l : Launch} {G : xG} (hl : l.stackTraces = false) {a0 : Nat} {x1 : Int32} {t : xT} {K : Int32 → xT → Prop} (h : V_X8_index_0 K a0 x1 t) : xMet l G yX8_index k_X8_index (some .int) [.ref a0, .int x1] t (xKi K) 0 0 := xMet.of (by decide +kernel) rfl hl (Nat.le_of_ble_eq_true rfl) (fun Γ e1 e2 ht hn hr => by subst e1; subst e2; exact S_X8_index_0 hl ht hr h)
/-! RentStreamModel.isFlat(I)Z -/
def V_X8_isFlat_0 (K : Int32 → xT → Prop) (a0 : Nat) (x1 : Int32) (t : xT) : Prop :=
  xgI t a0 8 2 fun x_1 => (V_X8_in_0 (fun x_3 t_2 => (narrow .boolean (.int x_3) = .int x_3 ∧ K x_3 t_2)) x1 (0 : Int32) (x_1 - (1 : Int32)) t)
set_option maxRecDepth 20000 in
theorem S_X8_isFlat_0 {Γ : xΓ} {K : Int32 → xT → Prop} (hl : (gl Γ).stackTraces = false) (ht : (gM Γ).sig.returnType = (some .boolean)) (hr : xRet Γ (xKi K)) {a0 : Nat} {x1 : Int32} {t : xT} {rc rs : Nat} (h : V_X8_isFlat_0 K a0 x1 t) : xX Γ k_X8_isFlat 0 [(0, .ref a0), (1, .int x1)] [] t rc rs := by
  unfold V_X8_isFlat_0 at h
  refine x_iload_n 1 dX8_isFlat_0 rfl rfl ?_
  refine x_iconst (v := (0 : Int32)) dX8_isFlat_1 (by decide) ?_
  refine x_aload_n 0 dX8_isFlat_2 rfl rfl ?_
  obtain ⟨fs, hf, x_1, hv, h⟩ := h
  refine x_get dX8_isFlat_3 xf_X8_116 hf hv ?_
  refine x_iconst (v := (1 : Int32)) dX8_isFlat_6 (by decide) ?_
  refine x_isub dX8_isFlat_7 ?_
  refine x_invS (as := [.int x1, .int (0 : Int32), .int (x_1 - (1 : Int32))]) (rest := []) dX8_isFlat_8 xc_X8_isFlat_119 (M_X8_in hl h) rfl rfl (Nat.le_of_ble_eq_true rfl) (Nat.zero_le _) (Nat.zero_le _) (xk_i fun x_3 t_2 h => ?_)
  obtain ⟨hn, h⟩ := h
  exact x_zret dX8_isFlat_11 hr ht hn ⟨_, rfl, h⟩
theorem M_X8_isFlat {l : Launch} {G : xG} (hl : l.stackTraces = false) {a0 : Nat} {x1 : Int32} {t : xT} {K : Int32 → xT → Prop} (h : V_X8_isFlat_0 K a0 x1 t) : xMet l G yX8_isFlat k_X8_isFlat (some .boolean) [.ref a0, .int x1] t (xKi K) 0 0 := xMet.of (by decide +kernel) rfl hl (Nat.le_of_ble_eq_true rfl) (fun Γ e1 e2 ht hn hr => by subst e1; subst e2; exact S_X8_isFlat_0 hl ht hr h)
/-! RentStreamModel.runs(II)Z -/
def V_X8_runs_0 (K : Int32 → xT → Prop) (a0 : Nat) (x1 : Int32) (x2 : Int32) (t : xT) : Prop :=
  xgR t a0 8 21 fun a_1 => xaI 0 t a_1 x1 fun x_2 => ((x2 < x_2 → K (0 : Int32) t) ∧ (¬ x2 < x_2 → xgR t a0 8 22 fun a_3 => xaI 0 t a_3 x1 fun x_4 => ((x_4 < x2 → K (0 : Int32) t) ∧ (¬ x_4 < x2 → K (1 : Int32) t))))
set_option maxRecDepth 20000 in
theorem S_X8_runs_0 {Γ : xΓ} {K : Int32 → xT → Prop} (hl : (gl Γ).stackTraces = false) (ht : (gM Γ).sig.returnType = (some .boolean)) (hr : xRet Γ (xKi K)) {a0 : Nat} {x1 : Int32} {x2 : Int32} {t : xT} {rc rs : Nat} (h : V_X8_runs_0 K a0 x1 x2 t) : xX Γ k_X8_runs 0 [(0, .ref a0), (1, .int x1), (2, .int x2)] [] t rc rs := by
  unfold V_X8_runs_0 at h
  refine x_aload_n 0 dX8_runs_0 rfl rfl ?_
  obtain ⟨fs, hf, a_1, hv, h⟩ := h
  refine x_get dX8_runs_1 xf_X8_56 hf hv ?_
  refine x_iload_n 1 dX8_runs_4 rfl rfl ?_
  obtain ⟨n, f, hf, hi, h⟩ := h
  refine x_iald dX8_runs_5 hf hi ?_
  generalize f _ = x_2 at h ⊢
  refine x_iload_n 2 dX8_runs_6 rfl rfl ?_
  obtain ⟨h1, h2⟩ := h
  refine x_icmp_gt (tgt := 24) dX8_runs_7 (by decide) (fun q => ?_) (fun q => ?_)
  · have h := h1 q
    refine x_iconst (v := (0 : Int32)) dX8_runs_24 (by decide) ?_
    exact x_zret dX8_runs_25 hr ht (by decide) ⟨_, rfl, h⟩
  · have h := h2 q
    refine x_iload_n 2 dX8_runs_10 rfl rfl ?_
    refine x_aload_n 0 dX8_runs_11 rfl rfl ?_
    obtain ⟨fs, hf, a_3, hv, h⟩ := h
    refine x_get dX8_runs_12 xf_X8_59 hf hv ?_
    refine x_iload_n 1 dX8_runs_15 rfl rfl ?_
    obtain ⟨n, f, hf, hi, h⟩ := h
    refine x_iald dX8_runs_16 hf hi ?_
    generalize f _ = x_4 at h ⊢
    obtain ⟨h1, h2⟩ := h
    refine x_icmp_gt (tgt := 24) dX8_runs_17 (by decide) (fun q => ?_) (fun q => ?_)
    · have h := h1 q
      refine x_iconst (v := (0 : Int32)) dX8_runs_24 (by decide) ?_
      exact x_zret dX8_runs_25 hr ht (by decide) ⟨_, rfl, h⟩
    · have h := h2 q
      refine x_iconst (v := (1 : Int32)) dX8_runs_20 (by decide) ?_
      refine x_goto (tgt := 25) dX8_runs_21 (by decide) ?_
      exact x_zret dX8_runs_25 hr ht (by decide) ⟨_, rfl, h⟩
theorem M_X8_runs {l : Launch} {G : xG} (hl : l.stackTraces = false) {a0 : Nat} {x1 : Int32} {x2 : Int32} {t : xT} {K : Int32 → xT → Prop} (h : V_X8_runs_0 K a0 x1 x2 t) : xMet l G yX8_runs k_X8_runs (some .boolean) [.ref a0, .int x1, .int x2] t (xKi K) 0 0 := xMet.of (by decide +kernel) rfl hl (Nat.le_of_ble_eq_true rfl) (fun Γ e1 e2 ht hn hr => by subst e1; subst e2; exact S_X8_runs_0 hl ht hr h)
/-! RentStreamModel.isLet(I)Z -/
def VS_X8_isLet_4 (R4 : Nat → Int32 → Int32 → Int32 → xT → Prop) (K : Int32 → xT → Prop) (a0 : Nat) (x1 : Int32) (x2 : Int32) (x3 : Int32) (t : xT) : Prop :=
  xgI t a0 8 18 fun x_1 => ((x_1 ≤ x3 → (narrow .boolean (.int x2) = .int x2 ∧ K x2 t)) ∧ (¬ x_1 ≤ x3 → ((¬ x2 = 0 → R4 a0 x1 (1 : Int32) (x3 + 1) t) ∧ (x2 = 0 → xgR t a0 8 19 fun a_2 => xaI 0 t a_2 x3 fun x_3 => ((¬ x_3 = x1 → R4 a0 x1 (0 : Int32) (x3 + 1) t) ∧ (x_3 = x1 → (xis t a0 8 ∧ V_X8_month_0 (fun x_5 t_4 => (xis t_4 a0 8 ∧ V_X8_runs_0 (fun x_7 t_6 => ((x_7 = 0 → R4 a0 x1 (0 : Int32) (x3 + 1) t_6) ∧ (¬ x_7 = 0 → R4 a0 x1 (1 : Int32) (x3 + 1) t_6))) a0 x3 (x_5 + (1 : Int32)) t_4)) a0 t)))))))
def V_X8_isLet_4 (K : Int32 → xT → Prop) (n : Nat) : Nat → Int32 → Int32 → Int32 → xT → Prop := Nat.rec (fun _ _ _ _ _ => False) (fun _ ih => VS_X8_isLet_4 ih K) n
set_option maxRecDepth 20000 in
theorem S_X8_isLet_4 {Γ : xΓ} {K : Int32 → xT → Prop} (hl : (gl Γ).stackTraces = false) (ht : (gM Γ).sig.returnType = (some .boolean)) (hr : xRet Γ (xKi K)) : ∀ (n : Nat) (a0 : Nat) (x1 : Int32) (x2 : Int32) (x3 : Int32) (t : xT) (rc rs : Nat), V_X8_isLet_4 K n a0 x1 x2 x3 t → xX Γ k_X8_isLet 4 [(0, .ref a0), (1, .int x1), (2, .int x2), (3, .int x3)] [] t rc rs := by
  intro n
  induction n with
  | zero =>
    intro a0 x1 x2 x3 t rc rs h
    exact h.elim
  | succ n ih =>
    intro a0 x1 x2 x3 t rc rs h
    replace h : VS_X8_isLet_4 (V_X8_isLet_4 K n) K a0 x1 x2 x3 t := h
    unfold VS_X8_isLet_4 at h
    refine x_iload_n 3 dX8_isLet_4 rfl rfl ?_
    refine x_aload_n 0 dX8_isLet_5 rfl rfl ?_
    obtain ⟨fs, hf, x_1, hv, h⟩ := h
    refine x_get dX8_isLet_6 xf_X8_123 hf hv ?_
    obtain ⟨h1, h2⟩ := h
    refine x_icmp_ge (tgt := 52) dX8_isLet_9 (by decide) (fun q => ?_) (fun q => ?_)
    · have h := h1 q
      refine x_iload_n 2 dX8_isLet_52 rfl rfl ?_
      obtain ⟨hn, h⟩ := h
      exact x_zret dX8_isLet_53 hr ht hn ⟨_, rfl, h⟩
    · have h := h2 q
      refine x_iload_n 2 dX8_isLet_12 rfl rfl ?_
      obtain ⟨h1, h2⟩ := h
      refine x_if_ne (tgt := 40) dX8_isLet_13 (by decide) (fun q => ?_) (fun q => ?_)
      · have h := h1 q
        refine x_iconst (v := (1 : Int32)) dX8_isLet_40 (by decide) ?_
        refine x_goto (tgt := 45) dX8_isLet_41 (by decide) ?_
        refine x_istore_n (L' := [(2, .int (1 : Int32)), (0, .ref a0), (1, .int x1), (3, .int x3)]) dX8_isLet_45 rfl (by decide) rfl ?_
        refine x_iinc (v := (x3 + 1)) (L' := [(3, .int (x3 + 1)), (2, .int (1 : Int32)), (0, .ref a0), (1, .int x1)]) (j := 3) dX8_isLet_46 rfl rfl (by decide) rfl ?_
        refine x_goto (tgt := 4) dX8_isLet_49 (by decide) ?_
        refine x_sub (L' := [(0, .ref a0), (1, .int x1), (2, .int (1 : Int32)), (3, .int (x3 + 1))]) [2, 3, 1, 0] rfl ?_
        exact ih a0 x1 (1 : Int32) (x3 + 1) t _ _ h
      · have h := h2 q
        refine x_aload_n 0 dX8_isLet_16 rfl rfl ?_
        obtain ⟨fs, hf, a_2, hv, h⟩ := h
        refine x_get dX8_isLet_17 xf_X8_50 hf hv ?_
        refine x_iload_n 3 dX8_isLet_20 rfl rfl ?_
        obtain ⟨n, f, hf, hi, h⟩ := h
        refine x_iald dX8_isLet_21 hf hi ?_
        generalize f _ = x_3 at h ⊢
        refine x_iload_n 1 dX8_isLet_22 rfl rfl ?_
        obtain ⟨h1, h2⟩ := h
        refine x_icmp_ne (tgt := 44) dX8_isLet_23 (by decide) (fun q => ?_) (fun q => ?_)
        · have h := h1 q
          refine x_iconst (v := (0 : Int32)) dX8_isLet_44 (by decide) ?_
          refine x_istore_n (L' := [(2, .int (0 : Int32)), (0, .ref a0), (1, .int x1), (3, .int x3)]) dX8_isLet_45 rfl (by decide) rfl ?_
          refine x_iinc (v := (x3 + 1)) (L' := [(3, .int (x3 + 1)), (2, .int (0 : Int32)), (0, .ref a0), (1, .int x1)]) (j := 3) dX8_isLet_46 rfl rfl (by decide) rfl ?_
          refine x_goto (tgt := 4) dX8_isLet_49 (by decide) ?_
          refine x_sub (L' := [(0, .ref a0), (1, .int x1), (2, .int (0 : Int32)), (3, .int (x3 + 1))]) [2, 3, 1, 0] rfl ?_
          exact ih a0 x1 (0 : Int32) (x3 + 1) t _ _ h
        · have h := h2 q
          refine x_aload_n 0 dX8_isLet_26 rfl rfl ?_
          refine x_iload_n 3 dX8_isLet_27 rfl rfl ?_
          refine x_aload_n 0 dX8_isLet_28 rfl rfl ?_
          obtain ⟨⟨fs, hf⟩, h⟩ := h
          refine x_invV (as := []) (rest := [.int x3, .ref a0]) dX8_isLet_29 (q := (RX8, TX8, 40)) rfl xc_X8_isLet_129 hf (M_X8_month hl h) rfl rfl (Nat.le_of_ble_eq_true rfl) (Nat.zero_le _) (Nat.zero_le _) (xk_i fun x_5 t_4 h => ?_)
          refine x_iconst (v := (1 : Int32)) dX8_isLet_32 (by decide) ?_
          refine x_iadd dX8_isLet_33 ?_
          obtain ⟨⟨fs, hf⟩, h⟩ := h
          refine x_invV (as := [.int x3, .int (x_5 + (1 : Int32))]) (rest := []) dX8_isLet_34 (q := (RX8, TX8, 40)) rfl xc_X8_isLet_137 hf (M_X8_runs hl h) rfl rfl (Nat.le_of_ble_eq_true rfl) (Nat.zero_le _) (Nat.zero_le _) (xk_i fun x_7 t_6 h => ?_)
          obtain ⟨h1, h2⟩ := h
          refine x_if_eq (tgt := 44) dX8_isLet_37 (by decide) (fun q => ?_) (fun q => ?_)
          · have h := h1 q
            refine x_iconst (v := (0 : Int32)) dX8_isLet_44 (by decide) ?_
            refine x_istore_n (L' := [(2, .int (0 : Int32)), (0, .ref a0), (1, .int x1), (3, .int x3)]) dX8_isLet_45 rfl (by decide) rfl ?_
            refine x_iinc (v := (x3 + 1)) (L' := [(3, .int (x3 + 1)), (2, .int (0 : Int32)), (0, .ref a0), (1, .int x1)]) (j := 3) dX8_isLet_46 rfl rfl (by decide) rfl ?_
            refine x_goto (tgt := 4) dX8_isLet_49 (by decide) ?_
            refine x_sub (L' := [(0, .ref a0), (1, .int x1), (2, .int (0 : Int32)), (3, .int (x3 + 1))]) [2, 3, 1, 0] rfl ?_
            exact ih a0 x1 (0 : Int32) (x3 + 1) t_6 _ _ h
          · have h := h2 q
            refine x_iconst (v := (1 : Int32)) dX8_isLet_40 (by decide) ?_
            refine x_goto (tgt := 45) dX8_isLet_41 (by decide) ?_
            refine x_istore_n (L' := [(2, .int (1 : Int32)), (0, .ref a0), (1, .int x1), (3, .int x3)]) dX8_isLet_45 rfl (by decide) rfl ?_
            refine x_iinc (v := (x3 + 1)) (L' := [(3, .int (x3 + 1)), (2, .int (1 : Int32)), (0, .ref a0), (1, .int x1)]) (j := 3) dX8_isLet_46 rfl rfl (by decide) rfl ?_
            refine x_goto (tgt := 4) dX8_isLet_49 (by decide) ?_
            refine x_sub (L' := [(0, .ref a0), (1, .int x1), (2, .int (1 : Int32)), (3, .int (x3 + 1))]) [2, 3, 1, 0] rfl ?_
            exact ih a0 x1 (1 : Int32) (x3 + 1) t_6 _ _ h
def V_X8_isLet_0 (K : Int32 → xT → Prop) (a0 : Nat) (x1 : Int32) (t : xT) : Prop :=
  ∃ f_1 : Nat, V_X8_isLet_4 K f_1 a0 x1 (0 : Int32) (0 : Int32) t
set_option maxRecDepth 20000 in
theorem S_X8_isLet_0 {Γ : xΓ} {K : Int32 → xT → Prop} (hl : (gl Γ).stackTraces = false) (ht : (gM Γ).sig.returnType = (some .boolean)) (hr : xRet Γ (xKi K)) {a0 : Nat} {x1 : Int32} {t : xT} {rc rs : Nat} (h : V_X8_isLet_0 K a0 x1 t) : xX Γ k_X8_isLet 0 [(0, .ref a0), (1, .int x1)] [] t rc rs := by
  unfold V_X8_isLet_0 at h
  refine x_iconst (v := (0 : Int32)) dX8_isLet_0 (by decide) ?_
  refine x_istore_n (L' := [(2, .int (0 : Int32)), (0, .ref a0), (1, .int x1)]) dX8_isLet_1 rfl (by decide) rfl ?_
  refine x_iconst (v := (0 : Int32)) dX8_isLet_2 (by decide) ?_
  refine x_istore_n (L' := [(3, .int (0 : Int32)), (2, .int (0 : Int32)), (0, .ref a0), (1, .int x1)]) dX8_isLet_3 rfl (by decide) rfl ?_
  obtain ⟨f_1, h⟩ := h
  refine x_sub (L' := [(0, .ref a0), (1, .int x1), (2, .int (0 : Int32)), (3, .int (0 : Int32))]) [2, 3, 1, 0] rfl ?_
  exact S_X8_isLet_4 hl ht hr  f_1 a0 x1 (0 : Int32) (0 : Int32) t _ _ h
theorem M_X8_isLet {l : Launch} {G : xG} (hl : l.stackTraces = false) {a0 : Nat} {x1 : Int32} {t : xT} {K : Int32 → xT → Prop} (h : V_X8_isLet_0 K a0 x1 t) : xMet l G yX8_isLet k_X8_isLet (some .boolean) [.ref a0, .int x1] t (xKi K) 0 0 := xMet.of (by decide +kernel) rfl hl (Nat.le_of_ble_eq_true rfl) (fun Γ e1 e2 ht hn hr => by subst e1; subst e2; exact S_X8_isLet_0 hl ht hr h)
/-! RentStreamModel.lease(II)I -/
def V_X8_lease_51 (K : Int32 → xT → Prop) (a0 : Nat) (x1 : Int32) (x2 : Int32) (xs0 : Int32) (as1 : Nat) (t : xT) : Prop :=
  (xis t as1 8 ∧ V_X8_holds_0 (fun x_2 t_1 => ((¬ x_2 = 0 → xgR t_1 a0 8 19 fun a_3 => xgI t_1 a0 8 18 fun x_4 => xsI 0 t_1 a_3 x_4 x1 fun t_5 => xgR t_5 a0 8 20 fun a_6 => xgI t_5 a0 8 18 fun x_7 => xsI 0 t_5 a_6 x_7 x2 fun t_8 => xgR t_8 a0 8 21 fun a_9 => xgI t_8 a0 8 18 fun x_10 => (xis t_8 a0 8 ∧ V_X8_month_0 (fun x_12 t_11 => xsI 0 t_11 a_9 x_10 (x_12 + (1 : Int32)) fun t_13 => xgR t_13 a0 8 22 fun a_14 => xgI t_13 a0 8 18 fun x_15 => xsI 0 t_13 a_14 x_15 (1000 : Int32) fun t_16 => xgI t_16 a0 8 18 fun x_17 => (xpF t_16 a0 8 18 (.int (x_17 + (1 : Int32))) fun t_18 => xgI t_18 a0 8 18 fun x_19 => K (x_19 - (1 : Int32)) t_18)) a0 t_8)) ∧ (x_2 = 0 → K (0 : Int32) t_1))) as1 xs0 t)
set_option maxRecDepth 20000 in
theorem S_X8_lease_51 {Γ : xΓ} {K : Int32 → xT → Prop} (hl : (gl Γ).stackTraces = false) (ht : (gM Γ).sig.returnType = (some .int)) (hr : xRet Γ (xKi K)) {a0 : Nat} {x1 : Int32} {x2 : Int32} {xs0 : Int32} {as1 : Nat} {t : xT} {rc rs : Nat} (h : V_X8_lease_51 K a0 x1 x2 xs0 as1 t) : xX Γ k_X8_lease 51 [(0, .ref a0), (1, .int x1), (2, .int x2)] [.int xs0, .ref as1] t rc rs := by
  unfold V_X8_lease_51 at h
  obtain ⟨⟨fs, hf⟩, h⟩ := h
  refine x_invV (as := [.int xs0]) (rest := []) dX8_lease_51 (q := (RX8, TX8, 40)) rfl xc_X8_lease_133 hf (M_X8_holds hl h) rfl rfl (Nat.le_of_ble_eq_true rfl) (Nat.zero_le _) (Nat.zero_le _) (xk_i fun x_2 t_1 h => ?_)
  obtain ⟨h1, h2⟩ := h
  refine x_if_ne (tgt := 59) dX8_lease_54 (by decide) (fun q => ?_) (fun q => ?_)
  · have h := h1 q
    refine x_aload_n 0 dX8_lease_59 rfl rfl ?_
    obtain ⟨fs, hf, a_3, hv, h⟩ := h
    refine x_get dX8_lease_60 xf_X8_50 hf hv ?_
    refine x_aload_n 0 dX8_lease_63 rfl rfl ?_
    obtain ⟨fs, hf, x_4, hv, h⟩ := h
    refine x_get dX8_lease_64 xf_X8_123 hf hv ?_
    refine x_iload_n 1 dX8_lease_67 rfl rfl ?_
    obtain ⟨n, f, hf, hi, h⟩ := h
    refine x_iast dX8_lease_68 hf hi ?_
    generalize hT : xup t_1 a_3 _ = t_5 at h ⊢
    clear hT
    refine x_aload_n 0 dX8_lease_69 rfl rfl ?_
    obtain ⟨fs, hf, a_6, hv, h⟩ := h
    refine x_get dX8_lease_70 xf_X8_53 hf hv ?_
    refine x_aload_n 0 dX8_lease_73 rfl rfl ?_
    obtain ⟨fs, hf, x_7, hv, h⟩ := h
    refine x_get dX8_lease_74 xf_X8_123 hf hv ?_
    refine x_iload_n 2 dX8_lease_77 rfl rfl ?_
    obtain ⟨n, f, hf, hi, h⟩ := h
    refine x_iast dX8_lease_78 hf hi ?_
    generalize hT : xup t_5 a_6 _ = t_8 at h ⊢
    clear hT
    refine x_aload_n 0 dX8_lease_79 rfl rfl ?_
    obtain ⟨fs, hf, a_9, hv, h⟩ := h
    refine x_get dX8_lease_80 xf_X8_56 hf hv ?_
    refine x_aload_n 0 dX8_lease_83 rfl rfl ?_
    obtain ⟨fs, hf, x_10, hv, h⟩ := h
    refine x_get dX8_lease_84 xf_X8_123 hf hv ?_
    refine x_aload_n 0 dX8_lease_87 rfl rfl ?_
    obtain ⟨⟨fs, hf⟩, h⟩ := h
    refine x_invV (as := []) (rest := [.int x_10, .ref a_9]) dX8_lease_88 (q := (RX8, TX8, 40)) rfl xc_X8_lease_129 hf (M_X8_month hl h) rfl rfl (Nat.le_of_ble_eq_true rfl) (Nat.zero_le _) (Nat.zero_le _) (xk_i fun x_12 t_11 h => ?_)
    refine x_iconst (v := (1 : Int32)) dX8_lease_91 (by decide) ?_
    refine x_iadd dX8_lease_92 ?_
    obtain ⟨n, f, hf, hi, h⟩ := h
    refine x_iast dX8_lease_93 hf hi ?_
    generalize hT : xup t_11 a_9 _ = t_13 at h ⊢
    clear hT
    refine x_aload_n 0 dX8_lease_94 rfl rfl ?_
    obtain ⟨fs, hf, a_14, hv, h⟩ := h
    refine x_get dX8_lease_95 xf_X8_59 hf hv ?_
    refine x_aload_n 0 dX8_lease_98 rfl rfl ?_
    obtain ⟨fs, hf, x_15, hv, h⟩ := h
    refine x_get dX8_lease_99 xf_X8_123 hf hv ?_
    refine x_sipush (v := (1000 : Int32)) dX8_lease_102 (by decide) ?_
    obtain ⟨n, f, hf, hi, h⟩ := h
    refine x_iast dX8_lease_105 hf hi ?_
    generalize hT : xup t_13 a_14 _ = t_16 at h ⊢
    clear hT
    refine x_aload_n 0 dX8_lease_106 rfl rfl ?_
    refine x_dup dX8_lease_107 rfl ?_
    obtain ⟨fs, hf, x_17, hv, h⟩ := h
    refine x_get dX8_lease_108 xf_X8_123 hf hv ?_
    refine x_iconst (v := (1 : Int32)) dX8_lease_111 (by decide) ?_
    refine x_iadd dX8_lease_112 ?_
    obtain ⟨fs, hf, hk, h⟩ := h
    refine x_put (v := .int (x_17 + (1 : Int32))) dX8_lease_113 xp_X8_123 hf rfl rfl hk ?_
    generalize hT : xup t_16 a0 _ = t_18 at h ⊢
    clear hT
    refine x_aload_n 0 dX8_lease_116 rfl rfl ?_
    obtain ⟨fs, hf, x_19, hv, h⟩ := h
    refine x_get dX8_lease_117 xf_X8_123 hf hv ?_
    refine x_iconst (v := (1 : Int32)) dX8_lease_120 (by decide) ?_
    refine x_isub dX8_lease_121 ?_
    exact x_zret dX8_lease_122 hr ht rfl ⟨_, rfl, h⟩
  · have h := h2 q
    refine x_iconst (v := (0 : Int32)) dX8_lease_57 (by decide) ?_
    exact x_zret dX8_lease_58 hr ht rfl ⟨_, rfl, h⟩
def V_X8_lease_0 (K : Int32 → xT → Prop) (a0 : Nat) (x1 : Int32) (x2 : Int32) (t : xT) : Prop :=
  (xis t a0 8 ∧ V_X8_isFlat_0 (fun x_2 t_1 => ((¬ x_2 = 0 → (V_X8_in_0 (fun x_4 t_3 => ((¬ x_4 = 0 → xgI t_3 a0 8 18 fun x_5 => ((x_5 = (12 : Int32) → V_X8_lease_51 K a0 x1 x2 (3 : Int32) a0 t_3) ∧ (¬ x_5 = (12 : Int32) → (xis t_3 a0 8 ∧ V_X8_isLet_0 (fun x_7 t_6 => ((x_7 = 0 → V_X8_lease_51 K a0 x1 x2 (0 : Int32) a0 t_6) ∧ (¬ x_7 = 0 → V_X8_lease_51 K a0 x1 x2 (3 : Int32) a0 t_6))) a0 x1 t_3)))) ∧ (x_4 = 0 → V_X8_lease_51 K a0 x1 x2 (2 : Int32) a0 t_3))) x2 (0 : Int32) (500000 : Int32) t_1)) ∧ (x_2 = 0 → V_X8_lease_51 K a0 x1 x2 (1 : Int32) a0 t_1))) a0 x1 t)
set_option maxRecDepth 20000 in
theorem S_X8_lease_0 {Γ : xΓ} {K : Int32 → xT → Prop} (hl : (gl Γ).stackTraces = false) (ht : (gM Γ).sig.returnType = (some .int)) (hr : xRet Γ (xKi K)) {a0 : Nat} {x1 : Int32} {x2 : Int32} {t : xT} {rc rs : Nat} (h : V_X8_lease_0 K a0 x1 x2 t) : xX Γ k_X8_lease 0 [(0, .ref a0), (1, .int x1), (2, .int x2)] [] t rc rs := by
  unfold V_X8_lease_0 at h
  refine x_aload_n 0 dX8_lease_0 rfl rfl ?_
  refine x_iload_n 1 dX8_lease_1 rfl rfl ?_
  obtain ⟨⟨fs, hf⟩, h⟩ := h
  refine x_invV (as := [.int x1]) (rest := []) dX8_lease_2 (q := (RX8, TX8, 40)) rfl xc_X8_lease_141 hf (M_X8_isFlat hl h) rfl rfl (Nat.le_of_ble_eq_true rfl) (Nat.zero_le _) (Nat.zero_le _) (xk_i fun x_2 t_1 h => ?_)
  refine x_istore_n (L' := [(3, .int x_2), (0, .ref a0), (1, .int x1), (2, .int x2)]) dX8_lease_5 rfl (by decide) rfl ?_
  refine x_aload_n 1 dX8_lease_6 rfl rfl ?_
  refine x_iload_n 0 dX8_lease_7 rfl rfl ?_
  obtain ⟨h1, h2⟩ := h
  refine x_if_ne (tgt := 15) dX8_lease_8 (by decide) (fun q => ?_) (fun q => ?_)
  · have h := h1 q
    refine x_iload_n 3 dX8_lease_15 rfl rfl ?_
    refine x_iconst (v := (0 : Int32)) dX8_lease_16 (by decide) ?_
    refine x_ldc dX8_lease_17 xw1366 ?_
    refine x_invS (as := [.int x2, .int (0 : Int32), .int (500000 : Int32)]) (rest := [.ref a0]) dX8_lease_19 xc_X8_lease_119 (M_X8_in hl h) rfl rfl (Nat.le_of_ble_eq_true rfl) (Nat.zero_le _) (Nat.zero_le _) (xk_i fun x_4 t_3 h => ?_)
    obtain ⟨h1, h2⟩ := h
    refine x_if_ne (tgt := 29) dX8_lease_22 (by decide) (fun q => ?_) (fun q => ?_)
    · have h := h1 q
      refine x_aload_n 1 dX8_lease_29 rfl rfl ?_
      obtain ⟨fs, hf, x_5, hv, h⟩ := h
      refine x_get dX8_lease_30 xf_X8_123 hf hv ?_
      refine x_bipush (v := (12 : Int32)) dX8_lease_33 (by decide) ?_
      obtain ⟨h1, h2⟩ := h
      refine x_icmp_eq (tgt := 46) dX8_lease_35 (by decide) (fun q => ?_) (fun q => ?_)
      · have h := h1 q
        refine x_iconst (v := (3 : Int32)) dX8_lease_46 (by decide) ?_
        refine x_goto (tgt := 51) dX8_lease_47 (by decide) ?_
        refine x_sub (L' := [(0, .ref a0), (1, .int x1), (2, .int x2)]) [1, 2, 3] rfl ?_
        exact S_X8_lease_51 hl ht hr  h
      · have h := h2 q
        refine x_aload_n 1 dX8_lease_38 rfl rfl ?_
        refine x_iload_n 2 dX8_lease_39 rfl rfl ?_
        obtain ⟨⟨fs, hf⟩, h⟩ := h
        refine x_invV (as := [.int x1]) (rest := [.ref a0]) dX8_lease_40 (q := (RX8, TX8, 40)) rfl xc_X8_lease_145 hf (M_X8_isLet hl h) rfl rfl (Nat.le_of_ble_eq_true rfl) (Nat.zero_le _) (Nat.zero_le _) (xk_i fun x_7 t_6 h => ?_)
        obtain ⟨h1, h2⟩ := h
        refine x_if_eq (tgt := 50) dX8_lease_43 (by decide) (fun q => ?_) (fun q => ?_)
        · have h := h1 q
          refine x_iconst (v := (0 : Int32)) dX8_lease_50 (by decide) ?_
          refine x_sub (L' := [(0, .ref a0), (1, .int x1), (2, .int x2)]) [1, 2, 3] rfl ?_
          exact S_X8_lease_51 hl ht hr  h
        · have h := h2 q
          refine x_iconst (v := (3 : Int32)) dX8_lease_46 (by decide) ?_
          refine x_goto (tgt := 51) dX8_lease_47 (by decide) ?_
          refine x_sub (L' := [(0, .ref a0), (1, .int x1), (2, .int x2)]) [1, 2, 3] rfl ?_
          exact S_X8_lease_51 hl ht hr  h
    · have h := h2 q
      refine x_iconst (v := (2 : Int32)) dX8_lease_25 (by decide) ?_
      refine x_goto (tgt := 51) dX8_lease_26 (by decide) ?_
      refine x_sub (L' := [(0, .ref a0), (1, .int x1), (2, .int x2)]) [1, 2, 3] rfl ?_
      exact S_X8_lease_51 hl ht hr  h
  · have h := h2 q
    refine x_iconst (v := (1 : Int32)) dX8_lease_11 (by decide) ?_
    refine x_goto (tgt := 51) dX8_lease_12 (by decide) ?_
    refine x_sub (L' := [(0, .ref a0), (1, .int x1), (2, .int x2)]) [1, 2, 3] rfl ?_
    exact S_X8_lease_51 hl ht hr  h
theorem M_X8_lease {l : Launch} {G : xG} (hl : l.stackTraces = false) {a0 : Nat} {x1 : Int32} {x2 : Int32} {t : xT} {K : Int32 → xT → Prop} (h : V_X8_lease_0 K a0 x1 x2 t) : xMet l G yX8_lease k_X8_lease (some .int) [.ref a0, .int x1, .int x2] t (xKi K) 0 0 := xMet.of (by decide +kernel) rfl hl (Nat.le_of_ble_eq_true rfl) (fun Γ e1 e2 ht hn hr => by subst e1; subst e2; exact S_X8_lease_0 hl ht hr h)
/-! RentStreamModel.adds(I)V -/
def V_X8_adds_0 (K : xT → Prop) (a0 : Nat) (x1 : Int32) (t : xT) : Prop :=
  xgR t a0 8 38 fun a_1 => xgI t a0 8 39 fun x_2 => xsI 4 t a_1 x_2 (vp_nar .char (x1.toUInt32 % 65536).toInt32) fun t_3 => xgI t_3 a0 8 39 fun x_4 => (xpF t_3 a0 8 39 (.int (x_4 + (1 : Int32))) fun t_5 => K t_5)
set_option maxRecDepth 20000 in
theorem S_X8_adds_0 {Γ : xΓ} {K : xT → Prop} (hl : (gl Γ).stackTraces = false) (ht : (gM Γ).sig.returnType = none) (hr : xRet Γ (xKv K)) {a0 : Nat} {x1 : Int32} {t : xT} {rc rs : Nat} (h : V_X8_adds_0 K a0 x1 t) : xX Γ k_X8_adds 0 [(0, .ref a0), (1, .int x1)] [] t rc rs := by
  unfold V_X8_adds_0 at h
  refine x_aload_n 0 dX8_adds_0 rfl rfl ?_
  obtain ⟨fs, hf, a_1, hv, h⟩ := h
  refine x_get dX8_adds_1 xf_X8_108 hf hv ?_
  refine x_aload_n 0 dX8_adds_4 rfl rfl ?_
  obtain ⟨fs, hf, x_2, hv, h⟩ := h
  refine x_get dX8_adds_5 xf_X8_218 hf hv ?_
  refine x_iload_n 1 dX8_adds_8 rfl rfl ?_
  refine x_i2c dX8_adds_9 ?_
  obtain ⟨n, f, hf, hi, h⟩ := h
  refine x_cast dX8_adds_10 hf hi ?_
  generalize hT : xup t a_1 _ = t_3 at h ⊢
  clear hT
  refine x_aload_n 0 dX8_adds_11 rfl rfl ?_
  refine x_dup dX8_adds_12 rfl ?_
  obtain ⟨fs, hf, x_4, hv, h⟩ := h
  refine x_get dX8_adds_13 xf_X8_218 hf hv ?_
  refine x_iconst (v := (1 : Int32)) dX8_adds_16 (by decide) ?_
  refine x_iadd dX8_adds_17 ?_
  obtain ⟨fs, hf, hk, h⟩ := h
  refine x_put (v := .int (x_4 + (1 : Int32))) dX8_adds_18 xp_X8_218 hf rfl rfl hk ?_
  generalize hT : xup t_3 a0 _ = t_5 at h ⊢
  clear hT
  exact x_vret dX8_adds_21 hr ht ⟨rfl, h⟩
theorem M_X8_adds {l : Launch} {G : xG} (hl : l.stackTraces = false) {a0 : Nat} {x1 : Int32} {t : xT} {K : xT → Prop} (h : V_X8_adds_0 K a0 x1 t) : xMet l G yX8_adds k_X8_adds none [.ref a0, .int x1] t (xKv K) 0 0 := xMet.of (by decide +kernel) rfl hl (Nat.le_of_ble_eq_true rfl) (fun Γ e1 e2 ht hn hr => by subst e1; subst e2; exact S_X8_adds_0 hl ht hr h)
/-! RentStreamModel.powerOf(I)I -/
def VS_X8_powerOf_4 (R4 : Int32 → Int32 → Int32 → xT → Prop) (K : Int32 → xT → Prop) (x0 : Int32) (x1 : Int32) (x2 : Int32) (t : xT) : Prop :=
  ((x0 ≤ x2 → K x1 t) ∧ (¬ x0 ≤ x2 → R4 x0 (x1 * (10 : Int32)) (x2 + 1) t))
def V_X8_powerOf_4 (K : Int32 → xT → Prop) (n : Nat) : Int32 → Int32 → Int32 → xT → Prop := Nat.rec (fun _ _ _ _ => False) (fun _ ih => VS_X8_powerOf_4 ih K) n
set_option maxRecDepth 20000 in
theorem S_X8_powerOf_4 {Γ : xΓ} {K : Int32 → xT → Prop} (hl : (gl Γ).stackTraces = false) (ht : (gM Γ).sig.returnType = (some .int)) (hr : xRet Γ (xKi K)) : ∀ (n : Nat) (x0 : Int32) (x1 : Int32) (x2 : Int32) (t : xT) (rc rs : Nat), V_X8_powerOf_4 K n x0 x1 x2 t → xX Γ k_X8_powerOf 4 [(0, .int x0), (1, .int x1), (2, .int x2)] [] t rc rs := by
  intro n
  induction n with
  | zero =>
    intro x0 x1 x2 t rc rs h
    exact h.elim
  | succ n ih =>
    intro x0 x1 x2 t rc rs h
    replace h : VS_X8_powerOf_4 (V_X8_powerOf_4 K n) K x0 x1 x2 t := h
    unfold VS_X8_powerOf_4 at h
    refine x_iload_n 2 dX8_powerOf_4 rfl rfl ?_
    refine x_iload_n 0 dX8_powerOf_5 rfl rfl ?_
    obtain ⟨h1, h2⟩ := h
    refine x_icmp_ge (tgt := 20) dX8_powerOf_6 (by decide) (fun q => ?_) (fun q => ?_)
    · have h := h1 q
      refine x_iload_n 1 dX8_powerOf_20 rfl rfl ?_
      exact x_zret dX8_powerOf_21 hr ht rfl ⟨_, rfl, h⟩
    · have h := h2 q
      refine x_iload_n 1 dX8_powerOf_9 rfl rfl ?_
      refine x_bipush (v := (10 : Int32)) dX8_powerOf_10 (by decide) ?_
      refine x_imul dX8_powerOf_12 ?_
      refine x_istore_n (L' := [(1, .int (x1 * (10 : Int32))), (0, .int x0), (2, .int x2)]) dX8_powerOf_13 rfl (by decide) rfl ?_
      refine x_iinc (v := (x2 + 1)) (L' := [(2, .int (x2 + 1)), (1, .int (x1 * (10 : Int32))), (0, .int x0)]) (j := 2) dX8_powerOf_14 rfl rfl (by decide) rfl ?_
      refine x_goto (tgt := 4) dX8_powerOf_17 (by decide) ?_
      refine x_sub (L' := [(0, .int x0), (1, .int (x1 * (10 : Int32))), (2, .int (x2 + 1))]) [2, 1, 0] rfl ?_
      exact ih x0 (x1 * (10 : Int32)) (x2 + 1) t _ _ h
def V_X8_powerOf_0 (K : Int32 → xT → Prop) (x0 : Int32) (t : xT) : Prop :=
  ∃ f_1 : Nat, V_X8_powerOf_4 K f_1 x0 (1 : Int32) (0 : Int32) t
set_option maxRecDepth 20000 in
theorem S_X8_powerOf_0 {Γ : xΓ} {K : Int32 → xT → Prop} (hl : (gl Γ).stackTraces = false) (ht : (gM Γ).sig.returnType = (some .int)) (hr : xRet Γ (xKi K)) {x0 : Int32} {t : xT} {rc rs : Nat} (h : V_X8_powerOf_0 K x0 t) : xX Γ k_X8_powerOf 0 [(0, .int x0)] [] t rc rs := by
  unfold V_X8_powerOf_0 at h
  refine x_iconst (v := (1 : Int32)) dX8_powerOf_0 (by decide) ?_
  refine x_istore_n (L' := [(1, .int (1 : Int32)), (0, .int x0)]) dX8_powerOf_1 rfl (by decide) rfl ?_
  refine x_iconst (v := (0 : Int32)) dX8_powerOf_2 (by decide) ?_
  refine x_istore_n (L' := [(2, .int (0 : Int32)), (1, .int (1 : Int32)), (0, .int x0)]) dX8_powerOf_3 rfl (by decide) rfl ?_
  obtain ⟨f_1, h⟩ := h
  refine x_sub (L' := [(0, .int x0), (1, .int (1 : Int32)), (2, .int (0 : Int32))]) [2, 1, 0] rfl ?_
  exact S_X8_powerOf_4 hl ht hr  f_1 x0 (1 : Int32) (0 : Int32) t _ _ h
theorem M_X8_powerOf {l : Launch} {G : xG} (hl : l.stackTraces = false) {x0 : Int32} {t : xT} {K : Int32 → xT → Prop} (h : V_X8_powerOf_0 K x0 t) : xMet l G yX8_powerOf k_X8_powerOf (some .int) [.int x0] t (xKi K) 0 0 := xMet.of (by decide +kernel) rfl hl (Nat.le_of_ble_eq_true rfl) (fun Γ e1 e2 ht hn hr => by subst e1; subst e2; exact S_X8_powerOf_0 hl ht hr h)
/-! RentStreamModel.addsAmount(II)V -/
def VS_X8_addsAmount_48 (R48 : Nat → Int32 → Int32 → Int32 → xT → Prop) (K : xT → Prop) (a0 : Nat) (x2 : Int32) (x3 : Int32) (x5 : Int32) (t : xT) : Prop :=
  ((x5 < 0 → (xis t a0 8 ∧ V_X8_adds_0 (fun t_1 => (¬ (10 : Int32) = 0 ∧ (¬ (10 : Int32) = 0 ∧ (xis t_1 a0 8 ∧ V_X8_adds_0 (fun t_2 => (¬ (10 : Int32) = 0 ∧ (xis t_2 a0 8 ∧ V_X8_adds_0 (fun t_3 => K t_3) a0 ((48 : Int32) + (xrem x2 (10 : Int32))) t_2))) a0 ((48 : Int32) + (xrem (x2 / (10 : Int32)) (10 : Int32))) t_1)))) a0 (44 : Int32) t)) ∧ (¬ x5 < 0 → (V_X8_powerOf_0 (fun x_5 t_4 => (¬ x_5 = 0 ∧ (¬ (10 : Int32) = 0 ∧ (xis t_4 a0 8 ∧ V_X8_adds_0 (fun t_6 => ((x5 ≤ 0 → R48 a0 x2 x3 (x5 + (-1 : Int32)) t_6) ∧ (¬ x5 ≤ 0 → (¬ (3 : Int32) = 0 ∧ ((¬ (xrem x5 (3 : Int32)) = 0 → R48 a0 x2 x3 (x5 + (-1 : Int32)) t_6) ∧ ((xrem x5 (3 : Int32)) = 0 → (xis t_6 a0 8 ∧ V_X8_adds_0 (fun t_7 => R48 a0 x2 x3 (x5 + (-1 : Int32)) t_7) a0 (46 : Int32) t_6))))))) a0 ((48 : Int32) + (xrem (x3 / x_5) (10 : Int32))) t_4)))) x5 t)))
def V_X8_addsAmount_48 (K : xT → Prop) (n : Nat) : Nat → Int32 → Int32 → Int32 → xT → Prop := Nat.rec (fun _ _ _ _ _ => False) (fun _ ih => VS_X8_addsAmount_48 ih K) n
set_option maxRecDepth 20000 in
theorem S_X8_addsAmount_48 {Γ : xΓ} {K : xT → Prop} (hl : (gl Γ).stackTraces = false) (ht : (gM Γ).sig.returnType = none) (hr : xRet Γ (xKv K)) : ∀ (n : Nat) (a0 : Nat) (x2 : Int32) (x3 : Int32) (x5 : Int32) (t : xT) (rc rs : Nat), V_X8_addsAmount_48 K n a0 x2 x3 x5 t → xX Γ k_X8_addsAmount 48 [(0, .ref a0), (2, .int x2), (3, .int x3), (5, .int x5)] [] t rc rs := by
  intro n
  induction n with
  | zero =>
    intro a0 x2 x3 x5 t rc rs h
    exact h.elim
  | succ n ih =>
    intro a0 x2 x3 x5 t rc rs h
    replace h : VS_X8_addsAmount_48 (V_X8_addsAmount_48 K n) K a0 x2 x3 x5 t := h
    unfold VS_X8_addsAmount_48 at h
    refine x_iload 3 dX8_addsAmount_48 rfl ?_
    obtain ⟨h1, h2⟩ := h
    refine x_if_lt (tgt := 94) dX8_addsAmount_50 (by decide) (fun q => ?_) (fun q => ?_)
    · have h := h1 q
      refine x_aload_n 0 dX8_addsAmount_94 rfl rfl ?_
      refine x_bipush (v := (44 : Int32)) dX8_addsAmount_95 (by decide) ?_
      obtain ⟨⟨fs, hf⟩, h⟩ := h
      refine x_invV (as := [.int (44 : Int32)]) (rest := []) dX8_addsAmount_97 (q := (RX8, TX8, 40)) rfl xc_X8_addsAmount_225 hf (M_X8_adds hl h) rfl rfl (Nat.le_of_ble_eq_true rfl) (Nat.zero_le _) (Nat.zero_le _) (xk_v fun t_1 h => ?_)
      refine x_aload_n 0 dX8_addsAmount_100 rfl rfl ?_
      refine x_bipush (v := (48 : Int32)) dX8_addsAmount_101 (by decide) ?_
      refine x_iload_n 1 dX8_addsAmount_103 rfl rfl ?_
      refine x_bipush (v := (10 : Int32)) dX8_addsAmount_104 (by decide) ?_
      obtain ⟨q, h⟩ := h
      refine x_idiv dX8_addsAmount_106 q ?_
      refine x_bipush (v := (10 : Int32)) dX8_addsAmount_107 (by decide) ?_
      obtain ⟨q, h⟩ := h
      refine x_irem dX8_addsAmount_109 q ?_
      refine x_iadd dX8_addsAmount_110 ?_
      obtain ⟨⟨fs, hf⟩, h⟩ := h
      refine x_invV (as := [.int ((48 : Int32) + (xrem (x2 / (10 : Int32)) (10 : Int32)))]) (rest := []) dX8_addsAmount_111 (q := (RX8, TX8, 40)) rfl xc_X8_addsAmount_225 hf (M_X8_adds hl h) rfl rfl (Nat.le_of_ble_eq_true rfl) (Nat.zero_le _) (Nat.zero_le _) (xk_v fun t_2 h => ?_)
      refine x_aload_n 0 dX8_addsAmount_114 rfl rfl ?_
      refine x_bipush (v := (48 : Int32)) dX8_addsAmount_115 (by decide) ?_
      refine x_iload_n 1 dX8_addsAmount_117 rfl rfl ?_
      refine x_bipush (v := (10 : Int32)) dX8_addsAmount_118 (by decide) ?_
      obtain ⟨q, h⟩ := h
      refine x_irem dX8_addsAmount_120 q ?_
      refine x_iadd dX8_addsAmount_121 ?_
      obtain ⟨⟨fs, hf⟩, h⟩ := h
      refine x_invV (as := [.int ((48 : Int32) + (xrem x2 (10 : Int32)))]) (rest := []) dX8_addsAmount_122 (q := (RX8, TX8, 40)) rfl xc_X8_addsAmount_225 hf (M_X8_adds hl h) rfl rfl (Nat.le_of_ble_eq_true rfl) (Nat.zero_le _) (Nat.zero_le _) (xk_v fun t_3 h => ?_)
      exact x_vret dX8_addsAmount_125 hr ht ⟨rfl, h⟩
    · have h := h2 q
      refine x_aload_n 0 dX8_addsAmount_53 rfl rfl ?_
      refine x_bipush (v := (48 : Int32)) dX8_addsAmount_54 (by decide) ?_
      refine x_iload_n 2 dX8_addsAmount_56 rfl rfl ?_
      refine x_iload 3 dX8_addsAmount_57 rfl ?_
      refine x_invS (as := [.int x5]) (rest := [.int x3, .int (48 : Int32), .ref a0]) dX8_addsAmount_59 xc_X8_addsAmount_221 (M_X8_powerOf hl h) rfl rfl (Nat.le_of_ble_eq_true rfl) (Nat.zero_le _) (Nat.zero_le _) (xk_i fun x_5 t_4 h => ?_)
      obtain ⟨q, h⟩ := h
      refine x_idiv dX8_addsAmount_62 q ?_
      refine x_bipush (v := (10 : Int32)) dX8_addsAmount_63 (by decide) ?_
      obtain ⟨q, h⟩ := h
      refine x_irem dX8_addsAmount_65 q ?_
      refine x_iadd dX8_addsAmount_66 ?_
      obtain ⟨⟨fs, hf⟩, h⟩ := h
      refine x_invV (as := [.int ((48 : Int32) + (xrem (x3 / x_5) (10 : Int32)))]) (rest := []) dX8_addsAmount_67 (q := (RX8, TX8, 40)) rfl xc_X8_addsAmount_225 hf (M_X8_adds hl h) rfl rfl (Nat.le_of_ble_eq_true rfl) (Nat.zero_le _) (Nat.zero_le _) (xk_v fun t_6 h => ?_)
      refine x_iload 3 dX8_addsAmount_70 rfl ?_
      obtain ⟨h1, h2⟩ := h
      refine x_if_le (tgt := 88) dX8_addsAmount_72 (by decide) (fun q => ?_) (fun q => ?_)
      · have h := h1 q
        refine x_iinc (v := (x5 + (-1 : Int32))) (L' := [(5, .int (x5 + (-1 : Int32))), (0, .ref a0), (2, .int x2), (3, .int x3)]) (j := 3) dX8_addsAmount_88 rfl rfl (by decide) rfl ?_
        refine x_goto (tgt := 48) dX8_addsAmount_91 (by decide) ?_
        refine x_sub (L' := [(0, .ref a0), (2, .int x2), (3, .int x3), (5, .int (x5 + (-1 : Int32)))]) [1, 2, 3, 0] rfl ?_
        exact ih a0 x2 x3 (x5 + (-1 : Int32)) t_6 _ _ h
      · have h := h2 q
        refine x_iload 3 dX8_addsAmount_75 rfl ?_
        refine x_iconst (v := (3 : Int32)) dX8_addsAmount_77 (by decide) ?_
        obtain ⟨q, h⟩ := h
        refine x_irem dX8_addsAmount_78 q ?_
        obtain ⟨h1, h2⟩ := h
        refine x_if_ne (tgt := 88) dX8_addsAmount_79 (by decide) (fun q => ?_) (fun q => ?_)
        · have h := h1 q
          refine x_iinc (v := (x5 + (-1 : Int32))) (L' := [(5, .int (x5 + (-1 : Int32))), (0, .ref a0), (2, .int x2), (3, .int x3)]) (j := 3) dX8_addsAmount_88 rfl rfl (by decide) rfl ?_
          refine x_goto (tgt := 48) dX8_addsAmount_91 (by decide) ?_
          refine x_sub (L' := [(0, .ref a0), (2, .int x2), (3, .int x3), (5, .int (x5 + (-1 : Int32)))]) [1, 2, 3, 0] rfl ?_
          exact ih a0 x2 x3 (x5 + (-1 : Int32)) t_6 _ _ h
        · have h := h2 q
          refine x_aload_n 0 dX8_addsAmount_82 rfl rfl ?_
          refine x_bipush (v := (46 : Int32)) dX8_addsAmount_83 (by decide) ?_
          obtain ⟨⟨fs, hf⟩, h⟩ := h
          refine x_invV (as := [.int (46 : Int32)]) (rest := []) dX8_addsAmount_85 (q := (RX8, TX8, 40)) rfl xc_X8_addsAmount_225 hf (M_X8_adds hl h) rfl rfl (Nat.le_of_ble_eq_true rfl) (Nat.zero_le _) (Nat.zero_le _) (xk_v fun t_7 h => ?_)
          refine x_iinc (v := (x5 + (-1 : Int32))) (L' := [(5, .int (x5 + (-1 : Int32))), (0, .ref a0), (2, .int x2), (3, .int x3)]) (j := 3) dX8_addsAmount_88 rfl rfl (by decide) rfl ?_
          refine x_goto (tgt := 48) dX8_addsAmount_91 (by decide) ?_
          refine x_sub (L' := [(0, .ref a0), (2, .int x2), (3, .int x3), (5, .int (x5 + (-1 : Int32)))]) [1, 2, 3, 0] rfl ?_
          exact ih a0 x2 x3 (x5 + (-1 : Int32)) t_7 _ _ h
def VS_X8_addsAmount_19 (R19 : Nat → Int32 → Int32 → Int32 → xT → Prop) (K : xT → Prop) (a0 : Nat) (x2 : Int32) (x3 : Int32) (x4 : Int32) (t : xT) : Prop :=
  (((9 : Int32) ≤ x4 → ∃ f_1 : Nat, V_X8_addsAmount_48 K f_1 a0 x2 x3 (x4 - (1 : Int32)) t) ∧ (¬ (9 : Int32) ≤ x4 → (V_X8_powerOf_0 (fun x_3 t_2 => (¬ x_3 = 0 ∧ (((x3 / x_3) ≤ 0 → ∃ f_4 : Nat, V_X8_addsAmount_48 K f_4 a0 x2 x3 (x4 - (1 : Int32)) t_2) ∧ (¬ (x3 / x_3) ≤ 0 → R19 a0 x2 x3 (x4 + 1) t_2)))) x4 t)))
def V_X8_addsAmount_19 (K : xT → Prop) (n : Nat) : Nat → Int32 → Int32 → Int32 → xT → Prop := Nat.rec (fun _ _ _ _ _ => False) (fun _ ih => VS_X8_addsAmount_19 ih K) n
set_option maxRecDepth 20000 in
theorem S_X8_addsAmount_19 {Γ : xΓ} {K : xT → Prop} (hl : (gl Γ).stackTraces = false) (ht : (gM Γ).sig.returnType = none) (hr : xRet Γ (xKv K)) : ∀ (n : Nat) (a0 : Nat) (x2 : Int32) (x3 : Int32) (x4 : Int32) (t : xT) (rc rs : Nat), V_X8_addsAmount_19 K n a0 x2 x3 x4 t → xX Γ k_X8_addsAmount 19 [(0, .ref a0), (2, .int x2), (3, .int x3), (4, .int x4)] [] t rc rs := by
  intro n
  induction n with
  | zero =>
    intro a0 x2 x3 x4 t rc rs h
    exact h.elim
  | succ n ih =>
    intro a0 x2 x3 x4 t rc rs h
    replace h : VS_X8_addsAmount_19 (V_X8_addsAmount_19 K n) K a0 x2 x3 x4 t := h
    unfold VS_X8_addsAmount_19 at h
    refine x_iload 3 dX8_addsAmount_19 rfl ?_
    refine x_bipush (v := (9 : Int32)) dX8_addsAmount_21 (by decide) ?_
    obtain ⟨h1, h2⟩ := h
    refine x_icmp_ge (tgt := 42) dX8_addsAmount_23 (by decide) (fun q => ?_) (fun q => ?_)
    · have h := h1 q
      refine x_iload 3 dX8_addsAmount_42 rfl ?_
      refine x_iconst (v := (1 : Int32)) dX8_addsAmount_44 (by decide) ?_
      refine x_isub dX8_addsAmount_45 ?_
      refine x_istore (L' := [(5, .int (x4 - (1 : Int32))), (0, .ref a0), (2, .int x2), (3, .int x3), (4, .int x4)]) dX8_addsAmount_46 (by decide) rfl ?_
      obtain ⟨f_1, h⟩ := h
      refine x_sub (L' := [(0, .ref a0), (2, .int x2), (3, .int x3), (5, .int (x4 - (1 : Int32)))]) [1, 2, 3, 0] rfl ?_
      exact S_X8_addsAmount_48 hl ht hr  f_1 a0 x2 x3 (x4 - (1 : Int32)) t _ _ h
    · have h := h2 q
      refine x_iload_n 2 dX8_addsAmount_26 rfl rfl ?_
      refine x_iload 3 dX8_addsAmount_27 rfl ?_
      refine x_invS (as := [.int x4]) (rest := [.int x3]) dX8_addsAmount_29 xc_X8_addsAmount_221 (M_X8_powerOf hl h) rfl rfl (Nat.le_of_ble_eq_true rfl) (Nat.zero_le _) (Nat.zero_le _) (xk_i fun x_3 t_2 h => ?_)
      obtain ⟨q, h⟩ := h
      refine x_idiv dX8_addsAmount_32 q ?_
      obtain ⟨h1, h2⟩ := h
      refine x_if_le (tgt := 42) dX8_addsAmount_33 (by decide) (fun q => ?_) (fun q => ?_)
      · have h := h1 q
        refine x_iload 3 dX8_addsAmount_42 rfl ?_
        refine x_iconst (v := (1 : Int32)) dX8_addsAmount_44 (by decide) ?_
        refine x_isub dX8_addsAmount_45 ?_
        refine x_istore (L' := [(5, .int (x4 - (1 : Int32))), (0, .ref a0), (2, .int x2), (3, .int x3), (4, .int x4)]) dX8_addsAmount_46 (by decide) rfl ?_
        obtain ⟨f_4, h⟩ := h
        refine x_sub (L' := [(0, .ref a0), (2, .int x2), (3, .int x3), (5, .int (x4 - (1 : Int32)))]) [1, 2, 3, 0] rfl ?_
        exact S_X8_addsAmount_48 hl ht hr  f_4 a0 x2 x3 (x4 - (1 : Int32)) t_2 _ _ h
      · have h := h2 q
        refine x_iinc (v := (x4 + 1)) (L' := [(4, .int (x4 + 1)), (0, .ref a0), (2, .int x2), (3, .int x3)]) (j := 3) dX8_addsAmount_36 rfl rfl (by decide) rfl ?_
        refine x_goto (tgt := 19) dX8_addsAmount_39 (by decide) ?_
        refine x_sub (L' := [(0, .ref a0), (2, .int x2), (3, .int x3), (4, .int (x4 + 1))]) [1, 2, 3, 0] rfl ?_
        exact ih a0 x2 x3 (x4 + 1) t_2 _ _ h
def V_X8_addsAmount_0 (K : xT → Prop) (a0 : Nat) (x1 : Int32) (x2 : Int32) (t : xT) : Prop :=
  (xis t a0 8 ∧ V_X8_adds_0 (fun t_1 => (xis t_1 a0 8 ∧ V_X8_adds_0 (fun t_2 => (¬ (100 : Int32) = 0 ∧ ∃ f_3 : Nat, V_X8_addsAmount_19 K f_3 a0 x2 (x2 / (100 : Int32)) (1 : Int32) t_2)) a0 x1 t_1)) a0 (32 : Int32) t)
set_option maxRecDepth 20000 in
theorem S_X8_addsAmount_0 {Γ : xΓ} {K : xT → Prop} (hl : (gl Γ).stackTraces = false) (ht : (gM Γ).sig.returnType = none) (hr : xRet Γ (xKv K)) {a0 : Nat} {x1 : Int32} {x2 : Int32} {t : xT} {rc rs : Nat} (h : V_X8_addsAmount_0 K a0 x1 x2 t) : xX Γ k_X8_addsAmount 0 [(0, .ref a0), (1, .int x1), (2, .int x2)] [] t rc rs := by
  unfold V_X8_addsAmount_0 at h
  refine x_aload_n 0 dX8_addsAmount_0 rfl rfl ?_
  refine x_bipush (v := (32 : Int32)) dX8_addsAmount_1 (by decide) ?_
  obtain ⟨⟨fs, hf⟩, h⟩ := h
  refine x_invV (as := [.int (32 : Int32)]) (rest := []) dX8_addsAmount_3 (q := (RX8, TX8, 40)) rfl xc_X8_addsAmount_225 hf (M_X8_adds hl h) rfl rfl (Nat.le_of_ble_eq_true rfl) (Nat.zero_le _) (Nat.zero_le _) (xk_v fun t_1 h => ?_)
  refine x_aload_n 0 dX8_addsAmount_6 rfl rfl ?_
  refine x_iload_n 1 dX8_addsAmount_7 rfl rfl ?_
  obtain ⟨⟨fs, hf⟩, h⟩ := h
  refine x_invV (as := [.int x1]) (rest := []) dX8_addsAmount_8 (q := (RX8, TX8, 40)) rfl xc_X8_addsAmount_225 hf (M_X8_adds hl h) rfl rfl (Nat.le_of_ble_eq_true rfl) (Nat.zero_le _) (Nat.zero_le _) (xk_v fun t_2 h => ?_)
  refine x_iload_n 2 dX8_addsAmount_11 rfl rfl ?_
  refine x_bipush (v := (100 : Int32)) dX8_addsAmount_12 (by decide) ?_
  obtain ⟨q, h⟩ := h
  refine x_idiv dX8_addsAmount_14 q ?_
  refine x_istore_n (L' := [(3, .int (x2 / (100 : Int32))), (0, .ref a0), (1, .int x1), (2, .int x2)]) dX8_addsAmount_15 rfl (by decide) rfl ?_
  refine x_iconst (v := (1 : Int32)) dX8_addsAmount_16 (by decide) ?_
  refine x_istore (L' := [(4, .int (1 : Int32)), (3, .int (x2 / (100 : Int32))), (0, .ref a0), (1, .int x1), (2, .int x2)]) dX8_addsAmount_17 (by decide) rfl ?_
  obtain ⟨f_3, h⟩ := h
  refine x_sub (L' := [(0, .ref a0), (2, .int x2), (3, .int (x2 / (100 : Int32))), (4, .int (1 : Int32))]) [2, 4, 1, 0] rfl ?_
  exact S_X8_addsAmount_19 hl ht hr  f_3 a0 x2 (x2 / (100 : Int32)) (1 : Int32) t_2 _ _ h
theorem M_X8_addsAmount {l : Launch} {G : xG} (hl : l.stackTraces = false) {a0 : Nat} {x1 : Int32} {x2 : Int32} {t : xT} {K : xT → Prop} (h : V_X8_addsAmount_0 K a0 x1 x2 t) : xMet l G yX8_addsAmount k_X8_addsAmount none [.ref a0, .int x1, .int x2] t (xKv K) 0 0 := xMet.of (by decide +kernel) rfl hl (Nat.le_of_ble_eq_true rfl) (fun Γ e1 e2 ht hn hr => by subst e1; subst e2; exact S_X8_addsAmount_0 hl ht hr h)
/-! RentStreamModel.addsNumber(I)V -/
def VS_X8_addsNumber_27 (R27 : Nat → Int32 → Int32 → xT → Prop) (K : xT → Prop) (a0 : Nat) (x1 : Int32) (x3 : Int32) (t : xT) : Prop :=
  ((x3 < 0 → K t) ∧ (¬ x3 < 0 → (V_X8_powerOf_0 (fun x_2 t_1 => (¬ x_2 = 0 ∧ (¬ (10 : Int32) = 0 ∧ (xis t_1 a0 8 ∧ V_X8_adds_0 (fun t_3 => R27 a0 x1 (x3 + (-1 : Int32)) t_3) a0 ((48 : Int32) + (xrem (x1 / x_2) (10 : Int32))) t_1)))) x3 t)))
def V_X8_addsNumber_27 (K : xT → Prop) (n : Nat) : Nat → Int32 → Int32 → xT → Prop := Nat.rec (fun _ _ _ _ => False) (fun _ ih => VS_X8_addsNumber_27 ih K) n
set_option maxRecDepth 20000 in
theorem S_X8_addsNumber_27 {Γ : xΓ} {K : xT → Prop} (hl : (gl Γ).stackTraces = false) (ht : (gM Γ).sig.returnType = none) (hr : xRet Γ (xKv K)) : ∀ (n : Nat) (a0 : Nat) (x1 : Int32) (x3 : Int32) (t : xT) (rc rs : Nat), V_X8_addsNumber_27 K n a0 x1 x3 t → xX Γ k_X8_addsNumber 27 [(0, .ref a0), (1, .int x1), (3, .int x3)] [] t rc rs := by
  intro n
  induction n with
  | zero =>
    intro a0 x1 x3 t rc rs h
    exact h.elim
  | succ n ih =>
    intro a0 x1 x3 t rc rs h
    replace h : VS_X8_addsNumber_27 (V_X8_addsNumber_27 K n) K a0 x1 x3 t := h
    unfold VS_X8_addsNumber_27 at h
    refine x_iload_n 2 dX8_addsNumber_27 rfl rfl ?_
    obtain ⟨h1, h2⟩ := h
    refine x_if_lt (tgt := 53) dX8_addsNumber_28 (by decide) (fun q => ?_) (fun q => ?_)
    · have h := h1 q
      exact x_vret dX8_addsNumber_53 hr ht ⟨rfl, h⟩
    · have h := h2 q
      refine x_aload_n 0 dX8_addsNumber_31 rfl rfl ?_
      refine x_bipush (v := (48 : Int32)) dX8_addsNumber_32 (by decide) ?_
      refine x_iload_n 1 dX8_addsNumber_34 rfl rfl ?_
      refine x_iload_n 2 dX8_addsNumber_35 rfl rfl ?_
      refine x_invS (as := [.int x3]) (rest := [.int x1, .int (48 : Int32), .ref a0]) dX8_addsNumber_36 xc_X8_addsNumber_221 (M_X8_powerOf hl h) rfl rfl (Nat.le_of_ble_eq_true rfl) (Nat.zero_le _) (Nat.zero_le _) (xk_i fun x_2 t_1 h => ?_)
      obtain ⟨q, h⟩ := h
      refine x_idiv dX8_addsNumber_39 q ?_
      refine x_bipush (v := (10 : Int32)) dX8_addsNumber_40 (by decide) ?_
      obtain ⟨q, h⟩ := h
      refine x_irem dX8_addsNumber_42 q ?_
      refine x_iadd dX8_addsNumber_43 ?_
      obtain ⟨⟨fs, hf⟩, h⟩ := h
      refine x_invV (as := [.int ((48 : Int32) + (xrem (x1 / x_2) (10 : Int32)))]) (rest := []) dX8_addsNumber_44 (q := (RX8, TX8, 40)) rfl xc_X8_addsNumber_225 hf (M_X8_adds hl h) rfl rfl (Nat.le_of_ble_eq_true rfl) (Nat.zero_le _) (Nat.zero_le _) (xk_v fun t_3 h => ?_)
      refine x_iinc (v := (x3 + (-1 : Int32))) (L' := [(3, .int (x3 + (-1 : Int32))), (0, .ref a0), (1, .int x1)]) (j := 2) dX8_addsNumber_47 rfl rfl (by decide) rfl ?_
      refine x_goto (tgt := 27) dX8_addsNumber_50 (by decide) ?_
      refine x_sub (L' := [(0, .ref a0), (1, .int x1), (3, .int (x3 + (-1 : Int32)))]) [1, 2, 0] rfl ?_
      exact ih a0 x1 (x3 + (-1 : Int32)) t_3 _ _ h
def VS_X8_addsNumber_2 (R2 : Nat → Int32 → Int32 → xT → Prop) (K : xT → Prop) (a0 : Nat) (x1 : Int32) (x2 : Int32) (t : xT) : Prop :=
  (((9 : Int32) ≤ x2 → ∃ f_1 : Nat, V_X8_addsNumber_27 K f_1 a0 x1 (x2 - (1 : Int32)) t) ∧ (¬ (9 : Int32) ≤ x2 → (V_X8_powerOf_0 (fun x_3 t_2 => (¬ x_3 = 0 ∧ (((x1 / x_3) ≤ 0 → ∃ f_4 : Nat, V_X8_addsNumber_27 K f_4 a0 x1 (x2 - (1 : Int32)) t_2) ∧ (¬ (x1 / x_3) ≤ 0 → R2 a0 x1 (x2 + 1) t_2)))) x2 t)))
def V_X8_addsNumber_2 (K : xT → Prop) (n : Nat) : Nat → Int32 → Int32 → xT → Prop := Nat.rec (fun _ _ _ _ => False) (fun _ ih => VS_X8_addsNumber_2 ih K) n
set_option maxRecDepth 20000 in
theorem S_X8_addsNumber_2 {Γ : xΓ} {K : xT → Prop} (hl : (gl Γ).stackTraces = false) (ht : (gM Γ).sig.returnType = none) (hr : xRet Γ (xKv K)) : ∀ (n : Nat) (a0 : Nat) (x1 : Int32) (x2 : Int32) (t : xT) (rc rs : Nat), V_X8_addsNumber_2 K n a0 x1 x2 t → xX Γ k_X8_addsNumber 2 [(0, .ref a0), (1, .int x1), (2, .int x2)] [] t rc rs := by
  intro n
  induction n with
  | zero =>
    intro a0 x1 x2 t rc rs h
    exact h.elim
  | succ n ih =>
    intro a0 x1 x2 t rc rs h
    replace h : VS_X8_addsNumber_2 (V_X8_addsNumber_2 K n) K a0 x1 x2 t := h
    unfold VS_X8_addsNumber_2 at h
    refine x_iload_n 2 dX8_addsNumber_2 rfl rfl ?_
    refine x_bipush (v := (9 : Int32)) dX8_addsNumber_3 (by decide) ?_
    obtain ⟨h1, h2⟩ := h
    refine x_icmp_ge (tgt := 23) dX8_addsNumber_5 (by decide) (fun q => ?_) (fun q => ?_)
    · have h := h1 q
      refine x_iload_n 2 dX8_addsNumber_23 rfl rfl ?_
      refine x_iconst (v := (1 : Int32)) dX8_addsNumber_24 (by decide) ?_
      refine x_isub dX8_addsNumber_25 ?_
      refine x_istore_n (L' := [(3, .int (x2 - (1 : Int32))), (0, .ref a0), (1, .int x1), (2, .int x2)]) dX8_addsNumber_26 rfl (by decide) rfl ?_
      obtain ⟨f_1, h⟩ := h
      refine x_sub (L' := [(0, .ref a0), (1, .int x1), (3, .int (x2 - (1 : Int32)))]) [1, 2, 0] rfl ?_
      exact S_X8_addsNumber_27 hl ht hr  f_1 a0 x1 (x2 - (1 : Int32)) t _ _ h
    · have h := h2 q
      refine x_iload_n 1 dX8_addsNumber_8 rfl rfl ?_
      refine x_iload_n 2 dX8_addsNumber_9 rfl rfl ?_
      refine x_invS (as := [.int x2]) (rest := [.int x1]) dX8_addsNumber_10 xc_X8_addsNumber_221 (M_X8_powerOf hl h) rfl rfl (Nat.le_of_ble_eq_true rfl) (Nat.zero_le _) (Nat.zero_le _) (xk_i fun x_3 t_2 h => ?_)
      obtain ⟨q, h⟩ := h
      refine x_idiv dX8_addsNumber_13 q ?_
      obtain ⟨h1, h2⟩ := h
      refine x_if_le (tgt := 23) dX8_addsNumber_14 (by decide) (fun q => ?_) (fun q => ?_)
      · have h := h1 q
        refine x_iload_n 2 dX8_addsNumber_23 rfl rfl ?_
        refine x_iconst (v := (1 : Int32)) dX8_addsNumber_24 (by decide) ?_
        refine x_isub dX8_addsNumber_25 ?_
        refine x_istore_n (L' := [(3, .int (x2 - (1 : Int32))), (0, .ref a0), (1, .int x1), (2, .int x2)]) dX8_addsNumber_26 rfl (by decide) rfl ?_
        obtain ⟨f_4, h⟩ := h
        refine x_sub (L' := [(0, .ref a0), (1, .int x1), (3, .int (x2 - (1 : Int32)))]) [1, 2, 0] rfl ?_
        exact S_X8_addsNumber_27 hl ht hr  f_4 a0 x1 (x2 - (1 : Int32)) t_2 _ _ h
      · have h := h2 q
        refine x_iinc (v := (x2 + 1)) (L' := [(2, .int (x2 + 1)), (0, .ref a0), (1, .int x1)]) (j := 2) dX8_addsNumber_17 rfl rfl (by decide) rfl ?_
        refine x_goto (tgt := 2) dX8_addsNumber_20 (by decide) ?_
        refine x_sub (L' := [(0, .ref a0), (1, .int x1), (2, .int (x2 + 1))]) [1, 2, 0] rfl ?_
        exact ih a0 x1 (x2 + 1) t_2 _ _ h
def V_X8_addsNumber_0 (K : xT → Prop) (a0 : Nat) (x1 : Int32) (t : xT) : Prop :=
  ∃ f_1 : Nat, V_X8_addsNumber_2 K f_1 a0 x1 (1 : Int32) t
set_option maxRecDepth 20000 in
theorem S_X8_addsNumber_0 {Γ : xΓ} {K : xT → Prop} (hl : (gl Γ).stackTraces = false) (ht : (gM Γ).sig.returnType = none) (hr : xRet Γ (xKv K)) {a0 : Nat} {x1 : Int32} {t : xT} {rc rs : Nat} (h : V_X8_addsNumber_0 K a0 x1 t) : xX Γ k_X8_addsNumber 0 [(0, .ref a0), (1, .int x1)] [] t rc rs := by
  unfold V_X8_addsNumber_0 at h
  refine x_iconst (v := (1 : Int32)) dX8_addsNumber_0 (by decide) ?_
  refine x_istore_n (L' := [(2, .int (1 : Int32)), (0, .ref a0), (1, .int x1)]) dX8_addsNumber_1 rfl (by decide) rfl ?_
  obtain ⟨f_1, h⟩ := h
  refine x_sub (L' := [(0, .ref a0), (1, .int x1), (2, .int (1 : Int32))]) [1, 2, 0] rfl ?_
  exact S_X8_addsNumber_2 hl ht hr  f_1 a0 x1 (1 : Int32) t _ _ h
theorem M_X8_addsNumber {l : Launch} {G : xG} (hl : l.stackTraces = false) {a0 : Nat} {x1 : Int32} {t : xT} {K : xT → Prop} (h : V_X8_addsNumber_0 K a0 x1 t) : xMet l G yX8_addsNumber k_X8_addsNumber none [.ref a0, .int x1] t (xKv K) 0 0 := xMet.of (by decide +kernel) rfl hl (Nat.le_of_ble_eq_true rfl) (fun Γ e1 e2 ht hn hr => by subst e1; subst e2; exact S_X8_addsNumber_0 hl ht hr h)
/-! RentStreamModel.line(III)C -/
def V_X8_line_38 (K : Int32 → xT → Prop) (a0 : Nat) (x1 : Int32) (x2 : Int32) (x3 : Int32) (xs0 : Int32) (as1 : Nat) (t : xT) : Prop :=
  (xis t as1 8 ∧ V_X8_holds_0 (fun x_2 t_1 => ((¬ x_2 = 0 → (V_X8_at_0 (fun x_4 t_3 => (xpF t_3 a0 8 39 (.int (0 : Int32)) fun t_5 => xgR t_5 a0 8 26 fun a_6 => xaI 2 t_5 a_6 x_4 fun x_7 => ((x_7 = 0 → xgI t_5 a0 8 39 fun x_8 => ((x_8 ≤ x3 → K (32 : Int32) t_5) ∧ (¬ x_8 ≤ x3 → xgR t_5 a0 8 38 fun a_9 => xaI 4 t_5 a_9 x3 fun x_10 => (narrow .char (.int x_10) = .int x_10 ∧ K x_10 t_5)))) ∧ (¬ x_7 = 0 → (xis t_5 a0 8 ∧ V_X8_adds_0 (fun t_11 => (xis t_11 a0 8 ∧ V_X8_addsNumber_0 (fun t_12 => (xis t_12 a0 8 ∧ V_X8_adds_0 (fun t_13 => (xis t_13 a0 8 ∧ V_X8_adds_0 (fun t_14 => (xis t_14 a0 8 ∧ V_X8_addsNumber_0 (fun t_15 => xgR t_15 a0 8 27 fun a_16 => xaI 0 t_15 a_16 x_4 fun x_17 => (xis t_15 a0 8 ∧ V_X8_addsAmount_0 (fun t_18 => xgR t_18 a0 8 28 fun a_19 => xaI 0 t_18 a_19 x_4 fun x_20 => (xis t_18 a0 8 ∧ V_X8_addsAmount_0 (fun t_21 => xgR t_21 a0 8 29 fun a_22 => xaI 0 t_21 a_22 x_4 fun x_23 => (xis t_21 a0 8 ∧ V_X8_addsAmount_0 (fun t_24 => xgR t_24 a0 8 30 fun a_25 => xaI 0 t_24 a_25 x_4 fun x_26 => (xis t_24 a0 8 ∧ V_X8_addsAmount_0 (fun t_27 => xgR t_27 a0 8 27 fun a_28 => xaI 0 t_27 a_28 x_4 fun x_29 => xgR t_27 a0 8 28 fun a_30 => xaI 0 t_27 a_30 x_4 fun x_31 => xgR t_27 a0 8 29 fun a_32 => xaI 0 t_27 a_32 x_4 fun x_33 => xgR t_27 a0 8 30 fun a_34 => xaI 0 t_27 a_34 x_4 fun x_35 => (xis t_27 a0 8 ∧ V_X8_addsAmount_0 (fun t_36 => xgI t_36 a0 8 39 fun x_37 => ((x_37 ≤ x3 → K (32 : Int32) t_36) ∧ (¬ x_37 ≤ x3 → xgR t_36 a0 8 38 fun a_38 => xaI 4 t_36 a_38 x3 fun x_39 => (narrow .char (.int x_39) = .int x_39 ∧ K x_39 t_36)))) a0 (84 : Int32) (((x_29 - x_31) - x_33) + x_35) t_27)) a0 (72 : Int32) x_26 t_24)) a0 (66 : Int32) x_23 t_21)) a0 (88 : Int32) x_20 t_18)) a0 (82 : Int32) x_17 t_15)) a0 x2 t_14)) a0 (77 : Int32) t_13)) a0 (32 : Int32) t_12)) a0 x1 t_11)) a0 (76 : Int32) t_5))))) x1 x2 t_1)) ∧ (x_2 = 0 → K (0 : Int32) t_1))) as1 xs0 t)
set_option maxRecDepth 20000 in
theorem S_X8_line_38 {Γ : xΓ} {K : Int32 → xT → Prop} (hl : (gl Γ).stackTraces = false) (ht : (gM Γ).sig.returnType = (some .char)) (hr : xRet Γ (xKi K)) {a0 : Nat} {x1 : Int32} {x2 : Int32} {x3 : Int32} {xs0 : Int32} {as1 : Nat} {t : xT} {rc rs : Nat} (h : V_X8_line_38 K a0 x1 x2 x3 xs0 as1 t) : xX Γ k_X8_line 38 [(0, .ref a0), (1, .int x1), (2, .int x2), (3, .int x3)] [.int xs0, .ref as1] t rc rs := by
  unfold V_X8_line_38 at h
  obtain ⟨⟨fs, hf⟩, h⟩ := h
  refine x_invV (as := [.int xs0]) (rest := []) dX8_line_38 (q := (RX8, TX8, 40)) rfl xc_X8_line_133 hf (M_X8_holds hl h) rfl rfl (Nat.le_of_ble_eq_true rfl) (Nat.zero_le _) (Nat.zero_le _) (xk_i fun x_2 t_1 h => ?_)
  obtain ⟨h1, h2⟩ := h
  refine x_if_ne (tgt := 46) dX8_line_41 (by decide) (fun q => ?_) (fun q => ?_)
  · have h := h1 q
    refine x_iload_n 1 dX8_line_46 rfl rfl ?_
    refine x_iload_n 2 dX8_line_47 rfl rfl ?_
    refine x_invS (as := [.int x1, .int x2]) (rest := []) dX8_line_48 xc_X8_line_173 (M_X8_at hl h) rfl rfl (Nat.le_of_ble_eq_true rfl) (Nat.zero_le _) (Nat.zero_le _) (xk_i fun x_4 t_3 h => ?_)
    refine x_istore (L' := [(5, .int x_4), (0, .ref a0), (1, .int x1), (2, .int x2), (3, .int x3)]) dX8_line_51 (by decide) rfl ?_
    refine x_aload_n 1 dX8_line_53 rfl rfl ?_
    refine x_iconst (v := (0 : Int32)) dX8_line_54 (by decide) ?_
    obtain ⟨fs, hf, hk, h⟩ := h
    refine x_put (v := .int (0 : Int32)) dX8_line_55 xp_X8_218 hf rfl rfl hk ?_
    generalize hT : xup t_3 a0 _ = t_5 at h ⊢
    clear hT
    refine x_aload_n 1 dX8_line_58 rfl rfl ?_
    obtain ⟨fs, hf, a_6, hv, h⟩ := h
    refine x_get dX8_line_59 xf_X8_72 hf hv ?_
    refine x_iload 0 dX8_line_62 rfl ?_
    obtain ⟨n, f, hf, hi, h⟩ := h
    refine x_zald dX8_line_64 hf hi ?_
    generalize f _ = x_7 at h ⊢
    obtain ⟨h1, h2⟩ := h
    refine x_if_eq (tgt := 185) dX8_line_65 (by decide) (fun q => ?_) (fun q => ?_)
    · have h := h1 q
      refine x_iload_n 4 dX8_line_185 rfl rfl ?_
      refine x_aload_n 1 dX8_line_186 rfl rfl ?_
      obtain ⟨fs, hf, x_8, hv, h⟩ := h
      refine x_get dX8_line_187 xf_X8_218 hf hv ?_
      obtain ⟨h1, h2⟩ := h
      refine x_icmp_ge (tgt := 202) dX8_line_190 (by decide) (fun q => ?_) (fun q => ?_)
      · have h := h1 q
        refine x_bipush (v := (32 : Int32)) dX8_line_202 (by decide) ?_
        exact x_zret dX8_line_204 hr ht (by decide) ⟨_, rfl, h⟩
      · have h := h2 q
        refine x_aload_n 1 dX8_line_193 rfl rfl ?_
        obtain ⟨fs, hf, a_9, hv, h⟩ := h
        refine x_get dX8_line_194 xf_X8_108 hf hv ?_
        refine x_iload_n 4 dX8_line_197 rfl rfl ?_
        obtain ⟨n, f, hf, hi, h⟩ := h
        refine x_cald dX8_line_198 hf hi ?_
        generalize f _ = x_10 at h ⊢
        refine x_goto (tgt := 204) dX8_line_199 (by decide) ?_
        obtain ⟨hn, h⟩ := h
        exact x_zret dX8_line_204 hr ht hn ⟨_, rfl, h⟩
    · have h := h2 q
      refine x_aload_n 1 dX8_line_68 rfl rfl ?_
      refine x_bipush (v := (76 : Int32)) dX8_line_69 (by decide) ?_
      obtain ⟨⟨fs, hf⟩, h⟩ := h
      refine x_invV (as := [.int (76 : Int32)]) (rest := []) dX8_line_71 (q := (RX8, TX8, 40)) rfl xc_X8_line_225 hf (M_X8_adds hl h) rfl rfl (Nat.le_of_ble_eq_true rfl) (Nat.zero_le _) (Nat.zero_le _) (xk_v fun t_11 h => ?_)
      refine x_aload_n 1 dX8_line_74 rfl rfl ?_
      refine x_iload_n 2 dX8_line_75 rfl rfl ?_
      obtain ⟨⟨fs, hf⟩, h⟩ := h
      refine x_invV (as := [.int x1]) (rest := []) dX8_line_76 (q := (RX8, TX8, 40)) rfl xc_X8_line_228 hf (M_X8_addsNumber hl h) rfl rfl (Nat.le_of_ble_eq_true rfl) (Nat.zero_le _) (Nat.zero_le _) (xk_v fun t_12 h => ?_)
      refine x_aload_n 1 dX8_line_79 rfl rfl ?_
      refine x_bipush (v := (32 : Int32)) dX8_line_80 (by decide) ?_
      obtain ⟨⟨fs, hf⟩, h⟩ := h
      refine x_invV (as := [.int (32 : Int32)]) (rest := []) dX8_line_82 (q := (RX8, TX8, 40)) rfl xc_X8_line_225 hf (M_X8_adds hl h) rfl rfl (Nat.le_of_ble_eq_true rfl) (Nat.zero_le _) (Nat.zero_le _) (xk_v fun t_13 h => ?_)
      refine x_aload_n 1 dX8_line_85 rfl rfl ?_
      refine x_bipush (v := (77 : Int32)) dX8_line_86 (by decide) ?_
      obtain ⟨⟨fs, hf⟩, h⟩ := h
      refine x_invV (as := [.int (77 : Int32)]) (rest := []) dX8_line_88 (q := (RX8, TX8, 40)) rfl xc_X8_line_225 hf (M_X8_adds hl h) rfl rfl (Nat.le_of_ble_eq_true rfl) (Nat.zero_le _) (Nat.zero_le _) (xk_v fun t_14 h => ?_)
      refine x_aload_n 1 dX8_line_91 rfl rfl ?_
      refine x_iload_n 3 dX8_line_92 rfl rfl ?_
      obtain ⟨⟨fs, hf⟩, h⟩ := h
      refine x_invV (as := [.int x2]) (rest := []) dX8_line_93 (q := (RX8, TX8, 40)) rfl xc_X8_line_228 hf (M_X8_addsNumber hl h) rfl rfl (Nat.le_of_ble_eq_true rfl) (Nat.zero_le _) (Nat.zero_le _) (xk_v fun t_15 h => ?_)
      refine x_aload_n 1 dX8_line_96 rfl rfl ?_
      refine x_bipush (v := (82 : Int32)) dX8_line_97 (by decide) ?_
      refine x_aload_n 1 dX8_line_99 rfl rfl ?_
      obtain ⟨fs, hf, a_16, hv, h⟩ := h
      refine x_get dX8_line_100 xf_X8_75 hf hv ?_
      refine x_iload 0 dX8_line_103 rfl ?_
      obtain ⟨n, f, hf, hi, h⟩ := h
      refine x_iald dX8_line_105 hf hi ?_
      generalize f _ = x_17 at h ⊢
      obtain ⟨⟨fs, hf⟩, h⟩ := h
      refine x_invV (as := [.int (82 : Int32), .int x_17]) (rest := []) dX8_line_106 (q := (RX8, TX8, 40)) rfl xc_X8_line_231 hf (M_X8_addsAmount hl h) rfl rfl (Nat.le_of_ble_eq_true rfl) (Nat.zero_le _) (Nat.zero_le _) (xk_v fun t_18 h => ?_)
      refine x_aload_n 1 dX8_line_109 rfl rfl ?_
      refine x_bipush (v := (88 : Int32)) dX8_line_110 (by decide) ?_
      refine x_aload_n 1 dX8_line_112 rfl rfl ?_
      obtain ⟨fs, hf, a_19, hv, h⟩ := h
      refine x_get dX8_line_113 xf_X8_78 hf hv ?_
      refine x_iload 0 dX8_line_116 rfl ?_
      obtain ⟨n, f, hf, hi, h⟩ := h
      refine x_iald dX8_line_118 hf hi ?_
      generalize f _ = x_20 at h ⊢
      obtain ⟨⟨fs, hf⟩, h⟩ := h
      refine x_invV (as := [.int (88 : Int32), .int x_20]) (rest := []) dX8_line_119 (q := (RX8, TX8, 40)) rfl xc_X8_line_231 hf (M_X8_addsAmount hl h) rfl rfl (Nat.le_of_ble_eq_true rfl) (Nat.zero_le _) (Nat.zero_le _) (xk_v fun t_21 h => ?_)
      refine x_aload_n 1 dX8_line_122 rfl rfl ?_
      refine x_bipush (v := (66 : Int32)) dX8_line_123 (by decide) ?_
      refine x_aload_n 1 dX8_line_125 rfl rfl ?_
      obtain ⟨fs, hf, a_22, hv, h⟩ := h
      refine x_get dX8_line_126 xf_X8_81 hf hv ?_
      refine x_iload 0 dX8_line_129 rfl ?_
      obtain ⟨n, f, hf, hi, h⟩ := h
      refine x_iald dX8_line_131 hf hi ?_
      generalize f _ = x_23 at h ⊢
      obtain ⟨⟨fs, hf⟩, h⟩ := h
      refine x_invV (as := [.int (66 : Int32), .int x_23]) (rest := []) dX8_line_132 (q := (RX8, TX8, 40)) rfl xc_X8_line_231 hf (M_X8_addsAmount hl h) rfl rfl (Nat.le_of_ble_eq_true rfl) (Nat.zero_le _) (Nat.zero_le _) (xk_v fun t_24 h => ?_)
      refine x_aload_n 1 dX8_line_135 rfl rfl ?_
      refine x_bipush (v := (72 : Int32)) dX8_line_136 (by decide) ?_
      refine x_aload_n 1 dX8_line_138 rfl rfl ?_
      obtain ⟨fs, hf, a_25, hv, h⟩ := h
      refine x_get dX8_line_139 xf_X8_84 hf hv ?_
      refine x_iload 0 dX8_line_142 rfl ?_
      obtain ⟨n, f, hf, hi, h⟩ := h
      refine x_iald dX8_line_144 hf hi ?_
      generalize f _ = x_26 at h ⊢
      obtain ⟨⟨fs, hf⟩, h⟩ := h
      refine x_invV (as := [.int (72 : Int32), .int x_26]) (rest := []) dX8_line_145 (q := (RX8, TX8, 40)) rfl xc_X8_line_231 hf (M_X8_addsAmount hl h) rfl rfl (Nat.le_of_ble_eq_true rfl) (Nat.zero_le _) (Nat.zero_le _) (xk_v fun t_27 h => ?_)
      refine x_aload_n 1 dX8_line_148 rfl rfl ?_
      refine x_bipush (v := (84 : Int32)) dX8_line_149 (by decide) ?_
      refine x_aload_n 1 dX8_line_151 rfl rfl ?_
      obtain ⟨fs, hf, a_28, hv, h⟩ := h
      refine x_get dX8_line_152 xf_X8_75 hf hv ?_
      refine x_iload 0 dX8_line_155 rfl ?_
      obtain ⟨n, f, hf, hi, h⟩ := h
      refine x_iald dX8_line_157 hf hi ?_
      generalize f _ = x_29 at h ⊢
      refine x_aload_n 1 dX8_line_158 rfl rfl ?_
      obtain ⟨fs, hf, a_30, hv, h⟩ := h
      refine x_get dX8_line_159 xf_X8_78 hf hv ?_
      refine x_iload 0 dX8_line_162 rfl ?_
      obtain ⟨n, f, hf, hi, h⟩ := h
      refine x_iald dX8_line_164 hf hi ?_
      generalize f _ = x_31 at h ⊢
      refine x_isub dX8_line_165 ?_
      refine x_aload_n 1 dX8_line_166 rfl rfl ?_
      obtain ⟨fs, hf, a_32, hv, h⟩ := h
      refine x_get dX8_line_167 xf_X8_81 hf hv ?_
      refine x_iload 0 dX8_line_170 rfl ?_
      obtain ⟨n, f, hf, hi, h⟩ := h
      refine x_iald dX8_line_172 hf hi ?_
      generalize f _ = x_33 at h ⊢
      refine x_isub dX8_line_173 ?_
      refine x_aload_n 1 dX8_line_174 rfl rfl ?_
      obtain ⟨fs, hf, a_34, hv, h⟩ := h
      refine x_get dX8_line_175 xf_X8_84 hf hv ?_
      refine x_iload 0 dX8_line_178 rfl ?_
      obtain ⟨n, f, hf, hi, h⟩ := h
      refine x_iald dX8_line_180 hf hi ?_
      generalize f _ = x_35 at h ⊢
      refine x_iadd dX8_line_181 ?_
      obtain ⟨⟨fs, hf⟩, h⟩ := h
      refine x_invV (as := [.int (84 : Int32), .int (((x_29 - x_31) - x_33) + x_35)]) (rest := []) dX8_line_182 (q := (RX8, TX8, 40)) rfl xc_X8_line_231 hf (M_X8_addsAmount hl h) rfl rfl (Nat.le_of_ble_eq_true rfl) (Nat.zero_le _) (Nat.zero_le _) (xk_v fun t_36 h => ?_)
      refine x_iload_n 4 dX8_line_185 rfl rfl ?_
      refine x_aload_n 1 dX8_line_186 rfl rfl ?_
      obtain ⟨fs, hf, x_37, hv, h⟩ := h
      refine x_get dX8_line_187 xf_X8_218 hf hv ?_
      obtain ⟨h1, h2⟩ := h
      refine x_icmp_ge (tgt := 202) dX8_line_190 (by decide) (fun q => ?_) (fun q => ?_)
      · have h := h1 q
        refine x_bipush (v := (32 : Int32)) dX8_line_202 (by decide) ?_
        exact x_zret dX8_line_204 hr ht (by decide) ⟨_, rfl, h⟩
      · have h := h2 q
        refine x_aload_n 1 dX8_line_193 rfl rfl ?_
        obtain ⟨fs, hf, a_38, hv, h⟩ := h
        refine x_get dX8_line_194 xf_X8_108 hf hv ?_
        refine x_iload_n 4 dX8_line_197 rfl rfl ?_
        obtain ⟨n, f, hf, hi, h⟩ := h
        refine x_cald dX8_line_198 hf hi ?_
        generalize f _ = x_39 at h ⊢
        refine x_goto (tgt := 204) dX8_line_199 (by decide) ?_
        obtain ⟨hn, h⟩ := h
        exact x_zret dX8_line_204 hr ht hn ⟨_, rfl, h⟩
  · have h := h2 q
    refine x_iconst (v := (0 : Int32)) dX8_line_44 (by decide) ?_
    exact x_zret dX8_line_45 hr ht (by decide) ⟨_, rfl, h⟩
def V_X8_line_0 (K : Int32 → xT → Prop) (a0 : Nat) (x1 : Int32) (x2 : Int32) (x3 : Int32) (t : xT) : Prop :=
  (xis t a0 8 ∧ V_X8_isLease_0 (fun x_2 t_1 => ((x_2 = 0 → (((0 : Int32) = 0 → V_X8_line_38 K a0 x1 x2 x3 (1 : Int32) a0 t_1) ∧ (¬ (0 : Int32) = 0 → V_X8_line_38 K a0 x1 x2 x3 (0 : Int32) a0 t_1))) ∧ (¬ x_2 = 0 → (xis t_1 a0 8 ∧ V_X8_isMonth_0 (fun x_4 t_3 => ((x_4 = 0 → (((0 : Int32) = 0 → V_X8_line_38 K a0 x1 x2 x3 (1 : Int32) a0 t_3) ∧ (¬ (0 : Int32) = 0 → V_X8_line_38 K a0 x1 x2 x3 (0 : Int32) a0 t_3))) ∧ (¬ x_4 = 0 → ((x3 < 0 → (((0 : Int32) = 0 → V_X8_line_38 K a0 x1 x2 x3 (1 : Int32) a0 t_3) ∧ (¬ (0 : Int32) = 0 → V_X8_line_38 K a0 x1 x2 x3 (0 : Int32) a0 t_3))) ∧ (¬ x3 < 0 → (((1 : Int32) = 0 → V_X8_line_38 K a0 x1 x2 x3 (1 : Int32) a0 t_3) ∧ (¬ (1 : Int32) = 0 → V_X8_line_38 K a0 x1 x2 x3 (0 : Int32) a0 t_3))))))) a0 x2 t_1)))) a0 x1 t)
set_option maxRecDepth 20000 in
theorem S_X8_line_0 {Γ : xΓ} {K : Int32 → xT → Prop} (hl : (gl Γ).stackTraces = false) (ht : (gM Γ).sig.returnType = (some .char)) (hr : xRet Γ (xKi K)) {a0 : Nat} {x1 : Int32} {x2 : Int32} {x3 : Int32} {t : xT} {rc rs : Nat} (h : V_X8_line_0 K a0 x1 x2 x3 t) : xX Γ k_X8_line 0 [(0, .ref a0), (1, .int x1), (2, .int x2), (3, .int x3)] [] t rc rs := by
  unfold V_X8_line_0 at h
  refine x_aload_n 0 dX8_line_0 rfl rfl ?_
  refine x_iload_n 1 dX8_line_1 rfl rfl ?_
  obtain ⟨⟨fs, hf⟩, h⟩ := h
  refine x_invV (as := [.int x1]) (rest := []) dX8_line_2 (q := (RX8, TX8, 40)) rfl xc_X8_line_148 hf (M_X8_isLease hl h) rfl rfl (Nat.le_of_ble_eq_true rfl) (Nat.zero_le _) (Nat.zero_le _) (xk_i fun x_2 t_1 h => ?_)
  obtain ⟨h1, h2⟩ := h
  refine x_if_eq (tgt := 24) dX8_line_5 (by decide) (fun q => ?_) (fun q => ?_)
  · have h := h1 q
    refine x_iconst (v := (0 : Int32)) dX8_line_24 (by decide) ?_
    refine x_istore (L' := [(4, .int (0 : Int32)), (0, .ref a0), (1, .int x1), (2, .int x2), (3, .int x3)]) dX8_line_25 (by decide) rfl ?_
    refine x_aload_n 1 dX8_line_27 rfl rfl ?_
    refine x_iload 0 dX8_line_28 rfl ?_
    obtain ⟨h1, h2⟩ := h
    refine x_if_eq (tgt := 37) dX8_line_30 (by decide) (fun q => ?_) (fun q => ?_)
    · have h := h1 q
      refine x_iconst (v := (1 : Int32)) dX8_line_37 (by decide) ?_
      refine x_sub (L' := [(0, .ref a0), (1, .int x1), (2, .int x2), (3, .int x3)]) [1, 2, 3, 4] rfl ?_
      exact S_X8_line_38 hl ht hr  h
    · have h := h2 q
      refine x_iconst (v := (0 : Int32)) dX8_line_33 (by decide) ?_
      refine x_goto (tgt := 38) dX8_line_34 (by decide) ?_
      refine x_sub (L' := [(0, .ref a0), (1, .int x1), (2, .int x2), (3, .int x3)]) [1, 2, 3, 4] rfl ?_
      exact S_X8_line_38 hl ht hr  h
  · have h := h2 q
    refine x_aload_n 0 dX8_line_8 rfl rfl ?_
    refine x_iload_n 2 dX8_line_9 rfl rfl ?_
    obtain ⟨⟨fs, hf⟩, h⟩ := h
    refine x_invV (as := [.int x2]) (rest := []) dX8_line_10 (q := (RX8, TX8, 40)) rfl xc_X8_line_202 hf (M_X8_isMonth hl h) rfl rfl (Nat.le_of_ble_eq_true rfl) (Nat.zero_le _) (Nat.zero_le _) (xk_i fun x_4 t_3 h => ?_)
    obtain ⟨h1, h2⟩ := h
    refine x_if_eq (tgt := 24) dX8_line_13 (by decide) (fun q => ?_) (fun q => ?_)
    · have h := h1 q
      refine x_iconst (v := (0 : Int32)) dX8_line_24 (by decide) ?_
      refine x_istore (L' := [(4, .int (0 : Int32)), (0, .ref a0), (1, .int x1), (2, .int x2), (3, .int x3)]) dX8_line_25 (by decide) rfl ?_
      refine x_aload_n 1 dX8_line_27 rfl rfl ?_
      refine x_iload 0 dX8_line_28 rfl ?_
      obtain ⟨h1, h2⟩ := h
      refine x_if_eq (tgt := 37) dX8_line_30 (by decide) (fun q => ?_) (fun q => ?_)
      · have h := h1 q
        refine x_iconst (v := (1 : Int32)) dX8_line_37 (by decide) ?_
        refine x_sub (L' := [(0, .ref a0), (1, .int x1), (2, .int x2), (3, .int x3)]) [1, 2, 3, 4] rfl ?_
        exact S_X8_line_38 hl ht hr  h
      · have h := h2 q
        refine x_iconst (v := (0 : Int32)) dX8_line_33 (by decide) ?_
        refine x_goto (tgt := 38) dX8_line_34 (by decide) ?_
        refine x_sub (L' := [(0, .ref a0), (1, .int x1), (2, .int x2), (3, .int x3)]) [1, 2, 3, 4] rfl ?_
        exact S_X8_line_38 hl ht hr  h
    · have h := h2 q
      refine x_iload_n 3 dX8_line_16 rfl rfl ?_
      obtain ⟨h1, h2⟩ := h
      refine x_if_lt (tgt := 24) dX8_line_17 (by decide) (fun q => ?_) (fun q => ?_)
      · have h := h1 q
        refine x_iconst (v := (0 : Int32)) dX8_line_24 (by decide) ?_
        refine x_istore (L' := [(4, .int (0 : Int32)), (0, .ref a0), (1, .int x1), (2, .int x2), (3, .int x3)]) dX8_line_25 (by decide) rfl ?_
        refine x_aload_n 1 dX8_line_27 rfl rfl ?_
        refine x_iload 0 dX8_line_28 rfl ?_
        obtain ⟨h1, h2⟩ := h
        refine x_if_eq (tgt := 37) dX8_line_30 (by decide) (fun q => ?_) (fun q => ?_)
        · have h := h1 q
          refine x_iconst (v := (1 : Int32)) dX8_line_37 (by decide) ?_
          refine x_sub (L' := [(0, .ref a0), (1, .int x1), (2, .int x2), (3, .int x3)]) [1, 2, 3, 4] rfl ?_
          exact S_X8_line_38 hl ht hr  h
        · have h := h2 q
          refine x_iconst (v := (0 : Int32)) dX8_line_33 (by decide) ?_
          refine x_goto (tgt := 38) dX8_line_34 (by decide) ?_
          refine x_sub (L' := [(0, .ref a0), (1, .int x1), (2, .int x2), (3, .int x3)]) [1, 2, 3, 4] rfl ?_
          exact S_X8_line_38 hl ht hr  h
      · have h := h2 q
        refine x_iconst (v := (1 : Int32)) dX8_line_20 (by decide) ?_
        refine x_goto (tgt := 25) dX8_line_21 (by decide) ?_
        refine x_istore (L' := [(4, .int (1 : Int32)), (0, .ref a0), (1, .int x1), (2, .int x2), (3, .int x3)]) dX8_line_25 (by decide) rfl ?_
        refine x_aload_n 1 dX8_line_27 rfl rfl ?_
        refine x_iload 0 dX8_line_28 rfl ?_
        obtain ⟨h1, h2⟩ := h
        refine x_if_eq (tgt := 37) dX8_line_30 (by decide) (fun q => ?_) (fun q => ?_)
        · have h := h1 q
          refine x_iconst (v := (1 : Int32)) dX8_line_37 (by decide) ?_
          refine x_sub (L' := [(0, .ref a0), (1, .int x1), (2, .int x2), (3, .int x3)]) [1, 2, 3, 4] rfl ?_
          exact S_X8_line_38 hl ht hr  h
        · have h := h2 q
          refine x_iconst (v := (0 : Int32)) dX8_line_33 (by decide) ?_
          refine x_goto (tgt := 38) dX8_line_34 (by decide) ?_
          refine x_sub (L' := [(0, .ref a0), (1, .int x1), (2, .int x2), (3, .int x3)]) [1, 2, 3, 4] rfl ?_
          exact S_X8_line_38 hl ht hr  h
theorem M_X8_line {l : Launch} {G : xG} (hl : l.stackTraces = false) {a0 : Nat} {x1 : Int32} {x2 : Int32} {x3 : Int32} {t : xT} {K : Int32 → xT → Prop} (h : V_X8_line_0 K a0 x1 x2 x3 t) : xMet l G yX8_line k_X8_line (some .char) [.ref a0, .int x1, .int x2, .int x3] t (xKi K) 0 0 := xMet.of (by decide +kernel) rfl hl (Nat.le_of_ble_eq_true rfl) (fun Γ e1 e2 ht hn hr => by subst e1; subst e2; exact S_X8_line_0 hl ht hr h)
/-! RentStreamModel.mend(I)I -/
def V_X8_mend_0 (K : Int32 → xT → Prop) (a0 : Nat) (x1 : Int32) (t : xT) : Prop :=
  xgI t a0 8 12 fun x_1 => (V_X8_in_0 (fun x_3 t_2 => ((¬ x_3 = 0 → xgR t_2 a0 8 17 fun a_4 => xaI 2 t_2 a_4 x1 fun x_5 => ((x_5 = 0 → (xis t_2 a0 8 ∧ V_X8_holds_0 (fun x_7 t_6 => ((¬ x_7 = 0 → xgR t_6 a0 8 17 fun a_8 => xsI 2 t_6 a_8 x1 (vp_nar .boolean (1 : Int32)) fun t_9 => xgR t_9 a0 8 16 fun a_10 => xaI 0 t_9 a_10 x1 fun x_11 => K x_11 t_9) ∧ (x_7 = 0 → K (0 : Int32) t_6))) a0 (0 : Int32) t_2)) ∧ (¬ x_5 = 0 → (xis t_2 a0 8 ∧ V_X8_holds_0 (fun x_13 t_12 => ((¬ x_13 = 0 → xgR t_12 a0 8 17 fun a_14 => xsI 2 t_12 a_14 x1 (vp_nar .boolean (1 : Int32)) fun t_15 => xgR t_15 a0 8 16 fun a_16 => xaI 0 t_15 a_16 x1 fun x_17 => K x_17 t_15) ∧ (x_13 = 0 → K (0 : Int32) t_12))) a0 (2 : Int32) t_2)))) ∧ (x_3 = 0 → (xis t_2 a0 8 ∧ V_X8_holds_0 (fun x_19 t_18 => ((¬ x_19 = 0 → xgR t_18 a0 8 17 fun a_20 => xsI 2 t_18 a_20 x1 (vp_nar .boolean (1 : Int32)) fun t_21 => xgR t_21 a0 8 16 fun a_22 => xaI 0 t_21 a_22 x1 fun x_23 => K x_23 t_21) ∧ (x_19 = 0 → K (0 : Int32) t_18))) a0 (1 : Int32) t_2)))) x1 (0 : Int32) (x_1 - (1 : Int32)) t)
set_option maxRecDepth 20000 in
theorem S_X8_mend_0 {Γ : xΓ} {K : Int32 → xT → Prop} (hl : (gl Γ).stackTraces = false) (ht : (gM Γ).sig.returnType = (some .int)) (hr : xRet Γ (xKi K)) {a0 : Nat} {x1 : Int32} {t : xT} {rc rs : Nat} (h : V_X8_mend_0 K a0 x1 t) : xX Γ k_X8_mend 0 [(0, .ref a0), (1, .int x1)] [] t rc rs := by
  unfold V_X8_mend_0 at h
  refine x_iload_n 1 dX8_mend_0 rfl rfl ?_
  refine x_iconst (v := (0 : Int32)) dX8_mend_1 (by decide) ?_
  refine x_aload_n 0 dX8_mend_2 rfl rfl ?_
  obtain ⟨fs, hf, x_1, hv, h⟩ := h
  refine x_get dX8_mend_3 xf_X8_156 hf hv ?_
  refine x_iconst (v := (1 : Int32)) dX8_mend_6 (by decide) ?_
  refine x_isub dX8_mend_7 ?_
  refine x_invS (as := [.int x1, .int (0 : Int32), .int (x_1 - (1 : Int32))]) (rest := []) dX8_mend_8 xc_X8_mend_119 (M_X8_in hl h) rfl rfl (Nat.le_of_ble_eq_true rfl) (Nat.zero_le _) (Nat.zero_le _) (xk_i fun x_3 t_2 h => ?_)
  refine x_istore_n (L' := [(2, .int x_3), (0, .ref a0), (1, .int x1)]) dX8_mend_11 rfl (by decide) rfl ?_
  refine x_aload_n 1 dX8_mend_12 rfl rfl ?_
  refine x_iload_n 0 dX8_mend_13 rfl rfl ?_
  obtain ⟨h1, h2⟩ := h
  refine x_if_ne (tgt := 21) dX8_mend_14 (by decide) (fun q => ?_) (fun q => ?_)
  · have h := h1 q
    refine x_aload_n 1 dX8_mend_21 rfl rfl ?_
    obtain ⟨fs, hf, a_4, hv, h⟩ := h
    refine x_get dX8_mend_22 xf_X8_46 hf hv ?_
    refine x_iload_n 2 dX8_mend_25 rfl rfl ?_
    obtain ⟨n, f, hf, hi, h⟩ := h
    refine x_zald dX8_mend_26 hf hi ?_
    generalize f _ = x_5 at h ⊢
    obtain ⟨h1, h2⟩ := h
    refine x_if_eq (tgt := 34) dX8_mend_27 (by decide) (fun q => ?_) (fun q => ?_)
    · have h := h1 q
      refine x_iconst (v := (0 : Int32)) dX8_mend_34 (by decide) ?_
      obtain ⟨⟨fs, hf⟩, h⟩ := h
      refine x_invV (as := [.int (0 : Int32)]) (rest := []) dX8_mend_35 (q := (RX8, TX8, 40)) rfl xc_X8_mend_133 hf (M_X8_holds hl h) rfl rfl (Nat.le_of_ble_eq_true rfl) (Nat.zero_le _) (Nat.zero_le _) (xk_i fun x_7 t_6 h => ?_)
      obtain ⟨h1, h2⟩ := h
      refine x_if_ne (tgt := 43) dX8_mend_38 (by decide) (fun q => ?_) (fun q => ?_)
      · have h := h1 q
        refine x_aload_n 1 dX8_mend_43 rfl rfl ?_
        obtain ⟨fs, hf, a_8, hv, h⟩ := h
        refine x_get dX8_mend_44 xf_X8_46 hf hv ?_
        refine x_iload_n 2 dX8_mend_47 rfl rfl ?_
        refine x_iconst (v := (1 : Int32)) dX8_mend_48 (by decide) ?_
        obtain ⟨n, f, hf, hi, h⟩ := h
        refine x_zast dX8_mend_49 hf hi ?_
        generalize hT : xup t_6 a_8 _ = t_9 at h ⊢
        clear hT
        refine x_aload_n 1 dX8_mend_50 rfl rfl ?_
        obtain ⟨fs, hf, a_10, hv, h⟩ := h
        refine x_get dX8_mend_51 xf_X8_43 hf hv ?_
        refine x_iload_n 2 dX8_mend_54 rfl rfl ?_
        obtain ⟨n, f, hf, hi, h⟩ := h
        refine x_iald dX8_mend_55 hf hi ?_
        generalize f _ = x_11 at h ⊢
        exact x_zret dX8_mend_56 hr ht rfl ⟨_, rfl, h⟩
      · have h := h2 q
        refine x_iconst (v := (0 : Int32)) dX8_mend_41 (by decide) ?_
        exact x_zret dX8_mend_42 hr ht rfl ⟨_, rfl, h⟩
    · have h := h2 q
      refine x_iconst (v := (2 : Int32)) dX8_mend_30 (by decide) ?_
      refine x_goto (tgt := 35) dX8_mend_31 (by decide) ?_
      obtain ⟨⟨fs, hf⟩, h⟩ := h
      refine x_invV (as := [.int (2 : Int32)]) (rest := []) dX8_mend_35 (q := (RX8, TX8, 40)) rfl xc_X8_mend_133 hf (M_X8_holds hl h) rfl rfl (Nat.le_of_ble_eq_true rfl) (Nat.zero_le _) (Nat.zero_le _) (xk_i fun x_13 t_12 h => ?_)
      obtain ⟨h1, h2⟩ := h
      refine x_if_ne (tgt := 43) dX8_mend_38 (by decide) (fun q => ?_) (fun q => ?_)
      · have h := h1 q
        refine x_aload_n 1 dX8_mend_43 rfl rfl ?_
        obtain ⟨fs, hf, a_14, hv, h⟩ := h
        refine x_get dX8_mend_44 xf_X8_46 hf hv ?_
        refine x_iload_n 2 dX8_mend_47 rfl rfl ?_
        refine x_iconst (v := (1 : Int32)) dX8_mend_48 (by decide) ?_
        obtain ⟨n, f, hf, hi, h⟩ := h
        refine x_zast dX8_mend_49 hf hi ?_
        generalize hT : xup t_12 a_14 _ = t_15 at h ⊢
        clear hT
        refine x_aload_n 1 dX8_mend_50 rfl rfl ?_
        obtain ⟨fs, hf, a_16, hv, h⟩ := h
        refine x_get dX8_mend_51 xf_X8_43 hf hv ?_
        refine x_iload_n 2 dX8_mend_54 rfl rfl ?_
        obtain ⟨n, f, hf, hi, h⟩ := h
        refine x_iald dX8_mend_55 hf hi ?_
        generalize f _ = x_17 at h ⊢
        exact x_zret dX8_mend_56 hr ht rfl ⟨_, rfl, h⟩
      · have h := h2 q
        refine x_iconst (v := (0 : Int32)) dX8_mend_41 (by decide) ?_
        exact x_zret dX8_mend_42 hr ht rfl ⟨_, rfl, h⟩
  · have h := h2 q
    refine x_iconst (v := (1 : Int32)) dX8_mend_17 (by decide) ?_
    refine x_goto (tgt := 35) dX8_mend_18 (by decide) ?_
    obtain ⟨⟨fs, hf⟩, h⟩ := h
    refine x_invV (as := [.int (1 : Int32)]) (rest := []) dX8_mend_35 (q := (RX8, TX8, 40)) rfl xc_X8_mend_133 hf (M_X8_holds hl h) rfl rfl (Nat.le_of_ble_eq_true rfl) (Nat.zero_le _) (Nat.zero_le _) (xk_i fun x_19 t_18 h => ?_)
    obtain ⟨h1, h2⟩ := h
    refine x_if_ne (tgt := 43) dX8_mend_38 (by decide) (fun q => ?_) (fun q => ?_)
    · have h := h1 q
      refine x_aload_n 1 dX8_mend_43 rfl rfl ?_
      obtain ⟨fs, hf, a_20, hv, h⟩ := h
      refine x_get dX8_mend_44 xf_X8_46 hf hv ?_
      refine x_iload_n 2 dX8_mend_47 rfl rfl ?_
      refine x_iconst (v := (1 : Int32)) dX8_mend_48 (by decide) ?_
      obtain ⟨n, f, hf, hi, h⟩ := h
      refine x_zast dX8_mend_49 hf hi ?_
      generalize hT : xup t_18 a_20 _ = t_21 at h ⊢
      clear hT
      refine x_aload_n 1 dX8_mend_50 rfl rfl ?_
      obtain ⟨fs, hf, a_22, hv, h⟩ := h
      refine x_get dX8_mend_51 xf_X8_43 hf hv ?_
      refine x_iload_n 2 dX8_mend_54 rfl rfl ?_
      obtain ⟨n, f, hf, hi, h⟩ := h
      refine x_iald dX8_mend_55 hf hi ?_
      generalize f _ = x_23 at h ⊢
      exact x_zret dX8_mend_56 hr ht rfl ⟨_, rfl, h⟩
    · have h := h2 q
      refine x_iconst (v := (0 : Int32)) dX8_mend_41 (by decide) ?_
      exact x_zret dX8_mend_42 hr ht rfl ⟨_, rfl, h⟩
theorem M_X8_mend {l : Launch} {G : xG} (hl : l.stackTraces = false) {a0 : Nat} {x1 : Int32} {t : xT} {K : Int32 → xT → Prop} (h : V_X8_mend_0 K a0 x1 t) : xMet l G yX8_mend k_X8_mend (some .int) [.ref a0, .int x1] t (xKi K) 0 0 := xMet.of (by decide +kernel) rfl hl (Nat.le_of_ble_eq_true rfl) (fun Γ e1 e2 ht hn hr => by subst e1; subst e2; exact S_X8_mend_0 hl ht hr h)
/-! RentStreamModel.owes(I)J -/
def V_X8_owes_0 (K : Int64 → xT → Prop) (a0 : Nat) (x1 : Int32) (t : xT) : Prop :=
  (xis t a0 8 ∧ V_X8_isLease_0 (fun x_2 t_1 => ((x_2 = 0 → (xis t_1 a0 8 ∧ V_X8_holds_0 (fun x_4 t_3 => ((x_4 = 0 → K (0 : Int64) t_3) ∧ (¬ x_4 = 0 → xgR t_3 a0 8 23 fun a_5 => xaJ t_3 a_5 x1 fun y_6 => K y_6 t_3))) a0 (1 : Int32) t_1)) ∧ (¬ x_2 = 0 → (xis t_1 a0 8 ∧ V_X8_holds_0 (fun x_8 t_7 => ((x_8 = 0 → K (0 : Int64) t_7) ∧ (¬ x_8 = 0 → xgR t_7 a0 8 23 fun a_9 => xaJ t_7 a_9 x1 fun y_10 => K y_10 t_7))) a0 (0 : Int32) t_1)))) a0 x1 t)
set_option maxRecDepth 20000 in
theorem S_X8_owes_0 {Γ : xΓ} {K : Int64 → xT → Prop} (hl : (gl Γ).stackTraces = false) (ht : (gM Γ).sig.returnType = (some .long)) (hr : xRet Γ (xKl K)) {a0 : Nat} {x1 : Int32} {t : xT} {rc rs : Nat} (h : V_X8_owes_0 K a0 x1 t) : xX Γ k_X8_owes 0 [(0, .ref a0), (1, .int x1)] [] t rc rs := by
  unfold V_X8_owes_0 at h
  refine x_aload_n 0 dX8_owes_0 rfl rfl ?_
  refine x_aload_n 0 dX8_owes_1 rfl rfl ?_
  refine x_iload_n 1 dX8_owes_2 rfl rfl ?_
  obtain ⟨⟨fs, hf⟩, h⟩ := h
  refine x_invV (as := [.int x1]) (rest := [.ref a0]) dX8_owes_3 (q := (RX8, TX8, 40)) rfl xc_X8_owes_148 hf (M_X8_isLease hl h) rfl rfl (Nat.le_of_ble_eq_true rfl) (Nat.zero_le _) (Nat.zero_le _) (xk_i fun x_2 t_1 h => ?_)
  obtain ⟨h1, h2⟩ := h
  refine x_if_eq (tgt := 13) dX8_owes_6 (by decide) (fun q => ?_) (fun q => ?_)
  · have h := h1 q
    refine x_iconst (v := (1 : Int32)) dX8_owes_13 (by decide) ?_
    obtain ⟨⟨fs, hf⟩, h⟩ := h
    refine x_invV (as := [.int (1 : Int32)]) (rest := []) dX8_owes_14 (q := (RX8, TX8, 40)) rfl xc_X8_owes_133 hf (M_X8_holds hl h) rfl rfl (Nat.le_of_ble_eq_true rfl) (Nat.zero_le _) (Nat.zero_le _) (xk_i fun x_4 t_3 h => ?_)
    obtain ⟨h1, h2⟩ := h
    refine x_if_eq (tgt := 29) dX8_owes_17 (by decide) (fun q => ?_) (fun q => ?_)
    · have h := h1 q
      refine x_lconst (v := (0 : Int64)) dX8_owes_29 (by decide) ?_
      exact x_lret dX8_owes_30 hr ht ⟨_, rfl, h⟩
    · have h := h2 q
      refine x_aload_n 0 dX8_owes_20 rfl rfl ?_
      obtain ⟨fs, hf, a_5, hv, h⟩ := h
      refine x_get dX8_owes_21 xf_X8_62 hf hv ?_
      refine x_iload_n 1 dX8_owes_24 rfl rfl ?_
      obtain ⟨n, f, hf, hi, h⟩ := h
      refine x_lald dX8_owes_25 hf hi ?_
      generalize f _ = y_6 at h ⊢
      refine x_goto (tgt := 30) dX8_owes_26 (by decide) ?_
      exact x_lret dX8_owes_30 hr ht ⟨_, rfl, h⟩
  · have h := h2 q
    refine x_iconst (v := (0 : Int32)) dX8_owes_9 (by decide) ?_
    refine x_goto (tgt := 14) dX8_owes_10 (by decide) ?_
    obtain ⟨⟨fs, hf⟩, h⟩ := h
    refine x_invV (as := [.int (0 : Int32)]) (rest := []) dX8_owes_14 (q := (RX8, TX8, 40)) rfl xc_X8_owes_133 hf (M_X8_holds hl h) rfl rfl (Nat.le_of_ble_eq_true rfl) (Nat.zero_le _) (Nat.zero_le _) (xk_i fun x_8 t_7 h => ?_)
    obtain ⟨h1, h2⟩ := h
    refine x_if_eq (tgt := 29) dX8_owes_17 (by decide) (fun q => ?_) (fun q => ?_)
    · have h := h1 q
      refine x_lconst (v := (0 : Int64)) dX8_owes_29 (by decide) ?_
      exact x_lret dX8_owes_30 hr ht ⟨_, rfl, h⟩
    · have h := h2 q
      refine x_aload_n 0 dX8_owes_20 rfl rfl ?_
      obtain ⟨fs, hf, a_9, hv, h⟩ := h
      refine x_get dX8_owes_21 xf_X8_62 hf hv ?_
      refine x_iload_n 1 dX8_owes_24 rfl rfl ?_
      obtain ⟨n, f, hf, hi, h⟩ := h
      refine x_lald dX8_owes_25 hf hi ?_
      generalize f _ = y_10 at h ⊢
      refine x_goto (tgt := 30) dX8_owes_26 (by decide) ?_
      exact x_lret dX8_owes_30 hr ht ⟨_, rfl, h⟩
theorem M_X8_owes {l : Launch} {G : xG} (hl : l.stackTraces = false) {a0 : Nat} {x1 : Int32} {t : xT} {K : Int64 → xT → Prop} (h : V_X8_owes_0 K a0 x1 t) : xMet l G yX8_owes k_X8_owes (some .long) [.ref a0, .int x1] t (xKl K) 0 0 := xMet.of (by decide +kernel) rfl hl (Nat.le_of_ble_eq_true rfl) (fun Γ e1 e2 ht hn hr => by subst e1; subst e2; exact S_X8_owes_0 hl ht hr h)
/-! RentStreamModel.owesAnew(I)J -/
def V_X8_owesAnew_0 (K : Int64 → xT → Prop) (a0 : Nat) (x1 : Int32) (t : xT) : Prop :=
  (xis t a0 8 ∧ V_X8_owes_0 (fun y_2 t_1 => K y_2 t_1) a0 x1 t)
set_option maxRecDepth 20000 in
theorem S_X8_owesAnew_0 {Γ : xΓ} {K : Int64 → xT → Prop} (hl : (gl Γ).stackTraces = false) (ht : (gM Γ).sig.returnType = (some .long)) (hr : xRet Γ (xKl K)) {a0 : Nat} {x1 : Int32} {t : xT} {rc rs : Nat} (h : V_X8_owesAnew_0 K a0 x1 t) : xX Γ k_X8_owesAnew 0 [(0, .ref a0), (1, .int x1)] [] t rc rs := by
  unfold V_X8_owesAnew_0 at h
  refine x_aload_n 0 dX8_owesAnew_0 rfl rfl ?_
  refine x_iload_n 1 dX8_owesAnew_1 rfl rfl ?_
  obtain ⟨⟨fs, hf⟩, h⟩ := h
  refine x_invV (as := [.int x1]) (rest := []) dX8_owesAnew_2 (q := (RX8, TX8, 40)) rfl xc_X8_owesAnew_214 hf (M_X8_owes hl h) rfl rfl (Nat.le_of_ble_eq_true rfl) (Nat.zero_le _) (Nat.zero_le _) (xk_l fun y_2 t_1 h => ?_)
  exact x_lret dX8_owesAnew_5 hr ht ⟨_, rfl, h⟩
theorem M_X8_owesAnew {l : Launch} {G : xG} (hl : l.stackTraces = false) {a0 : Nat} {x1 : Int32} {t : xT} {K : Int64 → xT → Prop} (h : V_X8_owesAnew_0 K a0 x1 t) : xMet l G yX8_owesAnew k_X8_owesAnew (some .long) [.ref a0, .int x1] t (xKl K) 0 0 := xMet.of (by decide +kernel) rfl hl (Nat.le_of_ble_eq_true rfl) (fun Γ e1 e2 ht hn hr => by subst e1; subst e2; exact S_X8_owesAnew_0 hl ht hr h)
/-! RentStreamModel.owner()J -/
def VS_X8_owner_9 (R9 : Nat → Int64 → Int32 → xT → Prop) (K : Int64 → xT → Prop) (a0 : Nat) (y1 : Int64) (x3 : Int32) (t : xT) : Prop :=
  xgI t a0 8 18 fun x_1 => ((x_1 ≤ x3 → K y1 t) ∧ (¬ x_1 ≤ x3 → xgR t a0 8 23 fun a_2 => xaJ t a_2 x3 fun y_3 => xgR t a0 8 24 fun a_4 => xaJ t a_4 x3 fun y_5 => R9 a0 (y1 - (y_3 + y_5)) (x3 + 1) t))
def V_X8_owner_9 (K : Int64 → xT → Prop) (n : Nat) : Nat → Int64 → Int32 → xT → Prop := Nat.rec (fun _ _ _ _ => False) (fun _ ih => VS_X8_owner_9 ih K) n
set_option maxRecDepth 20000 in
theorem S_X8_owner_9 {Γ : xΓ} {K : Int64 → xT → Prop} (hl : (gl Γ).stackTraces = false) (ht : (gM Γ).sig.returnType = (some .long)) (hr : xRet Γ (xKl K)) : ∀ (n : Nat) (a0 : Nat) (y1 : Int64) (x3 : Int32) (t : xT) (rc rs : Nat), V_X8_owner_9 K n a0 y1 x3 t → xX Γ k_X8_owner 9 [(0, .ref a0), (1, .long y1), (3, .int x3)] [] t rc rs := by
  intro n
  induction n with
  | zero =>
    intro a0 y1 x3 t rc rs h
    exact h.elim
  | succ n ih =>
    intro a0 y1 x3 t rc rs h
    replace h : VS_X8_owner_9 (V_X8_owner_9 K n) K a0 y1 x3 t := h
    unfold VS_X8_owner_9 at h
    refine x_iload_n 2 dX8_owner_9 rfl rfl ?_
    refine x_aload_n 0 dX8_owner_10 rfl rfl ?_
    obtain ⟨fs, hf, x_1, hv, h⟩ := h
    refine x_get dX8_owner_11 xf_X8_123 hf hv ?_
    obtain ⟨h1, h2⟩ := h
    refine x_icmp_ge (tgt := 39) dX8_owner_14 (by decide) (fun q => ?_) (fun q => ?_)
    · have h := h1 q
      refine x_lload_n 1 dX8_owner_39 rfl rfl ?_
      exact x_lret dX8_owner_40 hr ht ⟨_, rfl, h⟩
    · have h := h2 q
      refine x_lload_n 1 dX8_owner_17 rfl rfl ?_
      refine x_aload_n 0 dX8_owner_18 rfl rfl ?_
      obtain ⟨fs, hf, a_2, hv, h⟩ := h
      refine x_get dX8_owner_19 xf_X8_62 hf hv ?_
      refine x_iload_n 2 dX8_owner_22 rfl rfl ?_
      obtain ⟨n, f, hf, hi, h⟩ := h
      refine x_lald dX8_owner_23 hf hi ?_
      generalize f _ = y_3 at h ⊢
      refine x_aload_n 0 dX8_owner_24 rfl rfl ?_
      obtain ⟨fs, hf, a_4, hv, h⟩ := h
      refine x_get dX8_owner_25 xf_X8_66 hf hv ?_
      refine x_iload_n 2 dX8_owner_28 rfl rfl ?_
      obtain ⟨n, f, hf, hi, h⟩ := h
      refine x_lald dX8_owner_29 hf hi ?_
      generalize f _ = y_5 at h ⊢
      refine x_ladd dX8_owner_30 ?_
      refine x_lsub dX8_owner_31 ?_
      refine x_lstore_n (L' := [(1, .long (y1 - (y_3 + y_5))), (0, .ref a0), (3, .int x3)]) dX8_owner_32 rfl (by decide) rfl ?_
      refine x_iinc (v := (x3 + 1)) (L' := [(3, .int (x3 + 1)), (1, .long (y1 - (y_3 + y_5))), (0, .ref a0)]) (j := 2) dX8_owner_33 rfl rfl (by decide) rfl ?_
      refine x_goto (tgt := 9) dX8_owner_36 (by decide) ?_
      refine x_sub (L' := [(0, .ref a0), (1, .long (y1 - (y_3 + y_5))), (3, .int (x3 + 1))]) [2, 1, 0] rfl ?_
      exact ih a0 (y1 - (y_3 + y_5)) (x3 + 1) t _ _ h
def V_X8_owner_0 (K : Int64 → xT → Prop) (a0 : Nat) (t : xT) : Prop :=
  (xpF t a0 8 0 (.int (0 : Int32)) fun t_1 => ∃ f_2 : Nat, V_X8_owner_9 K f_2 a0 (0 : Int64) (0 : Int32) t_1)
set_option maxRecDepth 20000 in
theorem S_X8_owner_0 {Γ : xΓ} {K : Int64 → xT → Prop} (hl : (gl Γ).stackTraces = false) (ht : (gM Γ).sig.returnType = (some .long)) (hr : xRet Γ (xKl K)) {a0 : Nat} {t : xT} {rc rs : Nat} (h : V_X8_owner_0 K a0 t) : xX Γ k_X8_owner 0 [(0, .ref a0)] [] t rc rs := by
  unfold V_X8_owner_0 at h
  refine x_aload_n 0 dX8_owner_0 rfl rfl ?_
  refine x_iconst (v := (0 : Int32)) dX8_owner_1 (by decide) ?_
  obtain ⟨fs, hf, hk, h⟩ := h
  refine x_put (v := .int (0 : Int32)) dX8_owner_2 xp_X8_112 hf rfl rfl hk ?_
  generalize hT : xup t a0 _ = t_1 at h ⊢
  clear hT
  refine x_lconst (v := (0 : Int64)) dX8_owner_5 (by decide) ?_
  refine x_lstore_n (L' := [(1, .long (0 : Int64)), (0, .ref a0)]) dX8_owner_6 rfl (by decide) rfl ?_
  refine x_iconst (v := (0 : Int32)) dX8_owner_7 (by decide) ?_
  refine x_istore_n (L' := [(3, .int (0 : Int32)), (1, .long (0 : Int64)), (0, .ref a0)]) dX8_owner_8 rfl (by decide) rfl ?_
  obtain ⟨f_2, h⟩ := h
  refine x_sub (L' := [(0, .ref a0), (1, .long (0 : Int64)), (3, .int (0 : Int32))]) [2, 1, 0] rfl ?_
  exact S_X8_owner_9 hl ht hr  f_2 a0 (0 : Int64) (0 : Int32) t_1 _ _ h
theorem M_X8_owner {l : Launch} {G : xG} (hl : l.stackTraces = false) {a0 : Nat} {t : xT} {K : Int64 → xT → Prop} (h : V_X8_owner_0 K a0 t) : xMet l G yX8_owner k_X8_owner (some .long) [.ref a0] t (xKl K) 0 0 := xMet.of (by decide +kernel) rfl hl (Nat.le_of_ble_eq_true rfl) (fun Γ e1 e2 ht hn hr => by subst e1; subst e2; exact S_X8_owner_0 hl ht hr h)
/-! RentStreamModel.rentIn(II)I -/
def V_X8_rentIn_0 (K : Int32 → xT → Prop) (a0 : Nat) (x1 : Int32) (x2 : Int32) (t : xT) : Prop :=
  xgR t a0 8 20 fun a_1 => xaI 0 t a_1 x1 fun x_2 => xgR t a0 8 10 fun a_3 => xaI 0 t a_3 x2 fun x_4 => (¬ (100 : Int32) = 0 ∧ K ((x_2 * x_4) / (100 : Int32)) t)
set_option maxRecDepth 20000 in
theorem S_X8_rentIn_0 {Γ : xΓ} {K : Int32 → xT → Prop} (hl : (gl Γ).stackTraces = false) (ht : (gM Γ).sig.returnType = (some .int)) (hr : xRet Γ (xKi K)) {a0 : Nat} {x1 : Int32} {x2 : Int32} {t : xT} {rc rs : Nat} (h : V_X8_rentIn_0 K a0 x1 x2 t) : xX Γ k_X8_rentIn 0 [(0, .ref a0), (1, .int x1), (2, .int x2)] [] t rc rs := by
  unfold V_X8_rentIn_0 at h
  refine x_aload_n 0 dX8_rentIn_0 rfl rfl ?_
  obtain ⟨fs, hf, a_1, hv, h⟩ := h
  refine x_get dX8_rentIn_1 xf_X8_53 hf hv ?_
  refine x_iload_n 1 dX8_rentIn_4 rfl rfl ?_
  obtain ⟨n, f, hf, hi, h⟩ := h
  refine x_iald dX8_rentIn_5 hf hi ?_
  generalize f _ = x_2 at h ⊢
  refine x_aload_n 0 dX8_rentIn_6 rfl rfl ?_
  obtain ⟨fs, hf, a_3, hv, h⟩ := h
  refine x_get dX8_rentIn_7 xf_X8_31 hf hv ?_
  refine x_iload_n 2 dX8_rentIn_10 rfl rfl ?_
  obtain ⟨n, f, hf, hi, h⟩ := h
  refine x_iald dX8_rentIn_11 hf hi ?_
  generalize f _ = x_4 at h ⊢
  refine x_imul dX8_rentIn_12 ?_
  refine x_bipush (v := (100 : Int32)) dX8_rentIn_13 (by decide) ?_
  obtain ⟨q, h⟩ := h
  refine x_idiv dX8_rentIn_15 q ?_
  exact x_zret dX8_rentIn_16 hr ht rfl ⟨_, rfl, h⟩
theorem M_X8_rentIn {l : Launch} {G : xG} (hl : l.stackTraces = false) {a0 : Nat} {x1 : Int32} {x2 : Int32} {t : xT} {K : Int32 → xT → Prop} (h : V_X8_rentIn_0 K a0 x1 x2 t) : xMet l G yX8_rentIn k_X8_rentIn (some .int) [.ref a0, .int x1, .int x2] t (xKi K) 0 0 := xMet.of (by decide +kernel) rfl hl (Nat.le_of_ble_eq_true rfl) (fun Γ e1 e2 ht hn hr => by subst e1; subst e2; exact S_X8_rentIn_0 hl ht hr h)
