/-! RentStream$Repair.<init>(LRentStream$Flat;II)V -/
def V_X6_init_0 (K : xT → Prop) (a0 : Nat) (a1 : Nat) (x2 : Int32) (x3 : Int32) (t : xT) : Prop :=
  (xpF t a0 6 0 (.int (0 : Int32)) fun t_1 => (xpF t_1 a0 6 1 (.int (0 : Int32)) fun t_2 => (xpF t_2 a0 6 2 (.ref a1) fun t_3 => (xpF t_3 a0 6 3 (.int x2) fun t_4 => (xpF t_4 a0 6 4 (.int x3) fun t_5 => K t_5)))))
set_option maxRecDepth 20000 in
theorem S_X6_init_0 {Γ : xΓ} {K : xT → Prop} (hl : (gl Γ).stackTraces = false) (ht : (gM Γ).sig.returnType = none) (hr : xRet Γ (xKv K)) (hnm : (gM Γ).name = "<init>") {a0 : Nat} {a1 : Nat} {x2 : Int32} {x3 : Int32} {t : xT} {rc rs : Nat} (h : V_X6_init_0 K a0 a1 x2 x3 t) : xX Γ k_X6_init 0 [(0, .ref a0), (1, .ref a1), (2, .int x2), (3, .int x3)] [] t rc rs := by
  unfold V_X6_init_0 at h
  refine x_aload_n 0 dX6_init_0 rfl rfl ?_
  refine x_objInit dX6_init_1 (List.forall_mem_cons.mpr ⟨xw626, List.forall_mem_cons.mpr ⟨xw89, List.forall_mem_cons.mpr ⟨xw90, fun _ h => absurd h List.not_mem_nil⟩⟩⟩) (by decide) (by decide) (Nat.le_of_ble_eq_true rfl) ?_
  refine x_aload_n 0 dX6_init_4 rfl rfl ?_
  refine x_iconst (v := (0 : Int32)) dX6_init_5 (by decide) ?_
  obtain ⟨fs, hf, hk, h⟩ := h
  refine x_put (v := .int (0 : Int32)) dX6_init_6 xp_X6_9 hf rfl rfl hk ?_
  generalize hT : xup t a0 _ = t_1 at h ⊢
  clear hT
  refine x_aload_n 0 dX6_init_9 rfl rfl ?_
  refine x_iconst (v := (0 : Int32)) dX6_init_10 (by decide) ?_
  obtain ⟨fs, hf, hk, h⟩ := h
  refine x_put (v := .int (0 : Int32)) dX6_init_11 xp_X6_15 hf rfl rfl hk ?_
  generalize hT : xup t_1 a0 _ = t_2 at h ⊢
  clear hT
  refine x_aload_n 0 dX6_init_14 rfl rfl ?_
  refine x_aload_n 1 dX6_init_15 rfl rfl ?_
  obtain ⟨fs, hf, hk, h⟩ := h
  refine x_putF (v := .ref a1) dX6_init_16 xp_X6_19 hnm hf rfl rfl hk ?_
  generalize hT : xup t_2 a0 _ = t_3 at h ⊢
  clear hT
  refine x_aload_n 0 dX6_init_19 rfl rfl ?_
  refine x_iload_n 2 dX6_init_20 rfl rfl ?_
  obtain ⟨fs, hf, hk, h⟩ := h
  refine x_putF (v := .int x2) dX6_init_21 xp_X6_23 hnm hf rfl rfl hk ?_
  generalize hT : xup t_3 a0 _ = t_4 at h ⊢
  clear hT
  refine x_aload_n 0 dX6_init_24 rfl rfl ?_
  refine x_iload_n 3 dX6_init_25 rfl rfl ?_
  obtain ⟨fs, hf, hk, h⟩ := h
  refine x_putF (v := .int x3) dX6_init_26 xp_X6_26 hnm hf rfl rfl hk ?_
  generalize hT : xup t_4 a0 _ = t_5 at h ⊢
  clear hT
  exact x_vret dX6_init_29 hr ht ⟨rfl, h⟩
theorem M_X6_init {l : Launch} {G : xG} (hl : l.stackTraces = false) {a0 : Nat} {a1 : Nat} {x2 : Int32} {x3 : Int32} {t : xT} {K : xT → Prop} (h : V_X6_init_0 K a0 a1 x2 x3 t) : xMet l G yX6_init k_X6_init none [.ref a0, .ref a1, .int x2, .int x3] t (xKv K) 0 0 := xMet.of (by decide +kernel) rfl hl (Nat.le_of_ble_eq_true rfl) (fun Γ e1 e2 ht hn hr => by subst e1; subst e2; exact S_X6_init_0 hl ht hr hn h)
/-! RentStream.report(II)I -/
def V_X7_report_0 (E : Nat → Nat) (KX : String → xT → Prop) (K : Int32 → xT → Prop) (a0 : Nat) (x1 : Int32) (x2 : Int32) (t : xT) (rc rs : Nat) : Prop :=
  (xis t a0 7 ∧ ∃ m_3 z_4 : Nat, m_3 ≤ rc ∧ z_4 ≤ rs ∧ V_X7_flatAt_0 KX (fun o_2 t_1 => ((x2 < 0 → (1 ≤ (rc - m_3) ∧ 6 ≤ (rs - z_4) ∧ KX "java/lang/IllegalArgumentException" t_1)) ∧ (¬ x2 < 0 → ((x2 ≤ (2 : Int32) → xgR t_1 a0 7 2 fun a_5 => (xis t_1 a_5 10 ∧ V_Jx4a65c_size_8abf5_0 (fun x_7 t_6 => ((x_7 < (60 : Int32) → xgR t_6 a0 7 2 fun a_8 => xnw (.inr (6, [.int 0, .int 0, .null, .int 0, .int 0])) 5 t_6 (rc - m_3) (rs - z_4) fun a_9 t_10 => xgI t_10 a0 7 8 fun x_11 => xnl o_2 fun a_12 => (V_X6_init_0 (fun t_13 => (xis t_13 a_8 10 ∧ ∃ m_16 z_17 : Nat, m_16 ≤ ((rc - m_3) - 1) ∧ z_17 ≤ ((rs - z_4) - 5) ∧ V_Jx4a65c_add_9ea2d_0 E (fun x_15 t_14 => xgR t_14 a0 7 2 fun a_18 => (xis t_14 a_18 10 ∧ V_Jx4a65c_size_8abf5_0 (fun x_20 t_19 => K (x_20 - (1 : Int32)) t_19) a_18 t_14)) a_8 a_9 t_13 m_16 z_17)) a_9 a_12 x2 x_11 t_10)) ∧ (¬ x_7 < (60 : Int32) → (1 ≤ (rc - m_3) ∧ 6 ≤ (rs - z_4) ∧ KX "java/lang/IllegalStateException" t_6)))) a_5 t_1)) ∧ (¬ x2 ≤ (2 : Int32) → (1 ≤ (rc - m_3) ∧ 6 ≤ (rs - z_4) ∧ KX "java/lang/IllegalArgumentException" t_1)))))) a0 x1 t m_3 z_4)
set_option maxRecDepth 20000 in
theorem S_X7_report_0 {Γ : xΓ} {KX : String → xT → Prop} {K : Int32 → xT → Prop} (hl : (gl Γ).stackTraces = false) (ht : (gM Γ).sig.returnType = (some .int)) (hr : xRet Γ (xKi K)) (hx : xThr Γ KX) {a0 : Nat} {x1 : Int32} {x2 : Int32} {t : xT} {rc rs : Nat} (h : V_X7_report_0 (gG Γ).2.2.2 KX K a0 x1 x2 t rc rs) : xX Γ k_X7_report 0 [(0, .ref a0), (1, .int x1), (2, .int x2)] [] t rc rs := by
  unfold V_X7_report_0 at h
  refine x_aload_n 0 dX7_report_0 rfl rfl ?_
  refine x_iload_n 1 dX7_report_1 rfl rfl ?_
  obtain ⟨⟨fs, hf⟩, h⟩ := h
  obtain ⟨m_3, z_4, hm, hz, h⟩ := h
  refine x_invVX (as := [.int x1]) (rest := []) dX7_report_2 (q := (RX7, TX7, 10)) rfl xc_X7_report_82 hf (M_X7_flatAt hl h) rfl rfl (Nat.le_of_ble_eq_true rfl) hm hz (fun _ _ h => x_thrown hx h) (xk_r fun o_2 t_1 h => ?_)
  refine x_ostore_n (L' := [(3, va_rf o_2), (0, .ref a0), (1, .int x1), (2, .int x2)]) dX7_report_5 rfl (by decide) rfl ?_
  refine x_iload_n 3 dX7_report_6 rfl rfl ?_
  obtain ⟨h1, h2⟩ := h
  refine x_if_lt (tgt := 15) dX7_report_7 (by decide) (fun q => ?_) (fun q => ?_)
  · have h := h1 q
    obtain ⟨q1, q2, h⟩ := h
    exact x_throw dX7_report_15 dX7_report_18 dX7_report_19 dX7_report_21 dX7_report_24 xtw_59 (List.mem_of_getElem? (i := 11) rfl) hx (Nat.le_of_ble_eq_true rfl) (Nat.le_of_ble_eq_true rfl) (Nat.le_of_ble_eq_true rfl) q1 q2 h
  · have h := h2 q
    refine x_iload_n 3 dX7_report_10 rfl rfl ?_
    refine x_iconst (v := (2 : Int32)) dX7_report_11 (by decide) ?_
    obtain ⟨h1, h2⟩ := h
    refine x_icmp_le (tgt := 25) dX7_report_12 (by decide) (fun q => ?_) (fun q => ?_)
    · have h := h1 q
      refine x_aload_n 1 dX7_report_25 rfl rfl ?_
      obtain ⟨fs, hf, a_5, hv, h⟩ := h
      refine x_get dX7_report_26 xf_X7_19 hf hv ?_
      obtain ⟨⟨fs, hf⟩, h⟩ := h
      refine x_invV (as := []) (rest := []) dX7_report_29 (q := (RJx4a65c, TJx4a65c, 3)) rfl xc_X7_report_66 hf (M_Jx4a65c_size_8abf5 hl h) rfl rfl (Nat.le_of_ble_eq_true rfl) (Nat.zero_le _) (Nat.zero_le _) (xk_i fun x_7 t_6 h => ?_)
      refine x_bipush (v := (60 : Int32)) dX7_report_32 (by decide) ?_
      obtain ⟨h1, h2⟩ := h
      refine x_icmp_lt (tgt := 47) dX7_report_34 (by decide) (fun q => ?_) (fun q => ?_)
      · have h := h1 q
        refine x_aload_n 1 dX7_report_47 rfl rfl ?_
        obtain ⟨fs, hf, a_8, hv, h⟩ := h
        refine x_get dX7_report_48 xf_X7_19 hf hv ?_
        obtain ⟨q1, q2, h⟩ := h
        refine x_new dX7_report_51 xn_X7_141 q1 q2 (fun a_9 hq => ?_)
        replace h := h a_9 hq
        generalize hT : xup t_6 a_9 _ = t_10 at h ⊢
        clear hT
        refine x_dup dX7_report_54 rfl ?_
        refine x_oload_n 0 dX7_report_55 rfl rfl ?_
        refine x_iload_n 3 dX7_report_56 rfl rfl ?_
        refine x_aload_n 1 dX7_report_57 rfl rfl ?_
        obtain ⟨fs, hf, x_11, hv, h⟩ := h
        refine x_get dX7_report_58 xf_X7_52 hf hv ?_
        obtain ⟨a_12, e, h⟩ := h
        revert h
        subst e
        intro h
        refine x_invI (as := [.ref a_12, .int x2, .int x_11]) (rest := [.ref a_9, .ref a_8]) dX7_report_61 xc_X7_report_143 (M_X6_init hl h) rfl rfl (Nat.le_of_ble_eq_true rfl) (Nat.zero_le _) (Nat.zero_le _) (xk_v fun t_13 h => ?_)
        obtain ⟨⟨fs, hf⟩, h⟩ := h
        obtain ⟨m_16, z_17, hm, hz, h⟩ := h
        refine x_invV (as := [.ref a_9]) (rest := []) dX7_report_64 (q := (RJx4a65c, TJx4a65c, 3)) rfl xc_X7_report_78 hf (M_Jx4a65c_add_9ea2d hl h) rfl rfl (Nat.le_of_ble_eq_true rfl) hm hz (xk_i fun x_15 t_14 h => ?_)
        refine x_pop dX7_report_67 rfl ?_
        refine x_aload_n 1 dX7_report_68 rfl rfl ?_
        obtain ⟨fs, hf, a_18, hv, h⟩ := h
        refine x_get dX7_report_69 xf_X7_19 hf hv ?_
        obtain ⟨⟨fs, hf⟩, h⟩ := h
        refine x_invV (as := []) (rest := []) dX7_report_72 (q := (RJx4a65c, TJx4a65c, 3)) rfl xc_X7_report_66 hf (M_Jx4a65c_size_8abf5 hl h) rfl rfl (Nat.le_of_ble_eq_true rfl) (Nat.zero_le _) (Nat.zero_le _) (xk_i fun x_20 t_19 h => ?_)
        refine x_iconst (v := (1 : Int32)) dX7_report_75 (by decide) ?_
        refine x_isub dX7_report_76 ?_
        exact x_zret dX7_report_77 hr ht rfl ⟨_, rfl, h⟩
      · have h := h2 q
        obtain ⟨q1, q2, h⟩ := h
        exact x_throw dX7_report_37 dX7_report_40 dX7_report_41 dX7_report_43 dX7_report_46 xtw_70 (List.mem_of_getElem? (i := 12) rfl) hx (Nat.le_of_ble_eq_true rfl) (Nat.le_of_ble_eq_true rfl) (Nat.le_of_ble_eq_true rfl) q1 q2 h
    · have h := h2 q
      obtain ⟨q1, q2, h⟩ := h
      exact x_throw dX7_report_15 dX7_report_18 dX7_report_19 dX7_report_21 dX7_report_24 xtw_59 (List.mem_of_getElem? (i := 11) rfl) hx (Nat.le_of_ble_eq_true rfl) (Nat.le_of_ble_eq_true rfl) (Nat.le_of_ble_eq_true rfl) q1 q2 h
theorem M_X7_report {l : Launch} {G : xG} (hl : l.stackTraces = false) {a0 : Nat} {x1 : Int32} {x2 : Int32} {t : xT} {KX : String → xT → Prop} {K : Int32 → xT → Prop} {rc rs : Nat} (h : V_X7_report_0 G.2.2.2 KX K a0 x1 x2 t rc rs) : xMetX l G yX7_report k_X7_report (some .int) [.ref a0, .int x1, .int x2] t (xKi K) KX rc rs := xMetX.of (by decide +kernel) rfl hl (Nat.le_of_ble_eq_true rfl) (fun Γ e1 e2 ht hn hr hx => by subst e1; subst e2; exact S_X7_report_0 hl ht hr hx h)
/-! RentStream.use(II)I -/
def V_X7_use_0 (KX : String → xT → Prop) (K : Int32 → xT → Prop) (a0 : Nat) (x1 : Int32) (x2 : Int32) (t : xT) (rc rs : Nat) : Prop :=
  (xis t a0 7 ∧ ∃ m_3 z_4 : Nat, m_3 ≤ rc ∧ z_4 ≤ rs ∧ V_X7_flatAt_0 KX (fun o_2 t_1 => (xis t_1 a0 7 ∧ ∃ m_6 z_7 : Nat, m_6 ≤ (rc - m_3) ∧ z_7 ≤ (rs - z_4) ∧ V_X7_needMonth_0 KX (fun t_5 => xnl o_2 fun a_8 => xgR t_5 a_8 1 1 fun a_9 => (xis t_5 a_9 4 ∧ V_X4_in_0 (fun x_11 t_10 => K x_11 t_10) a_9 x2 t_5)) a0 x2 t_1 m_6 z_7)) a0 x1 t m_3 z_4)
set_option maxRecDepth 20000 in
theorem S_X7_use_0 {Γ : xΓ} {KX : String → xT → Prop} {K : Int32 → xT → Prop} (hl : (gl Γ).stackTraces = false) (ht : (gM Γ).sig.returnType = (some .int)) (hr : xRet Γ (xKi K)) (hx : xThr Γ KX) {a0 : Nat} {x1 : Int32} {x2 : Int32} {t : xT} {rc rs : Nat} (h : V_X7_use_0 KX K a0 x1 x2 t rc rs) : xX Γ k_X7_use 0 [(0, .ref a0), (1, .int x1), (2, .int x2)] [] t rc rs := by
  unfold V_X7_use_0 at h
  refine x_aload_n 0 dX7_use_0 rfl rfl ?_
  refine x_iload_n 1 dX7_use_1 rfl rfl ?_
  obtain ⟨⟨fs, hf⟩, h⟩ := h
  obtain ⟨m_3, z_4, hm, hz, h⟩ := h
  refine x_invVX (as := [.int x1]) (rest := []) dX7_use_2 (q := (RX7, TX7, 10)) rfl xc_X7_use_82 hf (M_X7_flatAt hl h) rfl rfl (Nat.le_of_ble_eq_true rfl) hm hz (fun _ _ h => x_thrown hx h) (xk_r fun o_2 t_1 h => ?_)
  refine x_ostore_n (L' := [(3, va_rf o_2), (0, .ref a0), (1, .int x1), (2, .int x2)]) dX7_use_5 rfl (by decide) rfl ?_
  refine x_aload_n 1 dX7_use_6 rfl rfl ?_
  refine x_iload_n 3 dX7_use_7 rfl rfl ?_
  obtain ⟨⟨fs, hf⟩, h⟩ := h
  obtain ⟨m_6, z_7, hm, hz, h⟩ := h
  refine x_invVX (as := [.int x2]) (rest := []) dX7_use_8 (q := (RX7, TX7, 10)) rfl xc_X7_use_162 hf (M_X7_needMonth hl h) rfl rfl (Nat.le_of_ble_eq_true rfl) hm hz (fun _ _ h => x_thrown hx h) (xk_v fun t_5 h => ?_)
  refine x_oload_n 0 dX7_use_11 rfl rfl ?_
  obtain ⟨a_8, e, h⟩ := h
  revert h
  subst e
  intro h
  obtain ⟨fs, hf, a_9, hv, h⟩ := h
  refine x_get dX7_use_12 xf_X7_253 hf hv ?_
  refine x_iload_n 3 dX7_use_15 rfl rfl ?_
  obtain ⟨⟨fs, hf⟩, h⟩ := h
  refine x_invV (as := [.int x2]) (rest := []) dX7_use_16 (q := (RX4, TX4, 1)) rfl xc_X7_use_114 hf (M_X4_in hl h) rfl rfl (Nat.le_of_ble_eq_true rfl) (Nat.zero_le _) (Nat.zero_le _) (xk_i fun x_11 t_10 h => ?_)
  exact x_zret dX7_use_19 hr ht rfl ⟨_, rfl, h⟩
theorem M_X7_use {l : Launch} {G : xG} (hl : l.stackTraces = false) {a0 : Nat} {x1 : Int32} {x2 : Int32} {t : xT} {KX : String → xT → Prop} {K : Int32 → xT → Prop} {rc rs : Nat} (h : V_X7_use_0 KX K a0 x1 x2 t rc rs) : xMetX l G yX7_use k_X7_use (some .int) [.ref a0, .int x1, .int x2] t (xKi K) KX rc rs := xMetX.of (by decide +kernel) rfl hl (Nat.le_of_ble_eq_true rfl) (fun Γ e1 e2 ht hn hr hx => by subst e1; subst e2; exact S_X7_use_0 hl ht hr hx h)
/-! RentStreamModel.<init>()V -/
def VS_X8_init_315 (R315 : Nat → Int32 → xT → Nat → Nat → Prop) (K : xT → Prop) (a0 : Nat) (x1 : Int32) (t : xT) (rc rs : Nat) : Prop :=
  (((968 : Int32) ≤ x1 → K t) ∧ (¬ (968 : Int32) ≤ x1 → xgR t a0 8 9 fun a_1 => xsI 0 t a_1 x1 (-1 : Int32) fun t_2 => R315 a0 (x1 + 1) t_2 rc rs))
def V_X8_init_315 (K : xT → Prop) (n : Nat) : Nat → Int32 → xT → Nat → Nat → Prop := Nat.rec (fun _ _ _ _ _ => False) (fun _ ih => VS_X8_init_315 ih K) n
set_option maxRecDepth 20000 in
theorem S_X8_init_315 {Γ : xΓ} {K : xT → Prop} (hl : (gl Γ).stackTraces = false) (ht : (gM Γ).sig.returnType = none) (hr : xRet Γ (xKv K)) (hnm : (gM Γ).name = "<init>") : ∀ (n : Nat) (a0 : Nat) (x1 : Int32) (t : xT) (rc rs : Nat), V_X8_init_315 K n a0 x1 t rc rs → xX Γ k_X8_init 315 [(0, .ref a0), (1, .int x1)] [] t rc rs := by
  intro n
  induction n with
  | zero =>
    intro a0 x1 t rc rs h
    exact h.elim
  | succ n ih =>
    intro a0 x1 t rc rs h
    replace h : VS_X8_init_315 (V_X8_init_315 K n) K a0 x1 t rc rs := h
    unfold VS_X8_init_315 at h
    refine x_iload_n 1 dX8_init_315 rfl rfl ?_
    refine x_sipush (v := (968 : Int32)) dX8_init_316 (by decide) ?_
    obtain ⟨h1, h2⟩ := h
    refine x_icmp_ge (tgt := 335) dX8_init_319 (by decide) (fun q => ?_) (fun q => ?_)
    · have h := h1 q
      exact x_vret dX8_init_335 hr ht ⟨rfl, h⟩
    · have h := h2 q
      refine x_aload_n 0 dX8_init_322 rfl rfl ?_
      obtain ⟨fs, hf, a_1, hv, h⟩ := h
      refine x_get dX8_init_323 xf_X8_28 hf hv ?_
      refine x_iload_n 1 dX8_init_326 rfl rfl ?_
      refine x_iconst (v := (-1 : Int32)) dX8_init_327 (by decide) ?_
      obtain ⟨n, f, hf, hi, h⟩ := h
      refine x_iast dX8_init_328 hf hi ?_
      generalize hT : xup t a_1 _ = t_2 at h ⊢
      clear hT
      refine x_iinc (v := (x1 + 1)) (L' := [(1, .int (x1 + 1)), (0, .ref a0)]) (j := 1) dX8_init_329 rfl rfl (by decide) rfl ?_
      refine x_goto (tgt := 315) dX8_init_332 (by decide) ?_
      refine x_sub (L' := [(0, .ref a0), (1, .int (x1 + 1))]) [1, 0] rfl ?_
      exact ih a0 (x1 + 1) t_2 rc rs h
def VS_X8_init_293 (R293 : Nat → Int32 → xT → Nat → Nat → Prop) (K : xT → Prop) (a0 : Nat) (x1 : Int32) (t : xT) (rc rs : Nat) : Prop :=
  (((1452 : Int32) ≤ x1 → ∃ f_1 : Nat, V_X8_init_315 K f_1 a0 (0 : Int32) t rc rs) ∧ (¬ (1452 : Int32) ≤ x1 → xgR t a0 8 25 fun a_2 => xsI 0 t a_2 x1 (-1 : Int32) fun t_3 => R293 a0 (x1 + 1) t_3 rc rs))
def V_X8_init_293 (K : xT → Prop) (n : Nat) : Nat → Int32 → xT → Nat → Nat → Prop := Nat.rec (fun _ _ _ _ _ => False) (fun _ ih => VS_X8_init_293 ih K) n
set_option maxRecDepth 20000 in
theorem S_X8_init_293 {Γ : xΓ} {K : xT → Prop} (hl : (gl Γ).stackTraces = false) (ht : (gM Γ).sig.returnType = none) (hr : xRet Γ (xKv K)) (hnm : (gM Γ).name = "<init>") : ∀ (n : Nat) (a0 : Nat) (x1 : Int32) (t : xT) (rc rs : Nat), V_X8_init_293 K n a0 x1 t rc rs → xX Γ k_X8_init 293 [(0, .ref a0), (1, .int x1)] [] t rc rs := by
  intro n
  induction n with
  | zero =>
    intro a0 x1 t rc rs h
    exact h.elim
  | succ n ih =>
    intro a0 x1 t rc rs h
    replace h : VS_X8_init_293 (V_X8_init_293 K n) K a0 x1 t rc rs := h
    unfold VS_X8_init_293 at h
    refine x_iload_n 1 dX8_init_293 rfl rfl ?_
    refine x_sipush (v := (1452 : Int32)) dX8_init_294 (by decide) ?_
    obtain ⟨h1, h2⟩ := h
    refine x_icmp_ge (tgt := 313) dX8_init_297 (by decide) (fun q => ?_) (fun q => ?_)
    · have h := h1 q
      refine x_iconst (v := (0 : Int32)) dX8_init_313 (by decide) ?_
      refine x_istore_n (L' := [(1, .int (0 : Int32)), (0, .ref a0)]) dX8_init_314 rfl (by decide) rfl ?_
      obtain ⟨f_1, h⟩ := h
      refine x_sub (L' := [(0, .ref a0), (1, .int (0 : Int32))]) [1, 0] rfl ?_
      exact S_X8_init_315 hl ht hr hnm  f_1 a0 (0 : Int32) t rc rs h
    · have h := h2 q
      refine x_aload_n 0 dX8_init_300 rfl rfl ?_
      obtain ⟨fs, hf, a_2, hv, h⟩ := h
      refine x_get dX8_init_301 xf_X8_69 hf hv ?_
      refine x_iload_n 1 dX8_init_304 rfl rfl ?_
      refine x_iconst (v := (-1 : Int32)) dX8_init_305 (by decide) ?_
      obtain ⟨n, f, hf, hi, h⟩ := h
      refine x_iast dX8_init_306 hf hi ?_
      generalize hT : xup t a_2 _ = t_3 at h ⊢
      clear hT
      refine x_iinc (v := (x1 + 1)) (L' := [(1, .int (x1 + 1)), (0, .ref a0)]) (j := 1) dX8_init_307 rfl rfl (by decide) rfl ?_
      refine x_goto (tgt := 293) dX8_init_310 (by decide) ?_
      refine x_sub (L' := [(0, .ref a0), (1, .int (x1 + 1))]) [1, 0] rfl ?_
      exact ih a0 (x1 + 1) t_3 rc rs h
def V_X8_init_0 (K : xT → Prop) (a0 : Nat) (t : xT) (rc rs : Nat) : Prop :=
  xnA 0 (.inl (fun _ => 0)) (8 : Int32) t rc rs fun a_1 t_2 => (xpF t_2 a0 8 3 (.ref a_1) fun t_3 => xnA 0 (.inl (fun _ => 0)) (8 : Int32) t_3 (rc - 1) (rs - (8 : Int32).toNatClampNeg) fun a_4 t_5 => (xpF t_5 a0 8 4 (.ref a_4) fun t_6 => xnA 0 (.inl (fun _ => 0)) (8 : Int32) t_6 ((rc - 1) - 1) ((rs - (8 : Int32).toNatClampNeg) - (8 : Int32).toNatClampNeg) fun a_7 t_8 => (xpF t_8 a0 8 5 (.ref a_7) fun t_9 => xnA 0 (.inl (fun _ => 0)) (8 : Int32) t_9 (((rc - 1) - 1) - 1) (((rs - (8 : Int32).toNatClampNeg) - (8 : Int32).toNatClampNeg) - (8 : Int32).toNatClampNeg) fun a_10 t_11 => (xpF t_11 a0 8 6 (.ref a_10) fun t_12 => xnA 0 (.inl (fun _ => 0)) (8 : Int32) t_12 ((((rc - 1) - 1) - 1) - 1) ((((rs - (8 : Int32).toNatClampNeg) - (8 : Int32).toNatClampNeg) - (8 : Int32).toNatClampNeg) - (8 : Int32).toNatClampNeg) fun a_13 t_14 => (xpF t_14 a0 8 7 (.ref a_13) fun t_15 => xnA 0 (.inl (fun _ => 0)) (8 : Int32) t_15 (((((rc - 1) - 1) - 1) - 1) - 1) (((((rs - (8 : Int32).toNatClampNeg) - (8 : Int32).toNatClampNeg) - (8 : Int32).toNatClampNeg) - (8 : Int32).toNatClampNeg) - (8 : Int32).toNatClampNeg) fun a_16 t_17 => (xpF t_17 a0 8 8 (.ref a_16) fun t_18 => xnA 0 (.inl (fun _ => 0)) (968 : Int32) t_18 ((((((rc - 1) - 1) - 1) - 1) - 1) - 1) ((((((rs - (8 : Int32).toNatClampNeg) - (8 : Int32).toNatClampNeg) - (8 : Int32).toNatClampNeg) - (8 : Int32).toNatClampNeg) - (8 : Int32).toNatClampNeg) - (8 : Int32).toNatClampNeg) fun a_19 t_20 => (xpF t_20 a0 8 9 (.ref a_19) fun t_21 => xnA 0 (.inl (fun _ => 0)) (122 : Int32) t_21 (((((((rc - 1) - 1) - 1) - 1) - 1) - 1) - 1) (((((((rs - (8 : Int32).toNatClampNeg) - (8 : Int32).toNatClampNeg) - (8 : Int32).toNatClampNeg) - (8 : Int32).toNatClampNeg) - (8 : Int32).toNatClampNeg) - (8 : Int32).toNatClampNeg) - (968 : Int32).toNatClampNeg) fun a_22 t_23 => (xpF t_23 a0 8 10 (.ref a_22) fun t_24 => xnA 0 (.inl (fun _ => 0)) (60 : Int32) t_24 ((((((((rc - 1) - 1) - 1) - 1) - 1) - 1) - 1) - 1) ((((((((rs - (8 : Int32).toNatClampNeg) - (8 : Int32).toNatClampNeg) - (8 : Int32).toNatClampNeg) - (8 : Int32).toNatClampNeg) - (8 : Int32).toNatClampNeg) - (8 : Int32).toNatClampNeg) - (968 : Int32).toNatClampNeg) - (122 : Int32).toNatClampNeg) fun a_25 t_26 => (xpF t_26 a0 8 13 (.ref a_25) fun t_27 => xnA 0 (.inl (fun _ => 0)) (60 : Int32) t_27 (((((((((rc - 1) - 1) - 1) - 1) - 1) - 1) - 1) - 1) - 1) (((((((((rs - (8 : Int32).toNatClampNeg) - (8 : Int32).toNatClampNeg) - (8 : Int32).toNatClampNeg) - (8 : Int32).toNatClampNeg) - (8 : Int32).toNatClampNeg) - (8 : Int32).toNatClampNeg) - (968 : Int32).toNatClampNeg) - (122 : Int32).toNatClampNeg) - (60 : Int32).toNatClampNeg) fun a_28 t_29 => (xpF t_29 a0 8 14 (.ref a_28) fun t_30 => xnA 0 (.inl (fun _ => 0)) (60 : Int32) t_30 ((((((((((rc - 1) - 1) - 1) - 1) - 1) - 1) - 1) - 1) - 1) - 1) ((((((((((rs - (8 : Int32).toNatClampNeg) - (8 : Int32).toNatClampNeg) - (8 : Int32).toNatClampNeg) - (8 : Int32).toNatClampNeg) - (8 : Int32).toNatClampNeg) - (8 : Int32).toNatClampNeg) - (968 : Int32).toNatClampNeg) - (122 : Int32).toNatClampNeg) - (60 : Int32).toNatClampNeg) - (60 : Int32).toNatClampNeg) fun a_31 t_32 => (xpF t_32 a0 8 15 (.ref a_31) fun t_33 => xnA 0 (.inl (fun _ => 0)) (60 : Int32) t_33 (((((((((((rc - 1) - 1) - 1) - 1) - 1) - 1) - 1) - 1) - 1) - 1) - 1) (((((((((((rs - (8 : Int32).toNatClampNeg) - (8 : Int32).toNatClampNeg) - (8 : Int32).toNatClampNeg) - (8 : Int32).toNatClampNeg) - (8 : Int32).toNatClampNeg) - (8 : Int32).toNatClampNeg) - (968 : Int32).toNatClampNeg) - (122 : Int32).toNatClampNeg) - (60 : Int32).toNatClampNeg) - (60 : Int32).toNatClampNeg) - (60 : Int32).toNatClampNeg) fun a_34 t_35 => (xpF t_35 a0 8 16 (.ref a_34) fun t_36 => xnA 2 (.inl (fun _ => 0)) (60 : Int32) t_36 ((((((((((((rc - 1) - 1) - 1) - 1) - 1) - 1) - 1) - 1) - 1) - 1) - 1) - 1) ((((((((((((rs - (8 : Int32).toNatClampNeg) - (8 : Int32).toNatClampNeg) - (8 : Int32).toNatClampNeg) - (8 : Int32).toNatClampNeg) - (8 : Int32).toNatClampNeg) - (8 : Int32).toNatClampNeg) - (968 : Int32).toNatClampNeg) - (122 : Int32).toNatClampNeg) - (60 : Int32).toNatClampNeg) - (60 : Int32).toNatClampNeg) - (60 : Int32).toNatClampNeg) - (60 : Int32).toNatClampNeg) fun a_37 t_38 => (xpF t_38 a0 8 17 (.ref a_37) fun t_39 => xnA 0 (.inl (fun _ => 0)) (12 : Int32) t_39 (((((((((((((rc - 1) - 1) - 1) - 1) - 1) - 1) - 1) - 1) - 1) - 1) - 1) - 1) - 1) (((((((((((((rs - (8 : Int32).toNatClampNeg) - (8 : Int32).toNatClampNeg) - (8 : Int32).toNatClampNeg) - (8 : Int32).toNatClampNeg) - (8 : Int32).toNatClampNeg) - (8 : Int32).toNatClampNeg) - (968 : Int32).toNatClampNeg) - (122 : Int32).toNatClampNeg) - (60 : Int32).toNatClampNeg) - (60 : Int32).toNatClampNeg) - (60 : Int32).toNatClampNeg) - (60 : Int32).toNatClampNeg) - (60 : Int32).toNatClampNeg) fun a_40 t_41 => (xpF t_41 a0 8 19 (.ref a_40) fun t_42 => xnA 0 (.inl (fun _ => 0)) (12 : Int32) t_42 ((((((((((((((rc - 1) - 1) - 1) - 1) - 1) - 1) - 1) - 1) - 1) - 1) - 1) - 1) - 1) - 1) ((((((((((((((rs - (8 : Int32).toNatClampNeg) - (8 : Int32).toNatClampNeg) - (8 : Int32).toNatClampNeg) - (8 : Int32).toNatClampNeg) - (8 : Int32).toNatClampNeg) - (8 : Int32).toNatClampNeg) - (968 : Int32).toNatClampNeg) - (122 : Int32).toNatClampNeg) - (60 : Int32).toNatClampNeg) - (60 : Int32).toNatClampNeg) - (60 : Int32).toNatClampNeg) - (60 : Int32).toNatClampNeg) - (60 : Int32).toNatClampNeg) - (12 : Int32).toNatClampNeg) fun a_43 t_44 => (xpF t_44 a0 8 20 (.ref a_43) fun t_45 => xnA 0 (.inl (fun _ => 0)) (12 : Int32) t_45 (((((((((((((((rc - 1) - 1) - 1) - 1) - 1) - 1) - 1) - 1) - 1) - 1) - 1) - 1) - 1) - 1) - 1) (((((((((((((((rs - (8 : Int32).toNatClampNeg) - (8 : Int32).toNatClampNeg) - (8 : Int32).toNatClampNeg) - (8 : Int32).toNatClampNeg) - (8 : Int32).toNatClampNeg) - (8 : Int32).toNatClampNeg) - (968 : Int32).toNatClampNeg) - (122 : Int32).toNatClampNeg) - (60 : Int32).toNatClampNeg) - (60 : Int32).toNatClampNeg) - (60 : Int32).toNatClampNeg) - (60 : Int32).toNatClampNeg) - (60 : Int32).toNatClampNeg) - (12 : Int32).toNatClampNeg) - (12 : Int32).toNatClampNeg) fun a_46 t_47 => (xpF t_47 a0 8 21 (.ref a_46) fun t_48 => xnA 0 (.inl (fun _ => 0)) (12 : Int32) t_48 ((((((((((((((((rc - 1) - 1) - 1) - 1) - 1) - 1) - 1) - 1) - 1) - 1) - 1) - 1) - 1) - 1) - 1) - 1) ((((((((((((((((rs - (8 : Int32).toNatClampNeg) - (8 : Int32).toNatClampNeg) - (8 : Int32).toNatClampNeg) - (8 : Int32).toNatClampNeg) - (8 : Int32).toNatClampNeg) - (8 : Int32).toNatClampNeg) - (968 : Int32).toNatClampNeg) - (122 : Int32).toNatClampNeg) - (60 : Int32).toNatClampNeg) - (60 : Int32).toNatClampNeg) - (60 : Int32).toNatClampNeg) - (60 : Int32).toNatClampNeg) - (60 : Int32).toNatClampNeg) - (12 : Int32).toNatClampNeg) - (12 : Int32).toNatClampNeg) - (12 : Int32).toNatClampNeg) fun a_49 t_50 => (xpF t_50 a0 8 22 (.ref a_49) fun t_51 => xnA 1 (.inr (.inl (fun _ => 0))) (12 : Int32) t_51 (((((((((((((((((rc - 1) - 1) - 1) - 1) - 1) - 1) - 1) - 1) - 1) - 1) - 1) - 1) - 1) - 1) - 1) - 1) - 1) (((((((((((((((((rs - (8 : Int32).toNatClampNeg) - (8 : Int32).toNatClampNeg) - (8 : Int32).toNatClampNeg) - (8 : Int32).toNatClampNeg) - (8 : Int32).toNatClampNeg) - (8 : Int32).toNatClampNeg) - (968 : Int32).toNatClampNeg) - (122 : Int32).toNatClampNeg) - (60 : Int32).toNatClampNeg) - (60 : Int32).toNatClampNeg) - (60 : Int32).toNatClampNeg) - (60 : Int32).toNatClampNeg) - (60 : Int32).toNatClampNeg) - (12 : Int32).toNatClampNeg) - (12 : Int32).toNatClampNeg) - (12 : Int32).toNatClampNeg) - (12 : Int32).toNatClampNeg) fun a_52 t_53 => (xpF t_53 a0 8 23 (.ref a_52) fun t_54 => xnA 1 (.inr (.inl (fun _ => 0))) (12 : Int32) t_54 ((((((((((((((((((rc - 1) - 1) - 1) - 1) - 1) - 1) - 1) - 1) - 1) - 1) - 1) - 1) - 1) - 1) - 1) - 1) - 1) - 1) ((((((((((((((((((rs - (8 : Int32).toNatClampNeg) - (8 : Int32).toNatClampNeg) - (8 : Int32).toNatClampNeg) - (8 : Int32).toNatClampNeg) - (8 : Int32).toNatClampNeg) - (8 : Int32).toNatClampNeg) - (968 : Int32).toNatClampNeg) - (122 : Int32).toNatClampNeg) - (60 : Int32).toNatClampNeg) - (60 : Int32).toNatClampNeg) - (60 : Int32).toNatClampNeg) - (60 : Int32).toNatClampNeg) - (60 : Int32).toNatClampNeg) - (12 : Int32).toNatClampNeg) - (12 : Int32).toNatClampNeg) - (12 : Int32).toNatClampNeg) - (12 : Int32).toNatClampNeg) - (12 : Int32).toNatClampNeg) fun a_55 t_56 => (xpF t_56 a0 8 24 (.ref a_55) fun t_57 => xnA 0 (.inl (fun _ => 0)) (1452 : Int32) t_57 (((((((((((((((((((rc - 1) - 1) - 1) - 1) - 1) - 1) - 1) - 1) - 1) - 1) - 1) - 1) - 1) - 1) - 1) - 1) - 1) - 1) - 1) (((((((((((((((((((rs - (8 : Int32).toNatClampNeg) - (8 : Int32).toNatClampNeg) - (8 : Int32).toNatClampNeg) - (8 : Int32).toNatClampNeg) - (8 : Int32).toNatClampNeg) - (8 : Int32).toNatClampNeg) - (968 : Int32).toNatClampNeg) - (122 : Int32).toNatClampNeg) - (60 : Int32).toNatClampNeg) - (60 : Int32).toNatClampNeg) - (60 : Int32).toNatClampNeg) - (60 : Int32).toNatClampNeg) - (60 : Int32).toNatClampNeg) - (12 : Int32).toNatClampNeg) - (12 : Int32).toNatClampNeg) - (12 : Int32).toNatClampNeg) - (12 : Int32).toNatClampNeg) - (12 : Int32).toNatClampNeg) - (12 : Int32).toNatClampNeg) fun a_58 t_59 => (xpF t_59 a0 8 25 (.ref a_58) fun t_60 => xnA 2 (.inl (fun _ => 0)) (1452 : Int32) t_60 ((((((((((((((((((((rc - 1) - 1) - 1) - 1) - 1) - 1) - 1) - 1) - 1) - 1) - 1) - 1) - 1) - 1) - 1) - 1) - 1) - 1) - 1) - 1) ((((((((((((((((((((rs - (8 : Int32).toNatClampNeg) - (8 : Int32).toNatClampNeg) - (8 : Int32).toNatClampNeg) - (8 : Int32).toNatClampNeg) - (8 : Int32).toNatClampNeg) - (8 : Int32).toNatClampNeg) - (968 : Int32).toNatClampNeg) - (122 : Int32).toNatClampNeg) - (60 : Int32).toNatClampNeg) - (60 : Int32).toNatClampNeg) - (60 : Int32).toNatClampNeg) - (60 : Int32).toNatClampNeg) - (60 : Int32).toNatClampNeg) - (12 : Int32).toNatClampNeg) - (12 : Int32).toNatClampNeg) - (12 : Int32).toNatClampNeg) - (12 : Int32).toNatClampNeg) - (12 : Int32).toNatClampNeg) - (12 : Int32).toNatClampNeg) - (1452 : Int32).toNatClampNeg) fun a_61 t_62 => (xpF t_62 a0 8 26 (.ref a_61) fun t_63 => xnA 0 (.inl (fun _ => 0)) (1452 : Int32) t_63 (((((((((((((((((((((rc - 1) - 1) - 1) - 1) - 1) - 1) - 1) - 1) - 1) - 1) - 1) - 1) - 1) - 1) - 1) - 1) - 1) - 1) - 1) - 1) - 1) (((((((((((((((((((((rs - (8 : Int32).toNatClampNeg) - (8 : Int32).toNatClampNeg) - (8 : Int32).toNatClampNeg) - (8 : Int32).toNatClampNeg) - (8 : Int32).toNatClampNeg) - (8 : Int32).toNatClampNeg) - (968 : Int32).toNatClampNeg) - (122 : Int32).toNatClampNeg) - (60 : Int32).toNatClampNeg) - (60 : Int32).toNatClampNeg) - (60 : Int32).toNatClampNeg) - (60 : Int32).toNatClampNeg) - (60 : Int32).toNatClampNeg) - (12 : Int32).toNatClampNeg) - (12 : Int32).toNatClampNeg) - (12 : Int32).toNatClampNeg) - (12 : Int32).toNatClampNeg) - (12 : Int32).toNatClampNeg) - (12 : Int32).toNatClampNeg) - (1452 : Int32).toNatClampNeg) - (1452 : Int32).toNatClampNeg) fun a_64 t_65 => (xpF t_65 a0 8 27 (.ref a_64) fun t_66 => xnA 0 (.inl (fun _ => 0)) (1452 : Int32) t_66 ((((((((((((((((((((((rc - 1) - 1) - 1) - 1) - 1) - 1) - 1) - 1) - 1) - 1) - 1) - 1) - 1) - 1) - 1) - 1) - 1) - 1) - 1) - 1) - 1) - 1) ((((((((((((((((((((((rs - (8 : Int32).toNatClampNeg) - (8 : Int32).toNatClampNeg) - (8 : Int32).toNatClampNeg) - (8 : Int32).toNatClampNeg) - (8 : Int32).toNatClampNeg) - (8 : Int32).toNatClampNeg) - (968 : Int32).toNatClampNeg) - (122 : Int32).toNatClampNeg) - (60 : Int32).toNatClampNeg) - (60 : Int32).toNatClampNeg) - (60 : Int32).toNatClampNeg) - (60 : Int32).toNatClampNeg) - (60 : Int32).toNatClampNeg) - (12 : Int32).toNatClampNeg) - (12 : Int32).toNatClampNeg) - (12 : Int32).toNatClampNeg) - (12 : Int32).toNatClampNeg) - (12 : Int32).toNatClampNeg) - (12 : Int32).toNatClampNeg) - (1452 : Int32).toNatClampNeg) - (1452 : Int32).toNatClampNeg) - (1452 : Int32).toNatClampNeg) fun a_67 t_68 => (xpF t_68 a0 8 28 (.ref a_67) fun t_69 => xnA 0 (.inl (fun _ => 0)) (1452 : Int32) t_69 (((((((((((((((((((((((rc - 1) - 1) - 1) - 1) - 1) - 1) - 1) - 1) - 1) - 1) - 1) - 1) - 1) - 1) - 1) - 1) - 1) - 1) - 1) - 1) - 1) - 1) - 1) (((((((((((((((((((((((rs - (8 : Int32).toNatClampNeg) - (8 : Int32).toNatClampNeg) - (8 : Int32).toNatClampNeg) - (8 : Int32).toNatClampNeg) - (8 : Int32).toNatClampNeg) - (8 : Int32).toNatClampNeg) - (968 : Int32).toNatClampNeg) - (122 : Int32).toNatClampNeg) - (60 : Int32).toNatClampNeg) - (60 : Int32).toNatClampNeg) - (60 : Int32).toNatClampNeg) - (60 : Int32).toNatClampNeg) - (60 : Int32).toNatClampNeg) - (12 : Int32).toNatClampNeg) - (12 : Int32).toNatClampNeg) - (12 : Int32).toNatClampNeg) - (12 : Int32).toNatClampNeg) - (12 : Int32).toNatClampNeg) - (12 : Int32).toNatClampNeg) - (1452 : Int32).toNatClampNeg) - (1452 : Int32).toNatClampNeg) - (1452 : Int32).toNatClampNeg) - (1452 : Int32).toNatClampNeg) fun a_70 t_71 => (xpF t_71 a0 8 29 (.ref a_70) fun t_72 => xnA 0 (.inl (fun _ => 0)) (1452 : Int32) t_72 ((((((((((((((((((((((((rc - 1) - 1) - 1) - 1) - 1) - 1) - 1) - 1) - 1) - 1) - 1) - 1) - 1) - 1) - 1) - 1) - 1) - 1) - 1) - 1) - 1) - 1) - 1) - 1) ((((((((((((((((((((((((rs - (8 : Int32).toNatClampNeg) - (8 : Int32).toNatClampNeg) - (8 : Int32).toNatClampNeg) - (8 : Int32).toNatClampNeg) - (8 : Int32).toNatClampNeg) - (8 : Int32).toNatClampNeg) - (968 : Int32).toNatClampNeg) - (122 : Int32).toNatClampNeg) - (60 : Int32).toNatClampNeg) - (60 : Int32).toNatClampNeg) - (60 : Int32).toNatClampNeg) - (60 : Int32).toNatClampNeg) - (60 : Int32).toNatClampNeg) - (12 : Int32).toNatClampNeg) - (12 : Int32).toNatClampNeg) - (12 : Int32).toNatClampNeg) - (12 : Int32).toNatClampNeg) - (12 : Int32).toNatClampNeg) - (12 : Int32).toNatClampNeg) - (1452 : Int32).toNatClampNeg) - (1452 : Int32).toNatClampNeg) - (1452 : Int32).toNatClampNeg) - (1452 : Int32).toNatClampNeg) - (1452 : Int32).toNatClampNeg) fun a_73 t_74 => (xpF t_74 a0 8 30 (.ref a_73) fun t_75 => xnA 0 (.inl (fun _ => 0)) (12 : Int32) t_75 (((((((((((((((((((((((((rc - 1) - 1) - 1) - 1) - 1) - 1) - 1) - 1) - 1) - 1) - 1) - 1) - 1) - 1) - 1) - 1) - 1) - 1) - 1) - 1) - 1) - 1) - 1) - 1) - 1) (((((((((((((((((((((((((rs - (8 : Int32).toNatClampNeg) - (8 : Int32).toNatClampNeg) - (8 : Int32).toNatClampNeg) - (8 : Int32).toNatClampNeg) - (8 : Int32).toNatClampNeg) - (8 : Int32).toNatClampNeg) - (968 : Int32).toNatClampNeg) - (122 : Int32).toNatClampNeg) - (60 : Int32).toNatClampNeg) - (60 : Int32).toNatClampNeg) - (60 : Int32).toNatClampNeg) - (60 : Int32).toNatClampNeg) - (60 : Int32).toNatClampNeg) - (12 : Int32).toNatClampNeg) - (12 : Int32).toNatClampNeg) - (12 : Int32).toNatClampNeg) - (12 : Int32).toNatClampNeg) - (12 : Int32).toNatClampNeg) - (12 : Int32).toNatClampNeg) - (1452 : Int32).toNatClampNeg) - (1452 : Int32).toNatClampNeg) - (1452 : Int32).toNatClampNeg) - (1452 : Int32).toNatClampNeg) - (1452 : Int32).toNatClampNeg) - (1452 : Int32).toNatClampNeg) fun a_76 t_77 => (xpF t_77 a0 8 31 (.ref a_76) fun t_78 => xnA 1 (.inr (.inl (fun _ => 0))) (12 : Int32) t_78 ((((((((((((((((((((((((((rc - 1) - 1) - 1) - 1) - 1) - 1) - 1) - 1) - 1) - 1) - 1) - 1) - 1) - 1) - 1) - 1) - 1) - 1) - 1) - 1) - 1) - 1) - 1) - 1) - 1) - 1) ((((((((((((((((((((((((((rs - (8 : Int32).toNatClampNeg) - (8 : Int32).toNatClampNeg) - (8 : Int32).toNatClampNeg) - (8 : Int32).toNatClampNeg) - (8 : Int32).toNatClampNeg) - (8 : Int32).toNatClampNeg) - (968 : Int32).toNatClampNeg) - (122 : Int32).toNatClampNeg) - (60 : Int32).toNatClampNeg) - (60 : Int32).toNatClampNeg) - (60 : Int32).toNatClampNeg) - (60 : Int32).toNatClampNeg) - (60 : Int32).toNatClampNeg) - (12 : Int32).toNatClampNeg) - (12 : Int32).toNatClampNeg) - (12 : Int32).toNatClampNeg) - (12 : Int32).toNatClampNeg) - (12 : Int32).toNatClampNeg) - (12 : Int32).toNatClampNeg) - (1452 : Int32).toNatClampNeg) - (1452 : Int32).toNatClampNeg) - (1452 : Int32).toNatClampNeg) - (1452 : Int32).toNatClampNeg) - (1452 : Int32).toNatClampNeg) - (1452 : Int32).toNatClampNeg) - (12 : Int32).toNatClampNeg) fun a_79 t_80 => (xpF t_80 a0 8 32 (.ref a_79) fun t_81 => xnA 1 (.inr (.inl (fun _ => 0))) (12 : Int32) t_81 (((((((((((((((((((((((((((rc - 1) - 1) - 1) - 1) - 1) - 1) - 1) - 1) - 1) - 1) - 1) - 1) - 1) - 1) - 1) - 1) - 1) - 1) - 1) - 1) - 1) - 1) - 1) - 1) - 1) - 1) - 1) (((((((((((((((((((((((((((rs - (8 : Int32).toNatClampNeg) - (8 : Int32).toNatClampNeg) - (8 : Int32).toNatClampNeg) - (8 : Int32).toNatClampNeg) - (8 : Int32).toNatClampNeg) - (8 : Int32).toNatClampNeg) - (968 : Int32).toNatClampNeg) - (122 : Int32).toNatClampNeg) - (60 : Int32).toNatClampNeg) - (60 : Int32).toNatClampNeg) - (60 : Int32).toNatClampNeg) - (60 : Int32).toNatClampNeg) - (60 : Int32).toNatClampNeg) - (12 : Int32).toNatClampNeg) - (12 : Int32).toNatClampNeg) - (12 : Int32).toNatClampNeg) - (12 : Int32).toNatClampNeg) - (12 : Int32).toNatClampNeg) - (12 : Int32).toNatClampNeg) - (1452 : Int32).toNatClampNeg) - (1452 : Int32).toNatClampNeg) - (1452 : Int32).toNatClampNeg) - (1452 : Int32).toNatClampNeg) - (1452 : Int32).toNatClampNeg) - (1452 : Int32).toNatClampNeg) - (12 : Int32).toNatClampNeg) - (12 : Int32).toNatClampNeg) fun a_82 t_83 => (xpF t_83 a0 8 33 (.ref a_82) fun t_84 => xnA 0 (.inl (fun _ => 0)) (12 : Int32) t_84 ((((((((((((((((((((((((((((rc - 1) - 1) - 1) - 1) - 1) - 1) - 1) - 1) - 1) - 1) - 1) - 1) - 1) - 1) - 1) - 1) - 1) - 1) - 1) - 1) - 1) - 1) - 1) - 1) - 1) - 1) - 1) - 1) ((((((((((((((((((((((((((((rs - (8 : Int32).toNatClampNeg) - (8 : Int32).toNatClampNeg) - (8 : Int32).toNatClampNeg) - (8 : Int32).toNatClampNeg) - (8 : Int32).toNatClampNeg) - (8 : Int32).toNatClampNeg) - (968 : Int32).toNatClampNeg) - (122 : Int32).toNatClampNeg) - (60 : Int32).toNatClampNeg) - (60 : Int32).toNatClampNeg) - (60 : Int32).toNatClampNeg) - (60 : Int32).toNatClampNeg) - (60 : Int32).toNatClampNeg) - (12 : Int32).toNatClampNeg) - (12 : Int32).toNatClampNeg) - (12 : Int32).toNatClampNeg) - (12 : Int32).toNatClampNeg) - (12 : Int32).toNatClampNeg) - (12 : Int32).toNatClampNeg) - (1452 : Int32).toNatClampNeg) - (1452 : Int32).toNatClampNeg) - (1452 : Int32).toNatClampNeg) - (1452 : Int32).toNatClampNeg) - (1452 : Int32).toNatClampNeg) - (1452 : Int32).toNatClampNeg) - (12 : Int32).toNatClampNeg) - (12 : Int32).toNatClampNeg) - (12 : Int32).toNatClampNeg) fun a_85 t_86 => (xpF t_86 a0 8 34 (.ref a_85) fun t_87 => xnA 1 (.inr (.inl (fun _ => 0))) (12 : Int32) t_87 (((((((((((((((((((((((((((((rc - 1) - 1) - 1) - 1) - 1) - 1) - 1) - 1) - 1) - 1) - 1) - 1) - 1) - 1) - 1) - 1) - 1) - 1) - 1) - 1) - 1) - 1) - 1) - 1) - 1) - 1) - 1) - 1) - 1) (((((((((((((((((((((((((((((rs - (8 : Int32).toNatClampNeg) - (8 : Int32).toNatClampNeg) - (8 : Int32).toNatClampNeg) - (8 : Int32).toNatClampNeg) - (8 : Int32).toNatClampNeg) - (8 : Int32).toNatClampNeg) - (968 : Int32).toNatClampNeg) - (122 : Int32).toNatClampNeg) - (60 : Int32).toNatClampNeg) - (60 : Int32).toNatClampNeg) - (60 : Int32).toNatClampNeg) - (60 : Int32).toNatClampNeg) - (60 : Int32).toNatClampNeg) - (12 : Int32).toNatClampNeg) - (12 : Int32).toNatClampNeg) - (12 : Int32).toNatClampNeg) - (12 : Int32).toNatClampNeg) - (12 : Int32).toNatClampNeg) - (12 : Int32).toNatClampNeg) - (1452 : Int32).toNatClampNeg) - (1452 : Int32).toNatClampNeg) - (1452 : Int32).toNatClampNeg) - (1452 : Int32).toNatClampNeg) - (1452 : Int32).toNatClampNeg) - (1452 : Int32).toNatClampNeg) - (12 : Int32).toNatClampNeg) - (12 : Int32).toNatClampNeg) - (12 : Int32).toNatClampNeg) - (12 : Int32).toNatClampNeg) fun a_88 t_89 => (xpF t_89 a0 8 35 (.ref a_88) fun t_90 => xnA 1 (.inr (.inl (fun _ => 0))) (12 : Int32) t_90 ((((((((((((((((((((((((((((((rc - 1) - 1) - 1) - 1) - 1) - 1) - 1) - 1) - 1) - 1) - 1) - 1) - 1) - 1) - 1) - 1) - 1) - 1) - 1) - 1) - 1) - 1) - 1) - 1) - 1) - 1) - 1) - 1) - 1) - 1) ((((((((((((((((((((((((((((((rs - (8 : Int32).toNatClampNeg) - (8 : Int32).toNatClampNeg) - (8 : Int32).toNatClampNeg) - (8 : Int32).toNatClampNeg) - (8 : Int32).toNatClampNeg) - (8 : Int32).toNatClampNeg) - (968 : Int32).toNatClampNeg) - (122 : Int32).toNatClampNeg) - (60 : Int32).toNatClampNeg) - (60 : Int32).toNatClampNeg) - (60 : Int32).toNatClampNeg) - (60 : Int32).toNatClampNeg) - (60 : Int32).toNatClampNeg) - (12 : Int32).toNatClampNeg) - (12 : Int32).toNatClampNeg) - (12 : Int32).toNatClampNeg) - (12 : Int32).toNatClampNeg) - (12 : Int32).toNatClampNeg) - (12 : Int32).toNatClampNeg) - (1452 : Int32).toNatClampNeg) - (1452 : Int32).toNatClampNeg) - (1452 : Int32).toNatClampNeg) - (1452 : Int32).toNatClampNeg) - (1452 : Int32).toNatClampNeg) - (1452 : Int32).toNatClampNeg) - (12 : Int32).toNatClampNeg) - (12 : Int32).toNatClampNeg) - (12 : Int32).toNatClampNeg) - (12 : Int32).toNatClampNeg) - (12 : Int32).toNatClampNeg) fun a_91 t_92 => (xpF t_92 a0 8 36 (.ref a_91) fun t_93 => xnA 1 (.inr (.inl (fun _ => 0))) (12 : Int32) t_93 (((((((((((((((((((((((((((((((rc - 1) - 1) - 1) - 1) - 1) - 1) - 1) - 1) - 1) - 1) - 1) - 1) - 1) - 1) - 1) - 1) - 1) - 1) - 1) - 1) - 1) - 1) - 1) - 1) - 1) - 1) - 1) - 1) - 1) - 1) - 1) (((((((((((((((((((((((((((((((rs - (8 : Int32).toNatClampNeg) - (8 : Int32).toNatClampNeg) - (8 : Int32).toNatClampNeg) - (8 : Int32).toNatClampNeg) - (8 : Int32).toNatClampNeg) - (8 : Int32).toNatClampNeg) - (968 : Int32).toNatClampNeg) - (122 : Int32).toNatClampNeg) - (60 : Int32).toNatClampNeg) - (60 : Int32).toNatClampNeg) - (60 : Int32).toNatClampNeg) - (60 : Int32).toNatClampNeg) - (60 : Int32).toNatClampNeg) - (12 : Int32).toNatClampNeg) - (12 : Int32).toNatClampNeg) - (12 : Int32).toNatClampNeg) - (12 : Int32).toNatClampNeg) - (12 : Int32).toNatClampNeg) - (12 : Int32).toNatClampNeg) - (1452 : Int32).toNatClampNeg) - (1452 : Int32).toNatClampNeg) - (1452 : Int32).toNatClampNeg) - (1452 : Int32).toNatClampNeg) - (1452 : Int32).toNatClampNeg) - (1452 : Int32).toNatClampNeg) - (12 : Int32).toNatClampNeg) - (12 : Int32).toNatClampNeg) - (12 : Int32).toNatClampNeg) - (12 : Int32).toNatClampNeg) - (12 : Int32).toNatClampNeg) - (12 : Int32).toNatClampNeg) fun a_94 t_95 => (xpF t_95 a0 8 37 (.ref a_94) fun t_96 => xnA 4 (.inl (fun _ => 0)) (100 : Int32) t_96 ((((((((((((((((((((((((((((((((rc - 1) - 1) - 1) - 1) - 1) - 1) - 1) - 1) - 1) - 1) - 1) - 1) - 1) - 1) - 1) - 1) - 1) - 1) - 1) - 1) - 1) - 1) - 1) - 1) - 1) - 1) - 1) - 1) - 1) - 1) - 1) - 1) ((((((((((((((((((((((((((((((((rs - (8 : Int32).toNatClampNeg) - (8 : Int32).toNatClampNeg) - (8 : Int32).toNatClampNeg) - (8 : Int32).toNatClampNeg) - (8 : Int32).toNatClampNeg) - (8 : Int32).toNatClampNeg) - (968 : Int32).toNatClampNeg) - (122 : Int32).toNatClampNeg) - (60 : Int32).toNatClampNeg) - (60 : Int32).toNatClampNeg) - (60 : Int32).toNatClampNeg) - (60 : Int32).toNatClampNeg) - (60 : Int32).toNatClampNeg) - (12 : Int32).toNatClampNeg) - (12 : Int32).toNatClampNeg) - (12 : Int32).toNatClampNeg) - (12 : Int32).toNatClampNeg) - (12 : Int32).toNatClampNeg) - (12 : Int32).toNatClampNeg) - (1452 : Int32).toNatClampNeg) - (1452 : Int32).toNatClampNeg) - (1452 : Int32).toNatClampNeg) - (1452 : Int32).toNatClampNeg) - (1452 : Int32).toNatClampNeg) - (1452 : Int32).toNatClampNeg) - (12 : Int32).toNatClampNeg) - (12 : Int32).toNatClampNeg) - (12 : Int32).toNatClampNeg) - (12 : Int32).toNatClampNeg) - (12 : Int32).toNatClampNeg) - (12 : Int32).toNatClampNeg) - (12 : Int32).toNatClampNeg) fun a_97 t_98 => (xpF t_98 a0 8 38 (.ref a_97) fun t_99 => xgR t_99 a0 8 10 fun a_100 => xsI 0 t_99 a_100 (0 : Int32) (100 : Int32) fun t_101 => xgR t_101 a0 8 10 fun a_102 => xsI 0 t_101 a_102 (1 : Int32) (100 : Int32) fun t_103 => ∃ f_104 : Nat, V_X8_init_293 K f_104 a0 (0 : Int32) t_103 (((((((((((((((((((((((((((((((((rc - 1) - 1) - 1) - 1) - 1) - 1) - 1) - 1) - 1) - 1) - 1) - 1) - 1) - 1) - 1) - 1) - 1) - 1) - 1) - 1) - 1) - 1) - 1) - 1) - 1) - 1) - 1) - 1) - 1) - 1) - 1) - 1) - 1) (((((((((((((((((((((((((((((((((rs - (8 : Int32).toNatClampNeg) - (8 : Int32).toNatClampNeg) - (8 : Int32).toNatClampNeg) - (8 : Int32).toNatClampNeg) - (8 : Int32).toNatClampNeg) - (8 : Int32).toNatClampNeg) - (968 : Int32).toNatClampNeg) - (122 : Int32).toNatClampNeg) - (60 : Int32).toNatClampNeg) - (60 : Int32).toNatClampNeg) - (60 : Int32).toNatClampNeg) - (60 : Int32).toNatClampNeg) - (60 : Int32).toNatClampNeg) - (12 : Int32).toNatClampNeg) - (12 : Int32).toNatClampNeg) - (12 : Int32).toNatClampNeg) - (12 : Int32).toNatClampNeg) - (12 : Int32).toNatClampNeg) - (12 : Int32).toNatClampNeg) - (1452 : Int32).toNatClampNeg) - (1452 : Int32).toNatClampNeg) - (1452 : Int32).toNatClampNeg) - (1452 : Int32).toNatClampNeg) - (1452 : Int32).toNatClampNeg) - (1452 : Int32).toNatClampNeg) - (12 : Int32).toNatClampNeg) - (12 : Int32).toNatClampNeg) - (12 : Int32).toNatClampNeg) - (12 : Int32).toNatClampNeg) - (12 : Int32).toNatClampNeg) - (12 : Int32).toNatClampNeg) - (12 : Int32).toNatClampNeg) - (100 : Int32).toNatClampNeg))))))))))))))))))))))))))))))))))
set_option maxRecDepth 20000 in
theorem S_X8_init_0 {Γ : xΓ} {K : xT → Prop} (hl : (gl Γ).stackTraces = false) (ht : (gM Γ).sig.returnType = none) (hr : xRet Γ (xKv K)) (hnm : (gM Γ).name = "<init>") {a0 : Nat} {t : xT} {rc rs : Nat} (h : V_X8_init_0 K a0 t rc rs) : xX Γ k_X8_init 0 [(0, .ref a0)] [] t rc rs := by
  unfold V_X8_init_0 at h
  refine x_aload_n 0 dX8_init_0 rfl rfl ?_
  refine x_objInit dX8_init_1 (List.forall_mem_cons.mpr ⟨xw1214, List.forall_mem_cons.mpr ⟨xw89, List.forall_mem_cons.mpr ⟨xw90, fun _ h => absurd h List.not_mem_nil⟩⟩⟩) (by decide) (by decide) (Nat.le_of_ble_eq_true rfl) ?_
  refine x_aload_n 0 dX8_init_4 rfl rfl ?_
  refine x_bipush (v := (8 : Int32)) dX8_init_5 (by decide) ?_
  obtain ⟨q0, qb, q1, q2, h⟩ := h
  refine x_newa0 dX8_init_7 xw127 q0 qb q1 q2 (fun a_1 hq => ?_)
  replace h := h a_1 hq
  generalize hT : xup t a_1 _ = t_2 at h ⊢
  clear hT
  obtain ⟨fs, hf, hk, h⟩ := h
  refine x_putF (v := .ref a_1) dX8_init_9 xp_X8_7 hnm hf rfl rfl hk ?_
  generalize hT : xup t_2 a0 _ = t_3 at h ⊢
  clear hT
  refine x_aload_n 0 dX8_init_12 rfl rfl ?_
  refine x_bipush (v := (8 : Int32)) dX8_init_13 (by decide) ?_
  obtain ⟨q0, qb, q1, q2, h⟩ := h
  refine x_newa0 dX8_init_15 xw127 q0 qb q1 q2 (fun a_4 hq => ?_)
  replace h := h a_4 hq
  generalize hT : xup t_3 a_4 _ = t_5 at h ⊢
  clear hT
  obtain ⟨fs, hf, hk, h⟩ := h
  refine x_putF (v := .ref a_4) dX8_init_17 xp_X8_13 hnm hf rfl rfl hk ?_
  generalize hT : xup t_5 a0 _ = t_6 at h ⊢
  clear hT
  refine x_aload_n 0 dX8_init_20 rfl rfl ?_
  refine x_bipush (v := (8 : Int32)) dX8_init_21 (by decide) ?_
  obtain ⟨q0, qb, q1, q2, h⟩ := h
  refine x_newa0 dX8_init_23 xw127 q0 qb q1 q2 (fun a_7 hq => ?_)
  replace h := h a_7 hq
  generalize hT : xup t_6 a_7 _ = t_8 at h ⊢
  clear hT
  obtain ⟨fs, hf, hk, h⟩ := h
  refine x_putF (v := .ref a_7) dX8_init_25 xp_X8_16 hnm hf rfl rfl hk ?_
  generalize hT : xup t_8 a0 _ = t_9 at h ⊢
  clear hT
  refine x_aload_n 0 dX8_init_28 rfl rfl ?_
  refine x_bipush (v := (8 : Int32)) dX8_init_29 (by decide) ?_
  obtain ⟨q0, qb, q1, q2, h⟩ := h
  refine x_newa0 dX8_init_31 xw127 q0 qb q1 q2 (fun a_10 hq => ?_)
  replace h := h a_10 hq
  generalize hT : xup t_9 a_10 _ = t_11 at h ⊢
  clear hT
  obtain ⟨fs, hf, hk, h⟩ := h
  refine x_putF (v := .ref a_10) dX8_init_33 xp_X8_19 hnm hf rfl rfl hk ?_
  generalize hT : xup t_11 a0 _ = t_12 at h ⊢
  clear hT
  refine x_aload_n 0 dX8_init_36 rfl rfl ?_
  refine x_bipush (v := (8 : Int32)) dX8_init_37 (by decide) ?_
  obtain ⟨q0, qb, q1, q2, h⟩ := h
  refine x_newa0 dX8_init_39 xw127 q0 qb q1 q2 (fun a_13 hq => ?_)
  replace h := h a_13 hq
  generalize hT : xup t_12 a_13 _ = t_14 at h ⊢
  clear hT
  obtain ⟨fs, hf, hk, h⟩ := h
  refine x_putF (v := .ref a_13) dX8_init_41 xp_X8_22 hnm hf rfl rfl hk ?_
  generalize hT : xup t_14 a0 _ = t_15 at h ⊢
  clear hT
  refine x_aload_n 0 dX8_init_44 rfl rfl ?_
  refine x_bipush (v := (8 : Int32)) dX8_init_45 (by decide) ?_
  obtain ⟨q0, qb, q1, q2, h⟩ := h
  refine x_newa0 dX8_init_47 xw127 q0 qb q1 q2 (fun a_16 hq => ?_)
  replace h := h a_16 hq
  generalize hT : xup t_15 a_16 _ = t_17 at h ⊢
  clear hT
  obtain ⟨fs, hf, hk, h⟩ := h
  refine x_putF (v := .ref a_16) dX8_init_49 xp_X8_25 hnm hf rfl rfl hk ?_
  generalize hT : xup t_17 a0 _ = t_18 at h ⊢
  clear hT
  refine x_aload_n 0 dX8_init_52 rfl rfl ?_
  refine x_sipush (v := (968 : Int32)) dX8_init_53 (by decide) ?_
  obtain ⟨q0, qb, q1, q2, h⟩ := h
  refine x_newa0 dX8_init_56 xw127 q0 qb q1 q2 (fun a_19 hq => ?_)
  replace h := h a_19 hq
  generalize hT : xup t_18 a_19 _ = t_20 at h ⊢
  clear hT
  obtain ⟨fs, hf, hk, h⟩ := h
  refine x_putF (v := .ref a_19) dX8_init_58 xp_X8_28 hnm hf rfl rfl hk ?_
  generalize hT : xup t_20 a0 _ = t_21 at h ⊢
  clear hT
  refine x_aload_n 0 dX8_init_61 rfl rfl ?_
  refine x_bipush (v := (122 : Int32)) dX8_init_62 (by decide) ?_
  obtain ⟨q0, qb, q1, q2, h⟩ := h
  refine x_newa0 dX8_init_64 xw127 q0 qb q1 q2 (fun a_22 hq => ?_)
  replace h := h a_22 hq
  generalize hT : xup t_21 a_22 _ = t_23 at h ⊢
  clear hT
  obtain ⟨fs, hf, hk, h⟩ := h
  refine x_putF (v := .ref a_22) dX8_init_66 xp_X8_31 hnm hf rfl rfl hk ?_
  generalize hT : xup t_23 a0 _ = t_24 at h ⊢
  clear hT
  refine x_aload_n 0 dX8_init_69 rfl rfl ?_
  refine x_bipush (v := (60 : Int32)) dX8_init_70 (by decide) ?_
  obtain ⟨q0, qb, q1, q2, h⟩ := h
  refine x_newa0 dX8_init_72 xw127 q0 qb q1 q2 (fun a_25 hq => ?_)
  replace h := h a_25 hq
  generalize hT : xup t_24 a_25 _ = t_26 at h ⊢
  clear hT
  obtain ⟨fs, hf, hk, h⟩ := h
  refine x_putF (v := .ref a_25) dX8_init_74 xp_X8_34 hnm hf rfl rfl hk ?_
  generalize hT : xup t_26 a0 _ = t_27 at h ⊢
  clear hT
  refine x_aload_n 0 dX8_init_77 rfl rfl ?_
  refine x_bipush (v := (60 : Int32)) dX8_init_78 (by decide) ?_
  obtain ⟨q0, qb, q1, q2, h⟩ := h
  refine x_newa0 dX8_init_80 xw127 q0 qb q1 q2 (fun a_28 hq => ?_)
  replace h := h a_28 hq
  generalize hT : xup t_27 a_28 _ = t_29 at h ⊢
  clear hT
  obtain ⟨fs, hf, hk, h⟩ := h
  refine x_putF (v := .ref a_28) dX8_init_82 xp_X8_37 hnm hf rfl rfl hk ?_
  generalize hT : xup t_29 a0 _ = t_30 at h ⊢
  clear hT
  refine x_aload_n 0 dX8_init_85 rfl rfl ?_
  refine x_bipush (v := (60 : Int32)) dX8_init_86 (by decide) ?_
  obtain ⟨q0, qb, q1, q2, h⟩ := h
  refine x_newa0 dX8_init_88 xw127 q0 qb q1 q2 (fun a_31 hq => ?_)
  replace h := h a_31 hq
  generalize hT : xup t_30 a_31 _ = t_32 at h ⊢
  clear hT
  obtain ⟨fs, hf, hk, h⟩ := h
  refine x_putF (v := .ref a_31) dX8_init_90 xp_X8_40 hnm hf rfl rfl hk ?_
  generalize hT : xup t_32 a0 _ = t_33 at h ⊢
  clear hT
  refine x_aload_n 0 dX8_init_93 rfl rfl ?_
  refine x_bipush (v := (60 : Int32)) dX8_init_94 (by decide) ?_
  obtain ⟨q0, qb, q1, q2, h⟩ := h
  refine x_newa0 dX8_init_96 xw127 q0 qb q1 q2 (fun a_34 hq => ?_)
  replace h := h a_34 hq
  generalize hT : xup t_33 a_34 _ = t_35 at h ⊢
  clear hT
  obtain ⟨fs, hf, hk, h⟩ := h
  refine x_putF (v := .ref a_34) dX8_init_98 xp_X8_43 hnm hf rfl rfl hk ?_
  generalize hT : xup t_35 a0 _ = t_36 at h ⊢
  clear hT
  refine x_aload_n 0 dX8_init_101 rfl rfl ?_
  refine x_bipush (v := (60 : Int32)) dX8_init_102 (by decide) ?_
  obtain ⟨q0, qb, q1, q2, h⟩ := h
  refine x_newa2 dX8_init_104 xw1336 q0 qb q1 q2 (fun a_37 hq => ?_)
  replace h := h a_37 hq
  generalize hT : xup t_36 a_37 _ = t_38 at h ⊢
  clear hT
  obtain ⟨fs, hf, hk, h⟩ := h
  refine x_putF (v := .ref a_37) dX8_init_106 xp_X8_46 hnm hf rfl rfl hk ?_
  generalize hT : xup t_38 a0 _ = t_39 at h ⊢
  clear hT
  refine x_aload_n 0 dX8_init_109 rfl rfl ?_
  refine x_bipush (v := (12 : Int32)) dX8_init_110 (by decide) ?_
  obtain ⟨q0, qb, q1, q2, h⟩ := h
  refine x_newa0 dX8_init_112 xw127 q0 qb q1 q2 (fun a_40 hq => ?_)
  replace h := h a_40 hq
  generalize hT : xup t_39 a_40 _ = t_41 at h ⊢
  clear hT
  obtain ⟨fs, hf, hk, h⟩ := h
  refine x_putF (v := .ref a_40) dX8_init_114 xp_X8_50 hnm hf rfl rfl hk ?_
  generalize hT : xup t_41 a0 _ = t_42 at h ⊢
  clear hT
  refine x_aload_n 0 dX8_init_117 rfl rfl ?_
  refine x_bipush (v := (12 : Int32)) dX8_init_118 (by decide) ?_
  obtain ⟨q0, qb, q1, q2, h⟩ := h
  refine x_newa0 dX8_init_120 xw127 q0 qb q1 q2 (fun a_43 hq => ?_)
  replace h := h a_43 hq
  generalize hT : xup t_42 a_43 _ = t_44 at h ⊢
  clear hT
  obtain ⟨fs, hf, hk, h⟩ := h
  refine x_putF (v := .ref a_43) dX8_init_122 xp_X8_53 hnm hf rfl rfl hk ?_
  generalize hT : xup t_44 a0 _ = t_45 at h ⊢
  clear hT
  refine x_aload_n 0 dX8_init_125 rfl rfl ?_
  refine x_bipush (v := (12 : Int32)) dX8_init_126 (by decide) ?_
  obtain ⟨q0, qb, q1, q2, h⟩ := h
  refine x_newa0 dX8_init_128 xw127 q0 qb q1 q2 (fun a_46 hq => ?_)
  replace h := h a_46 hq
  generalize hT : xup t_45 a_46 _ = t_47 at h ⊢
  clear hT
  obtain ⟨fs, hf, hk, h⟩ := h
  refine x_putF (v := .ref a_46) dX8_init_130 xp_X8_56 hnm hf rfl rfl hk ?_
  generalize hT : xup t_47 a0 _ = t_48 at h ⊢
  clear hT
  refine x_aload_n 0 dX8_init_133 rfl rfl ?_
  refine x_bipush (v := (12 : Int32)) dX8_init_134 (by decide) ?_
  obtain ⟨q0, qb, q1, q2, h⟩ := h
  refine x_newa0 dX8_init_136 xw127 q0 qb q1 q2 (fun a_49 hq => ?_)
  replace h := h a_49 hq
  generalize hT : xup t_48 a_49 _ = t_50 at h ⊢
  clear hT
  obtain ⟨fs, hf, hk, h⟩ := h
  refine x_putF (v := .ref a_49) dX8_init_138 xp_X8_59 hnm hf rfl rfl hk ?_
  generalize hT : xup t_50 a0 _ = t_51 at h ⊢
  clear hT
  refine x_aload_n 0 dX8_init_141 rfl rfl ?_
  refine x_bipush (v := (12 : Int32)) dX8_init_142 (by decide) ?_
  obtain ⟨q0, qb, q1, q2, h⟩ := h
  refine x_newa1 dX8_init_144 xw1337 q0 qb q1 q2 (fun a_52 hq => ?_)
  replace h := h a_52 hq
  generalize hT : xup t_51 a_52 _ = t_53 at h ⊢
  clear hT
  obtain ⟨fs, hf, hk, h⟩ := h
  refine x_putF (v := .ref a_52) dX8_init_146 xp_X8_62 hnm hf rfl rfl hk ?_
  generalize hT : xup t_53 a0 _ = t_54 at h ⊢
  clear hT
  refine x_aload_n 0 dX8_init_149 rfl rfl ?_
  refine x_bipush (v := (12 : Int32)) dX8_init_150 (by decide) ?_
  obtain ⟨q0, qb, q1, q2, h⟩ := h
  refine x_newa1 dX8_init_152 xw1337 q0 qb q1 q2 (fun a_55 hq => ?_)
  replace h := h a_55 hq
  generalize hT : xup t_54 a_55 _ = t_56 at h ⊢
  clear hT
  obtain ⟨fs, hf, hk, h⟩ := h
  refine x_putF (v := .ref a_55) dX8_init_154 xp_X8_66 hnm hf rfl rfl hk ?_
  generalize hT : xup t_56 a0 _ = t_57 at h ⊢
  clear hT
  refine x_aload_n 0 dX8_init_157 rfl rfl ?_
  refine x_sipush (v := (1452 : Int32)) dX8_init_158 (by decide) ?_
  obtain ⟨q0, qb, q1, q2, h⟩ := h
  refine x_newa0 dX8_init_161 xw127 q0 qb q1 q2 (fun a_58 hq => ?_)
  replace h := h a_58 hq
  generalize hT : xup t_57 a_58 _ = t_59 at h ⊢
  clear hT
  obtain ⟨fs, hf, hk, h⟩ := h
  refine x_putF (v := .ref a_58) dX8_init_163 xp_X8_69 hnm hf rfl rfl hk ?_
  generalize hT : xup t_59 a0 _ = t_60 at h ⊢
  clear hT
  refine x_aload_n 0 dX8_init_166 rfl rfl ?_
  refine x_sipush (v := (1452 : Int32)) dX8_init_167 (by decide) ?_
  obtain ⟨q0, qb, q1, q2, h⟩ := h
  refine x_newa2 dX8_init_170 xw1336 q0 qb q1 q2 (fun a_61 hq => ?_)
  replace h := h a_61 hq
  generalize hT : xup t_60 a_61 _ = t_62 at h ⊢
  clear hT
  obtain ⟨fs, hf, hk, h⟩ := h
  refine x_putF (v := .ref a_61) dX8_init_172 xp_X8_72 hnm hf rfl rfl hk ?_
  generalize hT : xup t_62 a0 _ = t_63 at h ⊢
  clear hT
  refine x_aload_n 0 dX8_init_175 rfl rfl ?_
  refine x_sipush (v := (1452 : Int32)) dX8_init_176 (by decide) ?_
  obtain ⟨q0, qb, q1, q2, h⟩ := h
  refine x_newa0 dX8_init_179 xw127 q0 qb q1 q2 (fun a_64 hq => ?_)
  replace h := h a_64 hq
  generalize hT : xup t_63 a_64 _ = t_65 at h ⊢
  clear hT
  obtain ⟨fs, hf, hk, h⟩ := h
  refine x_putF (v := .ref a_64) dX8_init_181 xp_X8_75 hnm hf rfl rfl hk ?_
  generalize hT : xup t_65 a0 _ = t_66 at h ⊢
  clear hT
  refine x_aload_n 0 dX8_init_184 rfl rfl ?_
  refine x_sipush (v := (1452 : Int32)) dX8_init_185 (by decide) ?_
  obtain ⟨q0, qb, q1, q2, h⟩ := h
  refine x_newa0 dX8_init_188 xw127 q0 qb q1 q2 (fun a_67 hq => ?_)
  replace h := h a_67 hq
  generalize hT : xup t_66 a_67 _ = t_68 at h ⊢
  clear hT
  obtain ⟨fs, hf, hk, h⟩ := h
  refine x_putF (v := .ref a_67) dX8_init_190 xp_X8_78 hnm hf rfl rfl hk ?_
  generalize hT : xup t_68 a0 _ = t_69 at h ⊢
  clear hT
  refine x_aload_n 0 dX8_init_193 rfl rfl ?_
  refine x_sipush (v := (1452 : Int32)) dX8_init_194 (by decide) ?_
  obtain ⟨q0, qb, q1, q2, h⟩ := h
  refine x_newa0 dX8_init_197 xw127 q0 qb q1 q2 (fun a_70 hq => ?_)
  replace h := h a_70 hq
  generalize hT : xup t_69 a_70 _ = t_71 at h ⊢
  clear hT
  obtain ⟨fs, hf, hk, h⟩ := h
  refine x_putF (v := .ref a_70) dX8_init_199 xp_X8_81 hnm hf rfl rfl hk ?_
  generalize hT : xup t_71 a0 _ = t_72 at h ⊢
  clear hT
  refine x_aload_n 0 dX8_init_202 rfl rfl ?_
  refine x_sipush (v := (1452 : Int32)) dX8_init_203 (by decide) ?_
  obtain ⟨q0, qb, q1, q2, h⟩ := h
  refine x_newa0 dX8_init_206 xw127 q0 qb q1 q2 (fun a_73 hq => ?_)
  replace h := h a_73 hq
  generalize hT : xup t_72 a_73 _ = t_74 at h ⊢
  clear hT
  obtain ⟨fs, hf, hk, h⟩ := h
  refine x_putF (v := .ref a_73) dX8_init_208 xp_X8_84 hnm hf rfl rfl hk ?_
  generalize hT : xup t_74 a0 _ = t_75 at h ⊢
  clear hT
  refine x_aload_n 0 dX8_init_211 rfl rfl ?_
  refine x_bipush (v := (12 : Int32)) dX8_init_212 (by decide) ?_
  obtain ⟨q0, qb, q1, q2, h⟩ := h
  refine x_newa0 dX8_init_214 xw127 q0 qb q1 q2 (fun a_76 hq => ?_)
  replace h := h a_76 hq
  generalize hT : xup t_75 a_76 _ = t_77 at h ⊢
  clear hT
  obtain ⟨fs, hf, hk, h⟩ := h
  refine x_putF (v := .ref a_76) dX8_init_216 xp_X8_87 hnm hf rfl rfl hk ?_
  generalize hT : xup t_77 a0 _ = t_78 at h ⊢
  clear hT
  refine x_aload_n 0 dX8_init_219 rfl rfl ?_
  refine x_bipush (v := (12 : Int32)) dX8_init_220 (by decide) ?_
  obtain ⟨q0, qb, q1, q2, h⟩ := h
  refine x_newa1 dX8_init_222 xw1337 q0 qb q1 q2 (fun a_79 hq => ?_)
  replace h := h a_79 hq
  generalize hT : xup t_78 a_79 _ = t_80 at h ⊢
  clear hT
  obtain ⟨fs, hf, hk, h⟩ := h
  refine x_putF (v := .ref a_79) dX8_init_224 xp_X8_90 hnm hf rfl rfl hk ?_
  generalize hT : xup t_80 a0 _ = t_81 at h ⊢
  clear hT
  refine x_aload_n 0 dX8_init_227 rfl rfl ?_
  refine x_bipush (v := (12 : Int32)) dX8_init_228 (by decide) ?_
  obtain ⟨q0, qb, q1, q2, h⟩ := h
  refine x_newa1 dX8_init_230 xw1337 q0 qb q1 q2 (fun a_82 hq => ?_)
  replace h := h a_82 hq
  generalize hT : xup t_81 a_82 _ = t_83 at h ⊢
  clear hT
  obtain ⟨fs, hf, hk, h⟩ := h
  refine x_putF (v := .ref a_82) dX8_init_232 xp_X8_93 hnm hf rfl rfl hk ?_
  generalize hT : xup t_83 a0 _ = t_84 at h ⊢
  clear hT
  refine x_aload_n 0 dX8_init_235 rfl rfl ?_
  refine x_bipush (v := (12 : Int32)) dX8_init_236 (by decide) ?_
  obtain ⟨q0, qb, q1, q2, h⟩ := h
  refine x_newa0 dX8_init_238 xw127 q0 qb q1 q2 (fun a_85 hq => ?_)
  replace h := h a_85 hq
  generalize hT : xup t_84 a_85 _ = t_86 at h ⊢
  clear hT
  obtain ⟨fs, hf, hk, h⟩ := h
  refine x_putF (v := .ref a_85) dX8_init_240 xp_X8_96 hnm hf rfl rfl hk ?_
  generalize hT : xup t_86 a0 _ = t_87 at h ⊢
  clear hT
  refine x_aload_n 0 dX8_init_243 rfl rfl ?_
  refine x_bipush (v := (12 : Int32)) dX8_init_244 (by decide) ?_
  obtain ⟨q0, qb, q1, q2, h⟩ := h
  refine x_newa1 dX8_init_246 xw1337 q0 qb q1 q2 (fun a_88 hq => ?_)
  replace h := h a_88 hq
  generalize hT : xup t_87 a_88 _ = t_89 at h ⊢
  clear hT
  obtain ⟨fs, hf, hk, h⟩ := h
  refine x_putF (v := .ref a_88) dX8_init_248 xp_X8_99 hnm hf rfl rfl hk ?_
  generalize hT : xup t_89 a0 _ = t_90 at h ⊢
  clear hT
  refine x_aload_n 0 dX8_init_251 rfl rfl ?_
  refine x_bipush (v := (12 : Int32)) dX8_init_252 (by decide) ?_
  obtain ⟨q0, qb, q1, q2, h⟩ := h
  refine x_newa1 dX8_init_254 xw1337 q0 qb q1 q2 (fun a_91 hq => ?_)
  replace h := h a_91 hq
  generalize hT : xup t_90 a_91 _ = t_92 at h ⊢
  clear hT
  obtain ⟨fs, hf, hk, h⟩ := h
  refine x_putF (v := .ref a_91) dX8_init_256 xp_X8_102 hnm hf rfl rfl hk ?_
  generalize hT : xup t_92 a0 _ = t_93 at h ⊢
  clear hT
  refine x_aload_n 0 dX8_init_259 rfl rfl ?_
  refine x_bipush (v := (12 : Int32)) dX8_init_260 (by decide) ?_
  obtain ⟨q0, qb, q1, q2, h⟩ := h
  refine x_newa1 dX8_init_262 xw1337 q0 qb q1 q2 (fun a_94 hq => ?_)
  replace h := h a_94 hq
  generalize hT : xup t_93 a_94 _ = t_95 at h ⊢
  clear hT
  obtain ⟨fs, hf, hk, h⟩ := h
  refine x_putF (v := .ref a_94) dX8_init_264 xp_X8_105 hnm hf rfl rfl hk ?_
  generalize hT : xup t_95 a0 _ = t_96 at h ⊢
  clear hT
  refine x_aload_n 0 dX8_init_267 rfl rfl ?_
  refine x_bipush (v := (100 : Int32)) dX8_init_268 (by decide) ?_
  obtain ⟨q0, qb, q1, q2, h⟩ := h
  refine x_newa4 dX8_init_270 xw1338 q0 qb q1 q2 (fun a_97 hq => ?_)
  replace h := h a_97 hq
  generalize hT : xup t_96 a_97 _ = t_98 at h ⊢
  clear hT
  obtain ⟨fs, hf, hk, h⟩ := h
  refine x_putF (v := .ref a_97) dX8_init_272 xp_X8_108 hnm hf rfl rfl hk ?_
  generalize hT : xup t_98 a0 _ = t_99 at h ⊢
  clear hT
  refine x_aload_n 0 dX8_init_275 rfl rfl ?_
  obtain ⟨fs, hf, a_100, hv, h⟩ := h
  refine x_get dX8_init_276 xf_X8_31 hf hv ?_
  refine x_iconst (v := (0 : Int32)) dX8_init_279 (by decide) ?_
  refine x_bipush (v := (100 : Int32)) dX8_init_280 (by decide) ?_
  obtain ⟨n, f, hf, hi, h⟩ := h
  refine x_iast dX8_init_282 hf hi ?_
  generalize hT : xup t_99 a_100 _ = t_101 at h ⊢
  clear hT
  refine x_aload_n 0 dX8_init_283 rfl rfl ?_
  obtain ⟨fs, hf, a_102, hv, h⟩ := h
  refine x_get dX8_init_284 xf_X8_31 hf hv ?_
  refine x_iconst (v := (1 : Int32)) dX8_init_287 (by decide) ?_
  refine x_bipush (v := (100 : Int32)) dX8_init_288 (by decide) ?_
  obtain ⟨n, f, hf, hi, h⟩ := h
  refine x_iast dX8_init_290 hf hi ?_
  generalize hT : xup t_101 a_102 _ = t_103 at h ⊢
  clear hT
  refine x_iconst (v := (0 : Int32)) dX8_init_291 (by decide) ?_
  refine x_istore_n (L' := [(1, .int (0 : Int32)), (0, .ref a0)]) dX8_init_292 rfl (by decide) rfl ?_
  obtain ⟨f_104, h⟩ := h
  refine x_sub (L' := [(0, .ref a0), (1, .int (0 : Int32))]) [1, 0] rfl ?_
  exact S_X8_init_293 hl ht hr hnm  f_104 a0 (0 : Int32) t_103 (((((((((((((((((((((((((((((((((rc - 1) - 1) - 1) - 1) - 1) - 1) - 1) - 1) - 1) - 1) - 1) - 1) - 1) - 1) - 1) - 1) - 1) - 1) - 1) - 1) - 1) - 1) - 1) - 1) - 1) - 1) - 1) - 1) - 1) - 1) - 1) - 1) - 1) (((((((((((((((((((((((((((((((((rs - (8 : Int32).toNatClampNeg) - (8 : Int32).toNatClampNeg) - (8 : Int32).toNatClampNeg) - (8 : Int32).toNatClampNeg) - (8 : Int32).toNatClampNeg) - (8 : Int32).toNatClampNeg) - (968 : Int32).toNatClampNeg) - (122 : Int32).toNatClampNeg) - (60 : Int32).toNatClampNeg) - (60 : Int32).toNatClampNeg) - (60 : Int32).toNatClampNeg) - (60 : Int32).toNatClampNeg) - (60 : Int32).toNatClampNeg) - (12 : Int32).toNatClampNeg) - (12 : Int32).toNatClampNeg) - (12 : Int32).toNatClampNeg) - (12 : Int32).toNatClampNeg) - (12 : Int32).toNatClampNeg) - (12 : Int32).toNatClampNeg) - (1452 : Int32).toNatClampNeg) - (1452 : Int32).toNatClampNeg) - (1452 : Int32).toNatClampNeg) - (1452 : Int32).toNatClampNeg) - (1452 : Int32).toNatClampNeg) - (1452 : Int32).toNatClampNeg) - (12 : Int32).toNatClampNeg) - (12 : Int32).toNatClampNeg) - (12 : Int32).toNatClampNeg) - (12 : Int32).toNatClampNeg) - (12 : Int32).toNatClampNeg) - (12 : Int32).toNatClampNeg) - (12 : Int32).toNatClampNeg) - (100 : Int32).toNatClampNeg) h
theorem M_X8_init {l : Launch} {G : xG} (hl : l.stackTraces = false) {a0 : Nat} {t : xT} {K : xT → Prop} {rc rs : Nat} (h : V_X8_init_0 K a0 t rc rs) : xMet l G yX8_init k_X8_init none [.ref a0] t (xKv K) rc rs := xMet.of (by decide +kernel) rfl hl (Nat.le_of_ble_eq_true rfl) (fun Γ e1 e2 ht hn hr => by subst e1; subst e2; exact S_X8_init_0 hl ht hr hn h)
/-! RentStreamModel.adds(I)V -/
def V_X8_adds_0 (K : xT → Prop) (a0 : Nat) (x1 : Int32) (t : xT) : Prop :=
  xgR t a0 8 38 fun a_1 => xgI t a0 8 39 fun x_2 => xsI 4 t a_1 x_2 (vp_nar .char (x1.toUInt32 % 65536).toInt32) fun t_3 => xgI t_3 a0 8 39 fun x_4 => (xpF t_3 a0 8 39 (.int (x_4 + (1 : Int32))) fun t_5 => K t_5)
set_option maxRecDepth 20000 in
theorem S_X8_adds_0 {Γ : xΓ} {K : xT → Prop} (hl : (gl Γ).stackTraces = false) (ht : (gM Γ).sig.returnType = none) (hr : xRet Γ (xKv K)) {a0 : Nat} {x1 : Int32} {t : xT} {rc rs : Nat} (h : V_X8_adds_0 K a0 x1 t) : xX Γ k_X8_adds 0 [(0, .ref a0), (1, .int x1)] [] t rc rs := by
  unfold V_X8_adds_0 at h
  refine x_aload_n 0 dX8_adds_0 rfl rfl ?_
  obtain ⟨fs, hf, a_1, hv, h⟩ := h
  refine x_get dX8_adds_1 xf_X8_108 hf hv ?_
  refine x_aload_n 0 dX8_adds_4 rfl rfl ?_
  obtain ⟨fs, hf, x_2, hv, h⟩ := h
  refine x_get dX8_adds_5 xf_X8_218 hf hv ?_
  refine x_iload_n 1 dX8_adds_8 rfl rfl ?_
  refine x_i2c dX8_adds_9 ?_
  obtain ⟨n, f, hf, hi, h⟩ := h
  refine x_cast dX8_adds_10 hf hi ?_
  generalize hT : xup t a_1 _ = t_3 at h ⊢
  clear hT
  refine x_aload_n 0 dX8_adds_11 rfl rfl ?_
  refine x_dup dX8_adds_12 rfl ?_
  obtain ⟨fs, hf, x_4, hv, h⟩ := h
  refine x_get dX8_adds_13 xf_X8_218 hf hv ?_
  refine x_iconst (v := (1 : Int32)) dX8_adds_16 (by decide) ?_
  refine x_iadd dX8_adds_17 ?_
  obtain ⟨fs, hf, hk, h⟩ := h
  refine x_put (v := .int (x_4 + (1 : Int32))) dX8_adds_18 xp_X8_218 hf rfl rfl hk ?_
  generalize hT : xup t_3 a0 _ = t_5 at h ⊢
  clear hT
  exact x_vret dX8_adds_21 hr ht ⟨rfl, h⟩
theorem M_X8_adds {l : Launch} {G : xG} (hl : l.stackTraces = false) {a0 : Nat} {x1 : Int32} {t : xT} {K : xT → Prop} (h : V_X8_adds_0 K a0 x1 t) : xMet l G yX8_adds k_X8_adds none [.ref a0, .int x1] t (xKv K) 0 0 := xMet.of (by decide +kernel) rfl hl (Nat.le_of_ble_eq_true rfl) (fun Γ e1 e2 ht hn hr => by subst e1; subst e2; exact S_X8_adds_0 hl ht hr h)
/-! RentStreamModel.powerOf(I)I -/
def VS_X8_powerOf_4 (R4 : Int32 → Int32 → Int32 → xT → Prop) (K : Int32 → xT → Prop) (x0 : Int32) (x1 : Int32) (x2 : Int32) (t : xT) : Prop :=
  ((x0 ≤ x2 → K x1 t) ∧ (¬ x0 ≤ x2 → R4 x0 (x1 * (10 : Int32)) (x2 + 1) t))
def V_X8_powerOf_4 (K : Int32 → xT → Prop) (n : Nat) : Int32 → Int32 → Int32 → xT → Prop := Nat.rec (fun _ _ _ _ => False) (fun _ ih => VS_X8_powerOf_4 ih K) n
set_option maxRecDepth 20000 in
theorem S_X8_powerOf_4 {Γ : xΓ} {K : Int32 → xT → Prop} (hl : (gl Γ).stackTraces = false) (ht : (gM Γ).sig.returnType = (some .int)) (hr : xRet Γ (xKi K)) : ∀ (n : Nat) (x0 : Int32) (x1 : Int32) (x2 : Int32) (t : xT) (rc rs : Nat), V_X8_powerOf_4 K n x0 x1 x2 t → xX Γ k_X8_powerOf 4 [(0, .int x0), (1, .int x1), (2, .int x2)] [] t rc rs := by
  intro n
  induction n with
  | zero =>
    intro x0 x1 x2 t rc rs h
    exact h.elim
  | succ n ih =>
    intro x0 x1 x2 t rc rs h
    replace h : VS_X8_powerOf_4 (V_X8_powerOf_4 K n) K x0 x1 x2 t := h
    unfold VS_X8_powerOf_4 at h
    refine x_iload_n 2 dX8_powerOf_4 rfl rfl ?_
    refine x_iload_n 0 dX8_powerOf_5 rfl rfl ?_
    obtain ⟨h1, h2⟩ := h
    refine x_icmp_ge (tgt := 20) dX8_powerOf_6 (by decide) (fun q => ?_) (fun q => ?_)
    · have h := h1 q
      refine x_iload_n 1 dX8_powerOf_20 rfl rfl ?_
      exact x_zret dX8_powerOf_21 hr ht rfl ⟨_, rfl, h⟩
    · have h := h2 q
      refine x_iload_n 1 dX8_powerOf_9 rfl rfl ?_
      refine x_bipush (v := (10 : Int32)) dX8_powerOf_10 (by decide) ?_
      refine x_imul dX8_powerOf_12 ?_
      refine x_istore_n (L' := [(1, .int (x1 * (10 : Int32))), (0, .int x0), (2, .int x2)]) dX8_powerOf_13 rfl (by decide) rfl ?_
      refine x_iinc (v := (x2 + 1)) (L' := [(2, .int (x2 + 1)), (1, .int (x1 * (10 : Int32))), (0, .int x0)]) (j := 2) dX8_powerOf_14 rfl rfl (by decide) rfl ?_
      refine x_goto (tgt := 4) dX8_powerOf_17 (by decide) ?_
      refine x_sub (L' := [(0, .int x0), (1, .int (x1 * (10 : Int32))), (2, .int (x2 + 1))]) [2, 1, 0] rfl ?_
      exact ih x0 (x1 * (10 : Int32)) (x2 + 1) t _ _ h
def V_X8_powerOf_0 (K : Int32 → xT → Prop) (x0 : Int32) (t : xT) : Prop :=
  ∃ f_1 : Nat, V_X8_powerOf_4 K f_1 x0 (1 : Int32) (0 : Int32) t
set_option maxRecDepth 20000 in
theorem S_X8_powerOf_0 {Γ : xΓ} {K : Int32 → xT → Prop} (hl : (gl Γ).stackTraces = false) (ht : (gM Γ).sig.returnType = (some .int)) (hr : xRet Γ (xKi K)) {x0 : Int32} {t : xT} {rc rs : Nat} (h : V_X8_powerOf_0 K x0 t) : xX Γ k_X8_powerOf 0 [(0, .int x0)] [] t rc rs := by
  unfold V_X8_powerOf_0 at h
  refine x_iconst (v := (1 : Int32)) dX8_powerOf_0 (by decide) ?_
  refine x_istore_n (L' := [(1, .int (1 : Int32)), (0, .int x0)]) dX8_powerOf_1 rfl (by decide) rfl ?_
  refine x_iconst (v := (0 : Int32)) dX8_powerOf_2 (by decide) ?_
  refine x_istore_n (L' := [(2, .int (0 : Int32)), (1, .int (1 : Int32)), (0, .int x0)]) dX8_powerOf_3 rfl (by decide) rfl ?_
  obtain ⟨f_1, h⟩ := h
  refine x_sub (L' := [(0, .int x0), (1, .int (1 : Int32)), (2, .int (0 : Int32))]) [2, 1, 0] rfl ?_
  exact S_X8_powerOf_4 hl ht hr  f_1 x0 (1 : Int32) (0 : Int32) t _ _ h
theorem M_X8_powerOf {l : Launch} {G : xG} (hl : l.stackTraces = false) {x0 : Int32} {t : xT} {K : Int32 → xT → Prop} (h : V_X8_powerOf_0 K x0 t) : xMet l G yX8_powerOf k_X8_powerOf (some .int) [.int x0] t (xKi K) 0 0 := xMet.of (by decide +kernel) rfl hl (Nat.le_of_ble_eq_true rfl) (fun Γ e1 e2 ht hn hr => by subst e1; subst e2; exact S_X8_powerOf_0 hl ht hr h)
/-! RentStreamModel.addsAmount(II)V -/
def VS_X8_addsAmount_48 (R48 : Nat → Int32 → Int32 → Int32 → xT → Prop) (K : xT → Prop) (a0 : Nat) (x2 : Int32) (x3 : Int32) (x5 : Int32) (t : xT) : Prop :=
  ((x5 < 0 → (xis t a0 8 ∧ V_X8_adds_0 (fun t_1 => (¬ (10 : Int32) = 0 ∧ (¬ (10 : Int32) = 0 ∧ (xis t_1 a0 8 ∧ V_X8_adds_0 (fun t_2 => (¬ (10 : Int32) = 0 ∧ (xis t_2 a0 8 ∧ V_X8_adds_0 (fun t_3 => K t_3) a0 ((48 : Int32) + (xrem x2 (10 : Int32))) t_2))) a0 ((48 : Int32) + (xrem (x2 / (10 : Int32)) (10 : Int32))) t_1)))) a0 (44 : Int32) t)) ∧ (¬ x5 < 0 → (V_X8_powerOf_0 (fun x_5 t_4 => (¬ x_5 = 0 ∧ (¬ (10 : Int32) = 0 ∧ (xis t_4 a0 8 ∧ V_X8_adds_0 (fun t_6 => ((x5 ≤ 0 → R48 a0 x2 x3 (x5 + (-1 : Int32)) t_6) ∧ (¬ x5 ≤ 0 → (¬ (3 : Int32) = 0 ∧ ((¬ (xrem x5 (3 : Int32)) = 0 → R48 a0 x2 x3 (x5 + (-1 : Int32)) t_6) ∧ ((xrem x5 (3 : Int32)) = 0 → (xis t_6 a0 8 ∧ V_X8_adds_0 (fun t_7 => R48 a0 x2 x3 (x5 + (-1 : Int32)) t_7) a0 (46 : Int32) t_6))))))) a0 ((48 : Int32) + (xrem (x3 / x_5) (10 : Int32))) t_4)))) x5 t)))
def V_X8_addsAmount_48 (K : xT → Prop) (n : Nat) : Nat → Int32 → Int32 → Int32 → xT → Prop := Nat.rec (fun _ _ _ _ _ => False) (fun _ ih => VS_X8_addsAmount_48 ih K) n
set_option maxRecDepth 20000 in
theorem S_X8_addsAmount_48 {Γ : xΓ} {K : xT → Prop} (hl : (gl Γ).stackTraces = false) (ht : (gM Γ).sig.returnType = none) (hr : xRet Γ (xKv K)) : ∀ (n : Nat) (a0 : Nat) (x2 : Int32) (x3 : Int32) (x5 : Int32) (t : xT) (rc rs : Nat), V_X8_addsAmount_48 K n a0 x2 x3 x5 t → xX Γ k_X8_addsAmount 48 [(0, .ref a0), (2, .int x2), (3, .int x3), (5, .int x5)] [] t rc rs := by
  intro n
  induction n with
  | zero =>
    intro a0 x2 x3 x5 t rc rs h
    exact h.elim
  | succ n ih =>
    intro a0 x2 x3 x5 t rc rs h
    replace h : VS_X8_addsAmount_48 (V_X8_addsAmount_48 K n) K a0 x2 x3 x5 t := h
    unfold VS_X8_addsAmount_48 at h
    refine x_iload 3 dX8_addsAmount_48 rfl ?_
    obtain ⟨h1, h2⟩ := h
    refine x_if_lt (tgt := 94) dX8_addsAmount_50 (by decide) (fun q => ?_) (fun q => ?_)
    · have h := h1 q
      refine x_aload_n 0 dX8_addsAmount_94 rfl rfl ?_
      refine x_bipush (v := (44 : Int32)) dX8_addsAmount_95 (by decide) ?_
      obtain ⟨⟨fs, hf⟩, h⟩ := h
      refine x_invV (as := [.int (44 : Int32)]) (rest := []) dX8_addsAmount_97 (q := (RX8, TX8, 40)) rfl xc_X8_addsAmount_225 hf (M_X8_adds hl h) rfl rfl (Nat.le_of_ble_eq_true rfl) (Nat.zero_le _) (Nat.zero_le _) (xk_v fun t_1 h => ?_)
      refine x_aload_n 0 dX8_addsAmount_100 rfl rfl ?_
      refine x_bipush (v := (48 : Int32)) dX8_addsAmount_101 (by decide) ?_
      refine x_iload_n 1 dX8_addsAmount_103 rfl rfl ?_
      refine x_bipush (v := (10 : Int32)) dX8_addsAmount_104 (by decide) ?_
      obtain ⟨q, h⟩ := h
      refine x_idiv dX8_addsAmount_106 q ?_
      refine x_bipush (v := (10 : Int32)) dX8_addsAmount_107 (by decide) ?_
      obtain ⟨q, h⟩ := h
      refine x_irem dX8_addsAmount_109 q ?_
      refine x_iadd dX8_addsAmount_110 ?_
      obtain ⟨⟨fs, hf⟩, h⟩ := h
      refine x_invV (as := [.int ((48 : Int32) + (xrem (x2 / (10 : Int32)) (10 : Int32)))]) (rest := []) dX8_addsAmount_111 (q := (RX8, TX8, 40)) rfl xc_X8_addsAmount_225 hf (M_X8_adds hl h) rfl rfl (Nat.le_of_ble_eq_true rfl) (Nat.zero_le _) (Nat.zero_le _) (xk_v fun t_2 h => ?_)
      refine x_aload_n 0 dX8_addsAmount_114 rfl rfl ?_
      refine x_bipush (v := (48 : Int32)) dX8_addsAmount_115 (by decide) ?_
      refine x_iload_n 1 dX8_addsAmount_117 rfl rfl ?_
      refine x_bipush (v := (10 : Int32)) dX8_addsAmount_118 (by decide) ?_
      obtain ⟨q, h⟩ := h
      refine x_irem dX8_addsAmount_120 q ?_
      refine x_iadd dX8_addsAmount_121 ?_
      obtain ⟨⟨fs, hf⟩, h⟩ := h
      refine x_invV (as := [.int ((48 : Int32) + (xrem x2 (10 : Int32)))]) (rest := []) dX8_addsAmount_122 (q := (RX8, TX8, 40)) rfl xc_X8_addsAmount_225 hf (M_X8_adds hl h) rfl rfl (Nat.le_of_ble_eq_true rfl) (Nat.zero_le _) (Nat.zero_le _) (xk_v fun t_3 h => ?_)
      exact x_vret dX8_addsAmount_125 hr ht ⟨rfl, h⟩
    · have h := h2 q
      refine x_aload_n 0 dX8_addsAmount_53 rfl rfl ?_
      refine x_bipush (v := (48 : Int32)) dX8_addsAmount_54 (by decide) ?_
      refine x_iload_n 2 dX8_addsAmount_56 rfl rfl ?_
      refine x_iload 3 dX8_addsAmount_57 rfl ?_
      refine x_invS (as := [.int x5]) (rest := [.int x3, .int (48 : Int32), .ref a0]) dX8_addsAmount_59 xc_X8_addsAmount_221 (M_X8_powerOf hl h) rfl rfl (Nat.le_of_ble_eq_true rfl) (Nat.zero_le _) (Nat.zero_le _) (xk_i fun x_5 t_4 h => ?_)
      obtain ⟨q, h⟩ := h
      refine x_idiv dX8_addsAmount_62 q ?_
      refine x_bipush (v := (10 : Int32)) dX8_addsAmount_63 (by decide) ?_
      obtain ⟨q, h⟩ := h
      refine x_irem dX8_addsAmount_65 q ?_
      refine x_iadd dX8_addsAmount_66 ?_
      obtain ⟨⟨fs, hf⟩, h⟩ := h
      refine x_invV (as := [.int ((48 : Int32) + (xrem (x3 / x_5) (10 : Int32)))]) (rest := []) dX8_addsAmount_67 (q := (RX8, TX8, 40)) rfl xc_X8_addsAmount_225 hf (M_X8_adds hl h) rfl rfl (Nat.le_of_ble_eq_true rfl) (Nat.zero_le _) (Nat.zero_le _) (xk_v fun t_6 h => ?_)
      refine x_iload 3 dX8_addsAmount_70 rfl ?_
      obtain ⟨h1, h2⟩ := h
      refine x_if_le (tgt := 88) dX8_addsAmount_72 (by decide) (fun q => ?_) (fun q => ?_)
      · have h := h1 q
        refine x_iinc (v := (x5 + (-1 : Int32))) (L' := [(5, .int (x5 + (-1 : Int32))), (0, .ref a0), (2, .int x2), (3, .int x3)]) (j := 3) dX8_addsAmount_88 rfl rfl (by decide) rfl ?_
        refine x_goto (tgt := 48) dX8_addsAmount_91 (by decide) ?_
        refine x_sub (L' := [(0, .ref a0), (2, .int x2), (3, .int x3), (5, .int (x5 + (-1 : Int32)))]) [1, 2, 3, 0] rfl ?_
        exact ih a0 x2 x3 (x5 + (-1 : Int32)) t_6 _ _ h
      · have h := h2 q
        refine x_iload 3 dX8_addsAmount_75 rfl ?_
        refine x_iconst (v := (3 : Int32)) dX8_addsAmount_77 (by decide) ?_
        obtain ⟨q, h⟩ := h
        refine x_irem dX8_addsAmount_78 q ?_
        obtain ⟨h1, h2⟩ := h
        refine x_if_ne (tgt := 88) dX8_addsAmount_79 (by decide) (fun q => ?_) (fun q => ?_)
        · have h := h1 q
          refine x_iinc (v := (x5 + (-1 : Int32))) (L' := [(5, .int (x5 + (-1 : Int32))), (0, .ref a0), (2, .int x2), (3, .int x3)]) (j := 3) dX8_addsAmount_88 rfl rfl (by decide) rfl ?_
          refine x_goto (tgt := 48) dX8_addsAmount_91 (by decide) ?_
          refine x_sub (L' := [(0, .ref a0), (2, .int x2), (3, .int x3), (5, .int (x5 + (-1 : Int32)))]) [1, 2, 3, 0] rfl ?_
          exact ih a0 x2 x3 (x5 + (-1 : Int32)) t_6 _ _ h
        · have h := h2 q
          refine x_aload_n 0 dX8_addsAmount_82 rfl rfl ?_
          refine x_bipush (v := (46 : Int32)) dX8_addsAmount_83 (by decide) ?_
          obtain ⟨⟨fs, hf⟩, h⟩ := h
          refine x_invV (as := [.int (46 : Int32)]) (rest := []) dX8_addsAmount_85 (q := (RX8, TX8, 40)) rfl xc_X8_addsAmount_225 hf (M_X8_adds hl h) rfl rfl (Nat.le_of_ble_eq_true rfl) (Nat.zero_le _) (Nat.zero_le _) (xk_v fun t_7 h => ?_)
          refine x_iinc (v := (x5 + (-1 : Int32))) (L' := [(5, .int (x5 + (-1 : Int32))), (0, .ref a0), (2, .int x2), (3, .int x3)]) (j := 3) dX8_addsAmount_88 rfl rfl (by decide) rfl ?_
          refine x_goto (tgt := 48) dX8_addsAmount_91 (by decide) ?_
          refine x_sub (L' := [(0, .ref a0), (2, .int x2), (3, .int x3), (5, .int (x5 + (-1 : Int32)))]) [1, 2, 3, 0] rfl ?_
          exact ih a0 x2 x3 (x5 + (-1 : Int32)) t_7 _ _ h
def VS_X8_addsAmount_19 (R19 : Nat → Int32 → Int32 → Int32 → xT → Prop) (K : xT → Prop) (a0 : Nat) (x2 : Int32) (x3 : Int32) (x4 : Int32) (t : xT) : Prop :=
  (((9 : Int32) ≤ x4 → ∃ f_1 : Nat, V_X8_addsAmount_48 K f_1 a0 x2 x3 (x4 - (1 : Int32)) t) ∧ (¬ (9 : Int32) ≤ x4 → (V_X8_powerOf_0 (fun x_3 t_2 => (¬ x_3 = 0 ∧ (((x3 / x_3) ≤ 0 → ∃ f_4 : Nat, V_X8_addsAmount_48 K f_4 a0 x2 x3 (x4 - (1 : Int32)) t_2) ∧ (¬ (x3 / x_3) ≤ 0 → R19 a0 x2 x3 (x4 + 1) t_2)))) x4 t)))
def V_X8_addsAmount_19 (K : xT → Prop) (n : Nat) : Nat → Int32 → Int32 → Int32 → xT → Prop := Nat.rec (fun _ _ _ _ _ => False) (fun _ ih => VS_X8_addsAmount_19 ih K) n
set_option maxRecDepth 20000 in
theorem S_X8_addsAmount_19 {Γ : xΓ} {K : xT → Prop} (hl : (gl Γ).stackTraces = false) (ht : (gM Γ).sig.returnType = none) (hr : xRet Γ (xKv K)) : ∀ (n : Nat) (a0 : Nat) (x2 : Int32) (x3 : Int32) (x4 : Int32) (t : xT) (rc rs : Nat), V_X8_addsAmount_19 K n a0 x2 x3 x4 t → xX Γ k_X8_addsAmount 19 [(0, .ref a0), (2, .int x2), (3, .int x3), (4, .int x4)] [] t rc rs := by
  intro n
  induction n with
  | zero =>
    intro a0 x2 x3 x4 t rc rs h
    exact h.elim
  | succ n ih =>
    intro a0 x2 x3 x4 t rc rs h
    replace h : VS_X8_addsAmount_19 (V_X8_addsAmount_19 K n) K a0 x2 x3 x4 t := h
    unfold VS_X8_addsAmount_19 at h
    refine x_iload 3 dX8_addsAmount_19 rfl ?_
    refine x_bipush (v := (9 : Int32)) dX8_addsAmount_21 (by decide) ?_
    obtain ⟨h1, h2⟩ := h
    refine x_icmp_ge (tgt := 42) dX8_addsAmount_23 (by decide) (fun q => ?_) (fun q => ?_)
    · have h := h1 q
      refine x_iload 3 dX8_addsAmount_42 rfl ?_
      refine x_iconst (v := (1 : Int32)) dX8_addsAmount_44 (by decide) ?_
      refine x_isub dX8_addsAmount_45 ?_
      refine x_istore (L' := [(5, .int (x4 - (1 : Int32))), (0, .ref a0), (2, .int x2), (3, .int x3), (4, .int x4)]) dX8_addsAmount_46 (by decide) rfl ?_
      obtain ⟨f_1, h⟩ := h
      refine x_sub (L' := [(0, .ref a0), (2, .int x2), (3, .int x3), (5, .int (x4 - (1 : Int32)))]) [1, 2, 3, 0] rfl ?_
      exact S_X8_addsAmount_48 hl ht hr  f_1 a0 x2 x3 (x4 - (1 : Int32)) t _ _ h
    · have h := h2 q
      refine x_iload_n 2 dX8_addsAmount_26 rfl rfl ?_
      refine x_iload 3 dX8_addsAmount_27 rfl ?_
      refine x_invS (as := [.int x4]) (rest := [.int x3]) dX8_addsAmount_29 xc_X8_addsAmount_221 (M_X8_powerOf hl h) rfl rfl (Nat.le_of_ble_eq_true rfl) (Nat.zero_le _) (Nat.zero_le _) (xk_i fun x_3 t_2 h => ?_)
      obtain ⟨q, h⟩ := h
      refine x_idiv dX8_addsAmount_32 q ?_
      obtain ⟨h1, h2⟩ := h
      refine x_if_le (tgt := 42) dX8_addsAmount_33 (by decide) (fun q => ?_) (fun q => ?_)
      · have h := h1 q
        refine x_iload 3 dX8_addsAmount_42 rfl ?_
        refine x_iconst (v := (1 : Int32)) dX8_addsAmount_44 (by decide) ?_
        refine x_isub dX8_addsAmount_45 ?_
        refine x_istore (L' := [(5, .int (x4 - (1 : Int32))), (0, .ref a0), (2, .int x2), (3, .int x3), (4, .int x4)]) dX8_addsAmount_46 (by decide) rfl ?_
        obtain ⟨f_4, h⟩ := h
        refine x_sub (L' := [(0, .ref a0), (2, .int x2), (3, .int x3), (5, .int (x4 - (1 : Int32)))]) [1, 2, 3, 0] rfl ?_
        exact S_X8_addsAmount_48 hl ht hr  f_4 a0 x2 x3 (x4 - (1 : Int32)) t_2 _ _ h
      · have h := h2 q
        refine x_iinc (v := (x4 + 1)) (L' := [(4, .int (x4 + 1)), (0, .ref a0), (2, .int x2), (3, .int x3)]) (j := 3) dX8_addsAmount_36 rfl rfl (by decide) rfl ?_
        refine x_goto (tgt := 19) dX8_addsAmount_39 (by decide) ?_
        refine x_sub (L' := [(0, .ref a0), (2, .int x2), (3, .int x3), (4, .int (x4 + 1))]) [1, 2, 3, 0] rfl ?_
        exact ih a0 x2 x3 (x4 + 1) t_2 _ _ h
def V_X8_addsAmount_0 (K : xT → Prop) (a0 : Nat) (x1 : Int32) (x2 : Int32) (t : xT) : Prop :=
  (xis t a0 8 ∧ V_X8_adds_0 (fun t_1 => (xis t_1 a0 8 ∧ V_X8_adds_0 (fun t_2 => (¬ (100 : Int32) = 0 ∧ ∃ f_3 : Nat, V_X8_addsAmount_19 K f_3 a0 x2 (x2 / (100 : Int32)) (1 : Int32) t_2)) a0 x1 t_1)) a0 (32 : Int32) t)
set_option maxRecDepth 20000 in
theorem S_X8_addsAmount_0 {Γ : xΓ} {K : xT → Prop} (hl : (gl Γ).stackTraces = false) (ht : (gM Γ).sig.returnType = none) (hr : xRet Γ (xKv K)) {a0 : Nat} {x1 : Int32} {x2 : Int32} {t : xT} {rc rs : Nat} (h : V_X8_addsAmount_0 K a0 x1 x2 t) : xX Γ k_X8_addsAmount 0 [(0, .ref a0), (1, .int x1), (2, .int x2)] [] t rc rs := by
  unfold V_X8_addsAmount_0 at h
  refine x_aload_n 0 dX8_addsAmount_0 rfl rfl ?_
  refine x_bipush (v := (32 : Int32)) dX8_addsAmount_1 (by decide) ?_
  obtain ⟨⟨fs, hf⟩, h⟩ := h
  refine x_invV (as := [.int (32 : Int32)]) (rest := []) dX8_addsAmount_3 (q := (RX8, TX8, 40)) rfl xc_X8_addsAmount_225 hf (M_X8_adds hl h) rfl rfl (Nat.le_of_ble_eq_true rfl) (Nat.zero_le _) (Nat.zero_le _) (xk_v fun t_1 h => ?_)
  refine x_aload_n 0 dX8_addsAmount_6 rfl rfl ?_
  refine x_iload_n 1 dX8_addsAmount_7 rfl rfl ?_
  obtain ⟨⟨fs, hf⟩, h⟩ := h
  refine x_invV (as := [.int x1]) (rest := []) dX8_addsAmount_8 (q := (RX8, TX8, 40)) rfl xc_X8_addsAmount_225 hf (M_X8_adds hl h) rfl rfl (Nat.le_of_ble_eq_true rfl) (Nat.zero_le _) (Nat.zero_le _) (xk_v fun t_2 h => ?_)
  refine x_iload_n 2 dX8_addsAmount_11 rfl rfl ?_
  refine x_bipush (v := (100 : Int32)) dX8_addsAmount_12 (by decide) ?_
  obtain ⟨q, h⟩ := h
  refine x_idiv dX8_addsAmount_14 q ?_
  refine x_istore_n (L' := [(3, .int (x2 / (100 : Int32))), (0, .ref a0), (1, .int x1), (2, .int x2)]) dX8_addsAmount_15 rfl (by decide) rfl ?_
  refine x_iconst (v := (1 : Int32)) dX8_addsAmount_16 (by decide) ?_
  refine x_istore (L' := [(4, .int (1 : Int32)), (3, .int (x2 / (100 : Int32))), (0, .ref a0), (1, .int x1), (2, .int x2)]) dX8_addsAmount_17 (by decide) rfl ?_
  obtain ⟨f_3, h⟩ := h
  refine x_sub (L' := [(0, .ref a0), (2, .int x2), (3, .int (x2 / (100 : Int32))), (4, .int (1 : Int32))]) [2, 4, 1, 0] rfl ?_
  exact S_X8_addsAmount_19 hl ht hr  f_3 a0 x2 (x2 / (100 : Int32)) (1 : Int32) t_2 _ _ h
theorem M_X8_addsAmount {l : Launch} {G : xG} (hl : l.stackTraces = false) {a0 : Nat} {x1 : Int32} {x2 : Int32} {t : xT} {K : xT → Prop} (h : V_X8_addsAmount_0 K a0 x1 x2 t) : xMet l G yX8_addsAmount k_X8_addsAmount none [.ref a0, .int x1, .int x2] t (xKv K) 0 0 := xMet.of (by decide +kernel) rfl hl (Nat.le_of_ble_eq_true rfl) (fun Γ e1 e2 ht hn hr => by subst e1; subst e2; exact S_X8_addsAmount_0 hl ht hr h)
/-! RentStreamModel.addsNumber(I)V -/
def VS_X8_addsNumber_27 (R27 : Nat → Int32 → Int32 → xT → Prop) (K : xT → Prop) (a0 : Nat) (x1 : Int32) (x3 : Int32) (t : xT) : Prop :=
  ((x3 < 0 → K t) ∧ (¬ x3 < 0 → (V_X8_powerOf_0 (fun x_2 t_1 => (¬ x_2 = 0 ∧ (¬ (10 : Int32) = 0 ∧ (xis t_1 a0 8 ∧ V_X8_adds_0 (fun t_3 => R27 a0 x1 (x3 + (-1 : Int32)) t_3) a0 ((48 : Int32) + (xrem (x1 / x_2) (10 : Int32))) t_1)))) x3 t)))
def V_X8_addsNumber_27 (K : xT → Prop) (n : Nat) : Nat → Int32 → Int32 → xT → Prop := Nat.rec (fun _ _ _ _ => False) (fun _ ih => VS_X8_addsNumber_27 ih K) n
set_option maxRecDepth 20000 in
theorem S_X8_addsNumber_27 {Γ : xΓ} {K : xT → Prop} (hl : (gl Γ).stackTraces = false) (ht : (gM Γ).sig.returnType = none) (hr : xRet Γ (xKv K)) : ∀ (n : Nat) (a0 : Nat) (x1 : Int32) (x3 : Int32) (t : xT) (rc rs : Nat), V_X8_addsNumber_27 K n a0 x1 x3 t → xX Γ k_X8_addsNumber 27 [(0, .ref a0), (1, .int x1), (3, .int x3)] [] t rc rs := by
  intro n
  induction n with
  | zero =>
    intro a0 x1 x3 t rc rs h
    exact h.elim
  | succ n ih =>
    intro a0 x1 x3 t rc rs h
    replace h : VS_X8_addsNumber_27 (V_X8_addsNumber_27 K n) K a0 x1 x3 t := h
    unfold VS_X8_addsNumber_27 at h
    refine x_iload_n 2 dX8_addsNumber_27 rfl rfl ?_
    obtain ⟨h1, h2⟩ := h
    refine x_if_lt (tgt := 53) dX8_addsNumber_28 (by decide) (fun q => ?_) (fun q => ?_)
    · have h := h1 q
      exact x_vret dX8_addsNumber_53 hr ht ⟨rfl, h⟩
    · have h := h2 q
      refine x_aload_n 0 dX8_addsNumber_31 rfl rfl ?_
      refine x_bipush (v := (48 : Int32)) dX8_addsNumber_32 (by decide) ?_
      refine x_iload_n 1 dX8_addsNumber_34 rfl rfl ?_
      refine x_iload_n 2 dX8_addsNumber_35 rfl rfl ?_
      refine x_invS (as := [.int x3]) (rest := [.int x1, .int (48 : Int32), .ref a0]) dX8_addsNumber_36 xc_X8_addsNumber_221 (M_X8_powerOf hl h) rfl rfl (Nat.le_of_ble_eq_true rfl) (Nat.zero_le _) (Nat.zero_le _) (xk_i fun x_2 t_1 h => ?_)
      obtain ⟨q, h⟩ := h
      refine x_idiv dX8_addsNumber_39 q ?_
      refine x_bipush (v := (10 : Int32)) dX8_addsNumber_40 (by decide) ?_
      obtain ⟨q, h⟩ := h
      refine x_irem dX8_addsNumber_42 q ?_
      refine x_iadd dX8_addsNumber_43 ?_
      obtain ⟨⟨fs, hf⟩, h⟩ := h
      refine x_invV (as := [.int ((48 : Int32) + (xrem (x1 / x_2) (10 : Int32)))]) (rest := []) dX8_addsNumber_44 (q := (RX8, TX8, 40)) rfl xc_X8_addsNumber_225 hf (M_X8_adds hl h) rfl rfl (Nat.le_of_ble_eq_true rfl) (Nat.zero_le _) (Nat.zero_le _) (xk_v fun t_3 h => ?_)
      refine x_iinc (v := (x3 + (-1 : Int32))) (L' := [(3, .int (x3 + (-1 : Int32))), (0, .ref a0), (1, .int x1)]) (j := 2) dX8_addsNumber_47 rfl rfl (by decide) rfl ?_
      refine x_goto (tgt := 27) dX8_addsNumber_50 (by decide) ?_
      refine x_sub (L' := [(0, .ref a0), (1, .int x1), (3, .int (x3 + (-1 : Int32)))]) [1, 2, 0] rfl ?_
      exact ih a0 x1 (x3 + (-1 : Int32)) t_3 _ _ h
def VS_X8_addsNumber_2 (R2 : Nat → Int32 → Int32 → xT → Prop) (K : xT → Prop) (a0 : Nat) (x1 : Int32) (x2 : Int32) (t : xT) : Prop :=
  (((9 : Int32) ≤ x2 → ∃ f_1 : Nat, V_X8_addsNumber_27 K f_1 a0 x1 (x2 - (1 : Int32)) t) ∧ (¬ (9 : Int32) ≤ x2 → (V_X8_powerOf_0 (fun x_3 t_2 => (¬ x_3 = 0 ∧ (((x1 / x_3) ≤ 0 → ∃ f_4 : Nat, V_X8_addsNumber_27 K f_4 a0 x1 (x2 - (1 : Int32)) t_2) ∧ (¬ (x1 / x_3) ≤ 0 → R2 a0 x1 (x2 + 1) t_2)))) x2 t)))
def V_X8_addsNumber_2 (K : xT → Prop) (n : Nat) : Nat → Int32 → Int32 → xT → Prop := Nat.rec (fun _ _ _ _ => False) (fun _ ih => VS_X8_addsNumber_2 ih K) n
set_option maxRecDepth 20000 in
theorem S_X8_addsNumber_2 {Γ : xΓ} {K : xT → Prop} (hl : (gl Γ).stackTraces = false) (ht : (gM Γ).sig.returnType = none) (hr : xRet Γ (xKv K)) : ∀ (n : Nat) (a0 : Nat) (x1 : Int32) (x2 : Int32) (t : xT) (rc rs : Nat), V_X8_addsNumber_2 K n a0 x1 x2 t → xX Γ k_X8_addsNumber 2 [(0, .ref a0), (1, .int x1), (2, .int x2)] [] t rc rs := by
  intro n
  induction n with
  | zero =>
    intro a0 x1 x2 t rc rs h
    exact h.elim
  | succ n ih =>
    intro a0 x1 x2 t rc rs h
    replace h : VS_X8_addsNumber_2 (V_X8_addsNumber_2 K n) K a0 x1 x2 t := h
    unfold VS_X8_addsNumber_2 at h
    refine x_iload_n 2 dX8_addsNumber_2 rfl rfl ?_
    refine x_bipush (v := (9 : Int32)) dX8_addsNumber_3 (by decide) ?_
    obtain ⟨h1, h2⟩ := h
    refine x_icmp_ge (tgt := 23) dX8_addsNumber_5 (by decide) (fun q => ?_) (fun q => ?_)
    · have h := h1 q
      refine x_iload_n 2 dX8_addsNumber_23 rfl rfl ?_
      refine x_iconst (v := (1 : Int32)) dX8_addsNumber_24 (by decide) ?_
      refine x_isub dX8_addsNumber_25 ?_
      refine x_istore_n (L' := [(3, .int (x2 - (1 : Int32))), (0, .ref a0), (1, .int x1), (2, .int x2)]) dX8_addsNumber_26 rfl (by decide) rfl ?_
      obtain ⟨f_1, h⟩ := h
      refine x_sub (L' := [(0, .ref a0), (1, .int x1), (3, .int (x2 - (1 : Int32)))]) [1, 2, 0] rfl ?_
      exact S_X8_addsNumber_27 hl ht hr  f_1 a0 x1 (x2 - (1 : Int32)) t _ _ h
    · have h := h2 q
      refine x_iload_n 1 dX8_addsNumber_8 rfl rfl ?_
      refine x_iload_n 2 dX8_addsNumber_9 rfl rfl ?_
      refine x_invS (as := [.int x2]) (rest := [.int x1]) dX8_addsNumber_10 xc_X8_addsNumber_221 (M_X8_powerOf hl h) rfl rfl (Nat.le_of_ble_eq_true rfl) (Nat.zero_le _) (Nat.zero_le _) (xk_i fun x_3 t_2 h => ?_)
      obtain ⟨q, h⟩ := h
      refine x_idiv dX8_addsNumber_13 q ?_
      obtain ⟨h1, h2⟩ := h
      refine x_if_le (tgt := 23) dX8_addsNumber_14 (by decide) (fun q => ?_) (fun q => ?_)
      · have h := h1 q
        refine x_iload_n 2 dX8_addsNumber_23 rfl rfl ?_
        refine x_iconst (v := (1 : Int32)) dX8_addsNumber_24 (by decide) ?_
        refine x_isub dX8_addsNumber_25 ?_
        refine x_istore_n (L' := [(3, .int (x2 - (1 : Int32))), (0, .ref a0), (1, .int x1), (2, .int x2)]) dX8_addsNumber_26 rfl (by decide) rfl ?_
        obtain ⟨f_4, h⟩ := h
        refine x_sub (L' := [(0, .ref a0), (1, .int x1), (3, .int (x2 - (1 : Int32)))]) [1, 2, 0] rfl ?_
        exact S_X8_addsNumber_27 hl ht hr  f_4 a0 x1 (x2 - (1 : Int32)) t_2 _ _ h
      · have h := h2 q
        refine x_iinc (v := (x2 + 1)) (L' := [(2, .int (x2 + 1)), (0, .ref a0), (1, .int x1)]) (j := 2) dX8_addsNumber_17 rfl rfl (by decide) rfl ?_
        refine x_goto (tgt := 2) dX8_addsNumber_20 (by decide) ?_
        refine x_sub (L' := [(0, .ref a0), (1, .int x1), (2, .int (x2 + 1))]) [1, 2, 0] rfl ?_
        exact ih a0 x1 (x2 + 1) t_2 _ _ h
def V_X8_addsNumber_0 (K : xT → Prop) (a0 : Nat) (x1 : Int32) (t : xT) : Prop :=
  ∃ f_1 : Nat, V_X8_addsNumber_2 K f_1 a0 x1 (1 : Int32) t
set_option maxRecDepth 20000 in
theorem S_X8_addsNumber_0 {Γ : xΓ} {K : xT → Prop} (hl : (gl Γ).stackTraces = false) (ht : (gM Γ).sig.returnType = none) (hr : xRet Γ (xKv K)) {a0 : Nat} {x1 : Int32} {t : xT} {rc rs : Nat} (h : V_X8_addsNumber_0 K a0 x1 t) : xX Γ k_X8_addsNumber 0 [(0, .ref a0), (1, .int x1)] [] t rc rs := by
  unfold V_X8_addsNumber_0 at h
  refine x_iconst (v := (1 : Int32)) dX8_addsNumber_0 (by decide) ?_
  refine x_istore_n (L' := [(2, .int (1 : Int32)), (0, .ref a0), (1, .int x1)]) dX8_addsNumber_1 rfl (by decide) rfl ?_
  obtain ⟨f_1, h⟩ := h
  refine x_sub (L' := [(0, .ref a0), (1, .int x1), (2, .int (1 : Int32))]) [1, 2, 0] rfl ?_
  exact S_X8_addsNumber_2 hl ht hr  f_1 a0 x1 (1 : Int32) t _ _ h
theorem M_X8_addsNumber {l : Launch} {G : xG} (hl : l.stackTraces = false) {a0 : Nat} {x1 : Int32} {t : xT} {K : xT → Prop} (h : V_X8_addsNumber_0 K a0 x1 t) : xMet l G yX8_addsNumber k_X8_addsNumber none [.ref a0, .int x1] t (xKv K) 0 0 := xMet.of (by decide +kernel) rfl hl (Nat.le_of_ble_eq_true rfl) (fun Γ e1 e2 ht hn hr => by subst e1; subst e2; exact S_X8_addsNumber_0 hl ht hr h)
/-! RentStreamModel.at(II)I -/
def V_X8_at_0 (K : Int32 → xT → Prop) (x0 : Int32) (x1 : Int32) (t : xT) : Prop :=
  K (((121 : Int32) * x0) + x1) t
set_option maxRecDepth 20000 in
theorem S_X8_at_0 {Γ : xΓ} {K : Int32 → xT → Prop} (hl : (gl Γ).stackTraces = false) (ht : (gM Γ).sig.returnType = (some .int)) (hr : xRet Γ (xKi K)) {x0 : Int32} {x1 : Int32} {t : xT} {rc rs : Nat} (h : V_X8_at_0 K x0 x1 t) : xX Γ k_X8_at 0 [(0, .int x0), (1, .int x1)] [] t rc rs := by
  unfold V_X8_at_0 at h
  refine x_bipush (v := (121 : Int32)) dX8_at_0 (by decide) ?_
  refine x_iload_n 0 dX8_at_2 rfl rfl ?_
  refine x_imul dX8_at_3 ?_
  refine x_iload_n 1 dX8_at_4 rfl rfl ?_
  refine x_iadd dX8_at_5 ?_
  exact x_zret dX8_at_6 hr ht rfl ⟨_, rfl, h⟩
theorem M_X8_at {l : Launch} {G : xG} (hl : l.stackTraces = false) {x0 : Int32} {x1 : Int32} {t : xT} {K : Int32 → xT → Prop} (h : V_X8_at_0 K x0 x1 t) : xMet l G yX8_at k_X8_at (some .int) [.int x0, .int x1] t (xKi K) 0 0 := xMet.of (by decide +kernel) rfl hl (Nat.le_of_ble_eq_true rfl) (fun Γ e1 e2 ht hn hr => by subst e1; subst e2; exact S_X8_at_0 hl ht hr h)
/-! RentStreamModel.benefitFor(II)I -/
def V_X8_benefitFor_0 (K : Int32 → xT → Prop) (x0 : Int32) (x1 : Int32) (t : xT) : Prop :=
  (¬ (10 : Int32) = 0 ∧ (¬ (10 : Int32) = 0 ∧ ((0 ≤ (x0 - (((3 : Int32) * x1) / (10 : Int32))) → (((x0 - (((3 : Int32) * x1) / (10 : Int32))) ≤ (((8 : Int32) * x0) / (10 : Int32)) → K (x0 - (((3 : Int32) * x1) / (10 : Int32))) t) ∧ (¬ (x0 - (((3 : Int32) * x1) / (10 : Int32))) ≤ (((8 : Int32) * x0) / (10 : Int32)) → K (((8 : Int32) * x0) / (10 : Int32)) t))) ∧ (¬ 0 ≤ (x0 - (((3 : Int32) * x1) / (10 : Int32))) → K (0 : Int32) t))))
set_option maxRecDepth 20000 in
theorem S_X8_benefitFor_0 {Γ : xΓ} {K : Int32 → xT → Prop} (hl : (gl Γ).stackTraces = false) (ht : (gM Γ).sig.returnType = (some .int)) (hr : xRet Γ (xKi K)) {x0 : Int32} {x1 : Int32} {t : xT} {rc rs : Nat} (h : V_X8_benefitFor_0 K x0 x1 t) : xX Γ k_X8_benefitFor 0 [(0, .int x0), (1, .int x1)] [] t rc rs := by
  unfold V_X8_benefitFor_0 at h
  refine x_iload_n 0 dX8_benefitFor_0 rfl rfl ?_
  refine x_iconst (v := (3 : Int32)) dX8_benefitFor_1 (by decide) ?_
  refine x_iload_n 1 dX8_benefitFor_2 rfl rfl ?_
  refine x_imul dX8_benefitFor_3 ?_
  refine x_bipush (v := (10 : Int32)) dX8_benefitFor_4 (by decide) ?_
  obtain ⟨q, h⟩ := h
  refine x_idiv dX8_benefitFor_6 q ?_
  refine x_isub dX8_benefitFor_7 ?_
  refine x_istore_n (L' := [(2, .int (x0 - (((3 : Int32) * x1) / (10 : Int32)))), (0, .int x0), (1, .int x1)]) dX8_benefitFor_8 rfl (by decide) rfl ?_
  refine x_bipush (v := (8 : Int32)) dX8_benefitFor_9 (by decide) ?_
  refine x_iload_n 1 dX8_benefitFor_11 rfl rfl ?_
  refine x_imul dX8_benefitFor_12 ?_
  refine x_bipush (v := (10 : Int32)) dX8_benefitFor_13 (by decide) ?_
  obtain ⟨q, h⟩ := h
  refine x_idiv dX8_benefitFor_15 q ?_
  refine x_istore_n (L' := [(3, .int (((8 : Int32) * x0) / (10 : Int32))), (2, .int (x0 - (((3 : Int32) * x1) / (10 : Int32)))), (0, .int x0), (1, .int x1)]) dX8_benefitFor_16 rfl (by decide) rfl ?_
  refine x_iload_n 1 dX8_benefitFor_17 rfl rfl ?_
  obtain ⟨h1, h2⟩ := h
  refine x_if_ge (tgt := 25) dX8_benefitFor_18 (by decide) (fun q => ?_) (fun q => ?_)
  · have h := h1 q
    refine x_iload_n 1 dX8_benefitFor_25 rfl rfl ?_
    refine x_iload_n 0 dX8_benefitFor_26 rfl rfl ?_
    obtain ⟨h1, h2⟩ := h
    refine x_icmp_le (tgt := 34) dX8_benefitFor_27 (by decide) (fun q => ?_) (fun q => ?_)
    · have h := h1 q
      refine x_iload_n 1 dX8_benefitFor_34 rfl rfl ?_
      exact x_zret dX8_benefitFor_35 hr ht rfl ⟨_, rfl, h⟩
    · have h := h2 q
      refine x_iload_n 0 dX8_benefitFor_30 rfl rfl ?_
      refine x_goto (tgt := 35) dX8_benefitFor_31 (by decide) ?_
      exact x_zret dX8_benefitFor_35 hr ht rfl ⟨_, rfl, h⟩
  · have h := h2 q
    refine x_iconst (v := (0 : Int32)) dX8_benefitFor_21 (by decide) ?_
    refine x_goto (tgt := 35) dX8_benefitFor_22 (by decide) ?_
    exact x_zret dX8_benefitFor_35 hr ht rfl ⟨_, rfl, h⟩
theorem M_X8_benefitFor {l : Launch} {G : xG} (hl : l.stackTraces = false) {x0 : Int32} {x1 : Int32} {t : xT} {K : Int32 → xT → Prop} (h : V_X8_benefitFor_0 K x0 x1 t) : xMet l G yX8_benefitFor k_X8_benefitFor (some .int) [.int x0, .int x1] t (xKi K) 0 0 := xMet.of (by decide +kernel) rfl hl (Nat.le_of_ble_eq_true rfl) (fun Γ e1 e2 ht hn hr => by subst e1; subst e2; exact S_X8_benefitFor_0 hl ht hr h)
/-! RentStreamModel.incomeIn(II)I -/
def VS_X8_incomeIn_5 (R5 : Nat → Int32 → Int32 → Int32 → Int32 → xT → Prop) (K : Int32 → xT → Prop) (a0 : Nat) (x1 : Int32) (x2 : Int32) (x3 : Int32) (x4 : Int32) (t : xT) : Prop :=
  ((x2 < x4 → K x3 t) ∧ (¬ x2 < x4 → xgR t a0 8 25 fun a_1 => (V_X8_at_0 (fun x_3 t_2 => xaI 0 t_2 a_1 x_3 fun x_4 => ((¬ x_4 = (-1 : Int32) → xgR t_2 a0 8 25 fun a_5 => (V_X8_at_0 (fun x_7 t_6 => xaI 0 t_6 a_5 x_7 fun x_8 => R5 a0 x1 x2 x_8 (x4 + 1) t_6) x1 x4 t_2)) ∧ (x_4 = (-1 : Int32) → R5 a0 x1 x2 x3 (x4 + 1) t_2))) x1 x4 t)))
def V_X8_incomeIn_5 (K : Int32 → xT → Prop) (n : Nat) : Nat → Int32 → Int32 → Int32 → Int32 → xT → Prop := Nat.rec (fun _ _ _ _ _ _ => False) (fun _ ih => VS_X8_incomeIn_5 ih K) n
set_option maxRecDepth 20000 in
theorem S_X8_incomeIn_5 {Γ : xΓ} {K : Int32 → xT → Prop} (hl : (gl Γ).stackTraces = false) (ht : (gM Γ).sig.returnType = (some .int)) (hr : xRet Γ (xKi K)) : ∀ (n : Nat) (a0 : Nat) (x1 : Int32) (x2 : Int32) (x3 : Int32) (x4 : Int32) (t : xT) (rc rs : Nat), V_X8_incomeIn_5 K n a0 x1 x2 x3 x4 t → xX Γ k_X8_incomeIn 5 [(0, .ref a0), (1, .int x1), (2, .int x2), (3, .int x3), (4, .int x4)] [] t rc rs := by
  intro n
  induction n with
  | zero =>
    intro a0 x1 x2 x3 x4 t rc rs h
    exact h.elim
  | succ n ih =>
    intro a0 x1 x2 x3 x4 t rc rs h
    replace h : VS_X8_incomeIn_5 (V_X8_incomeIn_5 K n) K a0 x1 x2 x3 x4 t := h
    unfold VS_X8_incomeIn_5 at h
    refine x_iload 4 dX8_incomeIn_5 rfl ?_
    refine x_iload_n 2 dX8_incomeIn_7 rfl rfl ?_
    obtain ⟨h1, h2⟩ := h
    refine x_icmp_gt (tgt := 48) dX8_incomeIn_8 (by decide) (fun q => ?_) (fun q => ?_)
    · have h := h1 q
      refine x_iload_n 3 dX8_incomeIn_48 rfl rfl ?_
      exact x_zret dX8_incomeIn_49 hr ht rfl ⟨_, rfl, h⟩
    · have h := h2 q
      refine x_aload_n 0 dX8_incomeIn_11 rfl rfl ?_
      obtain ⟨fs, hf, a_1, hv, h⟩ := h
      refine x_get dX8_incomeIn_12 xf_X8_69 hf hv ?_
      refine x_iload_n 1 dX8_incomeIn_15 rfl rfl ?_
      refine x_iload 4 dX8_incomeIn_16 rfl ?_
      refine x_invS (as := [.int x1, .int x4]) (rest := [.ref a_1]) dX8_incomeIn_18 xc_X8_incomeIn_173 (M_X8_at hl h) rfl rfl (Nat.le_of_ble_eq_true rfl) (Nat.zero_le _) (Nat.zero_le _) (xk_i fun x_3 t_2 h => ?_)
      obtain ⟨n, f, hf, hi, h⟩ := h
      refine x_iald dX8_incomeIn_21 hf hi ?_
      generalize f _ = x_4 at h ⊢
      refine x_iconst (v := (-1 : Int32)) dX8_incomeIn_22 (by decide) ?_
      obtain ⟨h1, h2⟩ := h
      refine x_icmp_ne (tgt := 30) dX8_incomeIn_23 (by decide) (fun q => ?_) (fun q => ?_)
      · have h := h1 q
        refine x_aload_n 0 dX8_incomeIn_30 rfl rfl ?_
        obtain ⟨fs, hf, a_5, hv, h⟩ := h
        refine x_get dX8_incomeIn_31 xf_X8_69 hf hv ?_
        refine x_iload_n 1 dX8_incomeIn_34 rfl rfl ?_
        refine x_iload 4 dX8_incomeIn_35 rfl ?_
        refine x_invS (as := [.int x1, .int x4]) (rest := [.ref a_5]) dX8_incomeIn_37 xc_X8_incomeIn_173 (M_X8_at hl h) rfl rfl (Nat.le_of_ble_eq_true rfl) (Nat.zero_le _) (Nat.zero_le _) (xk_i fun x_7 t_6 h => ?_)
        obtain ⟨n, f, hf, hi, h⟩ := h
        refine x_iald dX8_incomeIn_40 hf hi ?_
        generalize f _ = x_8 at h ⊢
        refine x_istore_n (L' := [(3, .int x_8), (0, .ref a0), (1, .int x1), (2, .int x2), (4, .int x4)]) dX8_incomeIn_41 rfl (by decide) rfl ?_
        refine x_iinc (v := (x4 + 1)) (L' := [(4, .int (x4 + 1)), (3, .int x_8), (0, .ref a0), (1, .int x1), (2, .int x2)]) (j := 4) dX8_incomeIn_42 rfl rfl (by decide) rfl ?_
        refine x_goto (tgt := 5) dX8_incomeIn_45 (by decide) ?_
        refine x_sub (L' := [(0, .ref a0), (1, .int x1), (2, .int x2), (3, .int x_8), (4, .int (x4 + 1))]) [2, 3, 4, 1, 0] rfl ?_
        exact ih a0 x1 x2 x_8 (x4 + 1) t_6 _ _ h
      · have h := h2 q
        refine x_iload_n 3 dX8_incomeIn_26 rfl rfl ?_
        refine x_goto (tgt := 41) dX8_incomeIn_27 (by decide) ?_
        refine x_istore_n (L' := [(3, .int x3), (0, .ref a0), (1, .int x1), (2, .int x2), (4, .int x4)]) dX8_incomeIn_41 rfl (by decide) rfl ?_
        refine x_iinc (v := (x4 + 1)) (L' := [(4, .int (x4 + 1)), (3, .int x3), (0, .ref a0), (1, .int x1), (2, .int x2)]) (j := 4) dX8_incomeIn_42 rfl rfl (by decide) rfl ?_
        refine x_goto (tgt := 5) dX8_incomeIn_45 (by decide) ?_
        refine x_sub (L' := [(0, .ref a0), (1, .int x1), (2, .int x2), (3, .int x3), (4, .int (x4 + 1))]) [2, 3, 4, 1, 0] rfl ?_
        exact ih a0 x1 x2 x3 (x4 + 1) t_2 _ _ h
def V_X8_incomeIn_0 (K : Int32 → xT → Prop) (a0 : Nat) (x1 : Int32) (x2 : Int32) (t : xT) : Prop :=
  ∃ f_1 : Nat, V_X8_incomeIn_5 K f_1 a0 x1 x2 (0 : Int32) (0 : Int32) t
set_option maxRecDepth 20000 in
theorem S_X8_incomeIn_0 {Γ : xΓ} {K : Int32 → xT → Prop} (hl : (gl Γ).stackTraces = false) (ht : (gM Γ).sig.returnType = (some .int)) (hr : xRet Γ (xKi K)) {a0 : Nat} {x1 : Int32} {x2 : Int32} {t : xT} {rc rs : Nat} (h : V_X8_incomeIn_0 K a0 x1 x2 t) : xX Γ k_X8_incomeIn 0 [(0, .ref a0), (1, .int x1), (2, .int x2)] [] t rc rs := by
  unfold V_X8_incomeIn_0 at h
  refine x_iconst (v := (0 : Int32)) dX8_incomeIn_0 (by decide) ?_
  refine x_istore_n (L' := [(3, .int (0 : Int32)), (0, .ref a0), (1, .int x1), (2, .int x2)]) dX8_incomeIn_1 rfl (by decide) rfl ?_
  refine x_iconst (v := (0 : Int32)) dX8_incomeIn_2 (by decide) ?_
  refine x_istore (L' := [(4, .int (0 : Int32)), (3, .int (0 : Int32)), (0, .ref a0), (1, .int x1), (2, .int x2)]) dX8_incomeIn_3 (by decide) rfl ?_
  obtain ⟨f_1, h⟩ := h
  refine x_sub (L' := [(0, .ref a0), (1, .int x1), (2, .int x2), (3, .int (0 : Int32)), (4, .int (0 : Int32))]) [2, 3, 4, 1, 0] rfl ?_
  exact S_X8_incomeIn_5 hl ht hr  f_1 a0 x1 x2 (0 : Int32) (0 : Int32) t _ _ h
theorem M_X8_incomeIn {l : Launch} {G : xG} (hl : l.stackTraces = false) {a0 : Nat} {x1 : Int32} {x2 : Int32} {t : xT} {K : Int32 → xT → Prop} (h : V_X8_incomeIn_0 K a0 x1 x2 t) : xMet l G yX8_incomeIn k_X8_incomeIn (some .int) [.ref a0, .int x1, .int x2] t (xKi K) 0 0 := xMet.of (by decide +kernel) rfl hl (Nat.le_of_ble_eq_true rfl) (fun Γ e1 e2 ht hn hr => by subst e1; subst e2; exact S_X8_incomeIn_0 hl ht hr h)
/-! RentStreamModel.rentIn(II)I -/
def V_X8_rentIn_0 (K : Int32 → xT → Prop) (a0 : Nat) (x1 : Int32) (x2 : Int32) (t : xT) : Prop :=
  xgR t a0 8 20 fun a_1 => xaI 0 t a_1 x1 fun x_2 => xgR t a0 8 10 fun a_3 => xaI 0 t a_3 x2 fun x_4 => (¬ (100 : Int32) = 0 ∧ K ((x_2 * x_4) / (100 : Int32)) t)
set_option maxRecDepth 20000 in
theorem S_X8_rentIn_0 {Γ : xΓ} {K : Int32 → xT → Prop} (hl : (gl Γ).stackTraces = false) (ht : (gM Γ).sig.returnType = (some .int)) (hr : xRet Γ (xKi K)) {a0 : Nat} {x1 : Int32} {x2 : Int32} {t : xT} {rc rs : Nat} (h : V_X8_rentIn_0 K a0 x1 x2 t) : xX Γ k_X8_rentIn 0 [(0, .ref a0), (1, .int x1), (2, .int x2)] [] t rc rs := by
  unfold V_X8_rentIn_0 at h
  refine x_aload_n 0 dX8_rentIn_0 rfl rfl ?_
  obtain ⟨fs, hf, a_1, hv, h⟩ := h
  refine x_get dX8_rentIn_1 xf_X8_53 hf hv ?_
  refine x_iload_n 1 dX8_rentIn_4 rfl rfl ?_
  obtain ⟨n, f, hf, hi, h⟩ := h
  refine x_iald dX8_rentIn_5 hf hi ?_
  generalize f _ = x_2 at h ⊢
  refine x_aload_n 0 dX8_rentIn_6 rfl rfl ?_
  obtain ⟨fs, hf, a_3, hv, h⟩ := h
  refine x_get dX8_rentIn_7 xf_X8_31 hf hv ?_
  refine x_iload_n 2 dX8_rentIn_10 rfl rfl ?_
  obtain ⟨n, f, hf, hi, h⟩ := h
  refine x_iald dX8_rentIn_11 hf hi ?_
  generalize f _ = x_4 at h ⊢
  refine x_imul dX8_rentIn_12 ?_
  refine x_bipush (v := (100 : Int32)) dX8_rentIn_13 (by decide) ?_
  obtain ⟨q, h⟩ := h
  refine x_idiv dX8_rentIn_15 q ?_
  exact x_zret dX8_rentIn_16 hr ht rfl ⟨_, rfl, h⟩
theorem M_X8_rentIn {l : Launch} {G : xG} (hl : l.stackTraces = false) {a0 : Nat} {x1 : Int32} {x2 : Int32} {t : xT} {K : Int32 → xT → Prop} (h : V_X8_rentIn_0 K a0 x1 x2 t) : xMet l G yX8_rentIn k_X8_rentIn (some .int) [.ref a0, .int x1, .int x2] t (xKi K) 0 0 := xMet.of (by decide +kernel) rfl hl (Nat.le_of_ble_eq_true rfl) (fun Γ e1 e2 ht hn hr => by subst e1; subst e2; exact S_X8_rentIn_0 hl ht hr h)
/-! RentStreamModel.runs(II)Z -/
def V_X8_runs_0 (K : Int32 → xT → Prop) (a0 : Nat) (x1 : Int32) (x2 : Int32) (t : xT) : Prop :=
  xgR t a0 8 21 fun a_1 => xaI 0 t a_1 x1 fun x_2 => ((x2 < x_2 → K (0 : Int32) t) ∧ (¬ x2 < x_2 → xgR t a0 8 22 fun a_3 => xaI 0 t a_3 x1 fun x_4 => ((x_4 < x2 → K (0 : Int32) t) ∧ (¬ x_4 < x2 → K (1 : Int32) t))))
set_option maxRecDepth 20000 in
theorem S_X8_runs_0 {Γ : xΓ} {K : Int32 → xT → Prop} (hl : (gl Γ).stackTraces = false) (ht : (gM Γ).sig.returnType = (some .boolean)) (hr : xRet Γ (xKi K)) {a0 : Nat} {x1 : Int32} {x2 : Int32} {t : xT} {rc rs : Nat} (h : V_X8_runs_0 K a0 x1 x2 t) : xX Γ k_X8_runs 0 [(0, .ref a0), (1, .int x1), (2, .int x2)] [] t rc rs := by
  unfold V_X8_runs_0 at h
  refine x_aload_n 0 dX8_runs_0 rfl rfl ?_
  obtain ⟨fs, hf, a_1, hv, h⟩ := h
  refine x_get dX8_runs_1 xf_X8_56 hf hv ?_
  refine x_iload_n 1 dX8_runs_4 rfl rfl ?_
  obtain ⟨n, f, hf, hi, h⟩ := h
  refine x_iald dX8_runs_5 hf hi ?_
  generalize f _ = x_2 at h ⊢
  refine x_iload_n 2 dX8_runs_6 rfl rfl ?_
  obtain ⟨h1, h2⟩ := h
  refine x_icmp_gt (tgt := 24) dX8_runs_7 (by decide) (fun q => ?_) (fun q => ?_)
  · have h := h1 q
    refine x_iconst (v := (0 : Int32)) dX8_runs_24 (by decide) ?_
    exact x_zret dX8_runs_25 hr ht (by decide) ⟨_, rfl, h⟩
  · have h := h2 q
    refine x_iload_n 2 dX8_runs_10 rfl rfl ?_
    refine x_aload_n 0 dX8_runs_11 rfl rfl ?_
    obtain ⟨fs, hf, a_3, hv, h⟩ := h
    refine x_get dX8_runs_12 xf_X8_59 hf hv ?_
    refine x_iload_n 1 dX8_runs_15 rfl rfl ?_
    obtain ⟨n, f, hf, hi, h⟩ := h
    refine x_iald dX8_runs_16 hf hi ?_
    generalize f _ = x_4 at h ⊢
    obtain ⟨h1, h2⟩ := h
    refine x_icmp_gt (tgt := 24) dX8_runs_17 (by decide) (fun q => ?_) (fun q => ?_)
    · have h := h1 q
      refine x_iconst (v := (0 : Int32)) dX8_runs_24 (by decide) ?_
      exact x_zret dX8_runs_25 hr ht (by decide) ⟨_, rfl, h⟩
    · have h := h2 q
      refine x_iconst (v := (1 : Int32)) dX8_runs_20 (by decide) ?_
      refine x_goto (tgt := 25) dX8_runs_21 (by decide) ?_
      exact x_zret dX8_runs_25 hr ht (by decide) ⟨_, rfl, h⟩
theorem M_X8_runs {l : Launch} {G : xG} (hl : l.stackTraces = false) {a0 : Nat} {x1 : Int32} {x2 : Int32} {t : xT} {K : Int32 → xT → Prop} (h : V_X8_runs_0 K a0 x1 x2 t) : xMet l G yX8_runs k_X8_runs (some .boolean) [.ref a0, .int x1, .int x2] t (xKi K) 0 0 := xMet.of (by decide +kernel) rfl hl (Nat.le_of_ble_eq_true rfl) (fun Γ e1 e2 ht hn hr => by subst e1; subst e2; exact S_X8_runs_0 hl ht hr h)
/-! RentStreamModel.begins(I)V -/
def V_X8_begins_88 (R44 : Nat → Int32 → Int32 → xT → Prop) (K : xT → Prop) (a0 : Nat) (x1 : Int32) (x2 : Int32) (ys0 : Int64) (t : xT) : Prop :=
  xgR t a0 8 24 fun a_1 => xaJ t a_1 x2 fun y_2 => ((ys0 ≤ (0 : Int64) → xsJ t a_1 x2 (y_2 - (0 : Int64)) fun t_3 => R44 a0 x1 (x2 + 1) t_3) ∧ (¬ ys0 ≤ (0 : Int64) → xsJ t a_1 x2 (y_2 - ys0) fun t_4 => R44 a0 x1 (x2 + 1) t_4))
set_option maxRecDepth 20000 in
theorem S_X8_begins_88 {Γ : xΓ} {R44 : Nat → Int32 → Int32 → xT → Prop} {K : xT → Prop} (hl : (gl Γ).stackTraces = false) (ht : (gM Γ).sig.returnType = none) (hr : xRet Γ (xKv K)) (hR44 : ∀ (a0 : Nat) (x1 : Int32) (x2 : Int32) (t : xT) (rc rs : Nat), R44 a0 x1 x2 t → xX Γ k_X8_begins 44 [(0, .ref a0), (1, .int x1), (2, .int x2)] [] t rc rs) {a0 : Nat} {x1 : Int32} {x2 : Int32} {ys0 : Int64} {t : xT} {rc rs : Nat} (h : V_X8_begins_88 R44 K a0 x1 x2 ys0 t) : xX Γ k_X8_begins 88 [(0, .ref a0), (1, .int x1), (2, .int x2)] [.long ys0] t rc rs := by
  unfold V_X8_begins_88 at h
  refine x_lstore_n (L' := [(3, .long ys0), (0, .ref a0), (1, .int x1), (2, .int x2)]) dX8_begins_88 rfl (by decide) rfl ?_
  refine x_aload_n 1 dX8_begins_89 rfl rfl ?_
  obtain ⟨fs, hf, a_1, hv, h⟩ := h
  refine x_get dX8_begins_90 xf_X8_66 hf hv ?_
  refine x_iload_n 3 dX8_begins_93 rfl rfl ?_
  refine x_dup2_11 dX8_begins_94 rfl rfl ?_
  obtain ⟨n, f, hf, hi, h⟩ := h
  refine x_lald dX8_begins_95 hf hi ?_
  generalize f _ = y_2 at h ⊢
  refine x_lload_n 0 dX8_begins_96 rfl rfl ?_
  refine x_lconst (v := (0 : Int64)) dX8_begins_97 (by decide) ?_
  obtain ⟨h1, h2⟩ := h
  refine x_lcmp_le (tgt := 106) dX8_begins_98 dX8_begins_99 (by decide) (fun q => ?_) (fun q => ?_)
  · have h := h1 q
    refine x_lconst (v := (0 : Int64)) dX8_begins_106 (by decide) ?_
    refine x_lsub dX8_begins_107 ?_
    obtain ⟨n, f, hf, hi, h⟩ := h
    refine x_last dX8_begins_108 hf hi ?_
    generalize hT : xup t a_1 _ = t_3 at h ⊢
    clear hT
    refine x_iinc (v := (x2 + 1)) (L' := [(2, .int (x2 + 1)), (3, .long ys0), (0, .ref a0), (1, .int x1)]) (j := 3) dX8_begins_109 rfl rfl (by decide) rfl ?_
    refine x_goto (tgt := 44) dX8_begins_112 (by decide) ?_
    refine x_sub (L' := [(0, .ref a0), (1, .int x1), (2, .int (x2 + 1))]) [2, 3, 0] rfl ?_
    exact hR44 a0 x1 (x2 + 1) t_3 _ _ h
  · have h := h2 q
    refine x_lload_n 0 dX8_begins_102 rfl rfl ?_
    refine x_goto (tgt := 107) dX8_begins_103 (by decide) ?_
    refine x_lsub dX8_begins_107 ?_
    obtain ⟨n, f, hf, hi, h⟩ := h
    refine x_last dX8_begins_108 hf hi ?_
    generalize hT : xup t a_1 _ = t_4 at h ⊢
    clear hT
    refine x_iinc (v := (x2 + 1)) (L' := [(2, .int (x2 + 1)), (3, .long ys0), (0, .ref a0), (1, .int x1)]) (j := 3) dX8_begins_109 rfl rfl (by decide) rfl ?_
    refine x_goto (tgt := 44) dX8_begins_112 (by decide) ?_
    refine x_sub (L' := [(0, .ref a0), (1, .int x1), (2, .int (x2 + 1))]) [2, 3, 0] rfl ?_
    exact hR44 a0 x1 (x2 + 1) t_4 _ _ h
def VS_X8_begins_44 (R44 : Nat → Int32 → Int32 → xT → Prop) (K : xT → Prop) (a0 : Nat) (x1 : Int32) (x2 : Int32) (t : xT) : Prop :=
  xgI t a0 8 18 fun x_1 => ((x_1 ≤ x2 → K t) ∧ (¬ x_1 ≤ x2 → (xis t a0 8 ∧ V_X8_runs_0 (fun x_3 t_2 => ((x_3 = 0 → V_X8_begins_88 R44 K a0 x1 x2 (0 : Int64) t_2) ∧ (¬ x_3 = 0 → (xis t_2 a0 8 ∧ V_X8_rentIn_0 (fun x_5 t_4 => (xis t_4 a0 8 ∧ V_X8_incomeIn_0 (fun x_7 t_6 => (V_X8_benefitFor_0 (fun x_9 t_8 => xgR t_8 a0 8 24 fun a_10 => xaJ t_8 a_10 x2 fun y_11 => V_X8_begins_88 R44 K a0 x1 x2 (x_9.toInt64 + y_11) t_8) x_5 x_7 t_6)) a0 x2 x1 t_4)) a0 x2 x1 t_2)))) a0 x2 x1 t)))
def V_X8_begins_44 (K : xT → Prop) (n : Nat) : Nat → Int32 → Int32 → xT → Prop := Nat.rec (fun _ _ _ _ => False) (fun _ ih => VS_X8_begins_44 ih K) n
set_option maxRecDepth 20000 in
theorem S_X8_begins_44 {Γ : xΓ} {K : xT → Prop} (hl : (gl Γ).stackTraces = false) (ht : (gM Γ).sig.returnType = none) (hr : xRet Γ (xKv K)) : ∀ (n : Nat) (a0 : Nat) (x1 : Int32) (x2 : Int32) (t : xT) (rc rs : Nat), V_X8_begins_44 K n a0 x1 x2 t → xX Γ k_X8_begins 44 [(0, .ref a0), (1, .int x1), (2, .int x2)] [] t rc rs := by
  intro n
  induction n with
  | zero =>
    intro a0 x1 x2 t rc rs h
    exact h.elim
  | succ n ih =>
    intro a0 x1 x2 t rc rs h
    replace h : VS_X8_begins_44 (V_X8_begins_44 K n) K a0 x1 x2 t := h
    unfold VS_X8_begins_44 at h
    refine x_iload_n 2 dX8_begins_44 rfl rfl ?_
    refine x_aload_n 0 dX8_begins_45 rfl rfl ?_
    obtain ⟨fs, hf, x_1, hv, h⟩ := h
    refine x_get dX8_begins_46 xf_X8_123 hf hv ?_
    obtain ⟨h1, h2⟩ := h
    refine x_icmp_ge (tgt := 115) dX8_begins_49 (by decide) (fun q => ?_) (fun q => ?_)
    · have h := h1 q
      exact x_vret dX8_begins_115 hr ht ⟨rfl, h⟩
    · have h := h2 q
      refine x_aload_n 0 dX8_begins_52 rfl rfl ?_
      refine x_iload_n 2 dX8_begins_53 rfl rfl ?_
      refine x_iload_n 1 dX8_begins_54 rfl rfl ?_
      obtain ⟨⟨fs, hf⟩, h⟩ := h
      refine x_invV (as := [.int x2, .int x1]) (rest := []) dX8_begins_55 (q := (RX8, TX8, 40)) rfl xc_X8_begins_137 hf (M_X8_runs hl h) rfl rfl (Nat.le_of_ble_eq_true rfl) (Nat.zero_le _) (Nat.zero_le _) (xk_i fun x_3 t_2 h => ?_)
      obtain ⟨h1, h2⟩ := h
      refine x_if_eq (tgt := 87) dX8_begins_58 (by decide) (fun q => ?_) (fun q => ?_)
      · have h := h1 q
        refine x_lconst (v := (0 : Int64)) dX8_begins_87 (by decide) ?_
        exact S_X8_begins_88 hl ht hr (fun p0 p1 p2 p3 p4 p5 h => ih p0 p1 p2 p3 p4 p5 h) h
      · have h := h2 q
        refine x_aload_n 0 dX8_begins_61 rfl rfl ?_
        refine x_iload_n 2 dX8_begins_62 rfl rfl ?_
        refine x_iload_n 1 dX8_begins_63 rfl rfl ?_
        obtain ⟨⟨fs, hf⟩, h⟩ := h
        refine x_invV (as := [.int x2, .int x1]) (rest := []) dX8_begins_64 (q := (RX8, TX8, 40)) rfl xc_X8_begins_177 hf (M_X8_rentIn hl h) rfl rfl (Nat.le_of_ble_eq_true rfl) (Nat.zero_le _) (Nat.zero_le _) (xk_i fun x_5 t_4 h => ?_)
        refine x_aload_n 0 dX8_begins_67 rfl rfl ?_
        refine x_iload_n 2 dX8_begins_68 rfl rfl ?_
        refine x_iload_n 1 dX8_begins_69 rfl rfl ?_
        obtain ⟨⟨fs, hf⟩, h⟩ := h
        refine x_invV (as := [.int x2, .int x1]) (rest := [.int x_5]) dX8_begins_70 (q := (RX8, TX8, 40)) rfl xc_X8_begins_182 hf (M_X8_incomeIn hl h) rfl rfl (Nat.le_of_ble_eq_true rfl) (Nat.zero_le _) (Nat.zero_le _) (xk_i fun x_7 t_6 h => ?_)
        refine x_invS (as := [.int x_5, .int x_7]) (rest := []) dX8_begins_73 xc_X8_begins_185 (M_X8_benefitFor hl h) rfl rfl (Nat.le_of_ble_eq_true rfl) (Nat.zero_le _) (Nat.zero_le _) (xk_i fun x_9 t_8 h => ?_)
        refine x_i2l dX8_begins_76 ?_
        refine x_aload_n 0 dX8_begins_77 rfl rfl ?_
        obtain ⟨fs, hf, a_10, hv, h⟩ := h
        refine x_get dX8_begins_78 xf_X8_66 hf hv ?_
        refine x_iload_n 2 dX8_begins_81 rfl rfl ?_
        obtain ⟨n, f, hf, hi, h⟩ := h
        refine x_lald dX8_begins_82 hf hi ?_
        generalize f _ = y_11 at h ⊢
        refine x_ladd dX8_begins_83 ?_
        refine x_goto (tgt := 88) dX8_begins_84 (by decide) ?_
        exact S_X8_begins_88 hl ht hr (fun p0 p1 p2 p3 p4 p5 h => ih p0 p1 p2 p3 p4 p5 h) h
def VS_X8_begins_7 (R7 : Nat → Int32 → Int32 → xT → Prop) (K : xT → Prop) (a0 : Nat) (x1 : Int32) (x2 : Int32) (t : xT) : Prop :=
  xgI t a0 8 2 fun x_1 => ((x_1 ≤ x2 → xgR t a0 8 10 fun a_2 => xgR t a0 8 10 fun a_3 => xaI 0 t a_3 x1 fun x_4 => xsI 0 t a_2 (x1 + (1 : Int32)) x_4 fun t_5 => ∃ f_6 : Nat, V_X8_begins_44 K f_6 a0 x1 (0 : Int32) t_5) ∧ (¬ x_1 ≤ x2 → xgR t a0 8 8 fun a_7 => xsI 0 t a_7 x2 (0 : Int32) fun t_8 => R7 a0 x1 (x2 + 1) t_8))
def V_X8_begins_7 (K : xT → Prop) (n : Nat) : Nat → Int32 → Int32 → xT → Prop := Nat.rec (fun _ _ _ _ => False) (fun _ ih => VS_X8_begins_7 ih K) n
set_option maxRecDepth 20000 in
theorem S_X8_begins_7 {Γ : xΓ} {K : xT → Prop} (hl : (gl Γ).stackTraces = false) (ht : (gM Γ).sig.returnType = none) (hr : xRet Γ (xKv K)) : ∀ (n : Nat) (a0 : Nat) (x1 : Int32) (x2 : Int32) (t : xT) (rc rs : Nat), V_X8_begins_7 K n a0 x1 x2 t → xX Γ k_X8_begins 7 [(0, .ref a0), (1, .int x1), (2, .int x2)] [] t rc rs := by
  intro n
  induction n with
  | zero =>
    intro a0 x1 x2 t rc rs h
    exact h.elim
  | succ n ih =>
    intro a0 x1 x2 t rc rs h
    replace h : VS_X8_begins_7 (V_X8_begins_7 K n) K a0 x1 x2 t := h
    unfold VS_X8_begins_7 at h
    refine x_iload_n 2 dX8_begins_7 rfl rfl ?_
    refine x_aload_n 0 dX8_begins_8 rfl rfl ?_
    obtain ⟨fs, hf, x_1, hv, h⟩ := h
    refine x_get dX8_begins_9 xf_X8_116 hf hv ?_
    obtain ⟨h1, h2⟩ := h
    refine x_icmp_ge (tgt := 28) dX8_begins_12 (by decide) (fun q => ?_) (fun q => ?_)
    · have h := h1 q
      refine x_aload_n 0 dX8_begins_28 rfl rfl ?_
      obtain ⟨fs, hf, a_2, hv, h⟩ := h
      refine x_get dX8_begins_29 xf_X8_31 hf hv ?_
      refine x_iload_n 1 dX8_begins_32 rfl rfl ?_
      refine x_iconst (v := (1 : Int32)) dX8_begins_33 (by decide) ?_
      refine x_iadd dX8_begins_34 ?_
      refine x_aload_n 0 dX8_begins_35 rfl rfl ?_
      obtain ⟨fs, hf, a_3, hv, h⟩ := h
      refine x_get dX8_begins_36 xf_X8_31 hf hv ?_
      refine x_iload_n 1 dX8_begins_39 rfl rfl ?_
      obtain ⟨n, f, hf, hi, h⟩ := h
      refine x_iald dX8_begins_40 hf hi ?_
      generalize f _ = x_4 at h ⊢
      obtain ⟨n, f, hf, hi, h⟩ := h
      refine x_iast dX8_begins_41 hf hi ?_
      generalize hT : xup t a_2 _ = t_5 at h ⊢
      clear hT
      refine x_iconst (v := (0 : Int32)) dX8_begins_42 (by decide) ?_
      refine x_istore_n (L' := [(2, .int (0 : Int32)), (0, .ref a0), (1, .int x1)]) dX8_begins_43 rfl (by decide) rfl ?_
      obtain ⟨f_6, h⟩ := h
      refine x_sub (L' := [(0, .ref a0), (1, .int x1), (2, .int (0 : Int32))]) [1, 2, 0] rfl ?_
      exact S_X8_begins_44 hl ht hr  f_6 a0 x1 (0 : Int32) t_5 _ _ h
    · have h := h2 q
      refine x_aload_n 0 dX8_begins_15 rfl rfl ?_
      obtain ⟨fs, hf, a_7, hv, h⟩ := h
      refine x_get dX8_begins_16 xf_X8_25 hf hv ?_
      refine x_iload_n 2 dX8_begins_19 rfl rfl ?_
      refine x_iconst (v := (0 : Int32)) dX8_begins_20 (by decide) ?_
      obtain ⟨n, f, hf, hi, h⟩ := h
      refine x_iast dX8_begins_21 hf hi ?_
      generalize hT : xup t a_7 _ = t_8 at h ⊢
      clear hT
      refine x_iinc (v := (x2 + 1)) (L' := [(2, .int (x2 + 1)), (0, .ref a0), (1, .int x1)]) (j := 2) dX8_begins_22 rfl rfl (by decide) rfl ?_
      refine x_goto (tgt := 7) dX8_begins_25 (by decide) ?_
      refine x_sub (L' := [(0, .ref a0), (1, .int x1), (2, .int (x2 + 1))]) [1, 2, 0] rfl ?_
      exact ih a0 x1 (x2 + 1) t_8 _ _ h
def V_X8_begins_0 (K : xT → Prop) (a0 : Nat) (x1 : Int32) (t : xT) : Prop :=
  (xpF t a0 8 11 (.int (0 : Int32)) fun t_1 => ∃ f_2 : Nat, V_X8_begins_7 K f_2 a0 x1 (0 : Int32) t_1)
set_option maxRecDepth 20000 in
theorem S_X8_begins_0 {Γ : xΓ} {K : xT → Prop} (hl : (gl Γ).stackTraces = false) (ht : (gM Γ).sig.returnType = none) (hr : xRet Γ (xKv K)) {a0 : Nat} {x1 : Int32} {t : xT} {rc rs : Nat} (h : V_X8_begins_0 K a0 x1 t) : xX Γ k_X8_begins 0 [(0, .ref a0), (1, .int x1)] [] t rc rs := by
  unfold V_X8_begins_0 at h
  refine x_aload_n 0 dX8_begins_0 rfl rfl ?_
  refine x_iconst (v := (0 : Int32)) dX8_begins_1 (by decide) ?_
  obtain ⟨fs, hf, hk, h⟩ := h
  refine x_put (v := .int (0 : Int32)) dX8_begins_2 xp_X8_152 hf rfl rfl hk ?_
  generalize hT : xup t a0 _ = t_1 at h ⊢
  clear hT
  refine x_iconst (v := (0 : Int32)) dX8_begins_5 (by decide) ?_
  refine x_istore_n (L' := [(2, .int (0 : Int32)), (0, .ref a0), (1, .int x1)]) dX8_begins_6 rfl (by decide) rfl ?_
  obtain ⟨f_2, h⟩ := h
  refine x_sub (L' := [(0, .ref a0), (1, .int x1), (2, .int (0 : Int32))]) [1, 2, 0] rfl ?_
  exact S_X8_begins_7 hl ht hr  f_2 a0 x1 (0 : Int32) t_1 _ _ h
theorem M_X8_begins {l : Launch} {G : xG} (hl : l.stackTraces = false) {a0 : Nat} {x1 : Int32} {t : xT} {K : xT → Prop} (h : V_X8_begins_0 K a0 x1 t) : xMet l G yX8_begins k_X8_begins none [.ref a0, .int x1] t (xKv K) 0 0 := xMet.of (by decide +kernel) rfl hl (Nat.le_of_ble_eq_true rfl) (fun Γ e1 e2 ht hn hr => by subst e1; subst e2; exact S_X8_begins_0 hl ht hr h)
/-! RentStreamModel.holds(I)Z -/
def V_X8_holds_0 (K : Int32 → xT → Prop) (a0 : Nat) (x1 : Int32) (t : xT) : Prop :=
  (xpF t a0 8 0 (.int x1) fun t_1 => ((¬ x1 = 0 → K (0 : Int32) t_1) ∧ (x1 = 0 → K (1 : Int32) t_1)))
set_option maxRecDepth 20000 in
theorem S_X8_holds_0 {Γ : xΓ} {K : Int32 → xT → Prop} (hl : (gl Γ).stackTraces = false) (ht : (gM Γ).sig.returnType = (some .boolean)) (hr : xRet Γ (xKi K)) {a0 : Nat} {x1 : Int32} {t : xT} {rc rs : Nat} (h : V_X8_holds_0 K a0 x1 t) : xX Γ k_X8_holds 0 [(0, .ref a0), (1, .int x1)] [] t rc rs := by
  unfold V_X8_holds_0 at h
  refine x_aload_n 0 dX8_holds_0 rfl rfl ?_
  refine x_iload_n 1 dX8_holds_1 rfl rfl ?_
  obtain ⟨fs, hf, hk, h⟩ := h
  refine x_put (v := .int x1) dX8_holds_2 xp_X8_112 hf rfl rfl hk ?_
  generalize hT : xup t a0 _ = t_1 at h ⊢
  clear hT
  refine x_iload_n 1 dX8_holds_5 rfl rfl ?_
  obtain ⟨h1, h2⟩ := h
  refine x_if_ne (tgt := 13) dX8_holds_6 (by decide) (fun q => ?_) (fun q => ?_)
  · have h := h1 q
    refine x_iconst (v := (0 : Int32)) dX8_holds_13 (by decide) ?_
    exact x_zret dX8_holds_14 hr ht (by decide) ⟨_, rfl, h⟩
  · have h := h2 q
    refine x_iconst (v := (1 : Int32)) dX8_holds_9 (by decide) ?_
    refine x_goto (tgt := 14) dX8_holds_10 (by decide) ?_
    exact x_zret dX8_holds_14 hr ht (by decide) ⟨_, rfl, h⟩
theorem M_X8_holds {l : Launch} {G : xG} (hl : l.stackTraces = false) {a0 : Nat} {x1 : Int32} {t : xT} {K : Int32 → xT → Prop} (h : V_X8_holds_0 K a0 x1 t) : xMet l G yX8_holds k_X8_holds (some .boolean) [.ref a0, .int x1] t (xKi K) 0 0 := xMet.of (by decide +kernel) rfl hl (Nat.le_of_ble_eq_true rfl) (fun Γ e1 e2 ht hn hr => by subst e1; subst e2; exact S_X8_holds_0 hl ht hr h)
/-! RentStreamModel.in(III)Z -/
def V_X8_in_0 (K : Int32 → xT → Prop) (x0 : Int32) (x1 : Int32) (x2 : Int32) (t : xT) : Prop :=
  ((x0 < x1 → K (0 : Int32) t) ∧ (¬ x0 < x1 → ((x2 < x0 → K (0 : Int32) t) ∧ (¬ x2 < x0 → K (1 : Int32) t))))
set_option maxRecDepth 20000 in
theorem S_X8_in_0 {Γ : xΓ} {K : Int32 → xT → Prop} (hl : (gl Γ).stackTraces = false) (ht : (gM Γ).sig.returnType = (some .boolean)) (hr : xRet Γ (xKi K)) {x0 : Int32} {x1 : Int32} {x2 : Int32} {t : xT} {rc rs : Nat} (h : V_X8_in_0 K x0 x1 x2 t) : xX Γ k_X8_in 0 [(0, .int x0), (1, .int x1), (2, .int x2)] [] t rc rs := by
  unfold V_X8_in_0 at h
  refine x_iload_n 0 dX8_in_0 rfl rfl ?_
  refine x_iload_n 1 dX8_in_1 rfl rfl ?_
  obtain ⟨h1, h2⟩ := h
  refine x_icmp_lt (tgt := 14) dX8_in_2 (by decide) (fun q => ?_) (fun q => ?_)
  · have h := h1 q
    refine x_iconst (v := (0 : Int32)) dX8_in_14 (by decide) ?_
    exact x_zret dX8_in_15 hr ht (by decide) ⟨_, rfl, h⟩
  · have h := h2 q
    refine x_iload_n 0 dX8_in_5 rfl rfl ?_
    refine x_iload_n 2 dX8_in_6 rfl rfl ?_
    obtain ⟨h1, h2⟩ := h
    refine x_icmp_gt (tgt := 14) dX8_in_7 (by decide) (fun q => ?_) (fun q => ?_)
    · have h := h1 q
      refine x_iconst (v := (0 : Int32)) dX8_in_14 (by decide) ?_
      exact x_zret dX8_in_15 hr ht (by decide) ⟨_, rfl, h⟩
    · have h := h2 q
      refine x_iconst (v := (1 : Int32)) dX8_in_10 (by decide) ?_
      refine x_goto (tgt := 15) dX8_in_11 (by decide) ?_
      exact x_zret dX8_in_15 hr ht (by decide) ⟨_, rfl, h⟩
theorem M_X8_in {l : Launch} {G : xG} (hl : l.stackTraces = false) {x0 : Int32} {x1 : Int32} {x2 : Int32} {t : xT} {K : Int32 → xT → Prop} (h : V_X8_in_0 K x0 x1 x2 t) : xMet l G yX8_in k_X8_in (some .boolean) [.int x0, .int x1, .int x2] t (xKi K) 0 0 := xMet.of (by decide +kernel) rfl hl (Nat.le_of_ble_eq_true rfl) (fun Γ e1 e2 ht hn hr => by subst e1; subst e2; exact S_X8_in_0 hl ht hr h)
/-! RentStreamModel.isLease(I)Z -/
def V_X8_isLease_0 (K : Int32 → xT → Prop) (a0 : Nat) (x1 : Int32) (t : xT) : Prop :=
  xgI t a0 8 18 fun x_1 => (V_X8_in_0 (fun x_3 t_2 => (narrow .boolean (.int x_3) = .int x_3 ∧ K x_3 t_2)) x1 (0 : Int32) (x_1 - (1 : Int32)) t)
set_option maxRecDepth 20000 in
theorem S_X8_isLease_0 {Γ : xΓ} {K : Int32 → xT → Prop} (hl : (gl Γ).stackTraces = false) (ht : (gM Γ).sig.returnType = (some .boolean)) (hr : xRet Γ (xKi K)) {a0 : Nat} {x1 : Int32} {t : xT} {rc rs : Nat} (h : V_X8_isLease_0 K a0 x1 t) : xX Γ k_X8_isLease 0 [(0, .ref a0), (1, .int x1)] [] t rc rs := by
  unfold V_X8_isLease_0 at h
  refine x_iload_n 1 dX8_isLease_0 rfl rfl ?_
  refine x_iconst (v := (0 : Int32)) dX8_isLease_1 (by decide) ?_
  refine x_aload_n 0 dX8_isLease_2 rfl rfl ?_
  obtain ⟨fs, hf, x_1, hv, h⟩ := h
  refine x_get dX8_isLease_3 xf_X8_123 hf hv ?_
  refine x_iconst (v := (1 : Int32)) dX8_isLease_6 (by decide) ?_
  refine x_isub dX8_isLease_7 ?_
  refine x_invS (as := [.int x1, .int (0 : Int32), .int (x_1 - (1 : Int32))]) (rest := []) dX8_isLease_8 xc_X8_isLease_119 (M_X8_in hl h) rfl rfl (Nat.le_of_ble_eq_true rfl) (Nat.zero_le _) (Nat.zero_le _) (xk_i fun x_3 t_2 h => ?_)
  obtain ⟨hn, h⟩ := h
  exact x_zret dX8_isLease_11 hr ht hn ⟨_, rfl, h⟩
theorem M_X8_isLease {l : Launch} {G : xG} (hl : l.stackTraces = false) {a0 : Nat} {x1 : Int32} {t : xT} {K : Int32 → xT → Prop} (h : V_X8_isLease_0 K a0 x1 t) : xMet l G yX8_isLease k_X8_isLease (some .boolean) [.ref a0, .int x1] t (xKi K) 0 0 := xMet.of (by decide +kernel) rfl hl (Nat.le_of_ble_eq_true rfl) (fun Γ e1 e2 ht hn hr => by subst e1; subst e2; exact S_X8_isLease_0 hl ht hr h)
/-! RentStreamModel.month()I -/
def V_X8_month_0 (K : Int32 → xT → Prop) (a0 : Nat) (t : xT) : Prop :=
  xgI t a0 8 1 fun x_1 => (¬ (30 : Int32) = 0 ∧ K (x_1 / (30 : Int32)) t)
set_option maxRecDepth 20000 in
theorem S_X8_month_0 {Γ : xΓ} {K : Int32 → xT → Prop} (hl : (gl Γ).stackTraces = false) (ht : (gM Γ).sig.returnType = (some .int)) (hr : xRet Γ (xKi K)) {a0 : Nat} {t : xT} {rc rs : Nat} (h : V_X8_month_0 K a0 t) : xX Γ k_X8_month 0 [(0, .ref a0)] [] t rc rs := by
  unfold V_X8_month_0 at h
  refine x_aload_n 0 dX8_month_0 rfl rfl ?_
  obtain ⟨fs, hf, x_1, hv, h⟩ := h
  refine x_get dX8_month_1 xf_X8_126 hf hv ?_
  refine x_bipush (v := (30 : Int32)) dX8_month_4 (by decide) ?_
  obtain ⟨q, h⟩ := h
  refine x_idiv dX8_month_6 q ?_
  exact x_zret dX8_month_7 hr ht rfl ⟨_, rfl, h⟩
theorem M_X8_month {l : Launch} {G : xG} (hl : l.stackTraces = false) {a0 : Nat} {t : xT} {K : Int32 → xT → Prop} (h : V_X8_month_0 K a0 t) : xMet l G yX8_month k_X8_month (some .int) [.ref a0] t (xKi K) 0 0 := xMet.of (by decide +kernel) rfl hl (Nat.le_of_ble_eq_true rfl) (fun Γ e1 e2 ht hn hr => by subst e1; subst e2; exact S_X8_month_0 hl ht hr h)
/-! RentStreamModel.isMonth(I)Z -/
def V_X8_isMonth_0 (K : Int32 → xT → Prop) (a0 : Nat) (x1 : Int32) (t : xT) : Prop :=
  (xis t a0 8 ∧ V_X8_month_0 (fun x_2 t_1 => (V_X8_in_0 (fun x_4 t_3 => (narrow .boolean (.int x_4) = .int x_4 ∧ K x_4 t_3)) x1 (0 : Int32) x_2 t_1)) a0 t)
set_option maxRecDepth 20000 in
theorem S_X8_isMonth_0 {Γ : xΓ} {K : Int32 → xT → Prop} (hl : (gl Γ).stackTraces = false) (ht : (gM Γ).sig.returnType = (some .boolean)) (hr : xRet Γ (xKi K)) {a0 : Nat} {x1 : Int32} {t : xT} {rc rs : Nat} (h : V_X8_isMonth_0 K a0 x1 t) : xX Γ k_X8_isMonth 0 [(0, .ref a0), (1, .int x1)] [] t rc rs := by
  unfold V_X8_isMonth_0 at h
  refine x_iload_n 1 dX8_isMonth_0 rfl rfl ?_
  refine x_iconst (v := (0 : Int32)) dX8_isMonth_1 (by decide) ?_
  refine x_aload_n 0 dX8_isMonth_2 rfl rfl ?_
  obtain ⟨⟨fs, hf⟩, h⟩ := h
  refine x_invV (as := []) (rest := [.int (0 : Int32), .int x1]) dX8_isMonth_3 (q := (RX8, TX8, 40)) rfl xc_X8_isMonth_129 hf (M_X8_month hl h) rfl rfl (Nat.le_of_ble_eq_true rfl) (Nat.zero_le _) (Nat.zero_le _) (xk_i fun x_2 t_1 h => ?_)
  refine x_invS (as := [.int x1, .int (0 : Int32), .int x_2]) (rest := []) dX8_isMonth_6 xc_X8_isMonth_119 (M_X8_in hl h) rfl rfl (Nat.le_of_ble_eq_true rfl) (Nat.zero_le _) (Nat.zero_le _) (xk_i fun x_4 t_3 h => ?_)
  obtain ⟨hn, h⟩ := h
  exact x_zret dX8_isMonth_9 hr ht hn ⟨_, rfl, h⟩
theorem M_X8_isMonth {l : Launch} {G : xG} (hl : l.stackTraces = false) {a0 : Nat} {x1 : Int32} {t : xT} {K : Int32 → xT → Prop} (h : V_X8_isMonth_0 K a0 x1 t) : xMet l G yX8_isMonth k_X8_isMonth (some .boolean) [.ref a0, .int x1] t (xKi K) 0 0 := xMet.of (by decide +kernel) rfl hl (Nat.le_of_ble_eq_true rfl) (fun Γ e1 e2 ht hn hr => by subst e1; subst e2; exact S_X8_isMonth_0 hl ht hr h)
/-! RentStreamModel.bill(III)J -/
def V_X8_bill_47 (K : Int64 → xT → Prop) (a0 : Nat) (x1 : Int32) (x2 : Int32) (x3 : Int32) (xs0 : Int32) (as1 : Nat) (t : xT) : Prop :=
  (xis t as1 8 ∧ V_X8_holds_0 (fun x_2 t_1 => ((¬ x_2 = 0 → (V_X8_at_0 (fun x_4 t_3 => xgR t_3 a0 8 26 fun a_5 => xaI 2 t_3 a_5 x_4 fun x_6 => ((¬ x_6 = 0 → ((¬ x3 = 0 → ((¬ x3 = (1 : Int32) → ((¬ x3 = (2 : Int32) → xgR t_3 a0 8 30 fun a_7 => xaI 0 t_3 a_7 x_4 fun x_8 => K x_8.toInt64 t_3) ∧ (x3 = (2 : Int32) → xgR t_3 a0 8 29 fun a_9 => xaI 0 t_3 a_9 x_4 fun x_10 => K x_10.toInt64 t_3))) ∧ (x3 = (1 : Int32) → xgR t_3 a0 8 28 fun a_11 => xaI 0 t_3 a_11 x_4 fun x_12 => K x_12.toInt64 t_3))) ∧ (x3 = 0 → xgR t_3 a0 8 27 fun a_13 => xaI 0 t_3 a_13 x_4 fun x_14 => K x_14.toInt64 t_3))) ∧ (x_6 = 0 → K (-1 : Int64) t_3))) x1 x2 t_1)) ∧ (x_2 = 0 → K (0 : Int64) t_1))) as1 xs0 t)
set_option maxRecDepth 20000 in
theorem S_X8_bill_47 {Γ : xΓ} {K : Int64 → xT → Prop} (hl : (gl Γ).stackTraces = false) (ht : (gM Γ).sig.returnType = (some .long)) (hr : xRet Γ (xKl K)) {a0 : Nat} {x1 : Int32} {x2 : Int32} {x3 : Int32} {xs0 : Int32} {as1 : Nat} {t : xT} {rc rs : Nat} (h : V_X8_bill_47 K a0 x1 x2 x3 xs0 as1 t) : xX Γ k_X8_bill 47 [(0, .ref a0), (1, .int x1), (2, .int x2), (3, .int x3)] [.int xs0, .ref as1] t rc rs := by
  unfold V_X8_bill_47 at h
  obtain ⟨⟨fs, hf⟩, h⟩ := h
  refine x_invV (as := [.int xs0]) (rest := []) dX8_bill_47 (q := (RX8, TX8, 40)) rfl xc_X8_bill_133 hf (M_X8_holds hl h) rfl rfl (Nat.le_of_ble_eq_true rfl) (Nat.zero_le _) (Nat.zero_le _) (xk_i fun x_2 t_1 h => ?_)
  obtain ⟨h1, h2⟩ := h
  refine x_if_ne (tgt := 55) dX8_bill_50 (by decide) (fun q => ?_) (fun q => ?_)
  · have h := h1 q
    refine x_iload_n 1 dX8_bill_55 rfl rfl ?_
    refine x_iload_n 2 dX8_bill_56 rfl rfl ?_
    refine x_invS (as := [.int x1, .int x2]) (rest := []) dX8_bill_57 xc_X8_bill_173 (M_X8_at hl h) rfl rfl (Nat.le_of_ble_eq_true rfl) (Nat.zero_le _) (Nat.zero_le _) (xk_i fun x_4 t_3 h => ?_)
    refine x_istore (L' := [(5, .int x_4), (0, .ref a0), (1, .int x1), (2, .int x2), (3, .int x3)]) dX8_bill_60 (by decide) rfl ?_
    refine x_aload_n 1 dX8_bill_62 rfl rfl ?_
    obtain ⟨fs, hf, a_5, hv, h⟩ := h
    refine x_get dX8_bill_63 xf_X8_72 hf hv ?_
    refine x_iload 0 dX8_bill_66 rfl ?_
    obtain ⟨n, f, hf, hi, h⟩ := h
    refine x_zald dX8_bill_68 hf hi ?_
    generalize f _ = x_6 at h ⊢
    obtain ⟨h1, h2⟩ := h
    refine x_if_ne (tgt := 78) dX8_bill_69 (by decide) (fun q => ?_) (fun q => ?_)
    · have h := h1 q
      refine x_iload_n 4 dX8_bill_78 rfl rfl ?_
      obtain ⟨h1, h2⟩ := h
      refine x_if_ne (tgt := 93) dX8_bill_79 (by decide) (fun q => ?_) (fun q => ?_)
      · have h := h1 q
        refine x_iload_n 4 dX8_bill_93 rfl rfl ?_
        refine x_iconst (v := (1 : Int32)) dX8_bill_94 (by decide) ?_
        obtain ⟨h1, h2⟩ := h
        refine x_icmp_ne (tgt := 109) dX8_bill_95 (by decide) (fun q => ?_) (fun q => ?_)
        · have h := h1 q
          refine x_iload_n 4 dX8_bill_109 rfl rfl ?_
          refine x_iconst (v := (2 : Int32)) dX8_bill_110 (by decide) ?_
          obtain ⟨h1, h2⟩ := h
          refine x_icmp_ne (tgt := 125) dX8_bill_111 (by decide) (fun q => ?_) (fun q => ?_)
          · have h := h1 q
            refine x_aload_n 1 dX8_bill_125 rfl rfl ?_
            obtain ⟨fs, hf, a_7, hv, h⟩ := h
            refine x_get dX8_bill_126 xf_X8_84 hf hv ?_
            refine x_iload 0 dX8_bill_129 rfl ?_
            obtain ⟨n, f, hf, hi, h⟩ := h
            refine x_iald dX8_bill_131 hf hi ?_
            generalize f _ = x_8 at h ⊢
            refine x_i2l dX8_bill_132 ?_
            exact x_lret dX8_bill_133 hr ht ⟨_, rfl, h⟩
          · have h := h2 q
            refine x_aload_n 1 dX8_bill_114 rfl rfl ?_
            obtain ⟨fs, hf, a_9, hv, h⟩ := h
            refine x_get dX8_bill_115 xf_X8_81 hf hv ?_
            refine x_iload 0 dX8_bill_118 rfl ?_
            obtain ⟨n, f, hf, hi, h⟩ := h
            refine x_iald dX8_bill_120 hf hi ?_
            generalize f _ = x_10 at h ⊢
            refine x_i2l dX8_bill_121 ?_
            refine x_goto (tgt := 133) dX8_bill_122 (by decide) ?_
            exact x_lret dX8_bill_133 hr ht ⟨_, rfl, h⟩
        · have h := h2 q
          refine x_aload_n 1 dX8_bill_98 rfl rfl ?_
          obtain ⟨fs, hf, a_11, hv, h⟩ := h
          refine x_get dX8_bill_99 xf_X8_78 hf hv ?_
          refine x_iload 0 dX8_bill_102 rfl ?_
          obtain ⟨n, f, hf, hi, h⟩ := h
          refine x_iald dX8_bill_104 hf hi ?_
          generalize f _ = x_12 at h ⊢
          refine x_i2l dX8_bill_105 ?_
          refine x_goto (tgt := 133) dX8_bill_106 (by decide) ?_
          exact x_lret dX8_bill_133 hr ht ⟨_, rfl, h⟩
      · have h := h2 q
        refine x_aload_n 1 dX8_bill_82 rfl rfl ?_
        obtain ⟨fs, hf, a_13, hv, h⟩ := h
        refine x_get dX8_bill_83 xf_X8_75 hf hv ?_
        refine x_iload 0 dX8_bill_86 rfl ?_
        obtain ⟨n, f, hf, hi, h⟩ := h
        refine x_iald dX8_bill_88 hf hi ?_
        generalize f _ = x_14 at h ⊢
        refine x_i2l dX8_bill_89 ?_
        refine x_goto (tgt := 133) dX8_bill_90 (by decide) ?_
        exact x_lret dX8_bill_133 hr ht ⟨_, rfl, h⟩
    · have h := h2 q
      refine x_ldc2 dX8_bill_72 xw1461 ?_
      refine x_goto (tgt := 133) dX8_bill_75 (by decide) ?_
      exact x_lret dX8_bill_133 hr ht ⟨_, rfl, h⟩
  · have h := h2 q
    refine x_lconst (v := (0 : Int64)) dX8_bill_53 (by decide) ?_
    exact x_lret dX8_bill_54 hr ht ⟨_, rfl, h⟩
def V_X8_bill_21 (K : Int64 → xT → Prop) (a0 : Nat) (x1 : Int32) (x2 : Int32) (x3 : Int32) (xs0 : Int32) (t : xT) : Prop :=
  ((¬ xs0 = 0 → (V_X8_in_0 (fun x_2 t_1 => ((x_2 = 0 → V_X8_bill_47 K a0 x1 x2 x3 (2 : Int32) a0 t_1) ∧ (¬ x_2 = 0 → V_X8_bill_47 K a0 x1 x2 x3 (0 : Int32) a0 t_1))) x3 (0 : Int32) (3 : Int32) t)) ∧ (xs0 = 0 → V_X8_bill_47 K a0 x1 x2 x3 (1 : Int32) a0 t))
set_option maxRecDepth 20000 in
theorem S_X8_bill_21 {Γ : xΓ} {K : Int64 → xT → Prop} (hl : (gl Γ).stackTraces = false) (ht : (gM Γ).sig.returnType = (some .long)) (hr : xRet Γ (xKl K)) {a0 : Nat} {x1 : Int32} {x2 : Int32} {x3 : Int32} {xs0 : Int32} {t : xT} {rc rs : Nat} (h : V_X8_bill_21 K a0 x1 x2 x3 xs0 t) : xX Γ k_X8_bill 21 [(0, .ref a0), (1, .int x1), (2, .int x2), (3, .int x3)] [.int xs0] t rc rs := by
  unfold V_X8_bill_21 at h
  refine x_istore (L' := [(4, .int xs0), (0, .ref a0), (1, .int x1), (2, .int x2), (3, .int x3)]) dX8_bill_21 (by decide) rfl ?_
  refine x_aload_n 1 dX8_bill_23 rfl rfl ?_
  refine x_iload 0 dX8_bill_24 rfl ?_
  obtain ⟨h1, h2⟩ := h
  refine x_if_ne (tgt := 33) dX8_bill_26 (by decide) (fun q => ?_) (fun q => ?_)
  · have h := h1 q
    refine x_iload_n 4 dX8_bill_33 rfl rfl ?_
    refine x_iconst (v := (0 : Int32)) dX8_bill_34 (by decide) ?_
    refine x_iconst (v := (3 : Int32)) dX8_bill_35 (by decide) ?_
    refine x_invS (as := [.int x3, .int (0 : Int32), .int (3 : Int32)]) (rest := [.ref a0]) dX8_bill_36 xc_X8_bill_119 (M_X8_in hl h) rfl rfl (Nat.le_of_ble_eq_true rfl) (Nat.zero_le _) (Nat.zero_le _) (xk_i fun x_2 t_1 h => ?_)
    obtain ⟨h1, h2⟩ := h
    refine x_if_eq (tgt := 46) dX8_bill_39 (by decide) (fun q => ?_) (fun q => ?_)
    · have h := h1 q
      refine x_iconst (v := (2 : Int32)) dX8_bill_46 (by decide) ?_
      refine x_sub (L' := [(0, .ref a0), (1, .int x1), (2, .int x2), (3, .int x3)]) [1, 2, 3, 4] rfl ?_
      exact S_X8_bill_47 hl ht hr  h
    · have h := h2 q
      refine x_iconst (v := (0 : Int32)) dX8_bill_42 (by decide) ?_
      refine x_goto (tgt := 47) dX8_bill_43 (by decide) ?_
      refine x_sub (L' := [(0, .ref a0), (1, .int x1), (2, .int x2), (3, .int x3)]) [1, 2, 3, 4] rfl ?_
      exact S_X8_bill_47 hl ht hr  h
  · have h := h2 q
    refine x_iconst (v := (1 : Int32)) dX8_bill_29 (by decide) ?_
    refine x_goto (tgt := 47) dX8_bill_30 (by decide) ?_
    refine x_sub (L' := [(0, .ref a0), (1, .int x1), (2, .int x2), (3, .int x3)]) [1, 2, 3, 4] rfl ?_
    exact S_X8_bill_47 hl ht hr  h
def V_X8_bill_0 (K : Int64 → xT → Prop) (a0 : Nat) (x1 : Int32) (x2 : Int32) (x3 : Int32) (t : xT) : Prop :=
  (xis t a0 8 ∧ V_X8_isLease_0 (fun x_2 t_1 => ((x_2 = 0 → V_X8_bill_21 K a0 x1 x2 x3 (0 : Int32) t_1) ∧ (¬ x_2 = 0 → (xis t_1 a0 8 ∧ V_X8_isMonth_0 (fun x_4 t_3 => ((x_4 = 0 → V_X8_bill_21 K a0 x1 x2 x3 (0 : Int32) t_3) ∧ (¬ x_4 = 0 → V_X8_bill_21 K a0 x1 x2 x3 (1 : Int32) t_3))) a0 x2 t_1)))) a0 x1 t)
set_option maxRecDepth 20000 in
theorem S_X8_bill_0 {Γ : xΓ} {K : Int64 → xT → Prop} (hl : (gl Γ).stackTraces = false) (ht : (gM Γ).sig.returnType = (some .long)) (hr : xRet Γ (xKl K)) {a0 : Nat} {x1 : Int32} {x2 : Int32} {x3 : Int32} {t : xT} {rc rs : Nat} (h : V_X8_bill_0 K a0 x1 x2 x3 t) : xX Γ k_X8_bill 0 [(0, .ref a0), (1, .int x1), (2, .int x2), (3, .int x3)] [] t rc rs := by
  unfold V_X8_bill_0 at h
  refine x_aload_n 0 dX8_bill_0 rfl rfl ?_
  refine x_iload_n 1 dX8_bill_1 rfl rfl ?_
  obtain ⟨⟨fs, hf⟩, h⟩ := h
  refine x_invV (as := [.int x1]) (rest := []) dX8_bill_2 (q := (RX8, TX8, 40)) rfl xc_X8_bill_148 hf (M_X8_isLease hl h) rfl rfl (Nat.le_of_ble_eq_true rfl) (Nat.zero_le _) (Nat.zero_le _) (xk_i fun x_2 t_1 h => ?_)
  obtain ⟨h1, h2⟩ := h
  refine x_if_eq (tgt := 20) dX8_bill_5 (by decide) (fun q => ?_) (fun q => ?_)
  · have h := h1 q
    refine x_iconst (v := (0 : Int32)) dX8_bill_20 (by decide) ?_
    exact S_X8_bill_21 hl ht hr  h
  · have h := h2 q
    refine x_aload_n 0 dX8_bill_8 rfl rfl ?_
    refine x_iload_n 2 dX8_bill_9 rfl rfl ?_
    obtain ⟨⟨fs, hf⟩, h⟩ := h
    refine x_invV (as := [.int x2]) (rest := []) dX8_bill_10 (q := (RX8, TX8, 40)) rfl xc_X8_bill_202 hf (M_X8_isMonth hl h) rfl rfl (Nat.le_of_ble_eq_true rfl) (Nat.zero_le _) (Nat.zero_le _) (xk_i fun x_4 t_3 h => ?_)
    obtain ⟨h1, h2⟩ := h
    refine x_if_eq (tgt := 20) dX8_bill_13 (by decide) (fun q => ?_) (fun q => ?_)
    · have h := h1 q
      refine x_iconst (v := (0 : Int32)) dX8_bill_20 (by decide) ?_
      exact S_X8_bill_21 hl ht hr  h
    · have h := h2 q
      refine x_iconst (v := (1 : Int32)) dX8_bill_16 (by decide) ?_
      refine x_goto (tgt := 21) dX8_bill_17 (by decide) ?_
      exact S_X8_bill_21 hl ht hr  h
theorem M_X8_bill {l : Launch} {G : xG} (hl : l.stackTraces = false) {a0 : Nat} {x1 : Int32} {x2 : Int32} {x3 : Int32} {t : xT} {K : Int64 → xT → Prop} (h : V_X8_bill_0 K a0 x1 x2 x3 t) : xMet l G yX8_bill k_X8_bill (some .long) [.ref a0, .int x1, .int x2, .int x3] t (xKl K) 0 0 := xMet.of (by decide +kernel) rfl hl (Nat.le_of_ble_eq_true rfl) (fun Γ e1 e2 ht hn hr => by subst e1; subst e2; exact S_X8_bill_0 hl ht hr h)
/-! RentStreamModel.bills(II)V -/
def V_X8_bills_73 (K : xT → Prop) (a0 : Nat) (x1 : Int32) (x2 : Int32) (x3 : Int32) (x4 : Int32) (xs0 : Int32) (xs1 : Int32) (as2 : Nat) (t : xT) : Prop :=
  xsI 0 t as2 xs1 xs0 fun t_1 => xgR t_1 a0 8 30 fun a_2 => xgR t_1 a0 8 36 fun a_3 => xaJ t_1 a_3 x1 fun y_4 => xsI 0 t_1 a_2 x3 y_4.toInt32 fun t_5 => xgR t_5 a0 8 29 fun a_6 => xgR t_5 a0 8 28 fun a_7 => xaI 0 t_5 a_7 x3 fun x_8 => (xis t_5 a0 8 ∧ V_X8_incomeIn_0 (fun x_10 t_9 => (V_X8_benefitFor_0 (fun x_12 t_11 => xsI 0 t_11 a_6 x3 x_12 fun t_13 => xgR t_13 a0 8 23 fun a_14 => xaJ t_13 a_14 x1 fun y_15 => xgR t_13 a0 8 28 fun a_16 => xaI 0 t_13 a_16 x3 fun x_17 => xgR t_13 a0 8 29 fun a_18 => xaI 0 t_13 a_18 x3 fun x_19 => xgR t_13 a0 8 30 fun a_20 => xaI 0 t_13 a_20 x3 fun x_21 => xsJ t_13 a_14 x1 (y_15 + ((((x4 - x_17) - x_19) + x_21)).toInt64) fun t_22 => xgR t_22 a0 8 24 fun a_23 => xaJ t_22 a_23 x1 fun y_24 => xgR t_22 a0 8 29 fun a_25 => xaI 0 t_22 a_25 x3 fun x_26 => xsJ t_22 a_23 x1 (y_24 + x_26.toInt64) fun t_27 => K t_27) (x4 - x_8) x_10 t_9)) a0 x1 x2 t_5)
set_option maxRecDepth 20000 in
theorem S_X8_bills_73 {Γ : xΓ} {K : xT → Prop} (hl : (gl Γ).stackTraces = false) (ht : (gM Γ).sig.returnType = none) (hr : xRet Γ (xKv K)) {a0 : Nat} {x1 : Int32} {x2 : Int32} {x3 : Int32} {x4 : Int32} {xs0 : Int32} {xs1 : Int32} {as2 : Nat} {t : xT} {rc rs : Nat} (h : V_X8_bills_73 K a0 x1 x2 x3 x4 xs0 xs1 as2 t) : xX Γ k_X8_bills 73 [(0, .ref a0), (1, .int x1), (2, .int x2), (3, .int x3), (4, .int x4)] [.int xs0, .int xs1, .ref as2] t rc rs := by
  unfold V_X8_bills_73 at h
  obtain ⟨n, f, hf, hi, h⟩ := h
  refine x_iast dX8_bills_73 hf hi ?_
  generalize hT : xup t as2 _ = t_1 at h ⊢
  clear hT
  refine x_aload_n 0 dX8_bills_74 rfl rfl ?_
  obtain ⟨fs, hf, a_2, hv, h⟩ := h
  refine x_get dX8_bills_75 xf_X8_84 hf hv ?_
  refine x_iload_n 3 dX8_bills_78 rfl rfl ?_
  refine x_aload_n 0 dX8_bills_79 rfl rfl ?_
  obtain ⟨fs, hf, a_3, hv, h⟩ := h
  refine x_get dX8_bills_80 xf_X8_102 hf hv ?_
  refine x_iload_n 1 dX8_bills_83 rfl rfl ?_
  obtain ⟨n, f, hf, hi, h⟩ := h
  refine x_lald dX8_bills_84 hf hi ?_
  generalize f _ = y_4 at h ⊢
  refine x_l2i dX8_bills_85 ?_
  obtain ⟨n, f, hf, hi, h⟩ := h
  refine x_iast dX8_bills_86 hf hi ?_
  generalize hT : xup t_1 a_2 _ = t_5 at h ⊢
  clear hT
  refine x_aload_n 0 dX8_bills_87 rfl rfl ?_
  obtain ⟨fs, hf, a_6, hv, h⟩ := h
  refine x_get dX8_bills_88 xf_X8_81 hf hv ?_
  refine x_iload_n 3 dX8_bills_91 rfl rfl ?_
  refine x_iload 4 dX8_bills_92 rfl ?_
  refine x_aload_n 0 dX8_bills_94 rfl rfl ?_
  obtain ⟨fs, hf, a_7, hv, h⟩ := h
  refine x_get dX8_bills_95 xf_X8_78 hf hv ?_
  refine x_iload_n 3 dX8_bills_98 rfl rfl ?_
  obtain ⟨n, f, hf, hi, h⟩ := h
  refine x_iald dX8_bills_99 hf hi ?_
  generalize f _ = x_8 at h ⊢
  refine x_isub dX8_bills_100 ?_
  refine x_aload_n 0 dX8_bills_101 rfl rfl ?_
  refine x_iload_n 1 dX8_bills_102 rfl rfl ?_
  refine x_iload_n 2 dX8_bills_103 rfl rfl ?_
  obtain ⟨⟨fs, hf⟩, h⟩ := h
  refine x_invV (as := [.int x1, .int x2]) (rest := [.int (x4 - x_8), .int x3, .ref a_6]) dX8_bills_104 (q := (RX8, TX8, 40)) rfl xc_X8_bills_182 hf (M_X8_incomeIn hl h) rfl rfl (Nat.le_of_ble_eq_true rfl) (Nat.zero_le _) (Nat.zero_le _) (xk_i fun x_10 t_9 h => ?_)
  refine x_invS (as := [.int (x4 - x_8), .int x_10]) (rest := [.int x3, .ref a_6]) dX8_bills_107 xc_X8_bills_185 (M_X8_benefitFor hl h) rfl rfl (Nat.le_of_ble_eq_true rfl) (Nat.zero_le _) (Nat.zero_le _) (xk_i fun x_12 t_11 h => ?_)
  obtain ⟨n, f, hf, hi, h⟩ := h
  refine x_iast dX8_bills_110 hf hi ?_
  generalize hT : xup t_11 a_6 _ = t_13 at h ⊢
  clear hT
  refine x_aload_n 0 dX8_bills_111 rfl rfl ?_
  obtain ⟨fs, hf, a_14, hv, h⟩ := h
  refine x_get dX8_bills_112 xf_X8_62 hf hv ?_
  refine x_iload_n 1 dX8_bills_115 rfl rfl ?_
  refine x_dup2_11 dX8_bills_116 rfl rfl ?_
  obtain ⟨n, f, hf, hi, h⟩ := h
  refine x_lald dX8_bills_117 hf hi ?_
  generalize f _ = y_15 at h ⊢
  refine x_iload 4 dX8_bills_118 rfl ?_
  refine x_aload_n 0 dX8_bills_120 rfl rfl ?_
  obtain ⟨fs, hf, a_16, hv, h⟩ := h
  refine x_get dX8_bills_121 xf_X8_78 hf hv ?_
  refine x_iload_n 3 dX8_bills_124 rfl rfl ?_
  obtain ⟨n, f, hf, hi, h⟩ := h
  refine x_iald dX8_bills_125 hf hi ?_
  generalize f _ = x_17 at h ⊢
  refine x_isub dX8_bills_126 ?_
  refine x_aload_n 0 dX8_bills_127 rfl rfl ?_
  obtain ⟨fs, hf, a_18, hv, h⟩ := h
  refine x_get dX8_bills_128 xf_X8_81 hf hv ?_
  refine x_iload_n 3 dX8_bills_131 rfl rfl ?_
  obtain ⟨n, f, hf, hi, h⟩ := h
  refine x_iald dX8_bills_132 hf hi ?_
  generalize f _ = x_19 at h ⊢
  refine x_isub dX8_bills_133 ?_
  refine x_aload_n 0 dX8_bills_134 rfl rfl ?_
  obtain ⟨fs, hf, a_20, hv, h⟩ := h
  refine x_get dX8_bills_135 xf_X8_84 hf hv ?_
  refine x_iload_n 3 dX8_bills_138 rfl rfl ?_
  obtain ⟨n, f, hf, hi, h⟩ := h
  refine x_iald dX8_bills_139 hf hi ?_
  generalize f _ = x_21 at h ⊢
  refine x_iadd dX8_bills_140 ?_
  refine x_i2l dX8_bills_141 ?_
  refine x_ladd dX8_bills_142 ?_
  obtain ⟨n, f, hf, hi, h⟩ := h
  refine x_last dX8_bills_143 hf hi ?_
  generalize hT : xup t_13 a_14 _ = t_22 at h ⊢
  clear hT
  refine x_aload_n 0 dX8_bills_144 rfl rfl ?_
  obtain ⟨fs, hf, a_23, hv, h⟩ := h
  refine x_get dX8_bills_145 xf_X8_66 hf hv ?_
  refine x_iload_n 1 dX8_bills_148 rfl rfl ?_
  refine x_dup2_11 dX8_bills_149 rfl rfl ?_
  obtain ⟨n, f, hf, hi, h⟩ := h
  refine x_lald dX8_bills_150 hf hi ?_
  generalize f _ = y_24 at h ⊢
  refine x_aload_n 0 dX8_bills_151 rfl rfl ?_
  obtain ⟨fs, hf, a_25, hv, h⟩ := h
  refine x_get dX8_bills_152 xf_X8_81 hf hv ?_
  refine x_iload_n 3 dX8_bills_155 rfl rfl ?_
  obtain ⟨n, f, hf, hi, h⟩ := h
  refine x_iald dX8_bills_156 hf hi ?_
  generalize f _ = x_26 at h ⊢
  refine x_i2l dX8_bills_157 ?_
  refine x_ladd dX8_bills_158 ?_
  obtain ⟨n, f, hf, hi, h⟩ := h
  refine x_last dX8_bills_159 hf hi ?_
  generalize hT : xup t_22 a_23 _ = t_27 at h ⊢
  clear hT
  exact x_vret dX8_bills_160 hr ht ⟨rfl, h⟩
def V_X8_bills_0 (K : xT → Prop) (a0 : Nat) (x1 : Int32) (x2 : Int32) (t : xT) : Prop :=
  (V_X8_at_0 (fun x_2 t_1 => (xis t_1 a0 8 ∧ V_X8_rentIn_0 (fun x_4 t_3 => xgR t_3 a0 8 8 fun a_5 => xgR t_3 a0 8 19 fun a_6 => xaI 0 t_3 a_6 x1 fun x_7 => xaI 0 t_3 a_5 x_7 fun x_8 => (¬ (3000 : Int64) = 0 ∧ xgR t_3 a0 8 26 fun a_9 => xsI 2 t_3 a_9 x_2 (vp_nar .boolean (1 : Int32)) fun t_10 => xgR t_10 a0 8 27 fun a_11 => xsI 0 t_10 a_11 x_2 x_4 fun t_12 => xgR t_12 a0 8 28 fun a_13 => ((((x_4.toInt64 * x_8.toInt64) / (3000 : Int64)) ≤ x_4.toInt64 → V_X8_bills_73 K a0 x1 x2 x_2 x_4 (((x_4.toInt64 * x_8.toInt64) / (3000 : Int64)).toInt32) x_2 a_13 t_12) ∧ (¬ ((x_4.toInt64 * x_8.toInt64) / (3000 : Int64)) ≤ x_4.toInt64 → V_X8_bills_73 K a0 x1 x2 x_2 x_4 x_4 x_2 a_13 t_12)))) a0 x1 x2 t_1)) x1 x2 t)
set_option maxRecDepth 20000 in
theorem S_X8_bills_0 {Γ : xΓ} {K : xT → Prop} (hl : (gl Γ).stackTraces = false) (ht : (gM Γ).sig.returnType = none) (hr : xRet Γ (xKv K)) {a0 : Nat} {x1 : Int32} {x2 : Int32} {t : xT} {rc rs : Nat} (h : V_X8_bills_0 K a0 x1 x2 t) : xX Γ k_X8_bills 0 [(0, .ref a0), (1, .int x1), (2, .int x2)] [] t rc rs := by
  unfold V_X8_bills_0 at h
  refine x_iload_n 1 dX8_bills_0 rfl rfl ?_
  refine x_iload_n 2 dX8_bills_1 rfl rfl ?_
  refine x_invS (as := [.int x1, .int x2]) (rest := []) dX8_bills_2 xc_X8_bills_173 (M_X8_at hl h) rfl rfl (Nat.le_of_ble_eq_true rfl) (Nat.zero_le _) (Nat.zero_le _) (xk_i fun x_2 t_1 h => ?_)
  refine x_istore_n (L' := [(3, .int x_2), (0, .ref a0), (1, .int x1), (2, .int x2)]) dX8_bills_5 rfl (by decide) rfl ?_
  refine x_aload_n 1 dX8_bills_6 rfl rfl ?_
  refine x_iload_n 2 dX8_bills_7 rfl rfl ?_
  refine x_iload_n 3 dX8_bills_8 rfl rfl ?_
  obtain ⟨⟨fs, hf⟩, h⟩ := h
  refine x_invV (as := [.int x1, .int x2]) (rest := []) dX8_bills_9 (q := (RX8, TX8, 40)) rfl xc_X8_bills_177 hf (M_X8_rentIn hl h) rfl rfl (Nat.le_of_ble_eq_true rfl) (Nat.zero_le _) (Nat.zero_le _) (xk_i fun x_4 t_3 h => ?_)
  refine x_istore (L' := [(4, .int x_4), (3, .int x_2), (0, .ref a0), (1, .int x1), (2, .int x2)]) dX8_bills_12 (by decide) rfl ?_
  refine x_iload 0 dX8_bills_14 rfl ?_
  refine x_i2l dX8_bills_16 ?_
  refine x_aload_n 2 dX8_bills_17 rfl rfl ?_
  obtain ⟨fs, hf, a_5, hv, h⟩ := h
  refine x_get dX8_bills_18 xf_X8_25 hf hv ?_
  refine x_aload_n 2 dX8_bills_21 rfl rfl ?_
  obtain ⟨fs, hf, a_6, hv, h⟩ := h
  refine x_get dX8_bills_22 xf_X8_50 hf hv ?_
  refine x_iload_n 3 dX8_bills_25 rfl rfl ?_
  obtain ⟨n, f, hf, hi, h⟩ := h
  refine x_iald dX8_bills_26 hf hi ?_
  generalize f _ = x_7 at h ⊢
  obtain ⟨n, f, hf, hi, h⟩ := h
  refine x_iald dX8_bills_27 hf hi ?_
  generalize f _ = x_8 at h ⊢
  refine x_i2l dX8_bills_28 ?_
  refine x_lmul dX8_bills_29 ?_
  refine x_ldc2 dX8_bills_30 xw1474 ?_
  obtain ⟨q, h⟩ := h
  refine x_ldiv dX8_bills_33 q ?_
  refine x_lstore (L' := [(5, .long ((x_4.toInt64 * x_8.toInt64) / (3000 : Int64))), (4, .int x_4), (3, .int x_2), (0, .ref a0), (1, .int x1), (2, .int x2)]) dX8_bills_34 (by decide) rfl ?_
  refine x_aload_n 3 dX8_bills_36 rfl rfl ?_
  obtain ⟨fs, hf, a_9, hv, h⟩ := h
  refine x_get dX8_bills_37 xf_X8_72 hf hv ?_
  refine x_iload_n 2 dX8_bills_40 rfl rfl ?_
  refine x_iconst (v := (1 : Int32)) dX8_bills_41 (by decide) ?_
  obtain ⟨n, f, hf, hi, h⟩ := h
  refine x_zast dX8_bills_42 hf hi ?_
  generalize hT : xup t_3 a_9 _ = t_10 at h ⊢
  clear hT
  refine x_aload_n 3 dX8_bills_43 rfl rfl ?_
  obtain ⟨fs, hf, a_11, hv, h⟩ := h
  refine x_get dX8_bills_44 xf_X8_75 hf hv ?_
  refine x_iload_n 2 dX8_bills_47 rfl rfl ?_
  refine x_iload 1 dX8_bills_48 rfl ?_
  obtain ⟨n, f, hf, hi, h⟩ := h
  refine x_iast dX8_bills_50 hf hi ?_
  generalize hT : xup t_10 a_11 _ = t_12 at h ⊢
  clear hT
  refine x_aload_n 3 dX8_bills_51 rfl rfl ?_
  obtain ⟨fs, hf, a_13, hv, h⟩ := h
  refine x_get dX8_bills_52 xf_X8_78 hf hv ?_
  refine x_iload_n 2 dX8_bills_55 rfl rfl ?_
  refine x_lload 0 dX8_bills_56 rfl ?_
  refine x_iload 1 dX8_bills_58 rfl ?_
  refine x_i2l dX8_bills_60 ?_
  obtain ⟨h1, h2⟩ := h
  refine x_lcmp_le (tgt := 70) dX8_bills_61 dX8_bills_62 (by decide) (fun q => ?_) (fun q => ?_)
  · have h := h1 q
    refine x_lload 0 dX8_bills_70 rfl ?_
    refine x_l2i dX8_bills_72 ?_
    refine x_sub (L' := [(0, .ref a0), (1, .int x1), (2, .int x2), (3, .int x_2), (4, .int x_4)]) [3, 4, 5, 2, 1] rfl ?_
    exact S_X8_bills_73 hl ht hr  h
  · have h := h2 q
    refine x_iload 1 dX8_bills_65 rfl ?_
    refine x_goto (tgt := 73) dX8_bills_67 (by decide) ?_
    refine x_sub (L' := [(0, .ref a0), (1, .int x1), (2, .int x2), (3, .int x_2), (4, .int x_4)]) [3, 4, 5, 2, 1] rfl ?_
    exact S_X8_bills_73 hl ht hr  h
theorem M_X8_bills {l : Launch} {G : xG} (hl : l.stackTraces = false) {a0 : Nat} {x1 : Int32} {x2 : Int32} {t : xT} {K : xT → Prop} (h : V_X8_bills_0 K a0 x1 x2 t) : xMet l G yX8_bills k_X8_bills none [.ref a0, .int x1, .int x2] t (xKv K) 0 0 := xMet.of (by decide +kernel) rfl hl (Nat.le_of_ble_eq_true rfl) (fun Γ e1 e2 ht hn hr => by subst e1; subst e2; exact S_X8_bills_0 hl ht hr h)
/-! RentStreamModel.desk(I)J -/
def V_X8_desk_0 (K : Int64 → xT → Prop) (a0 : Nat) (x1 : Int32) (t : xT) : Prop :=
  (xis t a0 8 ∧ V_X8_isLease_0 (fun x_2 t_1 => ((x_2 = 0 → (xis t_1 a0 8 ∧ V_X8_holds_0 (fun x_4 t_3 => ((x_4 = 0 → K (0 : Int64) t_3) ∧ (¬ x_4 = 0 → xgR t_3 a0 8 24 fun a_5 => xaJ t_3 a_5 x1 fun y_6 => K y_6 t_3))) a0 (1 : Int32) t_1)) ∧ (¬ x_2 = 0 → (xis t_1 a0 8 ∧ V_X8_holds_0 (fun x_8 t_7 => ((x_8 = 0 → K (0 : Int64) t_7) ∧ (¬ x_8 = 0 → xgR t_7 a0 8 24 fun a_9 => xaJ t_7 a_9 x1 fun y_10 => K y_10 t_7))) a0 (0 : Int32) t_1)))) a0 x1 t)
set_option maxRecDepth 20000 in
theorem S_X8_desk_0 {Γ : xΓ} {K : Int64 → xT → Prop} (hl : (gl Γ).stackTraces = false) (ht : (gM Γ).sig.returnType = (some .long)) (hr : xRet Γ (xKl K)) {a0 : Nat} {x1 : Int32} {t : xT} {rc rs : Nat} (h : V_X8_desk_0 K a0 x1 t) : xX Γ k_X8_desk 0 [(0, .ref a0), (1, .int x1)] [] t rc rs := by
  unfold V_X8_desk_0 at h
  refine x_aload_n 0 dX8_desk_0 rfl rfl ?_
  refine x_aload_n 0 dX8_desk_1 rfl rfl ?_
  refine x_iload_n 1 dX8_desk_2 rfl rfl ?_
  obtain ⟨⟨fs, hf⟩, h⟩ := h
  refine x_invV (as := [.int x1]) (rest := [.ref a0]) dX8_desk_3 (q := (RX8, TX8, 40)) rfl xc_X8_desk_148 hf (M_X8_isLease hl h) rfl rfl (Nat.le_of_ble_eq_true rfl) (Nat.zero_le _) (Nat.zero_le _) (xk_i fun x_2 t_1 h => ?_)
  obtain ⟨h1, h2⟩ := h
  refine x_if_eq (tgt := 13) dX8_desk_6 (by decide) (fun q => ?_) (fun q => ?_)
  · have h := h1 q
    refine x_iconst (v := (1 : Int32)) dX8_desk_13 (by decide) ?_
    obtain ⟨⟨fs, hf⟩, h⟩ := h
    refine x_invV (as := [.int (1 : Int32)]) (rest := []) dX8_desk_14 (q := (RX8, TX8, 40)) rfl xc_X8_desk_133 hf (M_X8_holds hl h) rfl rfl (Nat.le_of_ble_eq_true rfl) (Nat.zero_le _) (Nat.zero_le _) (xk_i fun x_4 t_3 h => ?_)
    obtain ⟨h1, h2⟩ := h
    refine x_if_eq (tgt := 29) dX8_desk_17 (by decide) (fun q => ?_) (fun q => ?_)
    · have h := h1 q
      refine x_lconst (v := (0 : Int64)) dX8_desk_29 (by decide) ?_
      exact x_lret dX8_desk_30 hr ht ⟨_, rfl, h⟩
    · have h := h2 q
      refine x_aload_n 0 dX8_desk_20 rfl rfl ?_
      obtain ⟨fs, hf, a_5, hv, h⟩ := h
      refine x_get dX8_desk_21 xf_X8_66 hf hv ?_
      refine x_iload_n 1 dX8_desk_24 rfl rfl ?_
      obtain ⟨n, f, hf, hi, h⟩ := h
      refine x_lald dX8_desk_25 hf hi ?_
      generalize f _ = y_6 at h ⊢
      refine x_goto (tgt := 30) dX8_desk_26 (by decide) ?_
      exact x_lret dX8_desk_30 hr ht ⟨_, rfl, h⟩
  · have h := h2 q
    refine x_iconst (v := (0 : Int32)) dX8_desk_9 (by decide) ?_
    refine x_goto (tgt := 14) dX8_desk_10 (by decide) ?_
    obtain ⟨⟨fs, hf⟩, h⟩ := h
    refine x_invV (as := [.int (0 : Int32)]) (rest := []) dX8_desk_14 (q := (RX8, TX8, 40)) rfl xc_X8_desk_133 hf (M_X8_holds hl h) rfl rfl (Nat.le_of_ble_eq_true rfl) (Nat.zero_le _) (Nat.zero_le _) (xk_i fun x_8 t_7 h => ?_)
    obtain ⟨h1, h2⟩ := h
    refine x_if_eq (tgt := 29) dX8_desk_17 (by decide) (fun q => ?_) (fun q => ?_)
    · have h := h1 q
      refine x_lconst (v := (0 : Int64)) dX8_desk_29 (by decide) ?_
      exact x_lret dX8_desk_30 hr ht ⟨_, rfl, h⟩
    · have h := h2 q
      refine x_aload_n 0 dX8_desk_20 rfl rfl ?_
      obtain ⟨fs, hf, a_9, hv, h⟩ := h
      refine x_get dX8_desk_21 xf_X8_66 hf hv ?_
      refine x_iload_n 1 dX8_desk_24 rfl rfl ?_
      obtain ⟨n, f, hf, hi, h⟩ := h
      refine x_lald dX8_desk_25 hf hi ?_
      generalize f _ = y_10 at h ⊢
      refine x_goto (tgt := 30) dX8_desk_26 (by decide) ?_
      exact x_lret dX8_desk_30 hr ht ⟨_, rfl, h⟩
theorem M_X8_desk {l : Launch} {G : xG} (hl : l.stackTraces = false) {a0 : Nat} {x1 : Int32} {t : xT} {K : Int64 → xT → Prop} (h : V_X8_desk_0 K a0 x1 t) : xMet l G yX8_desk k_X8_desk (some .long) [.ref a0, .int x1] t (xKl K) 0 0 := xMet.of (by decide +kernel) rfl hl (Nat.le_of_ble_eq_true rfl) (fun Γ e1 e2 ht hn hr => by subst e1; subst e2; exact S_X8_desk_0 hl ht hr h)
/-! RentStreamModel.end(I)I -/
def V_X8_end_0 (K : Int32 → xT → Prop) (a0 : Nat) (x1 : Int32) (t : xT) : Prop :=
  (xis t a0 8 ∧ V_X8_isLease_0 (fun x_2 t_1 => ((¬ x_2 = 0 → xgR t_1 a0 8 22 fun a_3 => xaI 0 t_1 a_3 x1 fun x_4 => ((x_4 = (1000 : Int32) → (xis t_1 a0 8 ∧ V_X8_holds_0 (fun x_6 t_5 => ((¬ x_6 = 0 → xgR t_5 a0 8 22 fun a_7 => (xis t_5 a0 8 ∧ V_X8_month_0 (fun x_9 t_8 => xsI 0 t_8 a_7 x1 x_9 fun t_10 => (xis t_10 a0 8 ∧ V_X8_month_0 (fun x_12 t_11 => K x_12 t_11) a0 t_10)) a0 t_5)) ∧ (x_6 = 0 → K (0 : Int32) t_5))) a0 (0 : Int32) t_1)) ∧ (¬ x_4 = (1000 : Int32) → (xis t_1 a0 8 ∧ V_X8_holds_0 (fun x_14 t_13 => ((¬ x_14 = 0 → xgR t_13 a0 8 22 fun a_15 => (xis t_13 a0 8 ∧ V_X8_month_0 (fun x_17 t_16 => xsI 0 t_16 a_15 x1 x_17 fun t_18 => (xis t_18 a0 8 ∧ V_X8_month_0 (fun x_20 t_19 => K x_20 t_19) a0 t_18)) a0 t_13)) ∧ (x_14 = 0 → K (0 : Int32) t_13))) a0 (2 : Int32) t_1)))) ∧ (x_2 = 0 → (xis t_1 a0 8 ∧ V_X8_holds_0 (fun x_22 t_21 => ((¬ x_22 = 0 → xgR t_21 a0 8 22 fun a_23 => (xis t_21 a0 8 ∧ V_X8_month_0 (fun x_25 t_24 => xsI 0 t_24 a_23 x1 x_25 fun t_26 => (xis t_26 a0 8 ∧ V_X8_month_0 (fun x_28 t_27 => K x_28 t_27) a0 t_26)) a0 t_21)) ∧ (x_22 = 0 → K (0 : Int32) t_21))) a0 (1 : Int32) t_1)))) a0 x1 t)
set_option maxRecDepth 20000 in
theorem S_X8_end_0 {Γ : xΓ} {K : Int32 → xT → Prop} (hl : (gl Γ).stackTraces = false) (ht : (gM Γ).sig.returnType = (some .int)) (hr : xRet Γ (xKi K)) {a0 : Nat} {x1 : Int32} {t : xT} {rc rs : Nat} (h : V_X8_end_0 K a0 x1 t) : xX Γ k_X8_end 0 [(0, .ref a0), (1, .int x1)] [] t rc rs := by
  unfold V_X8_end_0 at h
  refine x_aload_n 0 dX8_end_0 rfl rfl ?_
  refine x_iload_n 1 dX8_end_1 rfl rfl ?_
  obtain ⟨⟨fs, hf⟩, h⟩ := h
  refine x_invV (as := [.int x1]) (rest := []) dX8_end_2 (q := (RX8, TX8, 40)) rfl xc_X8_end_148 hf (M_X8_isLease hl h) rfl rfl (Nat.le_of_ble_eq_true rfl) (Nat.zero_le _) (Nat.zero_le _) (xk_i fun x_2 t_1 h => ?_)
  refine x_istore_n (L' := [(2, .int x_2), (0, .ref a0), (1, .int x1)]) dX8_end_5 rfl (by decide) rfl ?_
  refine x_aload_n 1 dX8_end_6 rfl rfl ?_
  refine x_iload_n 0 dX8_end_7 rfl rfl ?_
  obtain ⟨h1, h2⟩ := h
  refine x_if_ne (tgt := 15) dX8_end_8 (by decide) (fun q => ?_) (fun q => ?_)
  · have h := h1 q
    refine x_aload_n 1 dX8_end_15 rfl rfl ?_
    obtain ⟨fs, hf, a_3, hv, h⟩ := h
    refine x_get dX8_end_16 xf_X8_59 hf hv ?_
    refine x_iload_n 2 dX8_end_19 rfl rfl ?_
    obtain ⟨n, f, hf, hi, h⟩ := h
    refine x_iald dX8_end_20 hf hi ?_
    generalize f _ = x_4 at h ⊢
    refine x_sipush (v := (1000 : Int32)) dX8_end_21 (by decide) ?_
    obtain ⟨h1, h2⟩ := h
    refine x_icmp_eq (tgt := 31) dX8_end_24 (by decide) (fun q => ?_) (fun q => ?_)
    · have h := h1 q
      refine x_iconst (v := (0 : Int32)) dX8_end_31 (by decide) ?_
      obtain ⟨⟨fs, hf⟩, h⟩ := h
      refine x_invV (as := [.int (0 : Int32)]) (rest := []) dX8_end_32 (q := (RX8, TX8, 40)) rfl xc_X8_end_133 hf (M_X8_holds hl h) rfl rfl (Nat.le_of_ble_eq_true rfl) (Nat.zero_le _) (Nat.zero_le _) (xk_i fun x_6 t_5 h => ?_)
      obtain ⟨h1, h2⟩ := h
      refine x_if_ne (tgt := 40) dX8_end_35 (by decide) (fun q => ?_) (fun q => ?_)
      · have h := h1 q
        refine x_aload_n 1 dX8_end_40 rfl rfl ?_
        obtain ⟨fs, hf, a_7, hv, h⟩ := h
        refine x_get dX8_end_41 xf_X8_59 hf hv ?_
        refine x_iload_n 2 dX8_end_44 rfl rfl ?_
        refine x_aload_n 1 dX8_end_45 rfl rfl ?_
        obtain ⟨⟨fs, hf⟩, h⟩ := h
        refine x_invV (as := []) (rest := [.int x1, .ref a_7]) dX8_end_46 (q := (RX8, TX8, 40)) rfl xc_X8_end_129 hf (M_X8_month hl h) rfl rfl (Nat.le_of_ble_eq_true rfl) (Nat.zero_le _) (Nat.zero_le _) (xk_i fun x_9 t_8 h => ?_)
        obtain ⟨n, f, hf, hi, h⟩ := h
        refine x_iast dX8_end_49 hf hi ?_
        generalize hT : xup t_8 a_7 _ = t_10 at h ⊢
        clear hT
        refine x_aload_n 1 dX8_end_50 rfl rfl ?_
        obtain ⟨⟨fs, hf⟩, h⟩ := h
        refine x_invV (as := []) (rest := []) dX8_end_51 (q := (RX8, TX8, 40)) rfl xc_X8_end_129 hf (M_X8_month hl h) rfl rfl (Nat.le_of_ble_eq_true rfl) (Nat.zero_le _) (Nat.zero_le _) (xk_i fun x_12 t_11 h => ?_)
        exact x_zret dX8_end_54 hr ht rfl ⟨_, rfl, h⟩
      · have h := h2 q
        refine x_iconst (v := (0 : Int32)) dX8_end_38 (by decide) ?_
        exact x_zret dX8_end_39 hr ht rfl ⟨_, rfl, h⟩
    · have h := h2 q
      refine x_iconst (v := (2 : Int32)) dX8_end_27 (by decide) ?_
      refine x_goto (tgt := 32) dX8_end_28 (by decide) ?_
      obtain ⟨⟨fs, hf⟩, h⟩ := h
      refine x_invV (as := [.int (2 : Int32)]) (rest := []) dX8_end_32 (q := (RX8, TX8, 40)) rfl xc_X8_end_133 hf (M_X8_holds hl h) rfl rfl (Nat.le_of_ble_eq_true rfl) (Nat.zero_le _) (Nat.zero_le _) (xk_i fun x_14 t_13 h => ?_)
      obtain ⟨h1, h2⟩ := h
      refine x_if_ne (tgt := 40) dX8_end_35 (by decide) (fun q => ?_) (fun q => ?_)
      · have h := h1 q
        refine x_aload_n 1 dX8_end_40 rfl rfl ?_
        obtain ⟨fs, hf, a_15, hv, h⟩ := h
        refine x_get dX8_end_41 xf_X8_59 hf hv ?_
        refine x_iload_n 2 dX8_end_44 rfl rfl ?_
        refine x_aload_n 1 dX8_end_45 rfl rfl ?_
        obtain ⟨⟨fs, hf⟩, h⟩ := h
        refine x_invV (as := []) (rest := [.int x1, .ref a_15]) dX8_end_46 (q := (RX8, TX8, 40)) rfl xc_X8_end_129 hf (M_X8_month hl h) rfl rfl (Nat.le_of_ble_eq_true rfl) (Nat.zero_le _) (Nat.zero_le _) (xk_i fun x_17 t_16 h => ?_)
        obtain ⟨n, f, hf, hi, h⟩ := h
        refine x_iast dX8_end_49 hf hi ?_
        generalize hT : xup t_16 a_15 _ = t_18 at h ⊢
        clear hT
        refine x_aload_n 1 dX8_end_50 rfl rfl ?_
        obtain ⟨⟨fs, hf⟩, h⟩ := h
        refine x_invV (as := []) (rest := []) dX8_end_51 (q := (RX8, TX8, 40)) rfl xc_X8_end_129 hf (M_X8_month hl h) rfl rfl (Nat.le_of_ble_eq_true rfl) (Nat.zero_le _) (Nat.zero_le _) (xk_i fun x_20 t_19 h => ?_)
        exact x_zret dX8_end_54 hr ht rfl ⟨_, rfl, h⟩
      · have h := h2 q
        refine x_iconst (v := (0 : Int32)) dX8_end_38 (by decide) ?_
        exact x_zret dX8_end_39 hr ht rfl ⟨_, rfl, h⟩
  · have h := h2 q
    refine x_iconst (v := (1 : Int32)) dX8_end_11 (by decide) ?_
    refine x_goto (tgt := 32) dX8_end_12 (by decide) ?_
    obtain ⟨⟨fs, hf⟩, h⟩ := h
    refine x_invV (as := [.int (1 : Int32)]) (rest := []) dX8_end_32 (q := (RX8, TX8, 40)) rfl xc_X8_end_133 hf (M_X8_holds hl h) rfl rfl (Nat.le_of_ble_eq_true rfl) (Nat.zero_le _) (Nat.zero_le _) (xk_i fun x_22 t_21 h => ?_)
    obtain ⟨h1, h2⟩ := h
    refine x_if_ne (tgt := 40) dX8_end_35 (by decide) (fun q => ?_) (fun q => ?_)
    · have h := h1 q
      refine x_aload_n 1 dX8_end_40 rfl rfl ?_
      obtain ⟨fs, hf, a_23, hv, h⟩ := h
      refine x_get dX8_end_41 xf_X8_59 hf hv ?_
      refine x_iload_n 2 dX8_end_44 rfl rfl ?_
      refine x_aload_n 1 dX8_end_45 rfl rfl ?_
      obtain ⟨⟨fs, hf⟩, h⟩ := h
      refine x_invV (as := []) (rest := [.int x1, .ref a_23]) dX8_end_46 (q := (RX8, TX8, 40)) rfl xc_X8_end_129 hf (M_X8_month hl h) rfl rfl (Nat.le_of_ble_eq_true rfl) (Nat.zero_le _) (Nat.zero_le _) (xk_i fun x_25 t_24 h => ?_)
      obtain ⟨n, f, hf, hi, h⟩ := h
      refine x_iast dX8_end_49 hf hi ?_
      generalize hT : xup t_24 a_23 _ = t_26 at h ⊢
      clear hT
      refine x_aload_n 1 dX8_end_50 rfl rfl ?_
      obtain ⟨⟨fs, hf⟩, h⟩ := h
      refine x_invV (as := []) (rest := []) dX8_end_51 (q := (RX8, TX8, 40)) rfl xc_X8_end_129 hf (M_X8_month hl h) rfl rfl (Nat.le_of_ble_eq_true rfl) (Nat.zero_le _) (Nat.zero_le _) (xk_i fun x_28 t_27 h => ?_)
      exact x_zret dX8_end_54 hr ht rfl ⟨_, rfl, h⟩
    · have h := h2 q
      refine x_iconst (v := (0 : Int32)) dX8_end_38 (by decide) ?_
      exact x_zret dX8_end_39 hr ht rfl ⟨_, rfl, h⟩
theorem M_X8_end {l : Launch} {G : xG} (hl : l.stackTraces = false) {a0 : Nat} {x1 : Int32} {t : xT} {K : Int32 → xT → Prop} (h : V_X8_end_0 K a0 x1 t) : xMet l G yX8_end k_X8_end (some .int) [.ref a0, .int x1] t (xKi K) 0 0 := xMet.of (by decide +kernel) rfl hl (Nat.le_of_ble_eq_true rfl) (fun Γ e1 e2 ht hn hr => by subst e1; subst e2; exact S_X8_end_0 hl ht hr h)
/-! RentStreamModel.findsUse(II)V -/
def V_X8_findsUse_104 (K : xT → Prop) (a0 : Nat) (x1 : Int32) (x2 : Int32) (xs0 : Int32) (t : xT) : Prop :=
  xgR t a0 8 9 fun a_1 => xsI 0 t a_1 (((121 : Int32) * x1) + x2) xs0 fun t_2 => xgR t_2 a0 8 7 fun a_3 => xaI 0 t_2 a_3 x1 fun x_4 => xsI 0 t_2 a_3 x1 (x_4 + xs0) fun t_5 => K t_5
set_option maxRecDepth 20000 in
theorem S_X8_findsUse_104 {Γ : xΓ} {K : xT → Prop} (hl : (gl Γ).stackTraces = false) (ht : (gM Γ).sig.returnType = none) (hr : xRet Γ (xKv K)) {a0 : Nat} {x1 : Int32} {x2 : Int32} {xs0 : Int32} {t : xT} {rc rs : Nat} (h : V_X8_findsUse_104 K a0 x1 x2 xs0 t) : xX Γ k_X8_findsUse 104 [(0, .ref a0), (1, .int x1), (2, .int x2)] [.int xs0] t rc rs := by
  unfold V_X8_findsUse_104 at h
  refine x_istore_n (L' := [(3, .int xs0), (0, .ref a0), (1, .int x1), (2, .int x2)]) dX8_findsUse_104 rfl (by decide) rfl ?_
  refine x_aload_n 1 dX8_findsUse_105 rfl rfl ?_
  obtain ⟨fs, hf, a_1, hv, h⟩ := h
  refine x_get dX8_findsUse_106 xf_X8_28 hf hv ?_
  refine x_bipush (v := (121 : Int32)) dX8_findsUse_109 (by decide) ?_
  refine x_iload_n 2 dX8_findsUse_111 rfl rfl ?_
  refine x_imul dX8_findsUse_112 ?_
  refine x_iload_n 3 dX8_findsUse_113 rfl rfl ?_
  refine x_iadd dX8_findsUse_114 ?_
  refine x_iload_n 0 dX8_findsUse_115 rfl rfl ?_
  obtain ⟨n, f, hf, hi, h⟩ := h
  refine x_iast dX8_findsUse_116 hf hi ?_
  generalize hT : xup t a_1 _ = t_2 at h ⊢
  clear hT
  refine x_aload_n 1 dX8_findsUse_117 rfl rfl ?_
  obtain ⟨fs, hf, a_3, hv, h⟩ := h
  refine x_get dX8_findsUse_118 xf_X8_22 hf hv ?_
  refine x_iload_n 2 dX8_findsUse_121 rfl rfl ?_
  refine x_dup2_11 dX8_findsUse_122 rfl rfl ?_
  obtain ⟨n, f, hf, hi, h⟩ := h
  refine x_iald dX8_findsUse_123 hf hi ?_
  generalize f _ = x_4 at h ⊢
  refine x_iload_n 0 dX8_findsUse_124 rfl rfl ?_
  refine x_iadd dX8_findsUse_125 ?_
  obtain ⟨n, f, hf, hi, h⟩ := h
  refine x_iast dX8_findsUse_126 hf hi ?_
  generalize hT : xup t_2 a_3 _ = t_5 at h ⊢
  clear hT
  exact x_vret dX8_findsUse_127 hr ht ⟨rfl, h⟩
def V_X8_findsUse_80 (K : xT → Prop) (a0 : Nat) (x1 : Int32) (x2 : Int32) (x4 : Int32) (x5 : Int32) (t : xT) : Prop :=
  ((¬ x5 = 0 → (¬ x5 = 0 ∧ ((0 ≤ (x4 / x5) → V_X8_findsUse_104 K a0 x1 x2 (x4 / x5) t) ∧ (¬ 0 ≤ (x4 / x5) → V_X8_findsUse_104 K a0 x1 x2 (0 : Int32) t)))) ∧ (x5 = 0 → ((0 ≤ (0 : Int32) → V_X8_findsUse_104 K a0 x1 x2 (0 : Int32) t) ∧ (¬ 0 ≤ (0 : Int32) → V_X8_findsUse_104 K a0 x1 x2 (0 : Int32) t))))
set_option maxRecDepth 20000 in
theorem S_X8_findsUse_80 {Γ : xΓ} {K : xT → Prop} (hl : (gl Γ).stackTraces = false) (ht : (gM Γ).sig.returnType = none) (hr : xRet Γ (xKv K)) {a0 : Nat} {x1 : Int32} {x2 : Int32} {x4 : Int32} {x5 : Int32} {t : xT} {rc rs : Nat} (h : V_X8_findsUse_80 K a0 x1 x2 x4 x5 t) : xX Γ k_X8_findsUse 80 [(0, .ref a0), (1, .int x1), (2, .int x2), (4, .int x4), (5, .int x5)] [] t rc rs := by
  unfold V_X8_findsUse_80 at h
  refine x_iload 4 dX8_findsUse_80 rfl ?_
  obtain ⟨h1, h2⟩ := h
  refine x_if_ne (tgt := 89) dX8_findsUse_82 (by decide) (fun q => ?_) (fun q => ?_)
  · have h := h1 q
    refine x_iload 3 dX8_findsUse_89 rfl ?_
    refine x_iload 4 dX8_findsUse_91 rfl ?_
    obtain ⟨q, h⟩ := h
    refine x_idiv dX8_findsUse_93 q ?_
    refine x_istore_n (L' := [(3, .int (x4 / x5)), (0, .ref a0), (1, .int x1), (2, .int x2), (4, .int x4), (5, .int x5)]) dX8_findsUse_94 rfl (by decide) rfl ?_
    refine x_iload_n 0 dX8_findsUse_95 rfl rfl ?_
    obtain ⟨h1, h2⟩ := h
    refine x_if_ge (tgt := 103) dX8_findsUse_96 (by decide) (fun q => ?_) (fun q => ?_)
    · have h := h1 q
      refine x_iload_n 0 dX8_findsUse_103 rfl rfl ?_
      refine x_sub (L' := [(0, .ref a0), (1, .int x1), (2, .int x2)]) [1, 2, 3] rfl ?_
      exact S_X8_findsUse_104 hl ht hr  h
    · have h := h2 q
      refine x_iconst (v := (0 : Int32)) dX8_findsUse_99 (by decide) ?_
      refine x_goto (tgt := 104) dX8_findsUse_100 (by decide) ?_
      refine x_sub (L' := [(0, .ref a0), (1, .int x1), (2, .int x2)]) [1, 2, 3] rfl ?_
      exact S_X8_findsUse_104 hl ht hr  h
  · have h := h2 q
    refine x_iconst (v := (0 : Int32)) dX8_findsUse_85 (by decide) ?_
    refine x_goto (tgt := 94) dX8_findsUse_86 (by decide) ?_
    refine x_istore_n (L' := [(3, .int (0 : Int32)), (0, .ref a0), (1, .int x1), (2, .int x2), (4, .int x4), (5, .int x5)]) dX8_findsUse_94 rfl (by decide) rfl ?_
    refine x_iload_n 0 dX8_findsUse_95 rfl rfl ?_
    obtain ⟨h1, h2⟩ := h
    refine x_if_ge (tgt := 103) dX8_findsUse_96 (by decide) (fun q => ?_) (fun q => ?_)
    · have h := h1 q
      refine x_iload_n 0 dX8_findsUse_103 rfl rfl ?_
      refine x_sub (L' := [(0, .ref a0), (1, .int x1), (2, .int x2)]) [1, 2, 3] rfl ?_
      exact S_X8_findsUse_104 hl ht hr  h
    · have h := h2 q
      refine x_iconst (v := (0 : Int32)) dX8_findsUse_99 (by decide) ?_
      refine x_goto (tgt := 104) dX8_findsUse_100 (by decide) ?_
      refine x_sub (L' := [(0, .ref a0), (1, .int x1), (2, .int x2)]) [1, 2, 3] rfl ?_
      exact S_X8_findsUse_104 hl ht hr  h
def VS_X8_findsUse_35 (R35 : Nat → Int32 → Int32 → Int32 → Int32 → Int32 → xT → Prop) (K : xT → Prop) (a0 : Nat) (x1 : Int32) (x2 : Int32) (x4 : Int32) (x5 : Int32) (x6 : Int32) (t : xT) : Prop :=
  xgR t a0 8 4 fun a_1 => xaI 0 t a_1 x1 fun x_2 => ((x6 < x_2 → V_X8_findsUse_80 K a0 x1 x2 x4 x5 t) ∧ (¬ x6 < x_2 → ((x6 < (x2 - (3 : Int32)) → V_X8_findsUse_80 K a0 x1 x2 x4 x5 t) ∧ (¬ x6 < (x2 - (3 : Int32)) → xgR t a0 8 9 fun a_3 => xaI 0 t a_3 (((121 : Int32) * x1) + x6) fun x_4 => R35 a0 x1 x2 (x4 + x_4) (x5 + 1) (x6 + (-1 : Int32)) t))))
def V_X8_findsUse_35 (K : xT → Prop) (n : Nat) : Nat → Int32 → Int32 → Int32 → Int32 → Int32 → xT → Prop := Nat.rec (fun _ _ _ _ _ _ _ => False) (fun _ ih => VS_X8_findsUse_35 ih K) n
set_option maxRecDepth 20000 in
theorem S_X8_findsUse_35 {Γ : xΓ} {K : xT → Prop} (hl : (gl Γ).stackTraces = false) (ht : (gM Γ).sig.returnType = none) (hr : xRet Γ (xKv K)) : ∀ (n : Nat) (a0 : Nat) (x1 : Int32) (x2 : Int32) (x4 : Int32) (x5 : Int32) (x6 : Int32) (t : xT) (rc rs : Nat), V_X8_findsUse_35 K n a0 x1 x2 x4 x5 x6 t → xX Γ k_X8_findsUse 35 [(0, .ref a0), (1, .int x1), (2, .int x2), (4, .int x4), (5, .int x5), (6, .int x6)] [] t rc rs := by
  intro n
  induction n with
  | zero =>
    intro a0 x1 x2 x4 x5 x6 t rc rs h
    exact h.elim
  | succ n ih =>
    intro a0 x1 x2 x4 x5 x6 t rc rs h
    replace h : VS_X8_findsUse_35 (V_X8_findsUse_35 K n) K a0 x1 x2 x4 x5 x6 t := h
    unfold VS_X8_findsUse_35 at h
    refine x_iload 5 dX8_findsUse_35 rfl ?_
    refine x_aload_n 0 dX8_findsUse_37 rfl rfl ?_
    obtain ⟨fs, hf, a_1, hv, h⟩ := h
    refine x_get dX8_findsUse_38 xf_X8_13 hf hv ?_
    refine x_iload_n 1 dX8_findsUse_41 rfl rfl ?_
    obtain ⟨n, f, hf, hi, h⟩ := h
    refine x_iald dX8_findsUse_42 hf hi ?_
    generalize f _ = x_2 at h ⊢
    obtain ⟨h1, h2⟩ := h
    refine x_icmp_lt (tgt := 80) dX8_findsUse_43 (by decide) (fun q => ?_) (fun q => ?_)
    · have h := h1 q
      refine x_sub (L' := [(0, .ref a0), (1, .int x1), (2, .int x2), (4, .int x4), (5, .int x5)]) [0, 1, 2, 3, 4] rfl ?_
      exact S_X8_findsUse_80 hl ht hr  h
    · have h := h2 q
      refine x_iload 5 dX8_findsUse_46 rfl ?_
      refine x_iload_n 2 dX8_findsUse_48 rfl rfl ?_
      refine x_iconst (v := (3 : Int32)) dX8_findsUse_49 (by decide) ?_
      refine x_isub dX8_findsUse_50 ?_
      obtain ⟨h1, h2⟩ := h
      refine x_icmp_lt (tgt := 80) dX8_findsUse_51 (by decide) (fun q => ?_) (fun q => ?_)
      · have h := h1 q
        refine x_sub (L' := [(0, .ref a0), (1, .int x1), (2, .int x2), (4, .int x4), (5, .int x5)]) [0, 1, 2, 3, 4] rfl ?_
        exact S_X8_findsUse_80 hl ht hr  h
      · have h := h2 q
        refine x_iload 3 dX8_findsUse_54 rfl ?_
        refine x_aload_n 0 dX8_findsUse_56 rfl rfl ?_
        obtain ⟨fs, hf, a_3, hv, h⟩ := h
        refine x_get dX8_findsUse_57 xf_X8_28 hf hv ?_
        refine x_bipush (v := (121 : Int32)) dX8_findsUse_60 (by decide) ?_
        refine x_iload_n 1 dX8_findsUse_62 rfl rfl ?_
        refine x_imul dX8_findsUse_63 ?_
        refine x_iload 5 dX8_findsUse_64 rfl ?_
        refine x_iadd dX8_findsUse_66 ?_
        obtain ⟨n, f, hf, hi, h⟩ := h
        refine x_iald dX8_findsUse_67 hf hi ?_
        generalize f _ = x_4 at h ⊢
        refine x_iadd dX8_findsUse_68 ?_
        refine x_istore (L' := [(4, .int (x4 + x_4)), (0, .ref a0), (1, .int x1), (2, .int x2), (5, .int x5), (6, .int x6)]) dX8_findsUse_69 (by decide) rfl ?_
        refine x_iinc (v := (x5 + 1)) (L' := [(5, .int (x5 + 1)), (4, .int (x4 + x_4)), (0, .ref a0), (1, .int x1), (2, .int x2), (6, .int x6)]) (j := 4) dX8_findsUse_71 rfl rfl (by decide) rfl ?_
        refine x_iinc (v := (x6 + (-1 : Int32))) (L' := [(6, .int (x6 + (-1 : Int32))), (5, .int (x5 + 1)), (4, .int (x4 + x_4)), (0, .ref a0), (1, .int x1), (2, .int x2)]) (j := 5) dX8_findsUse_74 rfl rfl (by decide) rfl ?_
        refine x_goto (tgt := 35) dX8_findsUse_77 (by decide) ?_
        refine x_sub (L' := [(0, .ref a0), (1, .int x1), (2, .int x2), (4, .int (x4 + x_4)), (5, .int (x5 + 1)), (6, .int (x6 + (-1 : Int32)))]) [3, 4, 5, 2, 1, 0] rfl ?_
        exact ih a0 x1 x2 (x4 + x_4) (x5 + 1) (x6 + (-1 : Int32)) t _ _ h
def V_X8_findsUse_0 (K : xT → Prop) (a0 : Nat) (x1 : Int32) (x2 : Int32) (t : xT) : Prop :=
  xgR t a0 8 5 fun a_1 => xaI 0 t a_1 x1 fun x_2 => xgR t a0 8 7 fun a_3 => xaI 0 t a_3 x1 fun x_4 => xgR t a0 8 6 fun a_5 => xaI 0 t a_5 x1 fun x_6 => ((x_6 = x2 → ((0 ≤ (x_2 - x_4) → V_X8_findsUse_104 K a0 x1 x2 (x_2 - x_4) t) ∧ (¬ 0 ≤ (x_2 - x_4) → V_X8_findsUse_104 K a0 x1 x2 (0 : Int32) t))) ∧ (¬ x_6 = x2 → ∃ f_7 : Nat, V_X8_findsUse_35 K f_7 a0 x1 x2 (0 : Int32) (0 : Int32) (x2 - (1 : Int32)) t))
set_option maxRecDepth 20000 in
theorem S_X8_findsUse_0 {Γ : xΓ} {K : xT → Prop} (hl : (gl Γ).stackTraces = false) (ht : (gM Γ).sig.returnType = none) (hr : xRet Γ (xKv K)) {a0 : Nat} {x1 : Int32} {x2 : Int32} {t : xT} {rc rs : Nat} (h : V_X8_findsUse_0 K a0 x1 x2 t) : xX Γ k_X8_findsUse 0 [(0, .ref a0), (1, .int x1), (2, .int x2)] [] t rc rs := by
  unfold V_X8_findsUse_0 at h
  refine x_aload_n 0 dX8_findsUse_0 rfl rfl ?_
  obtain ⟨fs, hf, a_1, hv, h⟩ := h
  refine x_get dX8_findsUse_1 xf_X8_16 hf hv ?_
  refine x_iload_n 1 dX8_findsUse_4 rfl rfl ?_
  obtain ⟨n, f, hf, hi, h⟩ := h
  refine x_iald dX8_findsUse_5 hf hi ?_
  generalize f _ = x_2 at h ⊢
  refine x_aload_n 0 dX8_findsUse_6 rfl rfl ?_
  obtain ⟨fs, hf, a_3, hv, h⟩ := h
  refine x_get dX8_findsUse_7 xf_X8_22 hf hv ?_
  refine x_iload_n 1 dX8_findsUse_10 rfl rfl ?_
  obtain ⟨n, f, hf, hi, h⟩ := h
  refine x_iald dX8_findsUse_11 hf hi ?_
  generalize f _ = x_4 at h ⊢
  refine x_isub dX8_findsUse_12 ?_
  refine x_istore_n (L' := [(3, .int (x_2 - x_4)), (0, .ref a0), (1, .int x1), (2, .int x2)]) dX8_findsUse_13 rfl (by decide) rfl ?_
  refine x_aload_n 1 dX8_findsUse_14 rfl rfl ?_
  obtain ⟨fs, hf, a_5, hv, h⟩ := h
  refine x_get dX8_findsUse_15 xf_X8_19 hf hv ?_
  refine x_iload_n 2 dX8_findsUse_18 rfl rfl ?_
  obtain ⟨n, f, hf, hi, h⟩ := h
  refine x_iald dX8_findsUse_19 hf hi ?_
  generalize f _ = x_6 at h ⊢
  refine x_iload_n 3 dX8_findsUse_20 rfl rfl ?_
  obtain ⟨h1, h2⟩ := h
  refine x_icmp_eq (tgt := 95) dX8_findsUse_21 (by decide) (fun q => ?_) (fun q => ?_)
  · have h := h1 q
    refine x_iload_n 0 dX8_findsUse_95 rfl rfl ?_
    obtain ⟨h1, h2⟩ := h
    refine x_if_ge (tgt := 103) dX8_findsUse_96 (by decide) (fun q => ?_) (fun q => ?_)
    · have h := h1 q
      refine x_iload_n 0 dX8_findsUse_103 rfl rfl ?_
      refine x_sub (L' := [(0, .ref a0), (1, .int x1), (2, .int x2)]) [1, 2, 3] rfl ?_
      exact S_X8_findsUse_104 hl ht hr  h
    · have h := h2 q
      refine x_iconst (v := (0 : Int32)) dX8_findsUse_99 (by decide) ?_
      refine x_goto (tgt := 104) dX8_findsUse_100 (by decide) ?_
      refine x_sub (L' := [(0, .ref a0), (1, .int x1), (2, .int x2)]) [1, 2, 3] rfl ?_
      exact S_X8_findsUse_104 hl ht hr  h
  · have h := h2 q
    refine x_iconst (v := (0 : Int32)) dX8_findsUse_24 (by decide) ?_
    refine x_istore (L' := [(4, .int (0 : Int32)), (3, .int (x_2 - x_4)), (0, .ref a0), (1, .int x1), (2, .int x2)]) dX8_findsUse_25 (by decide) rfl ?_
    refine x_iconst (v := (0 : Int32)) dX8_findsUse_27 (by decide) ?_
    refine x_istore (L' := [(5, .int (0 : Int32)), (4, .int (0 : Int32)), (3, .int (x_2 - x_4)), (0, .ref a0), (1, .int x1), (2, .int x2)]) dX8_findsUse_28 (by decide) rfl ?_
    refine x_iload_n 5 dX8_findsUse_30 rfl rfl ?_
    refine x_iconst (v := (1 : Int32)) dX8_findsUse_31 (by decide) ?_
    refine x_isub dX8_findsUse_32 ?_
    refine x_istore (L' := [(6, .int (x2 - (1 : Int32))), (5, .int (0 : Int32)), (4, .int (0 : Int32)), (3, .int (x_2 - x_4)), (0, .ref a0), (1, .int x1), (2, .int x2)]) dX8_findsUse_33 (by decide) rfl ?_
    obtain ⟨f_7, h⟩ := h
    refine x_sub (L' := [(0, .ref a0), (1, .int x1), (2, .int x2), (4, .int (0 : Int32)), (5, .int (0 : Int32)), (6, .int (x2 - (1 : Int32)))]) [4, 5, 6, 2, 1, 0] rfl ?_
    exact S_X8_findsUse_35 hl ht hr  f_7 a0 x1 x2 (0 : Int32) (0 : Int32) (x2 - (1 : Int32)) t _ _ h
theorem M_X8_findsUse {l : Launch} {G : xG} (hl : l.stackTraces = false) {a0 : Nat} {x1 : Int32} {x2 : Int32} {t : xT} {K : xT → Prop} (h : V_X8_findsUse_0 K a0 x1 x2 t) : xMet l G yX8_findsUse k_X8_findsUse none [.ref a0, .int x1, .int x2] t (xKv K) 0 0 := xMet.of (by decide +kernel) rfl hl (Nat.le_of_ble_eq_true rfl) (fun Γ e1 e2 ht hn hr => by subst e1; subst e2; exact S_X8_findsUse_0 hl ht hr h)
/-! RentStreamModel.looksAtPlan(I)V -/
def V_X8_looksAtPlan_54 (K : xT → Prop) (a0 : Nat) (x1 : Int32) (ys0 : Int64) (t : xT) : Prop :=
  xgR t a0 8 31 fun a_1 => xgR t a0 8 23 fun a_2 => xaJ t a_2 x1 fun y_3 => ((y_3 ≤ ys0 → ((¬ ys0 = (0 : Int64) → xsI 0 t a_1 x1 (1 : Int32) fun t_4 => K t_4) ∧ (ys0 = (0 : Int64) → xsI 0 t a_1 x1 (3 : Int32) fun t_5 => K t_5))) ∧ (¬ y_3 ≤ ys0 → xsI 0 t a_1 x1 (2 : Int32) fun t_6 => K t_6))
set_option maxRecDepth 20000 in
theorem S_X8_looksAtPlan_54 {Γ : xΓ} {K : xT → Prop} (hl : (gl Γ).stackTraces = false) (ht : (gM Γ).sig.returnType = none) (hr : xRet Γ (xKv K)) {a0 : Nat} {x1 : Int32} {ys0 : Int64} {t : xT} {rc rs : Nat} (h : V_X8_looksAtPlan_54 K a0 x1 ys0 t) : xX Γ k_X8_looksAtPlan 54 [(0, .ref a0), (1, .int x1)] [.long ys0] t rc rs := by
  unfold V_X8_looksAtPlan_54 at h
  refine x_lstore_n (L' := [(2, .long ys0), (0, .ref a0), (1, .int x1)]) dX8_looksAtPlan_54 rfl (by decide) rfl ?_
  refine x_aload_n 1 dX8_looksAtPlan_55 rfl rfl ?_
  obtain ⟨fs, hf, a_1, hv, h⟩ := h
  refine x_get dX8_looksAtPlan_56 xf_X8_87 hf hv ?_
  refine x_iload_n 2 dX8_looksAtPlan_59 rfl rfl ?_
  refine x_aload_n 1 dX8_looksAtPlan_60 rfl rfl ?_
  obtain ⟨fs, hf, a_2, hv, h⟩ := h
  refine x_get dX8_looksAtPlan_61 xf_X8_62 hf hv ?_
  refine x_iload_n 2 dX8_looksAtPlan_64 rfl rfl ?_
  obtain ⟨n, f, hf, hi, h⟩ := h
  refine x_lald dX8_looksAtPlan_65 hf hi ?_
  generalize f _ = y_3 at h ⊢
  refine x_lload_n 0 dX8_looksAtPlan_66 rfl rfl ?_
  obtain ⟨h1, h2⟩ := h
  refine x_lcmp_le (tgt := 75) dX8_looksAtPlan_67 dX8_looksAtPlan_68 (by decide) (fun q => ?_) (fun q => ?_)
  · have h := h1 q
    refine x_lload_n 0 dX8_looksAtPlan_75 rfl rfl ?_
    refine x_lconst (v := (0 : Int64)) dX8_looksAtPlan_76 (by decide) ?_
    obtain ⟨h1, h2⟩ := h
    refine x_lcmp_ne (tgt := 85) dX8_looksAtPlan_77 dX8_looksAtPlan_78 (by decide) (fun q => ?_) (fun q => ?_)
    · have h := h1 q
      refine x_iconst (v := (1 : Int32)) dX8_looksAtPlan_85 (by decide) ?_
      obtain ⟨n, f, hf, hi, h⟩ := h
      refine x_iast dX8_looksAtPlan_86 hf hi ?_
      generalize hT : xup t a_1 _ = t_4 at h ⊢
      clear hT
      exact x_vret dX8_looksAtPlan_87 hr ht ⟨rfl, h⟩
    · have h := h2 q
      refine x_iconst (v := (3 : Int32)) dX8_looksAtPlan_81 (by decide) ?_
      refine x_goto (tgt := 86) dX8_looksAtPlan_82 (by decide) ?_
      obtain ⟨n, f, hf, hi, h⟩ := h
      refine x_iast dX8_looksAtPlan_86 hf hi ?_
      generalize hT : xup t a_1 _ = t_5 at h ⊢
      clear hT
      exact x_vret dX8_looksAtPlan_87 hr ht ⟨rfl, h⟩
  · have h := h2 q
    refine x_iconst (v := (2 : Int32)) dX8_looksAtPlan_71 (by decide) ?_
    refine x_goto (tgt := 86) dX8_looksAtPlan_72 (by decide) ?_
    obtain ⟨n, f, hf, hi, h⟩ := h
    refine x_iast dX8_looksAtPlan_86 hf hi ?_
    generalize hT : xup t a_1 _ = t_6 at h ⊢
    clear hT
    exact x_vret dX8_looksAtPlan_87 hr ht ⟨rfl, h⟩
def V_X8_looksAtPlan_0 (K : xT → Prop) (a0 : Nat) (x1 : Int32) (t : xT) : Prop :=
  xgR t a0 8 31 fun a_1 => xaI 0 t a_1 x1 fun x_2 => ((x_2 = (1 : Int32) → xgR t a0 8 34 fun a_3 => xaI 0 t a_3 x1 fun x_4 => xsI 0 t a_3 x1 (x_4 + (1 : Int32)) fun t_5 => xgR t_5 a0 8 32 fun a_6 => xaJ t_5 a_6 x1 fun y_7 => xgR t_5 a0 8 34 fun a_8 => xaI 0 t_5 a_8 x1 fun x_9 => xgR t_5 a0 8 33 fun a_10 => xaJ t_5 a_10 x1 fun y_11 => (((0 : Int64) ≤ (y_7 - (x_9.toInt64 * y_11)) → V_X8_looksAtPlan_54 K a0 x1 (y_7 - (x_9.toInt64 * y_11)) t_5) ∧ (¬ (0 : Int64) ≤ (y_7 - (x_9.toInt64 * y_11)) → V_X8_looksAtPlan_54 K a0 x1 (0 : Int64) t_5))) ∧ (¬ x_2 = (1 : Int32) → K t))
set_option maxRecDepth 20000 in
theorem S_X8_looksAtPlan_0 {Γ : xΓ} {K : xT → Prop} (hl : (gl Γ).stackTraces = false) (ht : (gM Γ).sig.returnType = none) (hr : xRet Γ (xKv K)) {a0 : Nat} {x1 : Int32} {t : xT} {rc rs : Nat} (h : V_X8_looksAtPlan_0 K a0 x1 t) : xX Γ k_X8_looksAtPlan 0 [(0, .ref a0), (1, .int x1)] [] t rc rs := by
  unfold V_X8_looksAtPlan_0 at h
  refine x_aload_n 0 dX8_looksAtPlan_0 rfl rfl ?_
  obtain ⟨fs, hf, a_1, hv, h⟩ := h
  refine x_get dX8_looksAtPlan_1 xf_X8_87 hf hv ?_
  refine x_iload_n 1 dX8_looksAtPlan_4 rfl rfl ?_
  obtain ⟨n, f, hf, hi, h⟩ := h
  refine x_iald dX8_looksAtPlan_5 hf hi ?_
  generalize f _ = x_2 at h ⊢
  refine x_iconst (v := (1 : Int32)) dX8_looksAtPlan_6 (by decide) ?_
  obtain ⟨h1, h2⟩ := h
  refine x_icmp_eq (tgt := 11) dX8_looksAtPlan_7 (by decide) (fun q => ?_) (fun q => ?_)
  · have h := h1 q
    refine x_aload_n 0 dX8_looksAtPlan_11 rfl rfl ?_
    obtain ⟨fs, hf, a_3, hv, h⟩ := h
    refine x_get dX8_looksAtPlan_12 xf_X8_96 hf hv ?_
    refine x_iload_n 1 dX8_looksAtPlan_15 rfl rfl ?_
    refine x_dup2_11 dX8_looksAtPlan_16 rfl rfl ?_
    obtain ⟨n, f, hf, hi, h⟩ := h
    refine x_iald dX8_looksAtPlan_17 hf hi ?_
    generalize f _ = x_4 at h ⊢
    refine x_iconst (v := (1 : Int32)) dX8_looksAtPlan_18 (by decide) ?_
    refine x_iadd dX8_looksAtPlan_19 ?_
    obtain ⟨n, f, hf, hi, h⟩ := h
    refine x_iast dX8_looksAtPlan_20 hf hi ?_
    generalize hT : xup t a_3 _ = t_5 at h ⊢
    clear hT
    refine x_aload_n 0 dX8_looksAtPlan_21 rfl rfl ?_
    obtain ⟨fs, hf, a_6, hv, h⟩ := h
    refine x_get dX8_looksAtPlan_22 xf_X8_90 hf hv ?_
    refine x_iload_n 1 dX8_looksAtPlan_25 rfl rfl ?_
    obtain ⟨n, f, hf, hi, h⟩ := h
    refine x_lald dX8_looksAtPlan_26 hf hi ?_
    generalize f _ = y_7 at h ⊢
    refine x_aload_n 0 dX8_looksAtPlan_27 rfl rfl ?_
    obtain ⟨fs, hf, a_8, hv, h⟩ := h
    refine x_get dX8_looksAtPlan_28 xf_X8_96 hf hv ?_
    refine x_iload_n 1 dX8_looksAtPlan_31 rfl rfl ?_
    obtain ⟨n, f, hf, hi, h⟩ := h
    refine x_iald dX8_looksAtPlan_32 hf hi ?_
    generalize f _ = x_9 at h ⊢
    refine x_i2l dX8_looksAtPlan_33 ?_
    refine x_aload_n 0 dX8_looksAtPlan_34 rfl rfl ?_
    obtain ⟨fs, hf, a_10, hv, h⟩ := h
    refine x_get dX8_looksAtPlan_35 xf_X8_93 hf hv ?_
    refine x_iload_n 1 dX8_looksAtPlan_38 rfl rfl ?_
    obtain ⟨n, f, hf, hi, h⟩ := h
    refine x_lald dX8_looksAtPlan_39 hf hi ?_
    generalize f _ = y_11 at h ⊢
    refine x_lmul dX8_looksAtPlan_40 ?_
    refine x_lsub dX8_looksAtPlan_41 ?_
    refine x_lstore_n (L' := [(2, .long (y_7 - (x_9.toInt64 * y_11))), (0, .ref a0), (1, .int x1)]) dX8_looksAtPlan_42 rfl (by decide) rfl ?_
    refine x_lload_n 0 dX8_looksAtPlan_43 rfl rfl ?_
    refine x_lconst (v := (0 : Int64)) dX8_looksAtPlan_44 (by decide) ?_
    obtain ⟨h1, h2⟩ := h
    refine x_lcmp_ge (tgt := 53) dX8_looksAtPlan_45 dX8_looksAtPlan_46 (by decide) (fun q => ?_) (fun q => ?_)
    · have h := h1 q
      refine x_lload_n 0 dX8_looksAtPlan_53 rfl rfl ?_
      refine x_sub (L' := [(0, .ref a0), (1, .int x1)]) [1, 2] rfl ?_
      exact S_X8_looksAtPlan_54 hl ht hr  h
    · have h := h2 q
      refine x_lconst (v := (0 : Int64)) dX8_looksAtPlan_49 (by decide) ?_
      refine x_goto (tgt := 54) dX8_looksAtPlan_50 (by decide) ?_
      refine x_sub (L' := [(0, .ref a0), (1, .int x1)]) [1, 2] rfl ?_
      exact S_X8_looksAtPlan_54 hl ht hr  h
  · have h := h2 q
    exact x_vret dX8_looksAtPlan_10 hr ht ⟨rfl, h⟩
theorem M_X8_looksAtPlan {l : Launch} {G : xG} (hl : l.stackTraces = false) {a0 : Nat} {x1 : Int32} {t : xT} {K : xT → Prop} (h : V_X8_looksAtPlan_0 K a0 x1 t) : xMet l G yX8_looksAtPlan k_X8_looksAtPlan none [.ref a0, .int x1] t (xKv K) 0 0 := xMet.of (by decide +kernel) rfl hl (Nat.le_of_ble_eq_true rfl) (fun Γ e1 e2 ht hn hr => by subst e1; subst e2; exact S_X8_looksAtPlan_0 hl ht hr h)
/-! RentStreamModel.sharesBy(J)V -/
def VS_X8_sharesBy_130 (R117 : Nat → Int64 → xT → Prop) (R130 : Nat → Int64 → Int32 → Int32 → xT → Prop) (K : xT → Prop) (a0 : Nat) (y5 : Int64) (x7 : Int32) (x8 : Int32) (t : xT) : Prop :=
  xgI t a0 8 18 fun x_1 => ((x_1 ≤ x8 → xgR t a0 8 36 fun a_2 => xaJ t a_2 x7 fun y_3 => xsJ t a_2 x7 (y_3 + (1 : Int64)) fun t_4 => xgR t_4 a0 8 37 fun a_5 => xsJ t_4 a_5 x7 (-1 : Int64) fun t_6 => R117 a0 (y5 - (1 : Int64)) t_6) ∧ (¬ x_1 ≤ x8 → xgR t a0 8 37 fun a_7 => xaJ t a_7 x8 fun y_8 => xgR t a0 8 37 fun a_9 => xaJ t a_9 x7 fun y_10 => ((y_8 ≤ y_10 → R130 a0 y5 x7 (x8 + 1) t) ∧ (¬ y_8 ≤ y_10 → R130 a0 y5 x8 (x8 + 1) t))))
def V_X8_sharesBy_130 (R117 : Nat → Int64 → xT → Prop) (K : xT → Prop) (n : Nat) : Nat → Int64 → Int32 → Int32 → xT → Prop := Nat.rec (fun _ _ _ _ _ => False) (fun _ ih => VS_X8_sharesBy_130 R117 ih K) n
set_option maxRecDepth 20000 in
theorem S_X8_sharesBy_130 {Γ : xΓ} {R117 : Nat → Int64 → xT → Prop} {K : xT → Prop} (hl : (gl Γ).stackTraces = false) (ht : (gM Γ).sig.returnType = none) (hr : xRet Γ (xKv K)) (hR117 : ∀ (a0 : Nat) (y5 : Int64) (t : xT) (rc rs : Nat), R117 a0 y5 t → xX Γ k_X8_sharesBy 117 [(0, .ref a0), (5, .long y5)] [] t rc rs) : ∀ (n : Nat) (a0 : Nat) (y5 : Int64) (x7 : Int32) (x8 : Int32) (t : xT) (rc rs : Nat), V_X8_sharesBy_130 R117 K n a0 y5 x7 x8 t → xX Γ k_X8_sharesBy 130 [(0, .ref a0), (5, .long y5), (7, .int x7), (8, .int x8)] [] t rc rs := by
  intro n
  induction n with
  | zero =>
    intro a0 y5 x7 x8 t rc rs h
    exact h.elim
  | succ n ih =>
    intro a0 y5 x7 x8 t rc rs h
    replace h : VS_X8_sharesBy_130 R117 (V_X8_sharesBy_130 R117 K n) K a0 y5 x7 x8 t := h
    unfold VS_X8_sharesBy_130 at h
    refine x_iload 3 dX8_sharesBy_130 rfl ?_
    refine x_aload_n 0 dX8_sharesBy_132 rfl rfl ?_
    obtain ⟨fs, hf, x_1, hv, h⟩ := h
    refine x_get dX8_sharesBy_133 xf_X8_123 hf hv ?_
    obtain ⟨h1, h2⟩ := h
    refine x_icmp_ge (tgt := 172) dX8_sharesBy_136 (by decide) (fun q => ?_) (fun q => ?_)
    · have h := h1 q
      refine x_aload_n 0 dX8_sharesBy_172 rfl rfl ?_
      obtain ⟨fs, hf, a_2, hv, h⟩ := h
      refine x_get dX8_sharesBy_173 xf_X8_102 hf hv ?_
      refine x_iload 2 dX8_sharesBy_176 rfl ?_
      refine x_dup2_11 dX8_sharesBy_178 rfl rfl ?_
      obtain ⟨n, f, hf, hi, h⟩ := h
      refine x_lald dX8_sharesBy_179 hf hi ?_
      generalize f _ = y_3 at h ⊢
      refine x_lconst (v := (1 : Int64)) dX8_sharesBy_180 (by decide) ?_
      refine x_ladd dX8_sharesBy_181 ?_
      obtain ⟨n, f, hf, hi, h⟩ := h
      refine x_last dX8_sharesBy_182 hf hi ?_
      generalize hT : xup t a_2 _ = t_4 at h ⊢
      clear hT
      refine x_aload_n 0 dX8_sharesBy_183 rfl rfl ?_
      obtain ⟨fs, hf, a_5, hv, h⟩ := h
      refine x_get dX8_sharesBy_184 xf_X8_105 hf hv ?_
      refine x_iload 2 dX8_sharesBy_187 rfl ?_
      refine x_ldc2 dX8_sharesBy_189 xw1461 ?_
      obtain ⟨n, f, hf, hi, h⟩ := h
      refine x_last dX8_sharesBy_192 hf hi ?_
      generalize hT : xup t_4 a_5 _ = t_6 at h ⊢
      clear hT
      refine x_lload 1 dX8_sharesBy_193 rfl ?_
      refine x_lconst (v := (1 : Int64)) dX8_sharesBy_195 (by decide) ?_
      refine x_lsub dX8_sharesBy_196 ?_
      refine x_lstore (L' := [(5, .long (y5 - (1 : Int64))), (0, .ref a0), (7, .int x7), (8, .int x8)]) dX8_sharesBy_197 (by decide) rfl ?_
      refine x_goto (tgt := 117) dX8_sharesBy_199 (by decide) ?_
      refine x_sub (L' := [(0, .ref a0), (5, .long (y5 - (1 : Int64)))]) [1, 0] rfl ?_
      exact hR117 a0 (y5 - (1 : Int64)) t_6 _ _ h
    · have h := h2 q
      refine x_aload_n 0 dX8_sharesBy_139 rfl rfl ?_
      obtain ⟨fs, hf, a_7, hv, h⟩ := h
      refine x_get dX8_sharesBy_140 xf_X8_105 hf hv ?_
      refine x_iload 3 dX8_sharesBy_143 rfl ?_
      obtain ⟨n, f, hf, hi, h⟩ := h
      refine x_lald dX8_sharesBy_145 hf hi ?_
      generalize f _ = y_8 at h ⊢
      refine x_aload_n 0 dX8_sharesBy_146 rfl rfl ?_
      obtain ⟨fs, hf, a_9, hv, h⟩ := h
      refine x_get dX8_sharesBy_147 xf_X8_105 hf hv ?_
      refine x_iload 2 dX8_sharesBy_150 rfl ?_
      obtain ⟨n, f, hf, hi, h⟩ := h
      refine x_lald dX8_sharesBy_152 hf hi ?_
      generalize f _ = y_10 at h ⊢
      obtain ⟨h1, h2⟩ := h
      refine x_lcmp_le (tgt := 162) dX8_sharesBy_153 dX8_sharesBy_154 (by decide) (fun q => ?_) (fun q => ?_)
      · have h := h1 q
        refine x_iload 2 dX8_sharesBy_162 rfl ?_
        refine x_istore (L' := [(7, .int x7), (0, .ref a0), (5, .long y5), (8, .int x8)]) dX8_sharesBy_164 (by decide) rfl ?_
        refine x_iinc (v := (x8 + 1)) (L' := [(8, .int (x8 + 1)), (7, .int x7), (0, .ref a0), (5, .long y5)]) (j := 3) dX8_sharesBy_166 rfl rfl (by decide) rfl ?_
        refine x_goto (tgt := 130) dX8_sharesBy_169 (by decide) ?_
        refine x_sub (L' := [(0, .ref a0), (5, .long y5), (7, .int x7), (8, .int (x8 + 1))]) [2, 3, 1, 0] rfl ?_
        exact ih a0 y5 x7 (x8 + 1) t _ _ h
      · have h := h2 q
        refine x_iload 3 dX8_sharesBy_157 rfl ?_
        refine x_goto (tgt := 164) dX8_sharesBy_159 (by decide) ?_
        refine x_istore (L' := [(7, .int x8), (0, .ref a0), (5, .long y5), (8, .int x8)]) dX8_sharesBy_164 (by decide) rfl ?_
        refine x_iinc (v := (x8 + 1)) (L' := [(8, .int (x8 + 1)), (7, .int x8), (0, .ref a0), (5, .long y5)]) (j := 3) dX8_sharesBy_166 rfl rfl (by decide) rfl ?_
        refine x_goto (tgt := 130) dX8_sharesBy_169 (by decide) ?_
        refine x_sub (L' := [(0, .ref a0), (5, .long y5), (7, .int x8), (8, .int (x8 + 1))]) [2, 3, 1, 0] rfl ?_
        exact ih a0 y5 x8 (x8 + 1) t _ _ h
def VS_X8_sharesBy_117 (R117 : Nat → Int64 → xT → Prop) (K : xT → Prop) (a0 : Nat) (y5 : Int64) (t : xT) : Prop :=
  ((y5 ≤ (0 : Int64) → K t) ∧ (¬ y5 ≤ (0 : Int64) → ∃ f_1 : Nat, V_X8_sharesBy_130 R117 K f_1 a0 y5 (0 : Int32) (1 : Int32) t))
def V_X8_sharesBy_117 (K : xT → Prop) (n : Nat) : Nat → Int64 → xT → Prop := Nat.rec (fun _ _ _ => False) (fun _ ih => VS_X8_sharesBy_117 ih K) n
set_option maxRecDepth 20000 in
theorem S_X8_sharesBy_117 {Γ : xΓ} {K : xT → Prop} (hl : (gl Γ).stackTraces = false) (ht : (gM Γ).sig.returnType = none) (hr : xRet Γ (xKv K)) : ∀ (n : Nat) (a0 : Nat) (y5 : Int64) (t : xT) (rc rs : Nat), V_X8_sharesBy_117 K n a0 y5 t → xX Γ k_X8_sharesBy 117 [(0, .ref a0), (5, .long y5)] [] t rc rs := by
  intro n
  induction n with
  | zero =>
    intro a0 y5 t rc rs h
    exact h.elim
  | succ n ih =>
    intro a0 y5 t rc rs h
    replace h : VS_X8_sharesBy_117 (V_X8_sharesBy_117 K n) K a0 y5 t := h
    unfold VS_X8_sharesBy_117 at h
    refine x_lload 1 dX8_sharesBy_117 rfl ?_
    refine x_lconst (v := (0 : Int64)) dX8_sharesBy_119 (by decide) ?_
    obtain ⟨h1, h2⟩ := h
    refine x_lcmp_le (tgt := 202) dX8_sharesBy_120 dX8_sharesBy_121 (by decide) (fun q => ?_) (fun q => ?_)
    · have h := h1 q
      exact x_vret dX8_sharesBy_202 hr ht ⟨rfl, h⟩
    · have h := h2 q
      refine x_iconst (v := (0 : Int32)) dX8_sharesBy_124 (by decide) ?_
      refine x_istore (L' := [(7, .int (0 : Int32)), (0, .ref a0), (5, .long y5)]) dX8_sharesBy_125 (by decide) rfl ?_
      refine x_iconst (v := (1 : Int32)) dX8_sharesBy_127 (by decide) ?_
      refine x_istore (L' := [(8, .int (1 : Int32)), (7, .int (0 : Int32)), (0, .ref a0), (5, .long y5)]) dX8_sharesBy_128 (by decide) rfl ?_
      obtain ⟨f_1, h⟩ := h
      refine x_sub (L' := [(0, .ref a0), (5, .long y5), (7, .int (0 : Int32)), (8, .int (1 : Int32))]) [2, 3, 1, 0] rfl ?_
      exact S_X8_sharesBy_130 hl ht hr (fun p0 p1 p2 p3 p4 h => ih p0 p1 p2 p3 p4 h) f_1 a0 y5 (0 : Int32) (1 : Int32) t _ _ h
def VS_X8_sharesBy_46 (R46 : Nat → Int64 → Int64 → Int64 → Int32 → xT → Prop) (K : xT → Prop) (a0 : Nat) (y1 : Int64) (y3 : Int64) (y5 : Int64) (x7 : Int32) (t : xT) : Prop :=
  xgI t a0 8 18 fun x_1 => ((x_1 ≤ x7 → ∃ f_2 : Nat, V_X8_sharesBy_117 K f_2 a0 y5 t) ∧ (¬ x_1 ≤ x7 → ((y3 ≤ (0 : Int64) → ∃ f_3 : Nat, V_X8_sharesBy_117 K f_3 a0 y5 t) ∧ (¬ y3 ≤ (0 : Int64) → xgR t a0 8 35 fun a_4 => xaJ t a_4 x7 fun y_5 => (¬ y3 = 0 ∧ xgR t a0 8 37 fun a_6 => xgR t a0 8 35 fun a_7 => xaJ t a_7 x7 fun y_8 => (¬ y3 = 0 ∧ xsJ t a_6 x7 (xlrem (y1 * y_8) y3) fun t_9 => xgR t_9 a0 8 36 fun a_10 => xaJ t_9 a_10 x7 fun y_11 => xsJ t_9 a_10 x7 (y_11 + ((y1 * y_5) / y3)) fun t_12 => R46 a0 y1 y3 (y5 - ((y1 * y_5) / y3)) (x7 + 1) t_12))))))
def V_X8_sharesBy_46 (K : xT → Prop) (n : Nat) : Nat → Int64 → Int64 → Int64 → Int32 → xT → Prop := Nat.rec (fun _ _ _ _ _ _ => False) (fun _ ih => VS_X8_sharesBy_46 ih K) n
set_option maxRecDepth 20000 in
theorem S_X8_sharesBy_46 {Γ : xΓ} {K : xT → Prop} (hl : (gl Γ).stackTraces = false) (ht : (gM Γ).sig.returnType = none) (hr : xRet Γ (xKv K)) : ∀ (n : Nat) (a0 : Nat) (y1 : Int64) (y3 : Int64) (y5 : Int64) (x7 : Int32) (t : xT) (rc rs : Nat), V_X8_sharesBy_46 K n a0 y1 y3 y5 x7 t → xX Γ k_X8_sharesBy 46 [(0, .ref a0), (1, .long y1), (3, .long y3), (5, .long y5), (7, .int x7)] [] t rc rs := by
  intro n
  induction n with
  | zero =>
    intro a0 y1 y3 y5 x7 t rc rs h
    exact h.elim
  | succ n ih =>
    intro a0 y1 y3 y5 x7 t rc rs h
    replace h : VS_X8_sharesBy_46 (V_X8_sharesBy_46 K n) K a0 y1 y3 y5 x7 t := h
    unfold VS_X8_sharesBy_46 at h
    refine x_iload 4 dX8_sharesBy_46 rfl ?_
    refine x_aload_n 0 dX8_sharesBy_48 rfl rfl ?_
    obtain ⟨fs, hf, x_1, hv, h⟩ := h
    refine x_get dX8_sharesBy_49 xf_X8_123 hf hv ?_
    obtain ⟨h1, h2⟩ := h
    refine x_icmp_ge (tgt := 117) dX8_sharesBy_52 (by decide) (fun q => ?_) (fun q => ?_)
    · have h := h1 q
      obtain ⟨f_2, h⟩ := h
      refine x_sub (L' := [(0, .ref a0), (5, .long y5)]) [0, 3] rfl ?_
      exact S_X8_sharesBy_117 hl ht hr  f_2 a0 y5 t _ _ h
    · have h := h2 q
      refine x_lload_n 2 dX8_sharesBy_55 rfl rfl ?_
      refine x_lconst (v := (0 : Int64)) dX8_sharesBy_56 (by decide) ?_
      obtain ⟨h1, h2⟩ := h
      refine x_lcmp_le (tgt := 117) dX8_sharesBy_57 dX8_sharesBy_58 (by decide) (fun q => ?_) (fun q => ?_)
      · have h := h1 q
        obtain ⟨f_3, h⟩ := h
        refine x_sub (L' := [(0, .ref a0), (5, .long y5)]) [0, 3] rfl ?_
        exact S_X8_sharesBy_117 hl ht hr  f_3 a0 y5 t _ _ h
      · have h := h2 q
        refine x_lload_n 1 dX8_sharesBy_61 rfl rfl ?_
        refine x_aload_n 0 dX8_sharesBy_62 rfl rfl ?_
        obtain ⟨fs, hf, a_4, hv, h⟩ := h
        refine x_get dX8_sharesBy_63 xf_X8_99 hf hv ?_
        refine x_iload 4 dX8_sharesBy_66 rfl ?_
        obtain ⟨n, f, hf, hi, h⟩ := h
        refine x_lald dX8_sharesBy_68 hf hi ?_
        generalize f _ = y_5 at h ⊢
        refine x_lmul dX8_sharesBy_69 ?_
        refine x_lload_n 2 dX8_sharesBy_70 rfl rfl ?_
        obtain ⟨q, h⟩ := h
        refine x_ldiv dX8_sharesBy_71 q ?_
        refine x_lstore (L' := [(8, .long ((y1 * y_5) / y3)), (0, .ref a0), (1, .long y1), (3, .long y3), (5, .long y5), (7, .int x7)]) dX8_sharesBy_72 (by decide) rfl ?_
        refine x_aload_n 1 dX8_sharesBy_74 rfl rfl ?_
        obtain ⟨fs, hf, a_6, hv, h⟩ := h
        refine x_get dX8_sharesBy_75 xf_X8_105 hf hv ?_
        refine x_iload 5 dX8_sharesBy_78 rfl ?_
        refine x_lload_n 2 dX8_sharesBy_80 rfl rfl ?_
        refine x_aload_n 1 dX8_sharesBy_81 rfl rfl ?_
        obtain ⟨fs, hf, a_7, hv, h⟩ := h
        refine x_get dX8_sharesBy_82 xf_X8_99 hf hv ?_
        refine x_iload 5 dX8_sharesBy_85 rfl ?_
        obtain ⟨n, f, hf, hi, h⟩ := h
        refine x_lald dX8_sharesBy_87 hf hi ?_
        generalize f _ = y_8 at h ⊢
        refine x_lmul dX8_sharesBy_88 ?_
        refine x_lload_n 3 dX8_sharesBy_89 rfl rfl ?_
        obtain ⟨q, h⟩ := h
        refine x_lrem dX8_sharesBy_90 q ?_
        obtain ⟨n, f, hf, hi, h⟩ := h
        refine x_last dX8_sharesBy_91 hf hi ?_
        generalize hT : xup t a_6 _ = t_9 at h ⊢
        clear hT
        refine x_aload_n 1 dX8_sharesBy_92 rfl rfl ?_
        obtain ⟨fs, hf, a_10, hv, h⟩ := h
        refine x_get dX8_sharesBy_93 xf_X8_102 hf hv ?_
        refine x_iload 5 dX8_sharesBy_96 rfl ?_
        refine x_dup2_11 dX8_sharesBy_98 rfl rfl ?_
        obtain ⟨n, f, hf, hi, h⟩ := h
        refine x_lald dX8_sharesBy_99 hf hi ?_
        generalize f _ = y_11 at h ⊢
        refine x_lload 0 dX8_sharesBy_100 rfl ?_
        refine x_ladd dX8_sharesBy_102 ?_
        obtain ⟨n, f, hf, hi, h⟩ := h
        refine x_last dX8_sharesBy_103 hf hi ?_
        generalize hT : xup t_9 a_10 _ = t_12 at h ⊢
        clear hT
        refine x_lload 4 dX8_sharesBy_104 rfl ?_
        refine x_lload 0 dX8_sharesBy_106 rfl ?_
        refine x_lsub dX8_sharesBy_108 ?_
        refine x_lstore (L' := [(5, .long (y5 - ((y1 * y_5) / y3))), (8, .long ((y1 * y_5) / y3)), (0, .ref a0), (1, .long y1), (3, .long y3), (7, .int x7)]) dX8_sharesBy_109 (by decide) rfl ?_
        refine x_iinc (v := (x7 + 1)) (L' := [(7, .int (x7 + 1)), (5, .long (y5 - ((y1 * y_5) / y3))), (8, .long ((y1 * y_5) / y3)), (0, .ref a0), (1, .long y1), (3, .long y3)]) (j := 5) dX8_sharesBy_111 rfl rfl (by decide) rfl ?_
        refine x_goto (tgt := 46) dX8_sharesBy_114 (by decide) ?_
        refine x_sub (L' := [(0, .ref a0), (1, .long y1), (3, .long y3), (5, .long (y5 - ((y1 * y_5) / y3))), (7, .int (x7 + 1))]) [3, 4, 5, 1, 0] rfl ?_
        exact ih a0 y1 y3 (y5 - ((y1 * y_5) / y3)) (x7 + 1) t_12 _ _ h
def VS_X8_sharesBy_5 (R5 : Nat → Int64 → Int64 → Int32 → xT → Prop) (K : xT → Prop) (a0 : Nat) (y1 : Int64) (y3 : Int64) (x5 : Int32) (t : xT) : Prop :=
  xgI t a0 8 18 fun x_1 => ((x_1 ≤ x5 → ((¬ y3 = (0 : Int64) → ∃ f_2 : Nat, V_X8_sharesBy_46 K f_2 a0 y1 y3 y1 (0 : Int32) t) ∧ (y3 = (0 : Int64) → ∃ f_3 : Nat, V_X8_sharesBy_46 K f_3 a0 y1 y3 (0 : Int64) (0 : Int32) t))) ∧ (¬ x_1 ≤ x5 → xgR t a0 8 35 fun a_4 => xaJ t a_4 x5 fun y_5 => R5 a0 y1 (y3 + y_5) (x5 + 1) t))
def V_X8_sharesBy_5 (K : xT → Prop) (n : Nat) : Nat → Int64 → Int64 → Int32 → xT → Prop := Nat.rec (fun _ _ _ _ _ => False) (fun _ ih => VS_X8_sharesBy_5 ih K) n
set_option maxRecDepth 20000 in
theorem S_X8_sharesBy_5 {Γ : xΓ} {K : xT → Prop} (hl : (gl Γ).stackTraces = false) (ht : (gM Γ).sig.returnType = none) (hr : xRet Γ (xKv K)) : ∀ (n : Nat) (a0 : Nat) (y1 : Int64) (y3 : Int64) (x5 : Int32) (t : xT) (rc rs : Nat), V_X8_sharesBy_5 K n a0 y1 y3 x5 t → xX Γ k_X8_sharesBy 5 [(0, .ref a0), (1, .long y1), (3, .long y3), (5, .int x5)] [] t rc rs := by
  intro n
  induction n with
  | zero =>
    intro a0 y1 y3 x5 t rc rs h
    exact h.elim
  | succ n ih =>
    intro a0 y1 y3 x5 t rc rs h
    replace h : VS_X8_sharesBy_5 (V_X8_sharesBy_5 K n) K a0 y1 y3 x5 t := h
    unfold VS_X8_sharesBy_5 at h
    refine x_iload 3 dX8_sharesBy_5 rfl ?_
    refine x_aload_n 0 dX8_sharesBy_7 rfl rfl ?_
    obtain ⟨fs, hf, x_1, hv, h⟩ := h
    refine x_get dX8_sharesBy_8 xf_X8_123 hf hv ?_
    obtain ⟨h1, h2⟩ := h
    refine x_icmp_ge (tgt := 30) dX8_sharesBy_11 (by decide) (fun q => ?_) (fun q => ?_)
    · have h := h1 q
      refine x_lload_n 2 dX8_sharesBy_30 rfl rfl ?_
      refine x_lconst (v := (0 : Int64)) dX8_sharesBy_31 (by decide) ?_
      obtain ⟨h1, h2⟩ := h
      refine x_lcmp_ne (tgt := 40) dX8_sharesBy_32 dX8_sharesBy_33 (by decide) (fun q => ?_) (fun q => ?_)
      · have h := h1 q
        refine x_lload_n 1 dX8_sharesBy_40 rfl rfl ?_
        refine x_lstore (L' := [(5, .long y1), (0, .ref a0), (1, .long y1), (3, .long y3)]) dX8_sharesBy_41 (by decide) rfl ?_
        refine x_iconst (v := (0 : Int32)) dX8_sharesBy_43 (by decide) ?_
        refine x_istore (L' := [(7, .int (0 : Int32)), (5, .long y1), (0, .ref a0), (1, .long y1), (3, .long y3)]) dX8_sharesBy_44 (by decide) rfl ?_
        obtain ⟨f_2, h⟩ := h
        refine x_sub (L' := [(0, .ref a0), (1, .long y1), (3, .long y3), (5, .long y1), (7, .int (0 : Int32))]) [2, 3, 4, 1, 0] rfl ?_
        exact S_X8_sharesBy_46 hl ht hr  f_2 a0 y1 y3 y1 (0 : Int32) t _ _ h
      · have h := h2 q
        refine x_lconst (v := (0 : Int64)) dX8_sharesBy_36 (by decide) ?_
        refine x_goto (tgt := 41) dX8_sharesBy_37 (by decide) ?_
        refine x_lstore (L' := [(5, .long (0 : Int64)), (0, .ref a0), (1, .long y1), (3, .long y3)]) dX8_sharesBy_41 (by decide) rfl ?_
        refine x_iconst (v := (0 : Int32)) dX8_sharesBy_43 (by decide) ?_
        refine x_istore (L' := [(7, .int (0 : Int32)), (5, .long (0 : Int64)), (0, .ref a0), (1, .long y1), (3, .long y3)]) dX8_sharesBy_44 (by decide) rfl ?_
        obtain ⟨f_3, h⟩ := h
        refine x_sub (L' := [(0, .ref a0), (1, .long y1), (3, .long y3), (5, .long (0 : Int64)), (7, .int (0 : Int32))]) [2, 3, 4, 1, 0] rfl ?_
        exact S_X8_sharesBy_46 hl ht hr  f_3 a0 y1 y3 (0 : Int64) (0 : Int32) t _ _ h
    · have h := h2 q
      refine x_lload_n 2 dX8_sharesBy_14 rfl rfl ?_
      refine x_aload_n 0 dX8_sharesBy_15 rfl rfl ?_
      obtain ⟨fs, hf, a_4, hv, h⟩ := h
      refine x_get dX8_sharesBy_16 xf_X8_99 hf hv ?_
      refine x_iload 3 dX8_sharesBy_19 rfl ?_
      obtain ⟨n, f, hf, hi, h⟩ := h
      refine x_lald dX8_sharesBy_21 hf hi ?_
      generalize f _ = y_5 at h ⊢
      refine x_ladd dX8_sharesBy_22 ?_
      refine x_lstore_n (L' := [(3, .long (y3 + y_5)), (0, .ref a0), (1, .long y1), (5, .int x5)]) dX8_sharesBy_23 rfl (by decide) rfl ?_
      refine x_iinc (v := (x5 + 1)) (L' := [(5, .int (x5 + 1)), (3, .long (y3 + y_5)), (0, .ref a0), (1, .long y1)]) (j := 3) dX8_sharesBy_24 rfl rfl (by decide) rfl ?_
      refine x_goto (tgt := 5) dX8_sharesBy_27 (by decide) ?_
      refine x_sub (L' := [(0, .ref a0), (1, .long y1), (3, .long (y3 + y_5)), (5, .int (x5 + 1))]) [2, 3, 1, 0] rfl ?_
      exact ih a0 y1 (y3 + y_5) (x5 + 1) t _ _ h
def V_X8_sharesBy_0 (K : xT → Prop) (a0 : Nat) (y1 : Int64) (t : xT) : Prop :=
  ∃ f_1 : Nat, V_X8_sharesBy_5 K f_1 a0 y1 (0 : Int64) (0 : Int32) t
set_option maxRecDepth 20000 in
theorem S_X8_sharesBy_0 {Γ : xΓ} {K : xT → Prop} (hl : (gl Γ).stackTraces = false) (ht : (gM Γ).sig.returnType = none) (hr : xRet Γ (xKv K)) {a0 : Nat} {y1 : Int64} {t : xT} {rc rs : Nat} (h : V_X8_sharesBy_0 K a0 y1 t) : xX Γ k_X8_sharesBy 0 [(0, .ref a0), (1, .long y1)] [] t rc rs := by
  unfold V_X8_sharesBy_0 at h
  refine x_lconst (v := (0 : Int64)) dX8_sharesBy_0 (by decide) ?_
  refine x_lstore_n (L' := [(3, .long (0 : Int64)), (0, .ref a0), (1, .long y1)]) dX8_sharesBy_1 rfl (by decide) rfl ?_
  refine x_iconst (v := (0 : Int32)) dX8_sharesBy_2 (by decide) ?_
  refine x_istore (L' := [(5, .int (0 : Int32)), (3, .long (0 : Int64)), (0, .ref a0), (1, .long y1)]) dX8_sharesBy_3 (by decide) rfl ?_
  obtain ⟨f_1, h⟩ := h
  refine x_sub (L' := [(0, .ref a0), (1, .long y1), (3, .long (0 : Int64)), (5, .int (0 : Int32))]) [2, 3, 1, 0] rfl ?_
  exact S_X8_sharesBy_5 hl ht hr  f_1 a0 y1 (0 : Int64) (0 : Int32) t _ _ h
theorem M_X8_sharesBy {l : Launch} {G : xG} (hl : l.stackTraces = false) {a0 : Nat} {y1 : Int64} {t : xT} {K : xT → Prop} (h : V_X8_sharesBy_0 K a0 y1 t) : xMet l G yX8_sharesBy k_X8_sharesBy none [.ref a0, .long y1] t (xKv K) 0 0 := xMet.of (by decide +kernel) rfl hl (Nat.le_of_ble_eq_true rfl) (fun Γ e1 e2 ht hn hr => by subst e1; subst e2; exact S_X8_sharesBy_0 hl ht hr h)
/-! RentStreamModel.weighs(IZ)J -/
def VS_X8_weighs_5 (R5 : Nat → Int32 → Int32 → Int64 → Int32 → xT → Prop) (K : Int64 → xT → Prop) (a0 : Nat) (x1 : Int32) (x2 : Int32) (y3 : Int64) (x5 : Int32) (t : xT) : Prop :=
  xgI t a0 8 18 fun x_1 => ((x_1 ≤ x5 → K y3 t) ∧ (¬ x_1 ≤ x5 → xgR t a0 8 19 fun a_2 => xaI 0 t a_2 x5 fun x_3 => xgR t a0 8 35 fun a_4 => (xis t a0 8 ∧ V_X8_runs_0 (fun x_6 t_5 => ((¬ x_6 = 0 → ((x2 = 0 → xgR t_5 a0 8 3 fun a_7 => xaI 0 t_5 a_7 x_3 fun x_8 => xsJ t_5 a_4 x5 x_8.toInt64 fun t_9 => xgR t_9 a0 8 35 fun a_10 => xaJ t_9 a_10 x5 fun y_11 => R5 a0 x1 x2 (y3 + y_11) (x5 + 1) t_9) ∧ (¬ x2 = 0 → xgR t_5 a0 8 9 fun a_12 => xaI 0 t_5 a_12 (((121 : Int32) * x_3) + x1) fun x_13 => xsJ t_5 a_4 x5 x_13.toInt64 fun t_14 => xgR t_14 a0 8 35 fun a_15 => xaJ t_14 a_15 x5 fun y_16 => R5 a0 x1 x2 (y3 + y_16) (x5 + 1) t_14))) ∧ (x_6 = 0 → xsJ t_5 a_4 x5 (0 : Int64) fun t_17 => xgR t_17 a0 8 35 fun a_18 => xaJ t_17 a_18 x5 fun y_19 => R5 a0 x1 x2 (y3 + y_19) (x5 + 1) t_17))) a0 x5 x1 t)))
def V_X8_weighs_5 (K : Int64 → xT → Prop) (n : Nat) : Nat → Int32 → Int32 → Int64 → Int32 → xT → Prop := Nat.rec (fun _ _ _ _ _ _ => False) (fun _ ih => VS_X8_weighs_5 ih K) n
set_option maxRecDepth 20000 in
theorem S_X8_weighs_5 {Γ : xΓ} {K : Int64 → xT → Prop} (hl : (gl Γ).stackTraces = false) (ht : (gM Γ).sig.returnType = (some .long)) (hr : xRet Γ (xKl K)) : ∀ (n : Nat) (a0 : Nat) (x1 : Int32) (x2 : Int32) (y3 : Int64) (x5 : Int32) (t : xT) (rc rs : Nat), V_X8_weighs_5 K n a0 x1 x2 y3 x5 t → xX Γ k_X8_weighs 5 [(0, .ref a0), (1, .int x1), (2, .int x2), (3, .long y3), (5, .int x5)] [] t rc rs := by
  intro n
  induction n with
  | zero =>
    intro a0 x1 x2 y3 x5 t rc rs h
    exact h.elim
  | succ n ih =>
    intro a0 x1 x2 y3 x5 t rc rs h
    replace h : VS_X8_weighs_5 (V_X8_weighs_5 K n) K a0 x1 x2 y3 x5 t := h
    unfold VS_X8_weighs_5 at h
    refine x_iload 4 dX8_weighs_5 rfl ?_
    refine x_aload_n 0 dX8_weighs_7 rfl rfl ?_
    obtain ⟨fs, hf, x_1, hv, h⟩ := h
    refine x_get dX8_weighs_8 xf_X8_123 hf hv ?_
    obtain ⟨h1, h2⟩ := h
    refine x_icmp_ge (tgt := 88) dX8_weighs_11 (by decide) (fun q => ?_) (fun q => ?_)
    · have h := h1 q
      refine x_lload_n 3 dX8_weighs_88 rfl rfl ?_
      exact x_lret dX8_weighs_89 hr ht ⟨_, rfl, h⟩
    · have h := h2 q
      refine x_aload_n 0 dX8_weighs_14 rfl rfl ?_
      obtain ⟨fs, hf, a_2, hv, h⟩ := h
      refine x_get dX8_weighs_15 xf_X8_50 hf hv ?_
      refine x_iload 4 dX8_weighs_18 rfl ?_
      obtain ⟨n, f, hf, hi, h⟩ := h
      refine x_iald dX8_weighs_20 hf hi ?_
      generalize f _ = x_3 at h ⊢
      refine x_istore (L' := [(6, .int x_3), (0, .ref a0), (1, .int x1), (2, .int x2), (3, .long y3), (5, .int x5)]) dX8_weighs_21 (by decide) rfl ?_
      refine x_aload_n 1 dX8_weighs_23 rfl rfl ?_
      obtain ⟨fs, hf, a_4, hv, h⟩ := h
      refine x_get dX8_weighs_24 xf_X8_99 hf hv ?_
      refine x_iload 5 dX8_weighs_27 rfl ?_
      refine x_aload_n 1 dX8_weighs_29 rfl rfl ?_
      refine x_iload 5 dX8_weighs_30 rfl ?_
      refine x_iload_n 2 dX8_weighs_32 rfl rfl ?_
      obtain ⟨⟨fs, hf⟩, h⟩ := h
      refine x_invV (as := [.int x5, .int x1]) (rest := [.int x5, .ref a_4]) dX8_weighs_33 (q := (RX8, TX8, 40)) rfl xc_X8_weighs_137 hf (M_X8_runs hl h) rfl rfl (Nat.le_of_ble_eq_true rfl) (Nat.zero_le _) (Nat.zero_le _) (xk_i fun x_6 t_5 h => ?_)
      obtain ⟨h1, h2⟩ := h
      refine x_if_ne (tgt := 43) dX8_weighs_36 (by decide) (fun q => ?_) (fun q => ?_)
      · have h := h1 q
        refine x_iload_n 3 dX8_weighs_43 rfl rfl ?_
        obtain ⟨h1, h2⟩ := h
        refine x_if_eq (tgt := 63) dX8_weighs_44 (by decide) (fun q => ?_) (fun q => ?_)
        · have h := h1 q
          refine x_aload_n 1 dX8_weighs_63 rfl rfl ?_
          obtain ⟨fs, hf, a_7, hv, h⟩ := h
          refine x_get dX8_weighs_64 xf_X8_7 hf hv ?_
          refine x_iload 0 dX8_weighs_67 rfl ?_
          obtain ⟨n, f, hf, hi, h⟩ := h
          refine x_iald dX8_weighs_69 hf hi ?_
          generalize f _ = x_8 at h ⊢
          refine x_i2l dX8_weighs_70 ?_
          obtain ⟨n, f, hf, hi, h⟩ := h
          refine x_last dX8_weighs_71 hf hi ?_
          generalize hT : xup t_5 a_4 _ = t_9 at h ⊢
          clear hT
          refine x_lload_n 4 dX8_weighs_72 rfl rfl ?_
          refine x_aload_n 1 dX8_weighs_73 rfl rfl ?_
          obtain ⟨fs, hf, a_10, hv, h⟩ := h
          refine x_get dX8_weighs_74 xf_X8_99 hf hv ?_
          refine x_iload 5 dX8_weighs_77 rfl ?_
          obtain ⟨n, f, hf, hi, h⟩ := h
          refine x_lald dX8_weighs_79 hf hi ?_
          generalize f _ = y_11 at h ⊢
          refine x_ladd dX8_weighs_80 ?_
          refine x_lstore_n (L' := [(3, .long (y3 + y_11)), (6, .int x_3), (0, .ref a0), (1, .int x1), (2, .int x2), (5, .int x5)]) dX8_weighs_81 rfl (by decide) rfl ?_
          refine x_iinc (v := (x5 + 1)) (L' := [(5, .int (x5 + 1)), (3, .long (y3 + y_11)), (6, .int x_3), (0, .ref a0), (1, .int x1), (2, .int x2)]) (j := 5) dX8_weighs_82 rfl rfl (by decide) rfl ?_
          refine x_goto (tgt := 5) dX8_weighs_85 (by decide) ?_
          refine x_sub (L' := [(0, .ref a0), (1, .int x1), (2, .int x2), (3, .long (y3 + y_11)), (5, .int (x5 + 1))]) [3, 4, 5, 1, 0] rfl ?_
          exact ih a0 x1 x2 (y3 + y_11) (x5 + 1) t_9 _ _ h
        · have h := h2 q
          refine x_aload_n 1 dX8_weighs_47 rfl rfl ?_
          obtain ⟨fs, hf, a_12, hv, h⟩ := h
          refine x_get dX8_weighs_48 xf_X8_28 hf hv ?_
          refine x_bipush (v := (121 : Int32)) dX8_weighs_51 (by decide) ?_
          refine x_iload 0 dX8_weighs_53 rfl ?_
          refine x_imul dX8_weighs_55 ?_
          refine x_iload_n 2 dX8_weighs_56 rfl rfl ?_
          refine x_iadd dX8_weighs_57 ?_
          obtain ⟨n, f, hf, hi, h⟩ := h
          refine x_iald dX8_weighs_58 hf hi ?_
          generalize f _ = x_13 at h ⊢
          refine x_i2l dX8_weighs_59 ?_
          refine x_goto (tgt := 71) dX8_weighs_60 (by decide) ?_
          obtain ⟨n, f, hf, hi, h⟩ := h
          refine x_last dX8_weighs_71 hf hi ?_
          generalize hT : xup t_5 a_4 _ = t_14 at h ⊢
          clear hT
          refine x_lload_n 4 dX8_weighs_72 rfl rfl ?_
          refine x_aload_n 1 dX8_weighs_73 rfl rfl ?_
          obtain ⟨fs, hf, a_15, hv, h⟩ := h
          refine x_get dX8_weighs_74 xf_X8_99 hf hv ?_
          refine x_iload 5 dX8_weighs_77 rfl ?_
          obtain ⟨n, f, hf, hi, h⟩ := h
          refine x_lald dX8_weighs_79 hf hi ?_
          generalize f _ = y_16 at h ⊢
          refine x_ladd dX8_weighs_80 ?_
          refine x_lstore_n (L' := [(3, .long (y3 + y_16)), (6, .int x_3), (0, .ref a0), (1, .int x1), (2, .int x2), (5, .int x5)]) dX8_weighs_81 rfl (by decide) rfl ?_
          refine x_iinc (v := (x5 + 1)) (L' := [(5, .int (x5 + 1)), (3, .long (y3 + y_16)), (6, .int x_3), (0, .ref a0), (1, .int x1), (2, .int x2)]) (j := 5) dX8_weighs_82 rfl rfl (by decide) rfl ?_
          refine x_goto (tgt := 5) dX8_weighs_85 (by decide) ?_
          refine x_sub (L' := [(0, .ref a0), (1, .int x1), (2, .int x2), (3, .long (y3 + y_16)), (5, .int (x5 + 1))]) [3, 4, 5, 1, 0] rfl ?_
          exact ih a0 x1 x2 (y3 + y_16) (x5 + 1) t_14 _ _ h
      · have h := h2 q
        refine x_lconst (v := (0 : Int64)) dX8_weighs_39 (by decide) ?_
        refine x_goto (tgt := 71) dX8_weighs_40 (by decide) ?_
        obtain ⟨n, f, hf, hi, h⟩ := h
        refine x_last dX8_weighs_71 hf hi ?_
        generalize hT : xup t_5 a_4 _ = t_17 at h ⊢
        clear hT
        refine x_lload_n 4 dX8_weighs_72 rfl rfl ?_
        refine x_aload_n 1 dX8_weighs_73 rfl rfl ?_
        obtain ⟨fs, hf, a_18, hv, h⟩ := h
        refine x_get dX8_weighs_74 xf_X8_99 hf hv ?_
        refine x_iload 5 dX8_weighs_77 rfl ?_
        obtain ⟨n, f, hf, hi, h⟩ := h
        refine x_lald dX8_weighs_79 hf hi ?_
        generalize f _ = y_19 at h ⊢
        refine x_ladd dX8_weighs_80 ?_
        refine x_lstore_n (L' := [(3, .long (y3 + y_19)), (6, .int x_3), (0, .ref a0), (1, .int x1), (2, .int x2), (5, .int x5)]) dX8_weighs_81 rfl (by decide) rfl ?_
        refine x_iinc (v := (x5 + 1)) (L' := [(5, .int (x5 + 1)), (3, .long (y3 + y_19)), (6, .int x_3), (0, .ref a0), (1, .int x1), (2, .int x2)]) (j := 5) dX8_weighs_82 rfl rfl (by decide) rfl ?_
        refine x_goto (tgt := 5) dX8_weighs_85 (by decide) ?_
        refine x_sub (L' := [(0, .ref a0), (1, .int x1), (2, .int x2), (3, .long (y3 + y_19)), (5, .int (x5 + 1))]) [3, 4, 5, 1, 0] rfl ?_
        exact ih a0 x1 x2 (y3 + y_19) (x5 + 1) t_17 _ _ h
def V_X8_weighs_0 (K : Int64 → xT → Prop) (a0 : Nat) (x1 : Int32) (x2 : Int32) (t : xT) : Prop :=
  ∃ f_1 : Nat, V_X8_weighs_5 K f_1 a0 x1 x2 (0 : Int64) (0 : Int32) t
set_option maxRecDepth 20000 in
theorem S_X8_weighs_0 {Γ : xΓ} {K : Int64 → xT → Prop} (hl : (gl Γ).stackTraces = false) (ht : (gM Γ).sig.returnType = (some .long)) (hr : xRet Γ (xKl K)) {a0 : Nat} {x1 : Int32} {x2 : Int32} {t : xT} {rc rs : Nat} (h : V_X8_weighs_0 K a0 x1 x2 t) : xX Γ k_X8_weighs 0 [(0, .ref a0), (1, .int x1), (2, .int x2)] [] t rc rs := by
  unfold V_X8_weighs_0 at h
  refine x_lconst (v := (0 : Int64)) dX8_weighs_0 (by decide) ?_
  refine x_lstore_n (L' := [(3, .long (0 : Int64)), (0, .ref a0), (1, .int x1), (2, .int x2)]) dX8_weighs_1 rfl (by decide) rfl ?_
  refine x_iconst (v := (0 : Int32)) dX8_weighs_2 (by decide) ?_
  refine x_istore (L' := [(5, .int (0 : Int32)), (3, .long (0 : Int64)), (0, .ref a0), (1, .int x1), (2, .int x2)]) dX8_weighs_3 (by decide) rfl ?_
  obtain ⟨f_1, h⟩ := h
  refine x_sub (L' := [(0, .ref a0), (1, .int x1), (2, .int x2), (3, .long (0 : Int64)), (5, .int (0 : Int32))]) [2, 3, 4, 1, 0] rfl ?_
  exact S_X8_weighs_5 hl ht hr  f_1 a0 x1 x2 (0 : Int64) (0 : Int32) t _ _ h
theorem M_X8_weighs {l : Launch} {G : xG} (hl : l.stackTraces = false) {a0 : Nat} {x1 : Int32} {x2 : Int32} {t : xT} {K : Int64 → xT → Prop} (h : V_X8_weighs_0 K a0 x1 x2 t) : xMet l G yX8_weighs k_X8_weighs (some .long) [.ref a0, .int x1, .int x2] t (xKl K) 0 0 := xMet.of (by decide +kernel) rfl hl (Nat.le_of_ble_eq_true rfl) (fun Γ e1 e2 ht hn hr => by subst e1; subst e2; exact S_X8_weighs_0 hl ht hr h)
/-! RentStreamModel.sharesHeat(I)V -/
def V_X8_sharesHeat_65 (K : xT → Prop) (a0 : Nat) (x1 : Int32) (x2 : Int32) (ys0 : Int64) (t : xT) : Prop :=
  ((x2 = 0 → (xis t a0 8 ∧ V_X8_weighs_0 (fun y_2 t_1 => (xis t_1 a0 8 ∧ V_X8_sharesBy_0 (fun t_3 => K t_3) a0 ys0 t_1)) a0 x1 (0 : Int32) t)) ∧ (¬ x2 = 0 → xgI t a0 8 11 fun x_4 => (xis t a0 8 ∧ V_X8_sharesBy_0 (fun t_5 => (xis t_5 a0 8 ∧ V_X8_weighs_0 (fun y_7 t_6 => (xis t_6 a0 8 ∧ V_X8_sharesBy_0 (fun t_8 => K t_8) a0 ys0 t_6)) a0 x1 (0 : Int32) t_5)) a0 (x_4.toInt64 - ys0) t)))
set_option maxRecDepth 20000 in
theorem S_X8_sharesHeat_65 {Γ : xΓ} {K : xT → Prop} (hl : (gl Γ).stackTraces = false) (ht : (gM Γ).sig.returnType = none) (hr : xRet Γ (xKv K)) {a0 : Nat} {x1 : Int32} {x2 : Int32} {ys0 : Int64} {t : xT} {rc rs : Nat} (h : V_X8_sharesHeat_65 K a0 x1 x2 ys0 t) : xX Γ k_X8_sharesHeat 65 [(0, .ref a0), (1, .int x1), (2, .int x2)] [.long ys0] t rc rs := by
  unfold V_X8_sharesHeat_65 at h
  refine x_lstore_n (L' := [(3, .long ys0), (0, .ref a0), (1, .int x1), (2, .int x2)]) dX8_sharesHeat_65 rfl (by decide) rfl ?_
  refine x_iload_n 3 dX8_sharesHeat_66 rfl rfl ?_
  obtain ⟨h1, h2⟩ := h
  refine x_if_eq (tgt := 81) dX8_sharesHeat_67 (by decide) (fun q => ?_) (fun q => ?_)
  · have h := h1 q
    refine x_aload_n 1 dX8_sharesHeat_81 rfl rfl ?_
    refine x_iload_n 2 dX8_sharesHeat_82 rfl rfl ?_
    refine x_iconst (v := (0 : Int32)) dX8_sharesHeat_83 (by decide) ?_
    obtain ⟨⟨fs, hf⟩, h⟩ := h
    refine x_invV (as := [.int x1, .int (0 : Int32)]) (rest := []) dX8_sharesHeat_84 (q := (RX8, TX8, 40)) rfl xc_X8_sharesHeat_161 hf (M_X8_weighs hl h) rfl rfl (Nat.le_of_ble_eq_true rfl) (Nat.zero_le _) (Nat.zero_le _) (xk_l fun y_2 t_1 h => ?_)
    refine x_lstore (L' := [(5, .long y_2), (3, .long ys0), (0, .ref a0), (1, .int x1), (2, .int x2)]) dX8_sharesHeat_87 (by decide) rfl ?_
    refine x_aload_n 2 dX8_sharesHeat_89 rfl rfl ?_
    refine x_lload_n 1 dX8_sharesHeat_90 rfl rfl ?_
    obtain ⟨⟨fs, hf⟩, h⟩ := h
    refine x_invV (as := [.long ys0]) (rest := []) dX8_sharesHeat_91 (q := (RX8, TX8, 40)) rfl xc_X8_sharesHeat_169 hf (M_X8_sharesBy hl h) rfl rfl (Nat.le_of_ble_eq_true rfl) (Nat.zero_le _) (Nat.zero_le _) (xk_v fun t_3 h => ?_)
    exact x_vret dX8_sharesHeat_94 hr ht ⟨rfl, h⟩
  · have h := h2 q
    refine x_aload_n 1 dX8_sharesHeat_70 rfl rfl ?_
    refine x_aload_n 1 dX8_sharesHeat_71 rfl rfl ?_
    obtain ⟨fs, hf, x_4, hv, h⟩ := h
    refine x_get dX8_sharesHeat_72 xf_X8_152 hf hv ?_
    refine x_i2l dX8_sharesHeat_75 ?_
    refine x_lload_n 0 dX8_sharesHeat_76 rfl rfl ?_
    refine x_lsub dX8_sharesHeat_77 ?_
    obtain ⟨⟨fs, hf⟩, h⟩ := h
    refine x_invV (as := [.long (x_4.toInt64 - ys0)]) (rest := []) dX8_sharesHeat_78 (q := (RX8, TX8, 40)) rfl xc_X8_sharesHeat_169 hf (M_X8_sharesBy hl h) rfl rfl (Nat.le_of_ble_eq_true rfl) (Nat.zero_le _) (Nat.zero_le _) (xk_v fun t_5 h => ?_)
    refine x_aload_n 1 dX8_sharesHeat_81 rfl rfl ?_
    refine x_iload_n 2 dX8_sharesHeat_82 rfl rfl ?_
    refine x_iconst (v := (0 : Int32)) dX8_sharesHeat_83 (by decide) ?_
    obtain ⟨⟨fs, hf⟩, h⟩ := h
    refine x_invV (as := [.int x1, .int (0 : Int32)]) (rest := []) dX8_sharesHeat_84 (q := (RX8, TX8, 40)) rfl xc_X8_sharesHeat_161 hf (M_X8_weighs hl h) rfl rfl (Nat.le_of_ble_eq_true rfl) (Nat.zero_le _) (Nat.zero_le _) (xk_l fun y_7 t_6 h => ?_)
    refine x_lstore (L' := [(5, .long y_7), (3, .long ys0), (0, .ref a0), (1, .int x1), (2, .int x2)]) dX8_sharesHeat_87 (by decide) rfl ?_
    refine x_aload_n 2 dX8_sharesHeat_89 rfl rfl ?_
    refine x_lload_n 1 dX8_sharesHeat_90 rfl rfl ?_
    obtain ⟨⟨fs, hf⟩, h⟩ := h
    refine x_invV (as := [.long ys0]) (rest := []) dX8_sharesHeat_91 (q := (RX8, TX8, 40)) rfl xc_X8_sharesHeat_169 hf (M_X8_sharesBy hl h) rfl rfl (Nat.le_of_ble_eq_true rfl) (Nat.zero_le _) (Nat.zero_le _) (xk_v fun t_8 h => ?_)
    exact x_vret dX8_sharesHeat_94 hr ht ⟨rfl, h⟩
def V_X8_sharesHeat_39 (K : xT → Prop) (a0 : Nat) (x1 : Int32) (xs0 : Int32) (t : xT) : Prop :=
  ((xs0 = 0 → xgI t a0 8 11 fun x_1 => V_X8_sharesHeat_65 K a0 x1 xs0 x_1.toInt64 t) ∧ (¬ xs0 = 0 → xgI t a0 8 11 fun x_2 => (¬ (10 : Int64) = 0 ∧ V_X8_sharesHeat_65 K a0 x1 xs0 (((3 : Int64) * x_2.toInt64) / (10 : Int64)) t)))
set_option maxRecDepth 20000 in
theorem S_X8_sharesHeat_39 {Γ : xΓ} {K : xT → Prop} (hl : (gl Γ).stackTraces = false) (ht : (gM Γ).sig.returnType = none) (hr : xRet Γ (xKv K)) {a0 : Nat} {x1 : Int32} {xs0 : Int32} {t : xT} {rc rs : Nat} (h : V_X8_sharesHeat_39 K a0 x1 xs0 t) : xX Γ k_X8_sharesHeat 39 [(0, .ref a0), (1, .int x1)] [.int xs0] t rc rs := by
  unfold V_X8_sharesHeat_39 at h
  refine x_istore_n (L' := [(2, .int xs0), (0, .ref a0), (1, .int x1)]) dX8_sharesHeat_39 rfl (by decide) rfl ?_
  refine x_iload_n 0 dX8_sharesHeat_40 rfl rfl ?_
  obtain ⟨h1, h2⟩ := h
  refine x_if_eq (tgt := 60) dX8_sharesHeat_41 (by decide) (fun q => ?_) (fun q => ?_)
  · have h := h1 q
    refine x_aload_n 1 dX8_sharesHeat_60 rfl rfl ?_
    obtain ⟨fs, hf, x_1, hv, h⟩ := h
    refine x_get dX8_sharesHeat_61 xf_X8_152 hf hv ?_
    refine x_i2l dX8_sharesHeat_64 ?_
    refine x_sub (L' := [(0, .ref a0), (1, .int x1), (2, .int xs0)]) [1, 2, 0] rfl ?_
    exact S_X8_sharesHeat_65 hl ht hr  h
  · have h := h2 q
    refine x_ldc2 dX8_sharesHeat_44 xw1455 ?_
    refine x_aload_n 1 dX8_sharesHeat_47 rfl rfl ?_
    obtain ⟨fs, hf, x_2, hv, h⟩ := h
    refine x_get dX8_sharesHeat_48 xf_X8_152 hf hv ?_
    refine x_i2l dX8_sharesHeat_51 ?_
    refine x_lmul dX8_sharesHeat_52 ?_
    refine x_ldc2 dX8_sharesHeat_53 xw1456 ?_
    obtain ⟨q, h⟩ := h
    refine x_ldiv dX8_sharesHeat_56 q ?_
    refine x_goto (tgt := 65) dX8_sharesHeat_57 (by decide) ?_
    refine x_sub (L' := [(0, .ref a0), (1, .int x1), (2, .int xs0)]) [1, 2, 0] rfl ?_
    exact S_X8_sharesHeat_65 hl ht hr  h
def VS_X8_sharesHeat_2 (R2 : Nat → Int32 → Int32 → xT → Prop) (K : xT → Prop) (a0 : Nat) (x1 : Int32) (x2 : Int32) (t : xT) : Prop :=
  xgI t a0 8 18 fun x_1 => ((x_1 ≤ x2 → (xis t a0 8 ∧ V_X8_weighs_0 (fun y_3 t_2 => ((y_3 ≤ (0 : Int64) → V_X8_sharesHeat_39 K a0 x1 (0 : Int32) t_2) ∧ (¬ y_3 ≤ (0 : Int64) → V_X8_sharesHeat_39 K a0 x1 (1 : Int32) t_2))) a0 x1 (1 : Int32) t)) ∧ (¬ x_1 ≤ x2 → xgR t a0 8 36 fun a_4 => xsJ t a_4 x2 (0 : Int64) fun t_5 => R2 a0 x1 (x2 + 1) t_5))
def V_X8_sharesHeat_2 (K : xT → Prop) (n : Nat) : Nat → Int32 → Int32 → xT → Prop := Nat.rec (fun _ _ _ _ => False) (fun _ ih => VS_X8_sharesHeat_2 ih K) n
set_option maxRecDepth 20000 in
theorem S_X8_sharesHeat_2 {Γ : xΓ} {K : xT → Prop} (hl : (gl Γ).stackTraces = false) (ht : (gM Γ).sig.returnType = none) (hr : xRet Γ (xKv K)) : ∀ (n : Nat) (a0 : Nat) (x1 : Int32) (x2 : Int32) (t : xT) (rc rs : Nat), V_X8_sharesHeat_2 K n a0 x1 x2 t → xX Γ k_X8_sharesHeat 2 [(0, .ref a0), (1, .int x1), (2, .int x2)] [] t rc rs := by
  intro n
  induction n with
  | zero =>
    intro a0 x1 x2 t rc rs h
    exact h.elim
  | succ n ih =>
    intro a0 x1 x2 t rc rs h
    replace h : VS_X8_sharesHeat_2 (V_X8_sharesHeat_2 K n) K a0 x1 x2 t := h
    unfold VS_X8_sharesHeat_2 at h
    refine x_iload_n 2 dX8_sharesHeat_2 rfl rfl ?_
    refine x_aload_n 0 dX8_sharesHeat_3 rfl rfl ?_
    obtain ⟨fs, hf, x_1, hv, h⟩ := h
    refine x_get dX8_sharesHeat_4 xf_X8_123 hf hv ?_
    obtain ⟨h1, h2⟩ := h
    refine x_icmp_ge (tgt := 23) dX8_sharesHeat_7 (by decide) (fun q => ?_) (fun q => ?_)
    · have h := h1 q
      refine x_aload_n 0 dX8_sharesHeat_23 rfl rfl ?_
      refine x_iload_n 1 dX8_sharesHeat_24 rfl rfl ?_
      refine x_iconst (v := (1 : Int32)) dX8_sharesHeat_25 (by decide) ?_
      obtain ⟨⟨fs, hf⟩, h⟩ := h
      refine x_invV (as := [.int x1, .int (1 : Int32)]) (rest := []) dX8_sharesHeat_26 (q := (RX8, TX8, 40)) rfl xc_X8_sharesHeat_161 hf (M_X8_weighs hl h) rfl rfl (Nat.le_of_ble_eq_true rfl) (Nat.zero_le _) (Nat.zero_le _) (xk_l fun y_3 t_2 h => ?_)
      refine x_lconst (v := (0 : Int64)) dX8_sharesHeat_29 (by decide) ?_
      obtain ⟨h1, h2⟩ := h
      refine x_lcmp_le (tgt := 38) dX8_sharesHeat_30 dX8_sharesHeat_31 (by decide) (fun q => ?_) (fun q => ?_)
      · have h := h1 q
        refine x_iconst (v := (0 : Int32)) dX8_sharesHeat_38 (by decide) ?_
        refine x_sub (L' := [(0, .ref a0), (1, .int x1)]) [0, 1] rfl ?_
        exact S_X8_sharesHeat_39 hl ht hr  h
      · have h := h2 q
        refine x_iconst (v := (1 : Int32)) dX8_sharesHeat_34 (by decide) ?_
        refine x_goto (tgt := 39) dX8_sharesHeat_35 (by decide) ?_
        refine x_sub (L' := [(0, .ref a0), (1, .int x1)]) [0, 1] rfl ?_
        exact S_X8_sharesHeat_39 hl ht hr  h
    · have h := h2 q
      refine x_aload_n 0 dX8_sharesHeat_10 rfl rfl ?_
      obtain ⟨fs, hf, a_4, hv, h⟩ := h
      refine x_get dX8_sharesHeat_11 xf_X8_102 hf hv ?_
      refine x_iload_n 2 dX8_sharesHeat_14 rfl rfl ?_
      refine x_lconst (v := (0 : Int64)) dX8_sharesHeat_15 (by decide) ?_
      obtain ⟨n, f, hf, hi, h⟩ := h
      refine x_last dX8_sharesHeat_16 hf hi ?_
      generalize hT : xup t a_4 _ = t_5 at h ⊢
      clear hT
      refine x_iinc (v := (x2 + 1)) (L' := [(2, .int (x2 + 1)), (0, .ref a0), (1, .int x1)]) (j := 2) dX8_sharesHeat_17 rfl rfl (by decide) rfl ?_
      refine x_goto (tgt := 2) dX8_sharesHeat_20 (by decide) ?_
      refine x_sub (L' := [(0, .ref a0), (1, .int x1), (2, .int (x2 + 1))]) [1, 2, 0] rfl ?_
      exact ih a0 x1 (x2 + 1) t_5 _ _ h
def V_X8_sharesHeat_0 (K : xT → Prop) (a0 : Nat) (x1 : Int32) (t : xT) : Prop :=
  ∃ f_1 : Nat, V_X8_sharesHeat_2 K f_1 a0 x1 (0 : Int32) t
set_option maxRecDepth 20000 in
theorem S_X8_sharesHeat_0 {Γ : xΓ} {K : xT → Prop} (hl : (gl Γ).stackTraces = false) (ht : (gM Γ).sig.returnType = none) (hr : xRet Γ (xKv K)) {a0 : Nat} {x1 : Int32} {t : xT} {rc rs : Nat} (h : V_X8_sharesHeat_0 K a0 x1 t) : xX Γ k_X8_sharesHeat 0 [(0, .ref a0), (1, .int x1)] [] t rc rs := by
  unfold V_X8_sharesHeat_0 at h
  refine x_iconst (v := (0 : Int32)) dX8_sharesHeat_0 (by decide) ?_
  refine x_istore_n (L' := [(2, .int (0 : Int32)), (0, .ref a0), (1, .int x1)]) dX8_sharesHeat_1 rfl (by decide) rfl ?_
  obtain ⟨f_1, h⟩ := h
  refine x_sub (L' := [(0, .ref a0), (1, .int x1), (2, .int (0 : Int32))]) [1, 2, 0] rfl ?_
  exact S_X8_sharesHeat_2 hl ht hr  f_1 a0 x1 (0 : Int32) t _ _ h
theorem M_X8_sharesHeat {l : Launch} {G : xG} (hl : l.stackTraces = false) {a0 : Nat} {x1 : Int32} {t : xT} {K : xT → Prop} (h : V_X8_sharesHeat_0 K a0 x1 t) : xMet l G yX8_sharesHeat k_X8_sharesHeat none [.ref a0, .int x1] t (xKv K) 0 0 := xMet.of (by decide +kernel) rfl hl (Nat.le_of_ble_eq_true rfl) (fun Γ e1 e2 ht hn hr => by subst e1; subst e2; exact S_X8_sharesHeat_0 hl ht hr h)
