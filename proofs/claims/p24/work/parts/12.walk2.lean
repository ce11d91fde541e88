/-! RentStream$Repair.<init>(LRentStream$Flat;II)V -/
def V_X6_init_0 (K : xT → Prop) (a0 : Nat) (a1 : Nat) (x2 : Int32) (x3 : Int32) (t : xT) : Prop :=
  (xpF t a0 6 0 (.int (0 : Int32)) fun t_1 => (xpF t_1 a0 6 1 (.int (0 : Int32)) fun t_2 => (xpF t_2 a0 6 2 (.ref a1) fun t_3 => (xpF t_3 a0 6 3 (.int x2) fun t_4 => (xpF t_4 a0 6 4 (.int x3) fun t_5 => K t_5)))))
set_option maxRecDepth 20000 in
theorem S_X6_init_0 {Γ : xΓ} {K : xT → Prop} (hl : (gl Γ).stackTraces = false) (ht : (gM Γ).sig.returnType = none) (hr : xRet Γ (xKv K)) (hnm : (gM Γ).name = "<init>") {a0 : Nat} {a1 : Nat} {x2 : Int32} {x3 : Int32} {t : xT} {rc rs : Nat} (h : V_X6_init_0 K a0 a1 x2 x3 t) : xX Γ k_X6_init 0 [(0, .ref a0), (1, .ref a1), (2, .int x2), (3, .int x3)] [] t rc rs := by
  unfold V_X6_init_0 at h
  refine x_aload_n 0 dX6_init_0 rfl rfl ?_
  refine x_objInit dX6_init_1 (List.forall_mem_cons.mpr ⟨xw588, List.forall_mem_cons.mpr ⟨xw67, List.forall_mem_cons.mpr ⟨xw68, fun _ h => absurd h List.not_mem_nil⟩⟩⟩) (by decide) (by decide) (Nat.le_of_ble_eq_true rfl) ?_
  refine x_aload_n 0 dX6_init_4 rfl rfl ?_
  refine x_iconst (v := (0 : Int32)) dX6_init_5 (by decide) ?_
  obtain ⟨fs, hf, hk, h⟩ := h
  refine x_put (v := .int (0 : Int32)) dX6_init_6 xp_X6_9 hf rfl rfl hk ?_
  generalize hT : xup t a0 _ = t_1 at h ⊢
  clear hT
  refine x_aload_n 0 dX6_init_9 rfl rfl ?_
  refine x_iconst (v := (0 : Int32)) dX6_init_10 (by decide) ?_
  obtain ⟨fs, hf, hk, h⟩ := h
  refine x_put (v := .int (0 : Int32)) dX6_init_11 xp_X6_15 hf rfl rfl hk ?_
  generalize hT : xup t_1 a0 _ = t_2 at h ⊢
  clear hT
  refine x_aload_n 0 dX6_init_14 rfl rfl ?_
  refine x_aload_n 1 dX6_init_15 rfl rfl ?_
  obtain ⟨fs, hf, hk, h⟩ := h
  refine x_putF (v := .ref a1) dX6_init_16 xp_X6_19 hnm hf rfl rfl hk ?_
  generalize hT : xup t_2 a0 _ = t_3 at h ⊢
  clear hT
  refine x_aload_n 0 dX6_init_19 rfl rfl ?_
  refine x_iload_n 2 dX6_init_20 rfl rfl ?_
  obtain ⟨fs, hf, hk, h⟩ := h
  refine x_putF (v := .int x2) dX6_init_21 xp_X6_23 hnm hf rfl rfl hk ?_
  generalize hT : xup t_3 a0 _ = t_4 at h ⊢
  clear hT
  refine x_aload_n 0 dX6_init_24 rfl rfl ?_
  refine x_iload_n 3 dX6_init_25 rfl rfl ?_
  obtain ⟨fs, hf, hk, h⟩ := h
  refine x_putF (v := .int x3) dX6_init_26 xp_X6_26 hnm hf rfl rfl hk ?_
  generalize hT : xup t_4 a0 _ = t_5 at h ⊢
  clear hT
  exact x_vret dX6_init_29 hr ht ⟨rfl, h⟩
theorem M_X6_init {l : Launch} {G : xG} (hl : l.stackTraces = false) {a0 : Nat} {a1 : Nat} {x2 : Int32} {x3 : Int32} {t : xT} {K : xT → Prop} (h : V_X6_init_0 K a0 a1 x2 x3 t) : xMet l G yX6_init k_X6_init none [.ref a0, .ref a1, .int x2, .int x3] t (xKv K) 0 0 := xMet.of (by decide +kernel) rfl hl (Nat.le_of_ble_eq_true rfl) (fun Γ e1 e2 ht hn hr => by subst e1; subst e2; exact S_X6_init_0 hl ht hr hn h)
/-! RentStream.report(II)I -/
def V_X7_report_0 (E : Nat → Nat) (KX : String → xT → Prop) (K : Int32 → xT → Prop) (a0 : Nat) (x1 : Int32) (x2 : Int32) (t : xT) (rc rs : Nat) : Prop :=
  (xis t a0 7 ∧ ∃ m_3 z_4 : Nat, m_3 ≤ rc ∧ z_4 ≤ rs ∧ V_X7_flatAt_0 KX (fun o_2 t_1 => ((x2 < 0 → (1 ≤ (rc - m_3) ∧ 6 ≤ (rs - z_4) ∧ KX "java/lang/IllegalArgumentException" t_1)) ∧ (¬ x2 < 0 → ((x2 ≤ (2 : Int32) → xgR t_1 a0 7 2 fun a_5 => (xis t_1 a_5 10 ∧ V_Jx4a65c_size_8abf5_0 (fun x_7 t_6 => ((x_7 < (60 : Int32) → xgR t_6 a0 7 2 fun a_8 => xnw (.inr (6, [.int 0, .int 0, .null, .int 0, .int 0])) 5 t_6 (rc - m_3) (rs - z_4) fun a_9 t_10 => xgI t_10 a0 7 8 fun x_11 => xnl o_2 fun a_12 => (V_X6_init_0 (fun t_13 => (xis t_13 a_8 10 ∧ ∃ m_16 z_17 : Nat, m_16 ≤ ((rc - m_3) - 1) ∧ z_17 ≤ ((rs - z_4) - 5) ∧ V_Jx4a65c_add_9ea2d_0 E (fun x_15 t_14 => xgR t_14 a0 7 2 fun a_18 => (xis t_14 a_18 10 ∧ V_Jx4a65c_size_8abf5_0 (fun x_20 t_19 => K (x_20 - (1 : Int32)) t_19) a_18 t_14)) a_8 a_9 t_13 m_16 z_17)) a_9 a_12 x2 x_11 t_10)) ∧ (¬ x_7 < (60 : Int32) → (1 ≤ (rc - m_3) ∧ 6 ≤ (rs - z_4) ∧ KX "java/lang/IllegalStateException" t_6)))) a_5 t_1)) ∧ (¬ x2 ≤ (2 : Int32) → (1 ≤ (rc - m_3) ∧ 6 ≤ (rs - z_4) ∧ KX "java/lang/IllegalArgumentException" t_1)))))) a0 x1 t m_3 z_4)
set_option maxRecDepth 20000 in
theorem S_X7_report_0 {Γ : xΓ} {KX : String → xT → Prop} {K : Int32 → xT → Prop} (hl : (gl Γ).stackTraces = false) (ht : (gM Γ).sig.returnType = (some .int)) (hr : xRet Γ (xKi K)) (hx : xThr Γ KX) {a0 : Nat} {x1 : Int32} {x2 : Int32} {t : xT} {rc rs : Nat} (h : V_X7_report_0 (gG Γ).2.2.2 KX K a0 x1 x2 t rc rs) : xX Γ k_X7_report 0 [(0, .ref a0), (1, .int x1), (2, .int x2)] [] t rc rs := by
  unfold V_X7_report_0 at h
  refine x_aload_n 0 dX7_report_0 rfl rfl ?_
  refine x_iload_n 1 dX7_report_1 rfl rfl ?_
  obtain ⟨⟨fs, hf⟩, h⟩ := h
  obtain ⟨m_3, z_4, hm, hs, h⟩ := h
  refine x_invVX (as := [.int x1]) (rest := []) dX7_report_2 (q := (RX7, TX7, 10)) rfl xc_X7_report_82 hf (M_X7_flatAt hl h) rfl rfl (Nat.le_of_ble_eq_true rfl) hm hs (fun _ _ h => x_thrown hx h) (xk_r fun o_2 t_1 h => ?_)
  refine x_ostore_n (L' := [(3, va_rf o_2), (0, .ref a0), (1, .int x1), (2, .int x2)]) dX7_report_5 rfl (by decide) rfl ?_
  refine x_iload_n 3 dX7_report_6 rfl rfl ?_
  obtain ⟨h1, h2⟩ := h
  refine x_if_lt (tgt := 15) dX7_report_7 (by decide) (fun q => ?_) (fun q => ?_)
  · have h := h1 q
    obtain ⟨q1, q2, h⟩ := h
    exact x_throw dX7_report_15 dX7_report_18 dX7_report_19 dX7_report_21 dX7_report_24 xtw_59 (List.mem_of_getElem? (i := 11) rfl) hx (Nat.le_of_ble_eq_true rfl) (Nat.le_of_ble_eq_true rfl) (Nat.le_of_ble_eq_true rfl) q1 q2 h
  · have h := h2 q
    refine x_iload_n 3 dX7_report_10 rfl rfl ?_
    refine x_iconst (v := (2 : Int32)) dX7_report_11 (by decide) ?_
    obtain ⟨h1, h2⟩ := h
    refine x_icmp_le (tgt := 25) dX7_report_12 (by decide) (fun q => ?_) (fun q => ?_)
    · have h := h1 q
      refine x_aload_n 1 dX7_report_25 rfl rfl ?_
      obtain ⟨fs, hf, a_5, hv, h⟩ := h
      refine x_get dX7_report_26 xf_X7_19 hf hv ?_
      obtain ⟨⟨fs, hf⟩, h⟩ := h
      refine x_invV (as := []) (rest := []) dX7_report_29 (q := (RJx4a65c, TJx4a65c, 3)) rfl xc_X7_report_66 hf (M_Jx4a65c_size_8abf5 hl h) rfl rfl (Nat.le_of_ble_eq_true rfl) (Nat.zero_le _) (Nat.zero_le _) (xk_i fun x_7 t_6 h => ?_)
      refine x_bipush (v := (60 : Int32)) dX7_report_32 (by decide) ?_
      obtain ⟨h1, h2⟩ := h
      refine x_icmp_lt (tgt := 47) dX7_report_34 (by decide) (fun q => ?_) (fun q => ?_)
      · have h := h1 q
        refine x_aload_n 1 dX7_report_47 rfl rfl ?_
        obtain ⟨fs, hf, a_8, hv, h⟩ := h
        refine x_get dX7_report_48 xf_X7_19 hf hv ?_
        obtain ⟨q1, q2, h⟩ := h
        refine x_new dX7_report_51 xn_X7_141 q1 q2 (fun a_9 hq => ?_)
        replace h := h a_9 hq
        generalize hT : xup t_6 a_9 _ = t_10 at h ⊢
        clear hT
        refine x_dup dX7_report_54 rfl ?_
        refine x_oload_n 0 dX7_report_55 rfl rfl ?_
        refine x_iload_n 3 dX7_report_56 rfl rfl ?_
        refine x_aload_n 1 dX7_report_57 rfl rfl ?_
        obtain ⟨fs, hf, x_11, hv, h⟩ := h
        refine x_get dX7_report_58 xf_X7_52 hf hv ?_
        obtain ⟨a_12, e, h⟩ := h
        revert h
        subst e
        intro h
        refine x_invI (as := [.ref a_12, .int x2, .int x_11]) (rest := [.ref a_9, .ref a_8]) dX7_report_61 xc_X7_report_143 (M_X6_init hl h) rfl rfl (Nat.le_of_ble_eq_true rfl) (Nat.zero_le _) (Nat.zero_le _) (xk_v fun t_13 h => ?_)
        obtain ⟨⟨fs, hf⟩, h⟩ := h
        obtain ⟨m_16, z_17, hm, hs, h⟩ := h
        refine x_invV (as := [.ref a_9]) (rest := []) dX7_report_64 (q := (RJx4a65c, TJx4a65c, 3)) rfl xc_X7_report_78 hf (M_Jx4a65c_add_9ea2d hl h) rfl rfl (Nat.le_of_ble_eq_true rfl) hm hs (xk_i fun x_15 t_14 h => ?_)
        refine x_pop dX7_report_67 rfl ?_
        refine x_aload_n 1 dX7_report_68 rfl rfl ?_
        obtain ⟨fs, hf, a_18, hv, h⟩ := h
        refine x_get dX7_report_69 xf_X7_19 hf hv ?_
        obtain ⟨⟨fs, hf⟩, h⟩ := h
        refine x_invV (as := []) (rest := []) dX7_report_72 (q := (RJx4a65c, TJx4a65c, 3)) rfl xc_X7_report_66 hf (M_Jx4a65c_size_8abf5 hl h) rfl rfl (Nat.le_of_ble_eq_true rfl) (Nat.zero_le _) (Nat.zero_le _) (xk_i fun x_20 t_19 h => ?_)
        refine x_iconst (v := (1 : Int32)) dX7_report_75 (by decide) ?_
        refine x_isub dX7_report_76 ?_
        exact x_zret dX7_report_77 hr ht rfl ⟨_, rfl, h⟩
      · have h := h2 q
        obtain ⟨q1, q2, h⟩ := h
        exact x_throw dX7_report_37 dX7_report_40 dX7_report_41 dX7_report_43 dX7_report_46 xtw_70 (List.mem_of_getElem? (i := 12) rfl) hx (Nat.le_of_ble_eq_true rfl) (Nat.le_of_ble_eq_true rfl) (Nat.le_of_ble_eq_true rfl) q1 q2 h
    · have h := h2 q
      obtain ⟨q1, q2, h⟩ := h
      exact x_throw dX7_report_15 dX7_report_18 dX7_report_19 dX7_report_21 dX7_report_24 xtw_59 (List.mem_of_getElem? (i := 11) rfl) hx (Nat.le_of_ble_eq_true rfl) (Nat.le_of_ble_eq_true rfl) (Nat.le_of_ble_eq_true rfl) q1 q2 h
theorem M_X7_report {l : Launch} {G : xG} (hl : l.stackTraces = false) {a0 : Nat} {x1 : Int32} {x2 : Int32} {t : xT} {KX : String → xT → Prop} {K : Int32 → xT → Prop} {rc rs : Nat} (h : V_X7_report_0 G.2.2.2 KX K a0 x1 x2 t rc rs) : xMetX l G yX7_report k_X7_report (some .int) [.ref a0, .int x1, .int x2] t (xKi K) KX rc rs := xMetX.of (by decide +kernel) rfl hl (Nat.le_of_ble_eq_true rfl) (fun Γ e1 e2 ht hn hr hx => by subst e1; subst e2; exact S_X7_report_0 hl ht hr hx h)
/-! RentStream.use(II)I -/
def V_X7_use_0 (KX : String → xT → Prop) (K : Int32 → xT → Prop) (a0 : Nat) (x1 : Int32) (x2 : Int32) (t : xT) (rc rs : Nat) : Prop :=
  (xis t a0 7 ∧ ∃ m_3 z_4 : Nat, m_3 ≤ rc ∧ z_4 ≤ rs ∧ V_X7_flatAt_0 KX (fun o_2 t_1 => (xis t_1 a0 7 ∧ ∃ m_6 z_7 : Nat, m_6 ≤ (rc - m_3) ∧ z_7 ≤ (rs - z_4) ∧ V_X7_needMonth_0 KX (fun t_5 => xnl o_2 fun a_8 => xgR t_5 a_8 1 1 fun a_9 => (xis t_5 a_9 4 ∧ V_X4_in_0 (fun x_11 t_10 => K x_11 t_10) a_9 x2 t_5)) a0 x2 t_1 m_6 z_7)) a0 x1 t m_3 z_4)
set_option maxRecDepth 20000 in
theorem S_X7_use_0 {Γ : xΓ} {KX : String → xT → Prop} {K : Int32 → xT → Prop} (hl : (gl Γ).stackTraces = false) (ht : (gM Γ).sig.returnType = (some .int)) (hr : xRet Γ (xKi K)) (hx : xThr Γ KX) {a0 : Nat} {x1 : Int32} {x2 : Int32} {t : xT} {rc rs : Nat} (h : V_X7_use_0 KX K a0 x1 x2 t rc rs) : xX Γ k_X7_use 0 [(0, .ref a0), (1, .int x1), (2, .int x2)] [] t rc rs := by
  unfold V_X7_use_0 at h
  refine x_aload_n 0 dX7_use_0 rfl rfl ?_
  refine x_iload_n 1 dX7_use_1 rfl rfl ?_
  obtain ⟨⟨fs, hf⟩, h⟩ := h
  obtain ⟨m_3, z_4, hm, hs, h⟩ := h
  refine x_invVX (as := [.int x1]) (rest := []) dX7_use_2 (q := (RX7, TX7, 10)) rfl xc_X7_use_82 hf (M_X7_flatAt hl h) rfl rfl (Nat.le_of_ble_eq_true rfl) hm hs (fun _ _ h => x_thrown hx h) (xk_r fun o_2 t_1 h => ?_)
  refine x_ostore_n (L' := [(3, va_rf o_2), (0, .ref a0), (1, .int x1), (2, .int x2)]) dX7_use_5 rfl (by decide) rfl ?_
  refine x_aload_n 1 dX7_use_6 rfl rfl ?_
  refine x_iload_n 3 dX7_use_7 rfl rfl ?_
  obtain ⟨⟨fs, hf⟩, h⟩ := h
  obtain ⟨m_6, z_7, hm, hs, h⟩ := h
  refine x_invVX (as := [.int x2]) (rest := []) dX7_use_8 (q := (RX7, TX7, 10)) rfl xc_X7_use_162 hf (M_X7_needMonth hl h) rfl rfl (Nat.le_of_ble_eq_true rfl) hm hs (fun _ _ h => x_thrown hx h) (xk_v fun t_5 h => ?_)
  refine x_oload_n 0 dX7_use_11 rfl rfl ?_
  obtain ⟨a_8, e, h⟩ := h
  revert h
  subst e
  intro h
  obtain ⟨fs, hf, a_9, hv, h⟩ := h
  refine x_get dX7_use_12 xf_X7_253 hf hv ?_
  refine x_iload_n 3 dX7_use_15 rfl rfl ?_
  obtain ⟨⟨fs, hf⟩, h⟩ := h
  refine x_invV (as := [.int x2]) (rest := []) dX7_use_16 (q := (RX4, TX4, 1)) rfl xc_X7_use_114 hf (M_X4_in hl h) rfl rfl (Nat.le_of_ble_eq_true rfl) (Nat.zero_le _) (Nat.zero_le _) (xk_i fun x_11 t_10 h => ?_)
  exact x_zret dX7_use_19 hr ht rfl ⟨_, rfl, h⟩
theorem M_X7_use {l : Launch} {G : xG} (hl : l.stackTraces = false) {a0 : Nat} {x1 : Int32} {x2 : Int32} {t : xT} {KX : String → xT → Prop} {K : Int32 → xT → Prop} {rc rs : Nat} (h : V_X7_use_0 KX K a0 x1 x2 t rc rs) : xMetX l G yX7_use k_X7_use (some .int) [.ref a0, .int x1, .int x2] t (xKi K) KX rc rs := xMetX.of (by decide +kernel) rfl hl (Nat.le_of_ble_eq_true rfl) (fun Γ e1 e2 ht hn hr hx => by subst e1; subst e2; exact S_X7_use_0 hl ht hr hx h)
