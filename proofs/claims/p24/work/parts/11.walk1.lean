/-! java/util/ArrayList.add(Ljava/lang/Object;)Z -/
def V_Jx4a65c_add_9ea2d_0 (E : Nat → Nat) (K : Int32 → xT → Prop) (a0 : Nat) (a1 : Nat) (t : xT) (rc rs : Nat) : Prop :=
  xgI t a0 10 0 fun x_1 => (xpF t a0 10 0 (.int (x_1 + (1 : Int32))) fun t_2 => xgR t_2 a0 10 1 fun a_3 => xgI t_2 a0 10 2 fun x_4 => (xis t_2 a0 10 ∧ ∃ m_6 z_7 : Nat, m_6 ≤ rc ∧ z_7 ≤ rs ∧ V_Jx4a65c_add_72be8_0 E (fun t_5 => K (1 : Int32) t_5) a0 a1 a_3 x_4 t_2 m_6 z_7))
set_option maxRecDepth 20000 in
theorem S_Jx4a65c_add_9ea2d_0 {Γ : xΓ} {K : Int32 → xT → Prop} (hl : (gl Γ).stackTraces = false) (ht : (gM Γ).sig.returnType = (some .boolean)) (hr : xRet Γ (xKi K)) {a0 : Nat} {a1 : Nat} {t : xT} {rc rs : Nat} (h : V_Jx4a65c_add_9ea2d_0 (gG Γ).2.2.2 K a0 a1 t rc rs) : xX Γ k_Jx4a65c_add_9ea2d 0 [(0, .ref a0), (1, .ref a1)] [] t rc rs := by
  unfold V_Jx4a65c_add_9ea2d_0 at h
  refine x_aload_n 0 dJx4a65c_add_9ea2d_0 rfl rfl ?_
  refine x_dup dJx4a65c_add_9ea2d_1 rfl ?_
  obtain ⟨fs, hf, x_1, hv, h⟩ := h
  refine x_get dJx4a65c_add_9ea2d_2 xf_Jx4a65c_63 hf hv ?_
  refine x_iconst (v := (1 : Int32)) dJx4a65c_add_9ea2d_5 (by decide) ?_
  refine x_iadd dJx4a65c_add_9ea2d_6 ?_
  obtain ⟨fs, hf, hk, h⟩ := h
  refine x_put (v := .int (x_1 + (1 : Int32))) dJx4a65c_add_9ea2d_7 xp_Jx4a65c_63 hf rfl rfl hk ?_
  generalize hT : xup t a0 _ = t_2 at h ⊢
  clear hT
  refine x_aload_n 0 dJx4a65c_add_9ea2d_10 rfl rfl ?_
  refine x_aload_n 1 dJx4a65c_add_9ea2d_11 rfl rfl ?_
  refine x_aload_n 0 dJx4a65c_add_9ea2d_12 rfl rfl ?_
  obtain ⟨fs, hf, a_3, hv, h⟩ := h
  refine x_get dJx4a65c_add_9ea2d_13 xf_Jx4a65c_9 hf hv ?_
  refine x_aload_n 0 dJx4a65c_add_9ea2d_16 rfl rfl ?_
  obtain ⟨fs, hf, x_4, hv, h⟩ := h
  refine x_get dJx4a65c_add_9ea2d_17 xf_Jx4a65c_48 hf hv ?_
  obtain ⟨⟨fs, hf⟩, h⟩ := h
  obtain ⟨m_6, z_7, hm, hs, h⟩ := h
  refine x_invV (as := [.ref a1, .ref a_3, .int x_4]) (rest := []) dJx4a65c_add_9ea2d_20 (q := (RJx4a65c, TJx4a65c, 3)) rfl xc_Jx4a65c_add_9ea2d_131 hf (M_Jx4a65c_add_72be8 hl h) rfl rfl (Nat.le_of_ble_eq_true rfl) hm hs (xk_v fun t_5 h => ?_)
  refine x_iconst (v := (1 : Int32)) dJx4a65c_add_9ea2d_23 (by decide) ?_
  exact x_zret dJx4a65c_add_9ea2d_24 hr ht (by decide) ⟨_, rfl, h⟩
theorem M_Jx4a65c_add_9ea2d {l : Launch} {G : xG} (hl : l.stackTraces = false) {a0 : Nat} {a1 : Nat} {t : xT} {K : Int32 → xT → Prop} {rc rs : Nat} (h : V_Jx4a65c_add_9ea2d_0 G.2.2.2 K a0 a1 t rc rs) : xMet l G yJx4a65c_add_9ea2d k_Jx4a65c_add_9ea2d (some .boolean) [.ref a0, .ref a1] t (xKi K) rc rs := xMet.of (by decide +kernel) rfl hl (Nat.le_of_ble_eq_true rfl) (fun Γ e1 e2 ht hn hr => by subst e1; subst e2; exact S_Jx4a65c_add_9ea2d_0 hl ht hr h)
/-! RentStream.flat(I)I -/
def V_X7_flat_0 (E : Nat → Nat) (KX : String → xT → Prop) (K : Int32 → xT → Prop) (a0 : Nat) (x1 : Int32) (t : xT) (rc rs : Nat) : Prop :=
  ((x1 < (1 : Int32) → (1 ≤ rc ∧ 6 ≤ rs ∧ KX "java/lang/IllegalArgumentException" t)) ∧ (¬ x1 < (1 : Int32) → ((x1 ≤ (9 : Int32) → xgR t a0 7 0 fun a_1 => (xis t a_1 10 ∧ V_Jx4a65c_size_8abf5_0 (fun x_3 t_2 => ((x_3 < (8 : Int32) → xgR t_2 a0 7 0 fun a_4 => xnw (.inr (1, [.int 0, .null, .null, .int 0, .int 0, .int 0])) 6 t_2 rc rs fun a_5 t_6 => (∃ m_8 z_9 : Nat, m_8 ≤ (rc - 1) ∧ z_9 ≤ (rs - 6) ∧ V_X1_init_0 (fun t_7 => (xis t_7 a_4 10 ∧ ∃ m_12 z_13 : Nat, m_12 ≤ ((rc - 1) - m_8) ∧ z_13 ≤ ((rs - 6) - z_9) ∧ V_Jx4a65c_add_9ea2d_0 E (fun x_11 t_10 => xgR t_10 a0 7 0 fun a_14 => (xis t_10 a_14 10 ∧ V_Jx4a65c_size_8abf5_0 (fun x_16 t_15 => K (x_16 - (1 : Int32)) t_15) a_14 t_10)) a_4 a_5 t_7 m_12 z_13)) a_5 x1 t_6 m_8 z_9)) ∧ (¬ x_3 < (8 : Int32) → (1 ≤ rc ∧ 6 ≤ rs ∧ KX "java/lang/IllegalStateException" t_2)))) a_1 t)) ∧ (¬ x1 ≤ (9 : Int32) → (1 ≤ rc ∧ 6 ≤ rs ∧ KX "java/lang/IllegalArgumentException" t)))))
set_option maxRecDepth 20000 in
theorem S_X7_flat_0 {Γ : xΓ} {KX : String → xT → Prop} {K : Int32 → xT → Prop} (hl : (gl Γ).stackTraces = false) (ht : (gM Γ).sig.returnType = (some .int)) (hr : xRet Γ (xKi K)) (hx : xThr Γ KX) {a0 : Nat} {x1 : Int32} {t : xT} {rc rs : Nat} (h : V_X7_flat_0 (gG Γ).2.2.2 KX K a0 x1 t rc rs) : xX Γ k_X7_flat 0 [(0, .ref a0), (1, .int x1)] [] t rc rs := by
  unfold V_X7_flat_0 at h
  refine x_iload_n 1 dX7_flat_0 rfl rfl ?_
  refine x_iconst (v := (1 : Int32)) dX7_flat_1 (by decide) ?_
  obtain ⟨h1, h2⟩ := h
  refine x_icmp_lt (tgt := 11) dX7_flat_2 (by decide) (fun q => ?_) (fun q => ?_)
  · have h := h1 q
    obtain ⟨q1, q2, h⟩ := h
    exact x_throw dX7_flat_11 dX7_flat_14 dX7_flat_15 dX7_flat_17 dX7_flat_20 xtw_59 (List.mem_of_getElem? (i := 0) rfl) hx (Nat.le_of_ble_eq_true rfl) (Nat.le_of_ble_eq_true rfl) (Nat.le_of_ble_eq_true rfl) q1 q2 h
  · have h := h2 q
    refine x_iload_n 1 dX7_flat_5 rfl rfl ?_
    refine x_bipush (v := (9 : Int32)) dX7_flat_6 (by decide) ?_
    obtain ⟨h1, h2⟩ := h
    refine x_icmp_le (tgt := 21) dX7_flat_8 (by decide) (fun q => ?_) (fun q => ?_)
    · have h := h1 q
      refine x_aload_n 0 dX7_flat_21 rfl rfl ?_
      obtain ⟨fs, hf, a_1, hv, h⟩ := h
      refine x_get dX7_flat_22 xf_X7_10 hf hv ?_
      obtain ⟨⟨fs, hf⟩, h⟩ := h
      refine x_invV (as := []) (rest := []) dX7_flat_25 (q := (RJx4a65c, TJx4a65c, 3)) rfl xc_X7_flat_66 hf (M_Jx4a65c_size_8abf5 hl h) rfl rfl (Nat.le_of_ble_eq_true rfl) (Nat.zero_le _) (Nat.zero_le _) (xk_i fun x_3 t_2 h => ?_)
      refine x_bipush (v := (8 : Int32)) dX7_flat_28 (by decide) ?_
      obtain ⟨h1, h2⟩ := h
      refine x_icmp_lt (tgt := 43) dX7_flat_30 (by decide) (fun q => ?_) (fun q => ?_)
      · have h := h1 q
        refine x_aload_n 0 dX7_flat_43 rfl rfl ?_
        obtain ⟨fs, hf, a_4, hv, h⟩ := h
        refine x_get dX7_flat_44 xf_X7_10 hf hv ?_
        obtain ⟨q1, q2, h⟩ := h
        refine x_new dX7_flat_47 xn_X7_75 q1 q2 (fun a_5 hq => ?_)
        replace h := h a_5 hq
        generalize hT : xup t_2 a_5 _ = t_6 at h ⊢
        clear hT
        refine x_dup dX7_flat_50 rfl ?_
        refine x_iload_n 1 dX7_flat_51 rfl rfl ?_
        obtain ⟨m_8, z_9, hm, hs, h⟩ := h
        refine x_invI (as := [.int x1]) (rest := [.ref a_5, .ref a_4]) dX7_flat_52 xc_X7_flat_77 (M_X1_init hl h) rfl rfl (Nat.le_of_ble_eq_true rfl) hm hs (xk_v fun t_7 h => ?_)
        obtain ⟨⟨fs, hf⟩, h⟩ := h
        obtain ⟨m_12, z_13, hm, hs, h⟩ := h
        refine x_invV (as := [.ref a_5]) (rest := []) dX7_flat_55 (q := (RJx4a65c, TJx4a65c, 3)) rfl xc_X7_flat_78 hf (M_Jx4a65c_add_9ea2d hl h) rfl rfl (Nat.le_of_ble_eq_true rfl) hm hs (xk_i fun x_11 t_10 h => ?_)
        refine x_pop dX7_flat_58 rfl ?_
        refine x_aload_n 0 dX7_flat_59 rfl rfl ?_
        obtain ⟨fs, hf, a_14, hv, h⟩ := h
        refine x_get dX7_flat_60 xf_X7_10 hf hv ?_
        obtain ⟨⟨fs, hf⟩, h⟩ := h
        refine x_invV (as := []) (rest := []) dX7_flat_63 (q := (RJx4a65c, TJx4a65c, 3)) rfl xc_X7_flat_66 hf (M_Jx4a65c_size_8abf5 hl h) rfl rfl (Nat.le_of_ble_eq_true rfl) (Nat.zero_le _) (Nat.zero_le _) (xk_i fun x_16 t_15 h => ?_)
        refine x_iconst (v := (1 : Int32)) dX7_flat_66 (by decide) ?_
        refine x_isub dX7_flat_67 ?_
        exact x_zret dX7_flat_68 hr ht rfl ⟨_, rfl, h⟩
      · have h := h2 q
        obtain ⟨q1, q2, h⟩ := h
        exact x_throw dX7_flat_33 dX7_flat_36 dX7_flat_37 dX7_flat_39 dX7_flat_42 xtw_70 (List.mem_of_getElem? (i := 1) rfl) hx (Nat.le_of_ble_eq_true rfl) (Nat.le_of_ble_eq_true rfl) (Nat.le_of_ble_eq_true rfl) q1 q2 h
    · have h := h2 q
      obtain ⟨q1, q2, h⟩ := h
      exact x_throw dX7_flat_11 dX7_flat_14 dX7_flat_15 dX7_flat_17 dX7_flat_20 xtw_59 (List.mem_of_getElem? (i := 0) rfl) hx (Nat.le_of_ble_eq_true rfl) (Nat.le_of_ble_eq_true rfl) (Nat.le_of_ble_eq_true rfl) q1 q2 h
theorem M_X7_flat {l : Launch} {G : xG} (hl : l.stackTraces = false) {a0 : Nat} {x1 : Int32} {t : xT} {KX : String → xT → Prop} {K : Int32 → xT → Prop} {rc rs : Nat} (h : V_X7_flat_0 G.2.2.2 KX K a0 x1 t rc rs) : xMetX l G yX7_flat k_X7_flat (some .int) [.ref a0, .int x1] t (xKi K) KX rc rs := xMetX.of (by decide +kernel) rfl hl (Nat.le_of_ble_eq_true rfl) (fun Γ e1 e2 ht hn hr hx => by subst e1; subst e2; exact S_X7_flat_0 hl ht hr hx h)
/-! RentStream.flatAt(I)LRentStream$Flat; -/
def V_X7_flatAt_0 (KX : String → xT → Prop) (K : Option Nat → xT → Prop) (a0 : Nat) (x1 : Int32) (t : xT) (rc rs : Nat) : Prop :=
  ((x1 < 0 → (1 ≤ rc ∧ 6 ≤ rs ∧ KX "java/lang/IndexOutOfBoundsException" t)) ∧ (¬ x1 < 0 → xgR t a0 7 0 fun a_1 => (xis t a_1 10 ∧ V_Jx4a65c_size_8abf5_0 (fun x_3 t_2 => ((x1 < x_3 → xgR t_2 a0 7 0 fun a_4 => (xis t_2 a_4 10 ∧ V_Jx4a65c_get_915e3_0 (fun o_6 t_5 => xnl o_6 fun a_7 => (xis t_5 a_7 1 ∧ K (some a_7) t_5)) a_4 x1 t_2)) ∧ (¬ x1 < x_3 → (1 ≤ rc ∧ 6 ≤ rs ∧ KX "java/lang/IndexOutOfBoundsException" t_2)))) a_1 t)))
set_option maxRecDepth 20000 in
theorem S_X7_flatAt_0 {Γ : xΓ} {KX : String → xT → Prop} {K : Option Nat → xT → Prop} (hl : (gl Γ).stackTraces = false) (ht : (gM Γ).sig.returnType = (some (.object "RentStream$Flat"))) (hr : xRet Γ (xKr K)) (hx : xThr Γ KX) {a0 : Nat} {x1 : Int32} {t : xT} {rc rs : Nat} (h : V_X7_flatAt_0 KX K a0 x1 t rc rs) : xX Γ k_X7_flatAt 0 [(0, .ref a0), (1, .int x1)] [] t rc rs := by
  unfold V_X7_flatAt_0 at h
  refine x_iload_n 1 dX7_flatAt_0 rfl rfl ?_
  obtain ⟨h1, h2⟩ := h
  refine x_if_lt (tgt := 15) dX7_flatAt_1 (by decide) (fun q => ?_) (fun q => ?_)
  · have h := h1 q
    obtain ⟨q1, q2, h⟩ := h
    exact x_throwW dX7_flatAt_15 dX7_flatAt_18 dX7_flatAt_19 dX7_flatAt_22 dX7_flatAt_25 xtw_144 (List.mem_of_getElem? (i := 2) rfl) hx (Nat.le_of_ble_eq_true rfl) (Nat.le_of_ble_eq_true rfl) (Nat.le_of_ble_eq_true rfl) q1 q2 h
  · have h := h2 q
    refine x_iload_n 1 dX7_flatAt_4 rfl rfl ?_
    refine x_aload_n 0 dX7_flatAt_5 rfl rfl ?_
    obtain ⟨fs, hf, a_1, hv, h⟩ := h
    refine x_get dX7_flatAt_6 xf_X7_10 hf hv ?_
    obtain ⟨⟨fs, hf⟩, h⟩ := h
    refine x_invV (as := []) (rest := [.int x1]) dX7_flatAt_9 (q := (RJx4a65c, TJx4a65c, 3)) rfl xc_X7_flatAt_66 hf (M_Jx4a65c_size_8abf5 hl h) rfl rfl (Nat.le_of_ble_eq_true rfl) (Nat.zero_le _) (Nat.zero_le _) (xk_i fun x_3 t_2 h => ?_)
    obtain ⟨h1, h2⟩ := h
    refine x_icmp_lt (tgt := 26) dX7_flatAt_12 (by decide) (fun q => ?_) (fun q => ?_)
    · have h := h1 q
      refine x_aload_n 0 dX7_flatAt_26 rfl rfl ?_
      obtain ⟨fs, hf, a_4, hv, h⟩ := h
      refine x_get dX7_flatAt_27 xf_X7_10 hf hv ?_
      refine x_iload_n 1 dX7_flatAt_30 rfl rfl ?_
      obtain ⟨⟨fs, hf⟩, h⟩ := h
      refine x_invV (as := [.int x1]) (rest := []) dX7_flatAt_31 (q := (RJx4a65c, TJx4a65c, 3)) rfl xc_X7_flatAt_149 hf (M_Jx4a65c_get_915e3 hl h) rfl rfl (Nat.le_of_ble_eq_true rfl) (Nat.zero_le _) (Nat.zero_le _) (xk_r fun o_6 t_5 h => ?_)
      obtain ⟨a_7, e, h⟩ := h
      revert h
      subst e
      intro h
      obtain ⟨⟨fs, hf⟩, h⟩ := h
      refine x_ccast dX7_flatAt_34 (q := (RX1, TX1, 6)) rfl xw289 hf ?_
      exact x_aret (o := (some a_7)) dX7_flatAt_37 hr ht (Or.inl ⟨_, rfl⟩) ⟨_, rfl, h⟩
    · have h := h2 q
      obtain ⟨q1, q2, h⟩ := h
      exact x_throwW dX7_flatAt_15 dX7_flatAt_18 dX7_flatAt_19 dX7_flatAt_22 dX7_flatAt_25 xtw_144 (List.mem_of_getElem? (i := 2) rfl) hx (Nat.le_of_ble_eq_true rfl) (Nat.le_of_ble_eq_true rfl) (Nat.le_of_ble_eq_true rfl) q1 q2 h
theorem M_X7_flatAt {l : Launch} {G : xG} (hl : l.stackTraces = false) {a0 : Nat} {x1 : Int32} {t : xT} {KX : String → xT → Prop} {K : Option Nat → xT → Prop} {rc rs : Nat} (h : V_X7_flatAt_0 KX K a0 x1 t rc rs) : xMetX l G yX7_flatAt k_X7_flatAt (some (.object "RentStream$Flat")) [.ref a0, .int x1] t (xKr K) KX rc rs := xMetX.of (by decide +kernel) rfl hl (Nat.le_of_ble_eq_true rfl) (fun Γ e1 e2 ht hn hr hx => by subst e1; subst e2; exact S_X7_flatAt_0 hl ht hr hx h)
/-! RentStream.heat(I)I -/
def V_X7_heat_0 (KX : String → xT → Prop) (K : Int32 → xT → Prop) (a0 : Nat) (x1 : Int32) (t : xT) (rc rs : Nat) : Prop :=
  ((x1 < (1 : Int32) → (1 ≤ rc ∧ 6 ≤ rs ∧ KX "java/lang/IllegalArgumentException" t)) ∧ (¬ x1 < (1 : Int32) → ((x1 ≤ (1000000 : Int32) → (xis t a0 7 ∧ V_X7_monthNow_0 (fun x_2 t_1 => xgR t_1 a0 7 4 fun a_3 => (xis t_1 a_3 4 ∧ V_X4_in_0 (fun x_5 t_4 => (((x_5 + x1) ≤ (10000000 : Int32) → xgR t_4 a0 7 4 fun a_6 => (xis t_4 a_6 4 ∧ V_X4_put_0 (fun t_7 => K (x_5 + x1) t_7) a_6 x_2 (x_5 + x1) t_4)) ∧ (¬ (x_5 + x1) ≤ (10000000 : Int32) → (1 ≤ rc ∧ 6 ≤ rs ∧ KX "java/lang/IllegalStateException" t_4)))) a_3 x_2 t_1)) a0 t)) ∧ (¬ x1 ≤ (1000000 : Int32) → (1 ≤ rc ∧ 6 ≤ rs ∧ KX "java/lang/IllegalArgumentException" t)))))
set_option maxRecDepth 20000 in
theorem S_X7_heat_0 {Γ : xΓ} {KX : String → xT → Prop} {K : Int32 → xT → Prop} (hl : (gl Γ).stackTraces = false) (ht : (gM Γ).sig.returnType = (some .int)) (hr : xRet Γ (xKi K)) (hx : xThr Γ KX) {a0 : Nat} {x1 : Int32} {t : xT} {rc rs : Nat} (h : V_X7_heat_0 KX K a0 x1 t rc rs) : xX Γ k_X7_heat 0 [(0, .ref a0), (1, .int x1)] [] t rc rs := by
  unfold V_X7_heat_0 at h
  refine x_iload_n 1 dX7_heat_0 rfl rfl ?_
  refine x_iconst (v := (1 : Int32)) dX7_heat_1 (by decide) ?_
  obtain ⟨h1, h2⟩ := h
  refine x_icmp_lt (tgt := 11) dX7_heat_2 (by decide) (fun q => ?_) (fun q => ?_)
  · have h := h1 q
    obtain ⟨q1, q2, h⟩ := h
    exact x_throw dX7_heat_11 dX7_heat_14 dX7_heat_15 dX7_heat_17 dX7_heat_20 xtw_59 (List.mem_of_getElem? (i := 9) rfl) hx (Nat.le_of_ble_eq_true rfl) (Nat.le_of_ble_eq_true rfl) (Nat.le_of_ble_eq_true rfl) q1 q2 h
  · have h := h2 q
    refine x_iload_n 1 dX7_heat_5 rfl rfl ?_
    refine x_ldc dX7_heat_6 xw560 ?_
    obtain ⟨h1, h2⟩ := h
    refine x_icmp_le (tgt := 21) dX7_heat_8 (by decide) (fun q => ?_) (fun q => ?_)
    · have h := h1 q
      refine x_aload_n 0 dX7_heat_21 rfl rfl ?_
      obtain ⟨⟨fs, hf⟩, h⟩ := h
      refine x_invV (as := []) (rest := []) dX7_heat_22 (q := (RX7, TX7, 10)) rfl xc_X7_heat_97 hf (M_X7_monthNow hl h) rfl rfl (Nat.le_of_ble_eq_true rfl) (Nat.zero_le _) (Nat.zero_le _) (xk_i fun x_2 t_1 h => ?_)
      refine x_istore_n (L' := [(2, .int x_2), (0, .ref a0), (1, .int x1)]) dX7_heat_25 rfl (by decide) rfl ?_
      refine x_aload_n 1 dX7_heat_26 rfl rfl ?_
      obtain ⟨fs, hf, a_3, hv, h⟩ := h
      refine x_get dX7_heat_27 xf_X7_31 hf hv ?_
      refine x_iload_n 0 dX7_heat_30 rfl rfl ?_
      obtain ⟨⟨fs, hf⟩, h⟩ := h
      refine x_invV (as := [.int x_2]) (rest := []) dX7_heat_31 (q := (RX4, TX4, 1)) rfl xc_X7_heat_114 hf (M_X4_in hl h) rfl rfl (Nat.le_of_ble_eq_true rfl) (Nat.zero_le _) (Nat.zero_le _) (xk_i fun x_5 t_4 h => ?_)
      refine x_iload_n 2 dX7_heat_34 rfl rfl ?_
      refine x_iadd dX7_heat_35 ?_
      refine x_istore_n (L' := [(3, .int (x_5 + x1)), (2, .int x_2), (0, .ref a0), (1, .int x1)]) dX7_heat_36 rfl (by decide) rfl ?_
      refine x_iload_n 0 dX7_heat_37 rfl rfl ?_
      refine x_ldc dX7_heat_38 xw571 ?_
      obtain ⟨h1, h2⟩ := h
      refine x_icmp_le (tgt := 53) dX7_heat_40 (by decide) (fun q => ?_) (fun q => ?_)
      · have h := h1 q
        refine x_aload_n 2 dX7_heat_53 rfl rfl ?_
        obtain ⟨fs, hf, a_6, hv, h⟩ := h
        refine x_get dX7_heat_54 xf_X7_31 hf hv ?_
        refine x_iload_n 1 dX7_heat_57 rfl rfl ?_
        refine x_iload_n 0 dX7_heat_58 rfl rfl ?_
        obtain ⟨⟨fs, hf⟩, h⟩ := h
        refine x_invV (as := [.int x_2, .int (x_5 + x1)]) (rest := []) dX7_heat_59 (q := (RX4, TX4, 1)) rfl xc_X7_heat_133 hf (M_X4_put hl h) rfl rfl (Nat.le_of_ble_eq_true rfl) (Nat.zero_le _) (Nat.zero_le _) (xk_v fun t_7 h => ?_)
        refine x_iload_n 0 dX7_heat_62 rfl rfl ?_
        exact x_zret dX7_heat_63 hr ht rfl ⟨_, rfl, h⟩
      · have h := h2 q
        obtain ⟨q1, q2, h⟩ := h
        exact x_throw dX7_heat_43 dX7_heat_46 dX7_heat_47 dX7_heat_49 dX7_heat_52 xtw_70 (List.mem_of_getElem? (i := 10) rfl) hx (Nat.le_of_ble_eq_true rfl) (Nat.le_of_ble_eq_true rfl) (Nat.le_of_ble_eq_true rfl) q1 q2 h
    · have h := h2 q
      obtain ⟨q1, q2, h⟩ := h
      exact x_throw dX7_heat_11 dX7_heat_14 dX7_heat_15 dX7_heat_17 dX7_heat_20 xtw_59 (List.mem_of_getElem? (i := 9) rfl) hx (Nat.le_of_ble_eq_true rfl) (Nat.le_of_ble_eq_true rfl) (Nat.le_of_ble_eq_true rfl) q1 q2 h
theorem M_X7_heat {l : Launch} {G : xG} (hl : l.stackTraces = false) {a0 : Nat} {x1 : Int32} {t : xT} {KX : String → xT → Prop} {K : Int32 → xT → Prop} {rc rs : Nat} (h : V_X7_heat_0 KX K a0 x1 t rc rs) : xMetX l G yX7_heat k_X7_heat (some .int) [.ref a0, .int x1] t (xKi K) KX rc rs := xMetX.of (by decide +kernel) rfl hl (Nat.le_of_ble_eq_true rfl) (fun Γ e1 e2 ht hn hr hx => by subst e1; subst e2; exact S_X7_heat_0 hl ht hr hx h)
/-! RentStream$Lease.benefitsAnew(II)J -/
def VS_X3_benefitsAnew_5 (R5 : Nat → Int32 → Int64 → Int32 → xT → Prop) (K : Int64 → xT → Prop) (a0 : Nat) (x2 : Int32) (y3 : Int64) (x5 : Int32) (t : xT) : Prop :=
  ((x2 ≤ x5 → K y3 t) ∧ (¬ x2 ≤ x5 → (xis t a0 3 ∧ V_X3_billOf_0 (fun o_2 t_1 => ((o_2 = none → R5 a0 x2 y3 (x5 + 1) t_1) ∧ (∀ a_3 : Nat, o_2 = some a_3 → xgI t_1 a_3 0 0 fun x_4 => xgI t_1 a_3 0 1 fun x_5 => (xis t_1 a0 3 ∧ V_X3_incomeIn_0 (fun x_7 t_6 => (V_X7_benefitFor_0 (fun x_9 t_8 => xgI t_8 a_3 0 2 fun x_10 => (xpF t_8 a_3 0 2 (.int x_9) fun t_11 => R5 a0 x2 (y3 + ((x_10 - x_9)).toInt64) (x5 + 1) t_11)) (x_4 - x_5) x_7 t_6)) a0 x5 t_1)))) a0 x5 t)))
def V_X3_benefitsAnew_5 (K : Int64 → xT → Prop) (n : Nat) : Nat → Int32 → Int64 → Int32 → xT → Prop := Nat.rec (fun _ _ _ _ _ => False) (fun _ ih => VS_X3_benefitsAnew_5 ih K) n
set_option maxRecDepth 20000 in
theorem S_X3_benefitsAnew_5 {Γ : xΓ} {K : Int64 → xT → Prop} (hl : (gl Γ).stackTraces = false) (ht : (gM Γ).sig.returnType = (some .long)) (hr : xRet Γ (xKl K)) : ∀ (n : Nat) (a0 : Nat) (x2 : Int32) (y3 : Int64) (x5 : Int32) (t : xT) (rc rs : Nat), V_X3_benefitsAnew_5 K n a0 x2 y3 x5 t → xX Γ k_X3_benefitsAnew 5 [(0, .ref a0), (2, .int x2), (3, .long y3), (5, .int x5)] [] t rc rs := by
  intro n
  induction n with
  | zero =>
    intro a0 x2 y3 x5 t rc rs h
    exact h.elim
  | succ n ih =>
    intro a0 x2 y3 x5 t rc rs h
    replace h : VS_X3_benefitsAnew_5 (V_X3_benefitsAnew_5 K n) K a0 x2 y3 x5 t := h
    unfold VS_X3_benefitsAnew_5 at h
    refine x_iload 3 dX3_benefitsAnew_5 rfl ?_
    refine x_iload_n 1 dX3_benefitsAnew_7 rfl rfl ?_
    obtain ⟨h1, h2⟩ := h
    refine x_icmp_ge (tgt := 71) dX3_benefitsAnew_8 (by decide) (fun q => ?_) (fun q => ?_)
    · have h := h1 q
      refine x_lload_n 2 dX3_benefitsAnew_71 rfl rfl ?_
      exact x_lret dX3_benefitsAnew_72 hr ht ⟨_, rfl, h⟩
    · have h := h2 q
      refine x_aload_n 0 dX3_benefitsAnew_11 rfl rfl ?_
      refine x_iload 3 dX3_benefitsAnew_12 rfl ?_
      obtain ⟨⟨fs, hf⟩, h⟩ := h
      refine x_invV (as := [.int x5]) (rest := []) dX3_benefitsAnew_14 (q := (RX3, TX3, 11)) rfl xc_X3_benefitsAnew_77 hf (M_X3_billOf hl h) rfl rfl (Nat.le_of_ble_eq_true rfl) (Nat.zero_le _) (Nat.zero_le _) (xk_r fun o_2 t_1 h => ?_)
      refine x_ostore (L' := [(6, va_rf o_2), (0, .ref a0), (2, .int x2), (3, .long y3), (5, .int x5)]) dX3_benefitsAnew_17 (by decide) rfl ?_
      refine x_oload 0 dX3_benefitsAnew_19 rfl ?_
      obtain ⟨h1, h2⟩ := h
      refine x_ifnull (x := o_2) (tgt := 65) dX3_benefitsAnew_21 (by decide) (fun q => ?_) (fun a_3 q => ?_)
      · have h := h1 q
        refine x_iinc (v := (x5 + 1)) (L' := [(5, .int (x5 + 1)), (6, va_rf o_2), (0, .ref a0), (2, .int x2), (3, .long y3)]) (j := 4) dX3_benefitsAnew_65 rfl rfl (by decide) rfl ?_
        refine x_goto (tgt := 5) dX3_benefitsAnew_68 (by decide) ?_
        refine x_sub (L' := [(0, .ref a0), (2, .int x2), (3, .long y3), (5, .int (x5 + 1))]) [2, 3, 4, 0] rfl ?_
        exact ih a0 x2 y3 (x5 + 1) t_1 _ _ h
      · have h := h2 _ q
        revert h
        subst q
        intro h
        refine x_aload 0 dX3_benefitsAnew_24 rfl ?_
        obtain ⟨fs, hf, x_4, hv, h⟩ := h
        refine x_get dX3_benefitsAnew_26 xf_X3_81 hf hv ?_
        refine x_aload 0 dX3_benefitsAnew_29 rfl ?_
        obtain ⟨fs, hf, x_5, hv, h⟩ := h
        refine x_get dX3_benefitsAnew_31 xf_X3_82 hf hv ?_
        refine x_isub dX3_benefitsAnew_34 ?_
        refine x_aload_n 1 dX3_benefitsAnew_35 rfl rfl ?_
        refine x_iload 4 dX3_benefitsAnew_36 rfl ?_
        obtain ⟨⟨fs, hf⟩, h⟩ := h
        refine x_invV (as := [.int x5]) (rest := [.int (x_4 - x_5)]) dX3_benefitsAnew_38 (q := (RX3, TX3, 11)) rfl xc_X3_benefitsAnew_85 hf (M_X3_incomeIn hl h) rfl rfl (Nat.le_of_ble_eq_true rfl) (Nat.zero_le _) (Nat.zero_le _) (xk_i fun x_7 t_6 h => ?_)
        refine x_invSN (as := [.int (x_4 - x_5), .int x_7]) (rest := []) dX3_benefitsAnew_41 xc_X3_benefitsAnew_88 (M_X7_benefitFor hl h) rfl rfl (Nat.le_of_ble_eq_true rfl) (Nat.zero_le _) (Nat.zero_le _) (xk_i fun x_9 t_8 h => ?_)
        refine x_istore (L' := [(7, .int x_9), (6, .ref a_3), (0, .ref a0), (2, .int x2), (3, .long y3), (5, .int x5)]) dX3_benefitsAnew_44 (by decide) rfl ?_
        refine x_lload_n 4 dX3_benefitsAnew_46 rfl rfl ?_
        refine x_aload 1 dX3_benefitsAnew_47 rfl ?_
        obtain ⟨fs, hf, x_10, hv, h⟩ := h
        refine x_get dX3_benefitsAnew_49 xf_X3_92 hf hv ?_
        refine x_iload 0 dX3_benefitsAnew_52 rfl ?_
        refine x_isub dX3_benefitsAnew_54 ?_
        refine x_i2l dX3_benefitsAnew_55 ?_
        refine x_ladd dX3_benefitsAnew_56 ?_
        refine x_lstore_n (L' := [(3, .long (y3 + ((x_10 - x_9)).toInt64)), (7, .int x_9), (6, .ref a_3), (0, .ref a0), (2, .int x2), (5, .int x5)]) dX3_benefitsAnew_57 rfl (by decide) rfl ?_
        refine x_aload 2 dX3_benefitsAnew_58 rfl ?_
        refine x_iload 1 dX3_benefitsAnew_60 rfl ?_
        obtain ⟨fs, hf, hk, h⟩ := h
        refine x_put (v := .int x_9) dX3_benefitsAnew_62 xp_X3_92 hf rfl rfl hk ?_
        generalize hT : xup t_8 a_3 _ = t_11 at h ⊢
        clear hT
        refine x_iinc (v := (x5 + 1)) (L' := [(5, .int (x5 + 1)), (3, .long (y3 + ((x_10 - x_9)).toInt64)), (7, .int x_9), (6, .ref a_3), (0, .ref a0), (2, .int x2)]) (j := 5) dX3_benefitsAnew_65 rfl rfl (by decide) rfl ?_
        refine x_goto (tgt := 5) dX3_benefitsAnew_68 (by decide) ?_
        refine x_sub (L' := [(0, .ref a0), (2, .int x2), (3, .long (y3 + ((x_10 - x_9)).toInt64)), (5, .int (x5 + 1))]) [4, 5, 1, 0] rfl ?_
        exact ih a0 x2 (y3 + ((x_10 - x_9)).toInt64) (x5 + 1) t_11 _ _ h
def V_X3_benefitsAnew_0 (K : Int64 → xT → Prop) (a0 : Nat) (x1 : Int32) (x2 : Int32) (t : xT) : Prop :=
  ∃ f_1 : Nat, V_X3_benefitsAnew_5 K f_1 a0 x2 (0 : Int64) x1 t
set_option maxRecDepth 20000 in
theorem S_X3_benefitsAnew_0 {Γ : xΓ} {K : Int64 → xT → Prop} (hl : (gl Γ).stackTraces = false) (ht : (gM Γ).sig.returnType = (some .long)) (hr : xRet Γ (xKl K)) {a0 : Nat} {x1 : Int32} {x2 : Int32} {t : xT} {rc rs : Nat} (h : V_X3_benefitsAnew_0 K a0 x1 x2 t) : xX Γ k_X3_benefitsAnew 0 [(0, .ref a0), (1, .int x1), (2, .int x2)] [] t rc rs := by
  unfold V_X3_benefitsAnew_0 at h
  refine x_lconst (v := (0 : Int64)) dX3_benefitsAnew_0 (by decide) ?_
  refine x_lstore_n (L' := [(3, .long (0 : Int64)), (0, .ref a0), (1, .int x1), (2, .int x2)]) dX3_benefitsAnew_1 rfl (by decide) rfl ?_
  refine x_iload_n 2 dX3_benefitsAnew_2 rfl rfl ?_
  refine x_istore (L' := [(5, .int x1), (3, .long (0 : Int64)), (0, .ref a0), (1, .int x1), (2, .int x2)]) dX3_benefitsAnew_3 (by decide) rfl ?_
  obtain ⟨f_1, h⟩ := h
  refine x_sub (L' := [(0, .ref a0), (2, .int x2), (3, .long (0 : Int64)), (5, .int x1)]) [2, 4, 1, 0] rfl ?_
  exact S_X3_benefitsAnew_5 hl ht hr  f_1 a0 x2 (0 : Int64) x1 t _ _ h
theorem M_X3_benefitsAnew {l : Launch} {G : xG} (hl : l.stackTraces = false) {a0 : Nat} {x1 : Int32} {x2 : Int32} {t : xT} {K : Int64 → xT → Prop} (h : V_X3_benefitsAnew_0 K a0 x1 x2 t) : xMet l G yX3_benefitsAnew k_X3_benefitsAnew (some .long) [.ref a0, .int x1, .int x2] t (xKl K) 0 0 := xMet.of (by decide +kernel) rfl hl (Nat.le_of_ble_eq_true rfl) (fun Γ e1 e2 ht hn hr => by subst e1; subst e2; exact S_X3_benefitsAnew_0 hl ht hr h)
/-! RentStream.income(III)J -/
def V_X7_income_0 (KX : String → xT → Prop) (K : Int64 → xT → Prop) (a0 : Nat) (x1 : Int32) (x2 : Int32) (x3 : Int32) (t : xT) (rc rs : Nat) : Prop :=
  (xis t a0 7 ∧ ∃ m_3 z_4 : Nat, m_3 ≤ rc ∧ z_4 ≤ rs ∧ V_X7_leaseAt_0 KX (fun o_2 t_1 => (xis t_1 a0 7 ∧ ∃ m_6 z_7 : Nat, m_6 ≤ (rc - m_3) ∧ z_7 ≤ (rs - z_4) ∧ V_X7_needMonth_0 KX (fun t_5 => ((x3 < 0 → (1 ≤ ((rc - m_3) - m_6) ∧ 6 ≤ ((rs - z_4) - z_7) ∧ KX "java/lang/IllegalArgumentException" t_5)) ∧ (¬ x3 < 0 → ((x3 ≤ (1000000 : Int32) → xnl o_2 fun a_8 => xgR t_5 a_8 3 2 fun a_9 => (xis t_5 a_9 4 ∧ V_X4_put_0 (fun t_10 => (xis t_10 a0 7 ∧ V_X7_monthNow_0 (fun x_12 t_11 => (xis t_11 a_8 3 ∧ V_X3_benefitsAnew_0 (fun y_14 t_13 => (xis t_13 a0 7 ∧ V_X7_postToTenant_0 (fun t_15 => (xis t_15 a0 7 ∧ V_X7_postToDesk_0 (fun t_16 => K y_14 t_16) a0 a_8 (-y_14) t_15)) a0 a_8 y_14 t_13)) a_8 x2 x_12 t_11)) a0 t_10)) a_9 x2 x3 t_5)) ∧ (¬ x3 ≤ (1000000 : Int32) → (1 ≤ ((rc - m_3) - m_6) ∧ 6 ≤ ((rs - z_4) - z_7) ∧ KX "java/lang/IllegalArgumentException" t_5)))))) a0 x2 t_1 m_6 z_7)) a0 x1 t m_3 z_4)
set_option maxRecDepth 20000 in
theorem S_X7_income_0 {Γ : xΓ} {KX : String → xT → Prop} {K : Int64 → xT → Prop} (hl : (gl Γ).stackTraces = false) (ht : (gM Γ).sig.returnType = (some .long)) (hr : xRet Γ (xKl K)) (hx : xThr Γ KX) {a0 : Nat} {x1 : Int32} {x2 : Int32} {x3 : Int32} {t : xT} {rc rs : Nat} (h : V_X7_income_0 KX K a0 x1 x2 x3 t rc rs) : xX Γ k_X7_income 0 [(0, .ref a0), (1, .int x1), (2, .int x2), (3, .int x3)] [] t rc rs := by
  unfold V_X7_income_0 at h
  refine x_aload_n 0 dX7_income_0 rfl rfl ?_
  refine x_iload_n 1 dX7_income_1 rfl rfl ?_
  obtain ⟨⟨fs, hf⟩, h⟩ := h
  obtain ⟨m_3, z_4, hm, hs, h⟩ := h
  refine x_invVX (as := [.int x1]) (rest := []) dX7_income_2 (q := (RX7, TX7, 10)) rfl xc_X7_income_103 hf (M_X7_leaseAt hl h) rfl rfl (Nat.le_of_ble_eq_true rfl) hm hs (fun _ _ h => x_thrown hx h) (xk_r fun o_2 t_1 h => ?_)
  refine x_ostore (L' := [(4, va_rf o_2), (0, .ref a0), (1, .int x1), (2, .int x2), (3, .int x3)]) dX7_income_5 (by decide) rfl ?_
  refine x_aload_n 1 dX7_income_7 rfl rfl ?_
  refine x_iload_n 3 dX7_income_8 rfl rfl ?_
  obtain ⟨⟨fs, hf⟩, h⟩ := h
  obtain ⟨m_6, z_7, hm, hs, h⟩ := h
  refine x_invVX (as := [.int x2]) (rest := []) dX7_income_9 (q := (RX7, TX7, 10)) rfl xc_X7_income_162 hf (M_X7_needMonth hl h) rfl rfl (Nat.le_of_ble_eq_true rfl) hm hs (fun _ _ h => x_thrown hx h) (xk_v fun t_5 h => ?_)
  refine x_iload_n 4 dX7_income_12 rfl rfl ?_
  obtain ⟨h1, h2⟩ := h
  refine x_if_lt (tgt := 22) dX7_income_13 (by decide) (fun q => ?_) (fun q => ?_)
  · have h := h1 q
    obtain ⟨q1, q2, h⟩ := h
    exact x_throw dX7_income_22 dX7_income_25 dX7_income_26 dX7_income_28 dX7_income_31 xtw_59 (List.mem_of_getElem? (i := 9) rfl) hx (Nat.le_of_ble_eq_true rfl) (Nat.le_of_ble_eq_true rfl) (Nat.le_of_ble_eq_true rfl) q1 q2 h
  · have h := h2 q
    refine x_iload_n 4 dX7_income_16 rfl rfl ?_
    refine x_ldc dX7_income_17 xw560 ?_
    obtain ⟨h1, h2⟩ := h
    refine x_icmp_le (tgt := 32) dX7_income_19 (by decide) (fun q => ?_) (fun q => ?_)
    · have h := h1 q
      refine x_oload 0 dX7_income_32 rfl ?_
      obtain ⟨a_8, e, h⟩ := h
      revert h
      subst e
      intro h
      obtain ⟨fs, hf, a_9, hv, h⟩ := h
      refine x_get dX7_income_34 xf_X7_165 hf hv ?_
      refine x_iload_n 3 dX7_income_37 rfl rfl ?_
      refine x_iload_n 4 dX7_income_38 rfl rfl ?_
      obtain ⟨⟨fs, hf⟩, h⟩ := h
      refine x_invV (as := [.int x2, .int x3]) (rest := []) dX7_income_39 (q := (RX4, TX4, 1)) rfl xc_X7_income_133 hf (M_X4_put hl h) rfl rfl (Nat.le_of_ble_eq_true rfl) (Nat.zero_le _) (Nat.zero_le _) (xk_v fun t_10 h => ?_)
      refine x_aload 0 dX7_income_42 rfl ?_
      refine x_iload_n 3 dX7_income_44 rfl rfl ?_
      refine x_aload_n 1 dX7_income_45 rfl rfl ?_
      obtain ⟨⟨fs, hf⟩, h⟩ := h
      refine x_invV (as := []) (rest := [.int x2, .ref a_8]) dX7_income_46 (q := (RX7, TX7, 10)) rfl xc_X7_income_97 hf (M_X7_monthNow hl h) rfl rfl (Nat.le_of_ble_eq_true rfl) (Nat.zero_le _) (Nat.zero_le _) (xk_i fun x_12 t_11 h => ?_)
      obtain ⟨⟨fs, hf⟩, h⟩ := h
      refine x_invV (as := [.int x2, .int x_12]) (rest := []) dX7_income_49 (q := (RX3, TX3, 11)) rfl xc_X7_income_168 hf (M_X3_benefitsAnew hl h) rfl rfl (Nat.le_of_ble_eq_true rfl) (Nat.zero_le _) (Nat.zero_le _) (xk_l fun y_14 t_13 h => ?_)
      refine x_lstore (L' := [(5, .long y_14), (4, .ref a_8), (0, .ref a0), (1, .int x1), (2, .int x2), (3, .int x3)]) dX7_income_52 (by decide) rfl ?_
      refine x_aload_n 2 dX7_income_54 rfl rfl ?_
      refine x_aload 1 dX7_income_55 rfl ?_
      refine x_lload 0 dX7_income_57 rfl ?_
      obtain ⟨⟨fs, hf⟩, h⟩ := h
      refine x_invV (as := [.ref a_8, .long y_14]) (rest := []) dX7_income_59 (q := (RX7, TX7, 10)) rfl xc_X7_income_172 hf (M_X7_postToTenant hl h) rfl rfl (Nat.le_of_ble_eq_true rfl) (Nat.zero_le _) (Nat.zero_le _) (xk_v fun t_15 h => ?_)
      refine x_aload_n 2 dX7_income_62 rfl rfl ?_
      refine x_aload 1 dX7_income_63 rfl ?_
      refine x_lload 0 dX7_income_65 rfl ?_
      refine x_lneg dX7_income_67 ?_
      obtain ⟨⟨fs, hf⟩, h⟩ := h
      refine x_invV (as := [.ref a_8, .long (-y_14)]) (rest := []) dX7_income_68 (q := (RX7, TX7, 10)) rfl xc_X7_income_176 hf (M_X7_postToDesk hl h) rfl rfl (Nat.le_of_ble_eq_true rfl) (Nat.zero_le _) (Nat.zero_le _) (xk_v fun t_16 h => ?_)
      refine x_lload 0 dX7_income_71 rfl ?_
      exact x_lret dX7_income_73 hr ht ⟨_, rfl, h⟩
    · have h := h2 q
      obtain ⟨q1, q2, h⟩ := h
      exact x_throw dX7_income_22 dX7_income_25 dX7_income_26 dX7_income_28 dX7_income_31 xtw_59 (List.mem_of_getElem? (i := 9) rfl) hx (Nat.le_of_ble_eq_true rfl) (Nat.le_of_ble_eq_true rfl) (Nat.le_of_ble_eq_true rfl) q1 q2 h
theorem M_X7_income {l : Launch} {G : xG} (hl : l.stackTraces = false) {a0 : Nat} {x1 : Int32} {x2 : Int32} {x3 : Int32} {t : xT} {KX : String → xT → Prop} {K : Int64 → xT → Prop} {rc rs : Nat} (h : V_X7_income_0 KX K a0 x1 x2 x3 t rc rs) : xMetX l G yX7_income k_X7_income (some .long) [.ref a0, .int x1, .int x2, .int x3] t (xKl K) KX rc rs := xMetX.of (by decide +kernel) rfl hl (Nat.le_of_ble_eq_true rfl) (fun Γ e1 e2 ht hn hr hx => by subst e1; subst e2; exact S_X7_income_0 hl ht hr hx h)
/-! RentStream.index(I)I -/
def V_X7_index_0 (KX : String → xT → Prop) (K : Int32 → xT → Prop) (a0 : Nat) (x1 : Int32) (t : xT) (rc rs : Nat) : Prop :=
  ((x1 < (50 : Int32) → (1 ≤ rc ∧ 6 ≤ rs ∧ KX "java/lang/IllegalArgumentException" t)) ∧ (¬ x1 < (50 : Int32) → ((x1 ≤ (200 : Int32) → (xpF t a0 7 7 (.int x1) fun t_1 => xgR t_1 a0 7 3 fun a_2 => (xis t_1 a0 7 ∧ V_X7_monthNow_0 (fun x_4 t_3 => (xis t_3 a_2 4 ∧ V_X4_in_0 (fun x_6 t_5 => K x_6 t_5) a_2 x_4 t_3)) a0 t_1))) ∧ (¬ x1 ≤ (200 : Int32) → (1 ≤ rc ∧ 6 ≤ rs ∧ KX "java/lang/IllegalArgumentException" t)))))
set_option maxRecDepth 20000 in
theorem S_X7_index_0 {Γ : xΓ} {KX : String → xT → Prop} {K : Int32 → xT → Prop} (hl : (gl Γ).stackTraces = false) (ht : (gM Γ).sig.returnType = (some .int)) (hr : xRet Γ (xKi K)) (hx : xThr Γ KX) {a0 : Nat} {x1 : Int32} {t : xT} {rc rs : Nat} (h : V_X7_index_0 KX K a0 x1 t rc rs) : xX Γ k_X7_index 0 [(0, .ref a0), (1, .int x1)] [] t rc rs := by
  unfold V_X7_index_0 at h
  refine x_iload_n 1 dX7_index_0 rfl rfl ?_
  refine x_bipush (v := (50 : Int32)) dX7_index_1 (by decide) ?_
  obtain ⟨h1, h2⟩ := h
  refine x_icmp_lt (tgt := 13) dX7_index_3 (by decide) (fun q => ?_) (fun q => ?_)
  · have h := h1 q
    obtain ⟨q1, q2, h⟩ := h
    exact x_throw dX7_index_13 dX7_index_16 dX7_index_17 dX7_index_19 dX7_index_22 xtw_59 (List.mem_of_getElem? (i := 7) rfl) hx (Nat.le_of_ble_eq_true rfl) (Nat.le_of_ble_eq_true rfl) (Nat.le_of_ble_eq_true rfl) q1 q2 h
  · have h := h2 q
    refine x_iload_n 1 dX7_index_6 rfl rfl ?_
    refine x_sipush (v := (200 : Int32)) dX7_index_7 (by decide) ?_
    obtain ⟨h1, h2⟩ := h
    refine x_icmp_le (tgt := 23) dX7_index_10 (by decide) (fun q => ?_) (fun q => ?_)
    · have h := h1 q
      refine x_aload_n 0 dX7_index_23 rfl rfl ?_
      refine x_iload_n 1 dX7_index_24 rfl rfl ?_
      obtain ⟨fs, hf, hk, h⟩ := h
      refine x_put (v := .int x1) dX7_index_25 xp_X7_48 hf rfl rfl hk ?_
      generalize hT : xup t a0 _ = t_1 at h ⊢
      clear hT
      refine x_aload_n 0 dX7_index_28 rfl rfl ?_
      obtain ⟨fs, hf, a_2, hv, h⟩ := h
      refine x_get dX7_index_29 xf_X7_27 hf hv ?_
      refine x_aload_n 0 dX7_index_32 rfl rfl ?_
      obtain ⟨⟨fs, hf⟩, h⟩ := h
      refine x_invV (as := []) (rest := [.ref a_2]) dX7_index_33 (q := (RX7, TX7, 10)) rfl xc_X7_index_97 hf (M_X7_monthNow hl h) rfl rfl (Nat.le_of_ble_eq_true rfl) (Nat.zero_le _) (Nat.zero_le _) (xk_i fun x_4 t_3 h => ?_)
      obtain ⟨⟨fs, hf⟩, h⟩ := h
      refine x_invV (as := [.int x_4]) (rest := []) dX7_index_36 (q := (RX4, TX4, 1)) rfl xc_X7_index_114 hf (M_X4_in hl h) rfl rfl (Nat.le_of_ble_eq_true rfl) (Nat.zero_le _) (Nat.zero_le _) (xk_i fun x_6 t_5 h => ?_)
      exact x_zret dX7_index_39 hr ht rfl ⟨_, rfl, h⟩
    · have h := h2 q
      obtain ⟨q1, q2, h⟩ := h
      exact x_throw dX7_index_13 dX7_index_16 dX7_index_17 dX7_index_19 dX7_index_22 xtw_59 (List.mem_of_getElem? (i := 7) rfl) hx (Nat.le_of_ble_eq_true rfl) (Nat.le_of_ble_eq_true rfl) (Nat.le_of_ble_eq_true rfl) q1 q2 h
theorem M_X7_index {l : Launch} {G : xG} (hl : l.stackTraces = false) {a0 : Nat} {x1 : Int32} {t : xT} {KX : String → xT → Prop} {K : Int32 → xT → Prop} {rc rs : Nat} (h : V_X7_index_0 KX K a0 x1 t rc rs) : xMetX l G yX7_index k_X7_index (some .int) [.ref a0, .int x1] t (xKi K) KX rc rs := xMetX.of (by decide +kernel) rfl hl (Nat.le_of_ble_eq_true rfl) (fun Γ e1 e2 ht hn hr hx => by subst e1; subst e2; exact S_X7_index_0 hl ht hr hx h)
/-! RentStream.isLetOn(LRentStream$Flat;)Z -/
def VS_X7_isLetOn_2 (R2 : Nat → Nat → Int32 → xT → Prop) (K : Int32 → xT → Prop) (a0 : Nat) (a1 : Nat) (x2 : Int32) (t : xT) : Prop :=
  xgR t a0 7 1 fun a_1 => (xis t a_1 10 ∧ V_Jx4a65c_size_8abf5_0 (fun x_3 t_2 => ((x_3 ≤ x2 → K (0 : Int32) t_2) ∧ (¬ x_3 ≤ x2 → xgR t_2 a0 7 1 fun a_4 => (xis t_2 a_4 10 ∧ V_Jx4a65c_get_915e3_0 (fun o_6 t_5 => xnl o_6 fun a_7 => (xis t_5 a_7 3 ∧ xgR t_5 a_7 3 0 fun a_8 => ((¬ (some a_8) = (some a1) → R2 a0 a1 (x2 + 1) t_5) ∧ ((some a_8) = (some a1) → xgI t_5 a_7 3 1 fun x_9 => ((¬ x_9 = (-1 : Int32) → R2 a0 a1 (x2 + 1) t_5) ∧ (x_9 = (-1 : Int32) → K (1 : Int32) t_5)))))) a_4 x2 t_2)))) a_1 t)
def V_X7_isLetOn_2 (K : Int32 → xT → Prop) (n : Nat) : Nat → Nat → Int32 → xT → Prop := Nat.rec (fun _ _ _ _ => False) (fun _ ih => VS_X7_isLetOn_2 ih K) n
set_option maxRecDepth 20000 in
theorem S_X7_isLetOn_2 {Γ : xΓ} {K : Int32 → xT → Prop} (hl : (gl Γ).stackTraces = false) (ht : (gM Γ).sig.returnType = (some .boolean)) (hr : xRet Γ (xKi K)) : ∀ (n : Nat) (a0 : Nat) (a1 : Nat) (x2 : Int32) (t : xT) (rc rs : Nat), V_X7_isLetOn_2 K n a0 a1 x2 t → xX Γ k_X7_isLetOn 2 [(0, .ref a0), (1, .ref a1), (2, .int x2)] [] t rc rs := by
  intro n
  induction n with
  | zero =>
    intro a0 a1 x2 t rc rs h
    exact h.elim
  | succ n ih =>
    intro a0 a1 x2 t rc rs h
    replace h : VS_X7_isLetOn_2 (V_X7_isLetOn_2 K n) K a0 a1 x2 t := h
    unfold VS_X7_isLetOn_2 at h
    refine x_iload_n 2 dX7_isLetOn_2 rfl rfl ?_
    refine x_aload_n 0 dX7_isLetOn_3 rfl rfl ?_
    obtain ⟨fs, hf, a_1, hv, h⟩ := h
    refine x_get dX7_isLetOn_4 xf_X7_16 hf hv ?_
    obtain ⟨⟨fs, hf⟩, h⟩ := h
    refine x_invV (as := []) (rest := [.int x2]) dX7_isLetOn_7 (q := (RJx4a65c, TJx4a65c, 3)) rfl xc_X7_isLetOn_66 hf (M_Jx4a65c_size_8abf5 hl h) rfl rfl (Nat.le_of_ble_eq_true rfl) (Nat.zero_le _) (Nat.zero_le _) (xk_i fun x_3 t_2 h => ?_)
    obtain ⟨h1, h2⟩ := h
    refine x_icmp_ge (tgt := 49) dX7_isLetOn_10 (by decide) (fun q => ?_) (fun q => ?_)
    · have h := h1 q
      refine x_iconst (v := (0 : Int32)) dX7_isLetOn_49 (by decide) ?_
      exact x_zret dX7_isLetOn_50 hr ht (by decide) ⟨_, rfl, h⟩
    · have h := h2 q
      refine x_aload_n 0 dX7_isLetOn_13 rfl rfl ?_
      obtain ⟨fs, hf, a_4, hv, h⟩ := h
      refine x_get dX7_isLetOn_14 xf_X7_16 hf hv ?_
      refine x_iload_n 2 dX7_isLetOn_17 rfl rfl ?_
      obtain ⟨⟨fs, hf⟩, h⟩ := h
      refine x_invV (as := [.int x2]) (rest := []) dX7_isLetOn_18 (q := (RJx4a65c, TJx4a65c, 3)) rfl xc_X7_isLetOn_149 hf (M_Jx4a65c_get_915e3 hl h) rfl rfl (Nat.le_of_ble_eq_true rfl) (Nat.zero_le _) (Nat.zero_le _) (xk_r fun o_6 t_5 h => ?_)
      obtain ⟨a_7, e, h⟩ := h
      revert h
      subst e
      intro h
      obtain ⟨⟨fs, hf⟩, h⟩ := h
      refine x_ccast dX7_isLetOn_21 (q := (RX3, TX3, 11)) rfl xw429 hf ?_
      refine x_astore_n (L' := [(3, .ref a_7), (0, .ref a0), (1, .ref a1), (2, .int x2)]) dX7_isLetOn_24 rfl (by decide) rfl ?_
      refine x_aload_n 0 dX7_isLetOn_25 rfl rfl ?_
      obtain ⟨fs, hf, a_8, hv, h⟩ := h
      refine x_get dX7_isLetOn_26 xf_X7_265 hf hv ?_
      refine x_aload_n 2 dX7_isLetOn_29 rfl rfl ?_
      obtain ⟨h1, h2⟩ := h
      refine x_acmp_ne (rx := (some a_8)) (ry := (some a1)) (tgt := 43) dX7_isLetOn_30 (by decide) (fun q => ?_) (fun q => ?_)
      · have h := h1 q
        refine x_iinc (v := (x2 + 1)) (L' := [(2, .int (x2 + 1)), (3, .ref a_7), (0, .ref a0), (1, .ref a1)]) (j := 3) dX7_isLetOn_43 rfl rfl (by decide) rfl ?_
        refine x_goto (tgt := 2) dX7_isLetOn_46 (by decide) ?_
        refine x_sub (L' := [(0, .ref a0), (1, .ref a1), (2, .int (x2 + 1))]) [2, 3, 0] rfl ?_
        exact ih a0 a1 (x2 + 1) t_5 _ _ h
      · have h := h2 q
        refine x_aload_n 0 dX7_isLetOn_33 rfl rfl ?_
        obtain ⟨fs, hf, x_9, hv, h⟩ := h
        refine x_get dX7_isLetOn_34 xf_X7_107 hf hv ?_
        refine x_iconst (v := (-1 : Int32)) dX7_isLetOn_37 (by decide) ?_
        obtain ⟨h1, h2⟩ := h
        refine x_icmp_ne (tgt := 43) dX7_isLetOn_38 (by decide) (fun q => ?_) (fun q => ?_)
        · have h := h1 q
          refine x_iinc (v := (x2 + 1)) (L' := [(2, .int (x2 + 1)), (3, .ref a_7), (0, .ref a0), (1, .ref a1)]) (j := 3) dX7_isLetOn_43 rfl rfl (by decide) rfl ?_
          refine x_goto (tgt := 2) dX7_isLetOn_46 (by decide) ?_
          refine x_sub (L' := [(0, .ref a0), (1, .ref a1), (2, .int (x2 + 1))]) [2, 3, 0] rfl ?_
          exact ih a0 a1 (x2 + 1) t_5 _ _ h
        · have h := h2 q
          refine x_iconst (v := (1 : Int32)) dX7_isLetOn_41 (by decide) ?_
          exact x_zret dX7_isLetOn_42 hr ht (by decide) ⟨_, rfl, h⟩
def V_X7_isLetOn_0 (K : Int32 → xT → Prop) (a0 : Nat) (a1 : Nat) (t : xT) : Prop :=
  ∃ f_1 : Nat, V_X7_isLetOn_2 K f_1 a0 a1 (0 : Int32) t
set_option maxRecDepth 20000 in
theorem S_X7_isLetOn_0 {Γ : xΓ} {K : Int32 → xT → Prop} (hl : (gl Γ).stackTraces = false) (ht : (gM Γ).sig.returnType = (some .boolean)) (hr : xRet Γ (xKi K)) {a0 : Nat} {a1 : Nat} {t : xT} {rc rs : Nat} (h : V_X7_isLetOn_0 K a0 a1 t) : xX Γ k_X7_isLetOn 0 [(0, .ref a0), (1, .ref a1)] [] t rc rs := by
  unfold V_X7_isLetOn_0 at h
  refine x_iconst (v := (0 : Int32)) dX7_isLetOn_0 (by decide) ?_
  refine x_istore_n (L' := [(2, .int (0 : Int32)), (0, .ref a0), (1, .ref a1)]) dX7_isLetOn_1 rfl (by decide) rfl ?_
  obtain ⟨f_1, h⟩ := h
  refine x_sub (L' := [(0, .ref a0), (1, .ref a1), (2, .int (0 : Int32))]) [1, 2, 0] rfl ?_
  exact S_X7_isLetOn_2 hl ht hr  f_1 a0 a1 (0 : Int32) t _ _ h
theorem M_X7_isLetOn {l : Launch} {G : xG} (hl : l.stackTraces = false) {a0 : Nat} {a1 : Nat} {t : xT} {K : Int32 → xT → Prop} (h : V_X7_isLetOn_0 K a0 a1 t) : xMet l G yX7_isLetOn k_X7_isLetOn (some .boolean) [.ref a0, .ref a1] t (xKi K) 0 0 := xMet.of (by decide +kernel) rfl hl (Nat.le_of_ble_eq_true rfl) (fun Γ e1 e2 ht hn hr => by subst e1; subst e2; exact S_X7_isLetOn_0 hl ht hr h)
/-! RentStream$HeatShare.<init>()V -/
def V_X2_init_0 (K : xT → Prop) (a0 : Nat) (t : xT) : Prop :=
  (xpF t a0 2 0 (.int (0 : Int32)) fun t_1 => (xpF t_1 a0 2 1 (.int (0 : Int32)) fun t_2 => (xpF t_2 a0 2 2 (.long (0 : Int64)) fun t_3 => K t_3)))
set_option maxRecDepth 20000 in
theorem S_X2_init_0 {Γ : xΓ} {K : xT → Prop} (hl : (gl Γ).stackTraces = false) (ht : (gM Γ).sig.returnType = none) (hr : xRet Γ (xKv K)) (hnm : (gM Γ).name = "<init>") {a0 : Nat} {t : xT} {rc rs : Nat} (h : V_X2_init_0 K a0 t) : xX Γ k_X2_init 0 [(0, .ref a0)] [] t rc rs := by
  unfold V_X2_init_0 at h
  refine x_aload_n 0 dX2_init_0 rfl rfl ?_
  refine x_objInit dX2_init_1 (List.forall_mem_cons.mpr ⟨xw467, List.forall_mem_cons.mpr ⟨xw67, List.forall_mem_cons.mpr ⟨xw68, fun _ h => absurd h List.not_mem_nil⟩⟩⟩) (by decide) (by decide) (Nat.le_of_ble_eq_true rfl) ?_
  refine x_aload_n 0 dX2_init_4 rfl rfl ?_
  refine x_iconst (v := (0 : Int32)) dX2_init_5 (by decide) ?_
  obtain ⟨fs, hf, hk, h⟩ := h
  refine x_put (v := .int (0 : Int32)) dX2_init_6 xp_X2_7 hf rfl rfl hk ?_
  generalize hT : xup t a0 _ = t_1 at h ⊢
  clear hT
  refine x_aload_n 0 dX2_init_9 rfl rfl ?_
  refine x_iconst (v := (0 : Int32)) dX2_init_10 (by decide) ?_
  obtain ⟨fs, hf, hk, h⟩ := h
  refine x_put (v := .int (0 : Int32)) dX2_init_11 xp_X2_13 hf rfl rfl hk ?_
  generalize hT : xup t_1 a0 _ = t_2 at h ⊢
  clear hT
  refine x_aload_n 0 dX2_init_14 rfl rfl ?_
  refine x_lconst (v := (0 : Int64)) dX2_init_15 (by decide) ?_
  obtain ⟨fs, hf, hk, h⟩ := h
  refine x_put (v := .long (0 : Int64)) dX2_init_16 xp_X2_16 hf rfl rfl hk ?_
  generalize hT : xup t_2 a0 _ = t_3 at h ⊢
  clear hT
  exact x_vret dX2_init_19 hr ht ⟨rfl, h⟩
theorem M_X2_init {l : Launch} {G : xG} (hl : l.stackTraces = false) {a0 : Nat} {t : xT} {K : xT → Prop} (h : V_X2_init_0 K a0 t) : xMet l G yX2_init k_X2_init none [.ref a0] t (xKv K) 0 0 := xMet.of (by decide +kernel) rfl hl (Nat.le_of_ble_eq_true rfl) (fun Γ e1 e2 ht hn hr => by subst e1; subst e2; exact S_X2_init_0 hl ht hr hn h)
/-! RentStream$Plan.<init>()V -/
def V_X5_init_0 (K : xT → Prop) (a0 : Nat) (t : xT) : Prop :=
  (xpF t a0 5 0 (.int (0 : Int32)) fun t_1 => (xpF t_1 a0 5 1 (.long (0 : Int64)) fun t_2 => (xpF t_2 a0 5 2 (.long (0 : Int64)) fun t_3 => (xpF t_3 a0 5 3 (.int (0 : Int32)) fun t_4 => K t_4))))
set_option maxRecDepth 20000 in
theorem S_X5_init_0 {Γ : xΓ} {K : xT → Prop} (hl : (gl Γ).stackTraces = false) (ht : (gM Γ).sig.returnType = none) (hr : xRet Γ (xKv K)) (hnm : (gM Γ).name = "<init>") {a0 : Nat} {t : xT} {rc rs : Nat} (h : V_X5_init_0 K a0 t) : xX Γ k_X5_init 0 [(0, .ref a0)] [] t rc rs := by
  unfold V_X5_init_0 at h
  refine x_aload_n 0 dX5_init_0 rfl rfl ?_
  refine x_objInit dX5_init_1 (List.forall_mem_cons.mpr ⟨xw447, List.forall_mem_cons.mpr ⟨xw67, List.forall_mem_cons.mpr ⟨xw68, fun _ h => absurd h List.not_mem_nil⟩⟩⟩) (by decide) (by decide) (Nat.le_of_ble_eq_true rfl) ?_
  refine x_aload_n 0 dX5_init_4 rfl rfl ?_
  refine x_iconst (v := (0 : Int32)) dX5_init_5 (by decide) ?_
  obtain ⟨fs, hf, hk, h⟩ := h
  refine x_put (v := .int (0 : Int32)) dX5_init_6 xp_X5_9 hf rfl rfl hk ?_
  generalize hT : xup t a0 _ = t_1 at h ⊢
  clear hT
  refine x_aload_n 0 dX5_init_9 rfl rfl ?_
  refine x_lconst (v := (0 : Int64)) dX5_init_10 (by decide) ?_
  obtain ⟨fs, hf, hk, h⟩ := h
  refine x_put (v := .long (0 : Int64)) dX5_init_11 xp_X5_15 hf rfl rfl hk ?_
  generalize hT : xup t_1 a0 _ = t_2 at h ⊢
  clear hT
  refine x_aload_n 0 dX5_init_14 rfl rfl ?_
  refine x_lconst (v := (0 : Int64)) dX5_init_15 (by decide) ?_
  obtain ⟨fs, hf, hk, h⟩ := h
  refine x_put (v := .long (0 : Int64)) dX5_init_16 xp_X5_19 hf rfl rfl hk ?_
  generalize hT : xup t_2 a0 _ = t_3 at h ⊢
  clear hT
  refine x_aload_n 0 dX5_init_19 rfl rfl ?_
  refine x_iconst (v := (0 : Int32)) dX5_init_20 (by decide) ?_
  obtain ⟨fs, hf, hk, h⟩ := h
  refine x_put (v := .int (0 : Int32)) dX5_init_21 xp_X5_22 hf rfl rfl hk ?_
  generalize hT : xup t_3 a0 _ = t_4 at h ⊢
  clear hT
  exact x_vret dX5_init_24 hr ht ⟨rfl, h⟩
theorem M_X5_init {l : Launch} {G : xG} (hl : l.stackTraces = false) {a0 : Nat} {t : xT} {K : xT → Prop} (h : V_X5_init_0 K a0 t) : xMet l G yX5_init k_X5_init none [.ref a0] t (xKv K) 0 0 := xMet.of (by decide +kernel) rfl hl (Nat.le_of_ble_eq_true rfl) (fun Γ e1 e2 ht hn hr => by subst e1; subst e2; exact S_X5_init_0 hl ht hr hn h)
/-! RentStream$Lease.<init>(LRentStream$Flat;II)V -/
def V_X3_init_0 (K : xT → Prop) (a0 : Nat) (a1 : Nat) (x2 : Int32) (x3 : Int32) (t : xT) (rc rs : Nat) : Prop :=
  (xpF t a0 3 1 (.int (-1 : Int32)) fun t_1 => xnw (.inr (4, [.null])) 1 t_1 rc rs fun a_2 t_3 => (∃ m_5 z_6 : Nat, m_5 ≤ (rc - 1) ∧ z_6 ≤ (rs - 1) ∧ V_X4_init_0 (fun t_4 => (xpF t_4 a0 3 2 (.ref a_2) fun t_7 => xnw (.inr (5, [.int 0, .long 0, .long 0, .int 0])) 4 t_7 ((rc - 1) - m_5) ((rs - 1) - z_6) fun a_8 t_9 => (V_X5_init_0 (fun t_10 => (xpF t_10 a0 3 3 (.ref a_8) fun t_11 => xnw (.inr (2, [.int 0, .int 0, .long 0])) 3 t_11 (((rc - 1) - m_5) - 1) (((rs - 1) - z_6) - 4) fun a_12 t_13 => (V_X2_init_0 (fun t_14 => (xpF t_14 a0 3 4 (.ref a_12) fun t_15 => (xpF t_15 a0 3 5 (.long (0 : Int64)) fun t_16 => (xpF t_16 a0 3 6 (.long (0 : Int64)) fun t_17 => (xpF t_17 a0 3 7 (.long (0 : Int64)) fun t_18 => xnA 5 (.inr (.inr (.inr (.inr (fun _ => none))))) (121 : Int32) t_18 ((((rc - 1) - m_5) - 1) - 1) ((((rs - 1) - z_6) - 4) - 3) fun a_19 t_20 => (xpF t_20 a0 3 10 (.ref a_19) fun t_21 => (xpF t_21 a0 3 0 (.ref a1) fun t_22 => (xpF t_22 a0 3 8 (.int x2) fun t_23 => (xpF t_23 a0 3 9 (.int x3) fun t_24 => K t_24))))))))) a_12 t_13))) a_8 t_9))) a_2 (-1 : Int32) t_3 m_5 z_6))
set_option maxRecDepth 20000 in
theorem S_X3_init_0 {Γ : xΓ} {K : xT → Prop} (hl : (gl Γ).stackTraces = false) (ht : (gM Γ).sig.returnType = none) (hr : xRet Γ (xKv K)) (hnm : (gM Γ).name = "<init>") {a0 : Nat} {a1 : Nat} {x2 : Int32} {x3 : Int32} {t : xT} {rc rs : Nat} (h : V_X3_init_0 K a0 a1 x2 x3 t rc rs) : xX Γ k_X3_init 0 [(0, .ref a0), (1, .ref a1), (2, .int x2), (3, .int x3)] [] t rc rs := by
  unfold V_X3_init_0 at h
  refine x_aload_n 0 dX3_init_0 rfl rfl ?_
  refine x_objInit dX3_init_1 (List.forall_mem_cons.mpr ⟨xw439, List.forall_mem_cons.mpr ⟨xw67, List.forall_mem_cons.mpr ⟨xw68, fun _ h => absurd h List.not_mem_nil⟩⟩⟩) (by decide) (by decide) (Nat.le_of_ble_eq_true rfl) ?_
  refine x_aload_n 0 dX3_init_4 rfl rfl ?_
  refine x_iconst (v := (-1 : Int32)) dX3_init_5 (by decide) ?_
  obtain ⟨fs, hf, hk, h⟩ := h
  refine x_put (v := .int (-1 : Int32)) dX3_init_6 xp_X3_9 hf rfl rfl hk ?_
  generalize hT : xup t a0 _ = t_1 at h ⊢
  clear hT
  refine x_aload_n 0 dX3_init_9 rfl rfl ?_
  obtain ⟨q1, q2, h⟩ := h
  refine x_new dX3_init_10 xn_X3_15 q1 q2 (fun a_2 hq => ?_)
  replace h := h a_2 hq
  generalize hT : xup t_1 a_2 _ = t_3 at h ⊢
  clear hT
  refine x_dup dX3_init_13 rfl ?_
  refine x_iconst (v := (-1 : Int32)) dX3_init_14 (by decide) ?_
  obtain ⟨m_5, z_6, hm, hs, h⟩ := h
  refine x_invI (as := [.int (-1 : Int32)]) (rest := [.ref a_2, .ref a0]) dX3_init_15 xc_X3_init_17 (M_X4_init hl h) rfl rfl (Nat.le_of_ble_eq_true rfl) hm hs (xk_v fun t_4 h => ?_)
  obtain ⟨fs, hf, hk, h⟩ := h
  refine x_putF (v := .ref a_2) dX3_init_18 xp_X3_20 hnm hf rfl rfl hk ?_
  generalize hT : xup t_4 a0 _ = t_7 at h ⊢
  clear hT
  refine x_aload_n 0 dX3_init_21 rfl rfl ?_
  obtain ⟨q1, q2, h⟩ := h
  refine x_new dX3_init_22 xn_X3_24 q1 q2 (fun a_8 hq => ?_)
  replace h := h a_8 hq
  generalize hT : xup t_7 a_8 _ = t_9 at h ⊢
  clear hT
  refine x_dup dX3_init_25 rfl ?_
  refine x_invIN (as := []) (rest := [.ref a_8, .ref a0]) dX3_init_26 xc_X3_init_26 (M_X5_init hl h) rfl rfl (Nat.le_of_ble_eq_true rfl) (Nat.zero_le _) (Nat.zero_le _) (xk_v fun t_10 h => ?_)
  obtain ⟨fs, hf, hk, h⟩ := h
  refine x_putF (v := .ref a_8) dX3_init_29 xp_X3_27 hnm hf rfl rfl hk ?_
  generalize hT : xup t_10 a0 _ = t_11 at h ⊢
  clear hT
  refine x_aload_n 0 dX3_init_32 rfl rfl ?_
  obtain ⟨q1, q2, h⟩ := h
  refine x_new dX3_init_33 xn_X3_31 q1 q2 (fun a_12 hq => ?_)
  replace h := h a_12 hq
  generalize hT : xup t_11 a_12 _ = t_13 at h ⊢
  clear hT
  refine x_dup dX3_init_36 rfl ?_
  refine x_invIN (as := []) (rest := [.ref a_12, .ref a0]) dX3_init_37 xc_X3_init_33 (M_X2_init hl h) rfl rfl (Nat.le_of_ble_eq_true rfl) (Nat.zero_le _) (Nat.zero_le _) (xk_v fun t_14 h => ?_)
  obtain ⟨fs, hf, hk, h⟩ := h
  refine x_putF (v := .ref a_12) dX3_init_40 xp_X3_34 hnm hf rfl rfl hk ?_
  generalize hT : xup t_14 a0 _ = t_15 at h ⊢
  clear hT
  refine x_aload_n 0 dX3_init_43 rfl rfl ?_
  refine x_lconst (v := (0 : Int64)) dX3_init_44 (by decide) ?_
  obtain ⟨fs, hf, hk, h⟩ := h
  refine x_put (v := .long (0 : Int64)) dX3_init_45 xp_X3_38 hf rfl rfl hk ?_
  generalize hT : xup t_15 a0 _ = t_16 at h ⊢
  clear hT
  refine x_aload_n 0 dX3_init_48 rfl rfl ?_
  refine x_lconst (v := (0 : Int64)) dX3_init_49 (by decide) ?_
  obtain ⟨fs, hf, hk, h⟩ := h
  refine x_put (v := .long (0 : Int64)) dX3_init_50 xp_X3_42 hf rfl rfl hk ?_
  generalize hT : xup t_16 a0 _ = t_17 at h ⊢
  clear hT
  refine x_aload_n 0 dX3_init_53 rfl rfl ?_
  refine x_lconst (v := (0 : Int64)) dX3_init_54 (by decide) ?_
  obtain ⟨fs, hf, hk, h⟩ := h
  refine x_put (v := .long (0 : Int64)) dX3_init_55 xp_X3_45 hf rfl rfl hk ?_
  generalize hT : xup t_17 a0 _ = t_18 at h ⊢
  clear hT
  refine x_aload_n 0 dX3_init_58 rfl rfl ?_
  refine x_bipush (v := (121 : Int32)) dX3_init_59 (by decide) ?_
  obtain ⟨q0, qb, q1, q2, h⟩ := h
  refine x_anew5 dX3_init_61 xw480 q0 qb q1 q2 (fun a_19 hq => ?_)
  replace h := h a_19 hq
  generalize hT : xup t_18 a_19 _ = t_20 at h ⊢
  clear hT
  obtain ⟨fs, hf, hk, h⟩ := h
  refine x_putF (v := .ref a_19) dX3_init_64 xp_X3_50 hnm hf rfl rfl hk ?_
  generalize hT : xup t_20 a0 _ = t_21 at h ⊢
  clear hT
  refine x_aload_n 0 dX3_init_67 rfl rfl ?_
  refine x_aload_n 1 dX3_init_68 rfl rfl ?_
  obtain ⟨fs, hf, hk, h⟩ := h
  refine x_putF (v := .ref a1) dX3_init_69 xp_X3_54 hnm hf rfl rfl hk ?_
  generalize hT : xup t_21 a0 _ = t_22 at h ⊢
  clear hT
  refine x_aload_n 0 dX3_init_72 rfl rfl ?_
  refine x_iload_n 2 dX3_init_73 rfl rfl ?_
  obtain ⟨fs, hf, hk, h⟩ := h
  refine x_putF (v := .int x2) dX3_init_74 xp_X3_58 hnm hf rfl rfl hk ?_
  generalize hT : xup t_22 a0 _ = t_23 at h ⊢
  clear hT
  refine x_aload_n 0 dX3_init_77 rfl rfl ?_
  refine x_iload_n 3 dX3_init_78 rfl rfl ?_
  obtain ⟨fs, hf, hk, h⟩ := h
  refine x_putF (v := .int x3) dX3_init_79 xp_X3_61 hnm hf rfl rfl hk ?_
  generalize hT : xup t_23 a0 _ = t_24 at h ⊢
  clear hT
  exact x_vret dX3_init_82 hr ht ⟨rfl, h⟩
theorem M_X3_init {l : Launch} {G : xG} (hl : l.stackTraces = false) {a0 : Nat} {a1 : Nat} {x2 : Int32} {x3 : Int32} {t : xT} {K : xT → Prop} {rc rs : Nat} (h : V_X3_init_0 K a0 a1 x2 x3 t rc rs) : xMet l G yX3_init k_X3_init none [.ref a0, .ref a1, .int x2, .int x3] t (xKv K) rc rs := xMet.of (by decide +kernel) rfl hl (Nat.le_of_ble_eq_true rfl) (fun Γ e1 e2 ht hn hr => by subst e1; subst e2; exact S_X3_init_0 hl ht hr hn h)
/-! RentStream.lease(II)I -/
def V_X7_lease_0 (E : Nat → Nat) (KX : String → xT → Prop) (K : Int32 → xT → Prop) (a0 : Nat) (x1 : Int32) (x2 : Int32) (t : xT) (rc rs : Nat) : Prop :=
  (xis t a0 7 ∧ ∃ m_3 z_4 : Nat, m_3 ≤ rc ∧ z_4 ≤ rs ∧ V_X7_flatAt_0 KX (fun o_2 t_1 => ((x2 < 0 → (1 ≤ (rc - m_3) ∧ 6 ≤ (rs - z_4) ∧ KX "java/lang/IllegalArgumentException" t_1)) ∧ (¬ x2 < 0 → ((x2 ≤ (500000 : Int32) → xgR t_1 a0 7 1 fun a_5 => (xis t_1 a_5 10 ∧ V_Jx4a65c_size_8abf5_0 (fun x_7 t_6 => (((12 : Int32) ≤ x_7 → (1 ≤ (rc - m_3) ∧ 6 ≤ (rs - z_4) ∧ KX "java/lang/IllegalStateException" t_6)) ∧ (¬ (12 : Int32) ≤ x_7 → xnl o_2 fun a_8 => (xis t_6 a0 7 ∧ V_X7_isLetOn_0 (fun x_10 t_9 => ((x_10 = 0 → xgR t_9 a0 7 1 fun a_11 => xnw (.inr (3, [.null, .int 0, .null, .null, .null, .long 0, .long 0, .long 0, .int 0, .int 0, .null])) 11 t_9 (rc - m_3) (rs - z_4) fun a_12 t_13 => (xis t_13 a0 7 ∧ V_X7_monthNow_0 (fun x_15 t_14 => (∃ m_17 z_18 : Nat, m_17 ≤ ((rc - m_3) - 1) ∧ z_18 ≤ ((rs - z_4) - 11) ∧ V_X3_init_0 (fun t_16 => (xis t_16 a_11 10 ∧ ∃ m_21 z_22 : Nat, m_21 ≤ (((rc - m_3) - 1) - m_17) ∧ z_22 ≤ (((rs - z_4) - 11) - z_18) ∧ V_Jx4a65c_add_9ea2d_0 E (fun x_20 t_19 => xgR t_19 a0 7 1 fun a_23 => (xis t_19 a_23 10 ∧ V_Jx4a65c_size_8abf5_0 (fun x_25 t_24 => K (x_25 - (1 : Int32)) t_24) a_23 t_19)) a_11 a_12 t_16 m_21 z_22)) a_12 a_8 x2 (x_15 + (1 : Int32)) t_14 m_17 z_18)) a0 t_13)) ∧ (¬ x_10 = 0 → (1 ≤ (rc - m_3) ∧ 6 ≤ (rs - z_4) ∧ KX "java/lang/IllegalStateException" t_9)))) a0 a_8 t_6)))) a_5 t_1)) ∧ (¬ x2 ≤ (500000 : Int32) → (1 ≤ (rc - m_3) ∧ 6 ≤ (rs - z_4) ∧ KX "java/lang/IllegalArgumentException" t_1)))))) a0 x1 t m_3 z_4)
set_option maxRecDepth 20000 in
theorem S_X7_lease_0 {Γ : xΓ} {KX : String → xT → Prop} {K : Int32 → xT → Prop} (hl : (gl Γ).stackTraces = false) (ht : (gM Γ).sig.returnType = (some .int)) (hr : xRet Γ (xKi K)) (hx : xThr Γ KX) {a0 : Nat} {x1 : Int32} {x2 : Int32} {t : xT} {rc rs : Nat} (h : V_X7_lease_0 (gG Γ).2.2.2 KX K a0 x1 x2 t rc rs) : xX Γ k_X7_lease 0 [(0, .ref a0), (1, .int x1), (2, .int x2)] [] t rc rs := by
  unfold V_X7_lease_0 at h
  refine x_aload_n 0 dX7_lease_0 rfl rfl ?_
  refine x_iload_n 1 dX7_lease_1 rfl rfl ?_
  obtain ⟨⟨fs, hf⟩, h⟩ := h
  obtain ⟨m_3, z_4, hm, hs, h⟩ := h
  refine x_invVX (as := [.int x1]) (rest := []) dX7_lease_2 (q := (RX7, TX7, 10)) rfl xc_X7_lease_82 hf (M_X7_flatAt hl h) rfl rfl (Nat.le_of_ble_eq_true rfl) hm hs (fun _ _ h => x_thrown hx h) (xk_r fun o_2 t_1 h => ?_)
  refine x_ostore_n (L' := [(3, va_rf o_2), (0, .ref a0), (1, .int x1), (2, .int x2)]) dX7_lease_5 rfl (by decide) rfl ?_
  refine x_iload_n 3 dX7_lease_6 rfl rfl ?_
  obtain ⟨h1, h2⟩ := h
  refine x_if_lt (tgt := 16) dX7_lease_7 (by decide) (fun q => ?_) (fun q => ?_)
  · have h := h1 q
    obtain ⟨q1, q2, h⟩ := h
    exact x_throw dX7_lease_16 dX7_lease_19 dX7_lease_20 dX7_lease_22 dX7_lease_25 xtw_59 (List.mem_of_getElem? (i := 3) rfl) hx (Nat.le_of_ble_eq_true rfl) (Nat.le_of_ble_eq_true rfl) (Nat.le_of_ble_eq_true rfl) q1 q2 h
  · have h := h2 q
    refine x_iload_n 3 dX7_lease_10 rfl rfl ?_
    refine x_ldc dX7_lease_11 xw423 ?_
    obtain ⟨h1, h2⟩ := h
    refine x_icmp_le (tgt := 26) dX7_lease_13 (by decide) (fun q => ?_) (fun q => ?_)
    · have h := h1 q
      refine x_aload_n 1 dX7_lease_26 rfl rfl ?_
      obtain ⟨fs, hf, a_5, hv, h⟩ := h
      refine x_get dX7_lease_27 xf_X7_16 hf hv ?_
      obtain ⟨⟨fs, hf⟩, h⟩ := h
      refine x_invV (as := []) (rest := []) dX7_lease_30 (q := (RJx4a65c, TJx4a65c, 3)) rfl xc_X7_lease_66 hf (M_Jx4a65c_size_8abf5 hl h) rfl rfl (Nat.le_of_ble_eq_true rfl) (Nat.zero_le _) (Nat.zero_le _) (xk_i fun x_7 t_6 h => ?_)
      refine x_bipush (v := (12 : Int32)) dX7_lease_33 (by decide) ?_
      obtain ⟨h1, h2⟩ := h
      refine x_icmp_ge (tgt := 46) dX7_lease_35 (by decide) (fun q => ?_) (fun q => ?_)
      · have h := h1 q
        obtain ⟨q1, q2, h⟩ := h
        exact x_throw dX7_lease_46 dX7_lease_49 dX7_lease_50 dX7_lease_52 dX7_lease_55 xtw_70 (List.mem_of_getElem? (i := 4) rfl) hx (Nat.le_of_ble_eq_true rfl) (Nat.le_of_ble_eq_true rfl) (Nat.le_of_ble_eq_true rfl) q1 q2 h
      · have h := h2 q
        refine x_aload_n 1 dX7_lease_38 rfl rfl ?_
        refine x_oload_n 0 dX7_lease_39 rfl rfl ?_
        obtain ⟨a_8, e, h⟩ := h
        revert h
        subst e
        intro h
        obtain ⟨⟨fs, hf⟩, h⟩ := h
        refine x_invV (as := [.ref a_8]) (rest := []) dX7_lease_40 (q := (RX7, TX7, 10)) rfl xc_X7_lease_89 hf (M_X7_isLetOn hl h) rfl rfl (Nat.le_of_ble_eq_true rfl) (Nat.zero_le _) (Nat.zero_le _) (xk_i fun x_10 t_9 h => ?_)
        obtain ⟨h1, h2⟩ := h
        refine x_if_eq (tgt := 56) dX7_lease_43 (by decide) (fun q => ?_) (fun q => ?_)
        · have h := h1 q
          refine x_aload_n 1 dX7_lease_56 rfl rfl ?_
          obtain ⟨fs, hf, a_11, hv, h⟩ := h
          refine x_get dX7_lease_57 xf_X7_16 hf hv ?_
          obtain ⟨q1, q2, h⟩ := h
          refine x_new dX7_lease_60 xn_X7_95 q1 q2 (fun a_12 hq => ?_)
          replace h := h a_12 hq
          generalize hT : xup t_9 a_12 _ = t_13 at h ⊢
          clear hT
          refine x_dup dX7_lease_63 rfl ?_
          refine x_aload_n 0 dX7_lease_64 rfl rfl ?_
          refine x_iload_n 3 dX7_lease_65 rfl rfl ?_
          refine x_aload_n 1 dX7_lease_66 rfl rfl ?_
          obtain ⟨⟨fs, hf⟩, h⟩ := h
          refine x_invV (as := []) (rest := [.int x2, .ref a_8, .ref a_12, .ref a_12, .ref a_11]) dX7_lease_67 (q := (RX7, TX7, 10)) rfl xc_X7_lease_97 hf (M_X7_monthNow hl h) rfl rfl (Nat.le_of_ble_eq_true rfl) (Nat.zero_le _) (Nat.zero_le _) (xk_i fun x_15 t_14 h => ?_)
          refine x_iconst (v := (1 : Int32)) dX7_lease_70 (by decide) ?_
          refine x_iadd dX7_lease_71 ?_
          obtain ⟨m_17, z_18, hm, hs, h⟩ := h
          refine x_invI (as := [.ref a_8, .int x2, .int (x_15 + (1 : Int32))]) (rest := [.ref a_12, .ref a_11]) dX7_lease_72 xc_X7_lease_100 (M_X3_init hl h) rfl rfl (Nat.le_of_ble_eq_true rfl) hm hs (xk_v fun t_16 h => ?_)
          obtain ⟨⟨fs, hf⟩, h⟩ := h
          obtain ⟨m_21, z_22, hm, hs, h⟩ := h
          refine x_invV (as := [.ref a_12]) (rest := []) dX7_lease_75 (q := (RJx4a65c, TJx4a65c, 3)) rfl xc_X7_lease_78 hf (M_Jx4a65c_add_9ea2d hl h) rfl rfl (Nat.le_of_ble_eq_true rfl) hm hs (xk_i fun x_20 t_19 h => ?_)
          refine x_pop dX7_lease_78 rfl ?_
          refine x_aload_n 1 dX7_lease_79 rfl rfl ?_
          obtain ⟨fs, hf, a_23, hv, h⟩ := h
          refine x_get dX7_lease_80 xf_X7_16 hf hv ?_
          obtain ⟨⟨fs, hf⟩, h⟩ := h
          refine x_invV (as := []) (rest := []) dX7_lease_83 (q := (RJx4a65c, TJx4a65c, 3)) rfl xc_X7_lease_66 hf (M_Jx4a65c_size_8abf5 hl h) rfl rfl (Nat.le_of_ble_eq_true rfl) (Nat.zero_le _) (Nat.zero_le _) (xk_i fun x_25 t_24 h => ?_)
          refine x_iconst (v := (1 : Int32)) dX7_lease_86 (by decide) ?_
          refine x_isub dX7_lease_87 ?_
          exact x_zret dX7_lease_88 hr ht rfl ⟨_, rfl, h⟩
        · have h := h2 q
          obtain ⟨q1, q2, h⟩ := h
          exact x_throw dX7_lease_46 dX7_lease_49 dX7_lease_50 dX7_lease_52 dX7_lease_55 xtw_70 (List.mem_of_getElem? (i := 4) rfl) hx (Nat.le_of_ble_eq_true rfl) (Nat.le_of_ble_eq_true rfl) (Nat.le_of_ble_eq_true rfl) q1 q2 h
    · have h := h2 q
      obtain ⟨q1, q2, h⟩ := h
      exact x_throw dX7_lease_16 dX7_lease_19 dX7_lease_20 dX7_lease_22 dX7_lease_25 xtw_59 (List.mem_of_getElem? (i := 3) rfl) hx (Nat.le_of_ble_eq_true rfl) (Nat.le_of_ble_eq_true rfl) (Nat.le_of_ble_eq_true rfl) q1 q2 h
theorem M_X7_lease {l : Launch} {G : xG} (hl : l.stackTraces = false) {a0 : Nat} {x1 : Int32} {x2 : Int32} {t : xT} {KX : String → xT → Prop} {K : Int32 → xT → Prop} {rc rs : Nat} (h : V_X7_lease_0 G.2.2.2 KX K a0 x1 x2 t rc rs) : xMetX l G yX7_lease k_X7_lease (some .int) [.ref a0, .int x1, .int x2] t (xKi K) KX rc rs := xMetX.of (by decide +kernel) rfl hl (Nat.le_of_ble_eq_true rfl) (fun Γ e1 e2 ht hn hr hx => by subst e1; subst e2; exact S_X7_lease_0 hl ht hr hx h)
/-! java/lang/AbstractStringBuilder.newCapacity(I)I -/
def V_J5_newCapacity_0f7a4_0 (K : Int32 → xT → Prop) (a0 : Nat) (x1 : Int32) (t : xT) : Prop :=
  xgR t a0 9 0 fun a_1 => xal t a_1 fun x_2 => xgI t a0 9 1 fun x_3 => xgI t a0 9 1 fun x_4 => (V_J8_newLength_cabcc_0 (fun x_6 t_5 => ((¬ x_6 = (2147483647 : Int32) → xgI t_5 a0 9 1 fun x_7 => K (x_6 >>> (x_7 &&& 31)) t_5) ∧ (x_6 = (2147483647 : Int32) → False))) x_2 ((x1 <<< (x_3 &&& 31)) - x_2) (x_2 + ((2 : Int32) <<< (x_4 &&& 31))) t)
set_option maxRecDepth 20000 in
theorem S_J5_newCapacity_0f7a4_0 {Γ : xΓ} {K : Int32 → xT → Prop} (hl : (gl Γ).stackTraces = false) (ht : (gM Γ).sig.returnType = (some .int)) (hr : xRet Γ (xKi K)) {a0 : Nat} {x1 : Int32} {t : xT} {rc rs : Nat} (h : V_J5_newCapacity_0f7a4_0 K a0 x1 t) : xX Γ k_J5_newCapacity_0f7a4 0 [(0, .ref a0), (1, .int x1)] [] t rc rs := by
  unfold V_J5_newCapacity_0f7a4_0 at h
  refine x_aload_n 0 dJ5_newCapacity_0f7a4_0 rfl rfl ?_
  obtain ⟨fs, hf, a_1, hv, h⟩ := h
  refine x_get dJ5_newCapacity_0f7a4_1 xf_J5_15 hf hv ?_
  obtain ⟨k, z, hf, h⟩ := h
  refine x_alen dJ5_newCapacity_0f7a4_4 hf ?_
  generalize Int32.ofNat z.1 = x_2 at h ⊢
  refine x_istore_n (L' := [(2, .int x_2), (0, .ref a0), (1, .int x1)]) dJ5_newCapacity_0f7a4_5 rfl (by decide) rfl ?_
  refine x_iload_n 2 dJ5_newCapacity_0f7a4_6 rfl rfl ?_
  refine x_aload_n 1 dJ5_newCapacity_0f7a4_7 rfl rfl ?_
  obtain ⟨fs, hf, x_3, hv, h⟩ := h
  refine x_get dJ5_newCapacity_0f7a4_8 xf_J5_22 hf hv ?_
  refine x_ishl dJ5_newCapacity_0f7a4_11 ?_
  refine x_istore_n (L' := [(3, .int (x1 <<< (x_3 &&& 31))), (2, .int x_2), (0, .ref a0), (1, .int x1)]) dJ5_newCapacity_0f7a4_12 rfl (by decide) rfl ?_
  refine x_iload_n 0 dJ5_newCapacity_0f7a4_13 rfl rfl ?_
  refine x_iload_n 1 dJ5_newCapacity_0f7a4_14 rfl rfl ?_
  refine x_isub dJ5_newCapacity_0f7a4_15 ?_
  refine x_istore (L' := [(4, .int ((x1 <<< (x_3 &&& 31)) - x_2)), (3, .int (x1 <<< (x_3 &&& 31))), (2, .int x_2), (0, .ref a0), (1, .int x1)]) dJ5_newCapacity_0f7a4_16 (by decide) rfl ?_
  refine x_iload_n 2 dJ5_newCapacity_0f7a4_18 rfl rfl ?_
  refine x_iload 0 dJ5_newCapacity_0f7a4_19 rfl ?_
  refine x_iload_n 2 dJ5_newCapacity_0f7a4_21 rfl rfl ?_
  refine x_iconst (v := (2 : Int32)) dJ5_newCapacity_0f7a4_22 (by decide) ?_
  refine x_aload_n 3 dJ5_newCapacity_0f7a4_23 rfl rfl ?_
  obtain ⟨fs, hf, x_4, hv, h⟩ := h
  refine x_get dJ5_newCapacity_0f7a4_24 xf_J5_22 hf hv ?_
  refine x_ishl dJ5_newCapacity_0f7a4_27 ?_
  refine x_iadd dJ5_newCapacity_0f7a4_28 ?_
  refine x_invS (as := [.int x_2, .int ((x1 <<< (x_3 &&& 31)) - x_2), .int (x_2 + ((2 : Int32) <<< (x_4 &&& 31)))]) (rest := []) dJ5_newCapacity_0f7a4_29 xc_J5_newCapacity_0f7a4_114 (M_J8_newLength_cabcc hl h) rfl rfl (Nat.le_of_ble_eq_true rfl) (Nat.zero_le _) (Nat.zero_le _) (xk_i fun x_6 t_5 h => ?_)
  refine x_istore (L' := [(5, .int x_6), (4, .int ((x1 <<< (x_3 &&& 31)) - x_2)), (3, .int (x1 <<< (x_3 &&& 31))), (2, .int x_2), (0, .ref a0), (1, .int x1)]) dJ5_newCapacity_0f7a4_32 (by decide) rfl ?_
  refine x_iload 0 dJ5_newCapacity_0f7a4_34 rfl ?_
  refine x_ldc dJ5_newCapacity_0f7a4_36 xw849 ?_
  obtain ⟨h1, h2⟩ := h
  refine x_icmp_ne (tgt := 51) dJ5_newCapacity_0f7a4_38 (by decide) (fun q => ?_) (fun q => ?_)
  · have h := h1 q
    refine x_iload 0 dJ5_newCapacity_0f7a4_51 rfl ?_
    refine x_aload_n 4 dJ5_newCapacity_0f7a4_53 rfl rfl ?_
    obtain ⟨fs, hf, x_7, hv, h⟩ := h
    refine x_get dJ5_newCapacity_0f7a4_54 xf_J5_22 hf hv ?_
    refine x_ishr dJ5_newCapacity_0f7a4_57 ?_
    exact x_zret dJ5_newCapacity_0f7a4_58 hr ht rfl ⟨_, rfl, h⟩
  · have h := h2 q
    exact h.elim
theorem M_J5_newCapacity_0f7a4 {l : Launch} {G : xG} (hl : l.stackTraces = false) {a0 : Nat} {x1 : Int32} {t : xT} {K : Int32 → xT → Prop} (h : V_J5_newCapacity_0f7a4_0 K a0 x1 t) : xMet l G yJ5_newCapacity_0f7a4 k_J5_newCapacity_0f7a4 (some .int) [.ref a0, .int x1] t (xKi K) 0 0 := xMet.of (by decide +kernel) rfl hl (Nat.le_of_ble_eq_true rfl) (fun Γ e1 e2 ht hn hr => by subst e1; subst e2; exact S_J5_newCapacity_0f7a4_0 hl ht hr h)
/-! java/util/Arrays.copyOf([BI)[B -/
def V_J7_copyOf_9075b_0 (K : Option Nat → xT → Prop) (a0 : Nat) (x1 : Int32) (t : xT) (rc rs : Nat) : Prop :=
  xal t a0 fun x_1 => ((¬ x1 = x_1 → xnA 3 (.inl (fun _ => 0)) x1 t rc rs fun a_2 t_3 => xal t_3 a0 fun x_4 => xcB t_3 a0 (0 : Int32) a_2 (0 : Int32) (if x1 < x_4 then x1 else x_4) fun t_5 => K (some a_2) t_5) ∧ (x1 = x_1 → False))
set_option maxRecDepth 20000 in
theorem S_J7_copyOf_9075b_0 {Γ : xΓ} {K : Option Nat → xT → Prop} (hl : (gl Γ).stackTraces = false) (ht : (gM Γ).sig.returnType = (some (.array .byte))) (hr : xRet Γ (xKr K)) {a0 : Nat} {x1 : Int32} {t : xT} {rc rs : Nat} (h : V_J7_copyOf_9075b_0 K a0 x1 t rc rs) : xX Γ k_J7_copyOf_9075b 0 [(0, .ref a0), (1, .int x1)] [] t rc rs := by
  unfold V_J7_copyOf_9075b_0 at h
  refine x_iload_n 1 dJ7_copyOf_9075b_0 rfl rfl ?_
  refine x_aload_n 0 dJ7_copyOf_9075b_1 rfl rfl ?_
  obtain ⟨k, z, hf, h⟩ := h
  refine x_alen dJ7_copyOf_9075b_2 hf ?_
  generalize Int32.ofNat z.1 = x_1 at h ⊢
  obtain ⟨h1, h2⟩ := h
  refine x_icmp_ne (tgt := 14) dJ7_copyOf_9075b_3 (by decide) (fun q => ?_) (fun q => ?_)
  · have h := h1 q
    refine x_iload_n 1 dJ7_copyOf_9075b_14 rfl rfl ?_
    obtain ⟨q0, qb, q1, q2, h⟩ := h
    refine x_newa3 dJ7_copyOf_9075b_15 xw138 q0 qb q1 q2 (fun a_2 hq => ?_)
    replace h := h a_2 hq
    generalize hT : xup t a_2 _ = t_3 at h ⊢
    clear hT
    refine x_astore_n (L' := [(2, .ref a_2), (0, .ref a0), (1, .int x1)]) dJ7_copyOf_9075b_17 rfl (by decide) rfl ?_
    refine x_aload_n 1 dJ7_copyOf_9075b_18 rfl rfl ?_
    refine x_iconst (v := (0 : Int32)) dJ7_copyOf_9075b_19 (by decide) ?_
    refine x_aload_n 0 dJ7_copyOf_9075b_20 rfl rfl ?_
    refine x_iconst (v := (0 : Int32)) dJ7_copyOf_9075b_21 (by decide) ?_
    refine x_aload_n 1 dJ7_copyOf_9075b_22 rfl rfl ?_
    obtain ⟨k, z, hf, h⟩ := h
    refine x_alen dJ7_copyOf_9075b_23 hf ?_
    generalize Int32.ofNat z.1 = x_4 at h ⊢
    refine x_iload_n 2 dJ7_copyOf_9075b_24 rfl rfl ?_
    refine x_mmin dJ7_copyOf_9075b_25 xlm_J7_304 (by decide) (by decide) (Nat.le_of_ble_eq_true rfl) ?_
    obtain ⟨k, n0, n1, f, g, e1, e2, e3, e4, e5, e6, e7, e8, e9, h⟩ := h
    refine x_copyB dJ7_copyOf_9075b_28 xlc_J7_150 (by decide) (by decide) (Nat.le_of_ble_eq_true rfl) e1 e2 e3 e4 e5 e6 e7 e8 e9 ?_
    generalize hT : xup t_3 a_2 _ = t_5 at h ⊢
    clear hT
    refine x_aload_n 0 dJ7_copyOf_9075b_31 rfl rfl ?_
    exact x_aret (o := (some a_2)) dJ7_copyOf_9075b_32 hr ht (Or.inr ⟨_, rfl⟩) ⟨_, rfl, h⟩
  · have h := h2 q
    refine x_aload_n 0 dJ7_copyOf_9075b_6 rfl rfl ?_
    exact h.elim
theorem M_J7_copyOf_9075b {l : Launch} {G : xG} (hl : l.stackTraces = false) {a0 : Nat} {x1 : Int32} {t : xT} {K : Option Nat → xT → Prop} {rc rs : Nat} (h : V_J7_copyOf_9075b_0 K a0 x1 t rc rs) : xMet l G yJ7_copyOf_9075b k_J7_copyOf_9075b (some (.array .byte)) [.ref a0, .int x1] t (xKr K) rc rs := xMet.of (by decide +kernel) rfl hl (Nat.le_of_ble_eq_true rfl) (fun Γ e1 e2 ht hn hr => by subst e1; subst e2; exact S_J7_copyOf_9075b_0 hl ht hr h)
/-! java/lang/AbstractStringBuilder.ensureCapacityInternal(I)V -/
def V_J5_ensureCapacityInternal_d00df_0 (K : xT → Prop) (a0 : Nat) (x1 : Int32) (t : xT) (rc rs : Nat) : Prop :=
  xgR t a0 9 0 fun a_1 => xal t a_1 fun x_2 => xgI t a0 9 1 fun x_3 => (((x1 - (x_2 >>> (x_3 &&& 31))) ≤ 0 → K t) ∧ (¬ (x1 - (x_2 >>> (x_3 &&& 31))) ≤ 0 → xgR t a0 9 0 fun a_4 => (xis t a0 9 ∧ V_J5_newCapacity_0f7a4_0 (fun x_6 t_5 => xgI t_5 a0 9 1 fun x_7 => (∃ m_10 z_11 : Nat, m_10 ≤ rc ∧ z_11 ≤ rs ∧ V_J7_copyOf_9075b_0 (fun o_9 t_8 => xnl o_9 fun a_12 => (xpF t_8 a0 9 0 (.ref a_12) fun t_13 => K t_13)) a_4 (x_6 <<< (x_7 &&& 31)) t_5 m_10 z_11)) a0 x1 t)))
set_option maxRecDepth 20000 in
theorem S_J5_ensureCapacityInternal_d00df_0 {Γ : xΓ} {K : xT → Prop} (hl : (gl Γ).stackTraces = false) (ht : (gM Γ).sig.returnType = none) (hr : xRet Γ (xKv K)) {a0 : Nat} {x1 : Int32} {t : xT} {rc rs : Nat} (h : V_J5_ensureCapacityInternal_d00df_0 K a0 x1 t rc rs) : xX Γ k_J5_ensureCapacityInternal_d00df 0 [(0, .ref a0), (1, .int x1)] [] t rc rs := by
  unfold V_J5_ensureCapacityInternal_d00df_0 at h
  refine x_aload_n 0 dJ5_ensureCapacityInternal_d00df_0 rfl rfl ?_
  obtain ⟨fs, hf, a_1, hv, h⟩ := h
  refine x_get dJ5_ensureCapacityInternal_d00df_1 xf_J5_15 hf hv ?_
  obtain ⟨k, z, hf, h⟩ := h
  refine x_alen dJ5_ensureCapacityInternal_d00df_4 hf ?_
  generalize Int32.ofNat z.1 = x_2 at h ⊢
  refine x_aload_n 0 dJ5_ensureCapacityInternal_d00df_5 rfl rfl ?_
  obtain ⟨fs, hf, x_3, hv, h⟩ := h
  refine x_get dJ5_ensureCapacityInternal_d00df_6 xf_J5_22 hf hv ?_
  refine x_ishr dJ5_ensureCapacityInternal_d00df_9 ?_
  refine x_istore_n (L' := [(2, .int (x_2 >>> (x_3 &&& 31))), (0, .ref a0), (1, .int x1)]) dJ5_ensureCapacityInternal_d00df_10 rfl (by decide) rfl ?_
  refine x_iload_n 2 dJ5_ensureCapacityInternal_d00df_11 rfl rfl ?_
  refine x_iload_n 0 dJ5_ensureCapacityInternal_d00df_12 rfl rfl ?_
  refine x_isub dJ5_ensureCapacityInternal_d00df_13 ?_
  obtain ⟨h1, h2⟩ := h
  refine x_if_le (tgt := 38) dJ5_ensureCapacityInternal_d00df_14 (by decide) (fun q => ?_) (fun q => ?_)
  · have h := h1 q
    exact x_vret dJ5_ensureCapacityInternal_d00df_38 hr ht ⟨rfl, h⟩
  · have h := h2 q
    refine x_aload_n 1 dJ5_ensureCapacityInternal_d00df_17 rfl rfl ?_
    refine x_aload_n 1 dJ5_ensureCapacityInternal_d00df_18 rfl rfl ?_
    obtain ⟨fs, hf, a_4, hv, h⟩ := h
    refine x_get dJ5_ensureCapacityInternal_d00df_19 xf_J5_15 hf hv ?_
    refine x_aload_n 1 dJ5_ensureCapacityInternal_d00df_22 rfl rfl ?_
    refine x_iload_n 2 dJ5_ensureCapacityInternal_d00df_23 rfl rfl ?_
    obtain ⟨⟨fs, hf⟩, h⟩ := h
    refine x_invV (as := [.int x1]) (rest := [.ref a_4, .ref a0]) dJ5_ensureCapacityInternal_d00df_24 (q := (RJ4, TJ4, 4)) rfl xc_J5_ensureCapacityInternal_d00df_104 hf (M_J5_newCapacity_0f7a4 hl h) rfl rfl (Nat.le_of_ble_eq_true rfl) (Nat.zero_le _) (Nat.zero_le _) (xk_i fun x_6 t_5 h => ?_)
    refine x_aload_n 1 dJ5_ensureCapacityInternal_d00df_27 rfl rfl ?_
    obtain ⟨fs, hf, x_7, hv, h⟩ := h
    refine x_get dJ5_ensureCapacityInternal_d00df_28 xf_J5_22 hf hv ?_
    refine x_ishl dJ5_ensureCapacityInternal_d00df_31 ?_
    obtain ⟨m_10, z_11, hm, hs, h⟩ := h
    refine x_invS (as := [.ref a_4, .int (x_6 <<< (x_7 &&& 31))]) (rest := [.ref a0]) dJ5_ensureCapacityInternal_d00df_32 xc_J5_ensureCapacityInternal_d00df_108 (M_J7_copyOf_9075b hl h) rfl rfl (Nat.le_of_ble_eq_true rfl) hm hs (xk_r fun o_9 t_8 h => ?_)
    obtain ⟨a_12, e, h⟩ := h
    revert h
    subst e
    intro h
    obtain ⟨fs, hf, hk, h⟩ := h
    refine x_put (v := .ref a_12) dJ5_ensureCapacityInternal_d00df_35 xp_J5_15 hf rfl rfl hk ?_
    generalize hT : xup t_8 a0 _ = t_13 at h ⊢
    clear hT
    exact x_vret dJ5_ensureCapacityInternal_d00df_38 hr ht ⟨rfl, h⟩
theorem M_J5_ensureCapacityInternal_d00df {l : Launch} {G : xG} (hl : l.stackTraces = false) {a0 : Nat} {x1 : Int32} {t : xT} {K : xT → Prop} {rc rs : Nat} (h : V_J5_ensureCapacityInternal_d00df_0 K a0 x1 t rc rs) : xMet l G yJ5_ensureCapacityInternal_d00df k_J5_ensureCapacityInternal_d00df none [.ref a0, .int x1] t (xKv K) rc rs := xMet.of (by decide +kernel) rfl hl (Nat.le_of_ble_eq_true rfl) (fun Γ e1 e2 ht hn hr => by subst e1; subst e2; exact S_J5_ensureCapacityInternal_d00df_0 hl ht hr h)
/-! java/lang/AbstractStringBuilder.isLatin1()Z -/
def V_J5_isLatin1_aae02_0 (K : Int32 → xT → Prop) (a0 : Nat) (t : xT) : Prop :=
  (((1 : Int32) = 0 → K (0 : Int32) t) ∧ (¬ (1 : Int32) = 0 → xgI t a0 9 1 fun x_1 => ((¬ x_1 = 0 → K (0 : Int32) t) ∧ (x_1 = 0 → K (1 : Int32) t))))
set_option maxRecDepth 20000 in
theorem S_J5_isLatin1_aae02_0 {Γ : xΓ} {K : Int32 → xT → Prop} (hl : (gl Γ).stackTraces = false) (ht : (gM Γ).sig.returnType = (some .boolean)) (hr : xRet Γ (xKi K)) {a0 : Nat} {t : xT} {rc rs : Nat} (h : V_J5_isLatin1_aae02_0 K a0 t) : xX Γ k_J5_isLatin1_aae02 0 [(0, .ref a0)] [] t rc rs := by
  unfold V_J5_isLatin1_aae02_0 at h
  refine x_gets (v := .int 1) dJ5_isLatin1_aae02_0 (List.mem_of_getElem? (i := 0) rfl) xw115 ?_
  obtain ⟨h1, h2⟩ := h
  refine x_if_eq (tgt := 17) dJ5_isLatin1_aae02_3 (by decide) (fun q => ?_) (fun q => ?_)
  · have h := h1 q
    refine x_iconst (v := (0 : Int32)) dJ5_isLatin1_aae02_17 (by decide) ?_
    exact x_zret dJ5_isLatin1_aae02_18 hr ht (by decide) ⟨_, rfl, h⟩
  · have h := h2 q
    refine x_aload_n 0 dJ5_isLatin1_aae02_6 rfl rfl ?_
    obtain ⟨fs, hf, x_1, hv, h⟩ := h
    refine x_get dJ5_isLatin1_aae02_7 xf_J5_22 hf hv ?_
    obtain ⟨h1, h2⟩ := h
    refine x_if_ne (tgt := 17) dJ5_isLatin1_aae02_10 (by decide) (fun q => ?_) (fun q => ?_)
    · have h := h1 q
      refine x_iconst (v := (0 : Int32)) dJ5_isLatin1_aae02_17 (by decide) ?_
      exact x_zret dJ5_isLatin1_aae02_18 hr ht (by decide) ⟨_, rfl, h⟩
    · have h := h2 q
      refine x_iconst (v := (1 : Int32)) dJ5_isLatin1_aae02_13 (by decide) ?_
      refine x_goto (tgt := 18) dJ5_isLatin1_aae02_14 (by decide) ?_
      exact x_zret dJ5_isLatin1_aae02_18 hr ht (by decide) ⟨_, rfl, h⟩
theorem M_J5_isLatin1_aae02 {l : Launch} {G : xG} (hl : l.stackTraces = false) {a0 : Nat} {t : xT} {K : Int32 → xT → Prop} (h : V_J5_isLatin1_aae02_0 K a0 t) : xMet l G yJ5_isLatin1_aae02 k_J5_isLatin1_aae02 (some .boolean) [.ref a0] t (xKi K) 0 0 := xMet.of (by decide +kernel) rfl hl (Nat.le_of_ble_eq_true rfl) (fun Γ e1 e2 ht hn hr => by subst e1; subst e2; exact S_J5_isLatin1_aae02_0 hl ht hr h)
/-! java/lang/StringLatin1.canEncode(C)Z -/
def V_J1_canEncode_fc78d_0 (K : Int32 → xT → Prop) (x0 : Int32) (t : xT) : Prop :=
  (((255 : Int32) < x0 → K (0 : Int32) t) ∧ (¬ (255 : Int32) < x0 → K (1 : Int32) t))
set_option maxRecDepth 20000 in
theorem S_J1_canEncode_fc78d_0 {Γ : xΓ} {K : Int32 → xT → Prop} (hl : (gl Γ).stackTraces = false) (ht : (gM Γ).sig.returnType = (some .boolean)) (hr : xRet Γ (xKi K)) {x0 : Int32} {t : xT} {rc rs : Nat} (h : V_J1_canEncode_fc78d_0 K x0 t) : xX Γ k_J1_canEncode_fc78d 0 [(0, .int x0)] [] t rc rs := by
  unfold V_J1_canEncode_fc78d_0 at h
  refine x_iload_n 0 dJ1_canEncode_fc78d_0 rfl rfl ?_
  refine x_sipush (v := (255 : Int32)) dJ1_canEncode_fc78d_1 (by decide) ?_
  obtain ⟨h1, h2⟩ := h
  refine x_icmp_gt (tgt := 11) dJ1_canEncode_fc78d_4 (by decide) (fun q => ?_) (fun q => ?_)
  · have h := h1 q
    refine x_iconst (v := (0 : Int32)) dJ1_canEncode_fc78d_11 (by decide) ?_
    exact x_zret dJ1_canEncode_fc78d_12 hr ht (by decide) ⟨_, rfl, h⟩
  · have h := h2 q
    refine x_iconst (v := (1 : Int32)) dJ1_canEncode_fc78d_7 (by decide) ?_
    refine x_goto (tgt := 12) dJ1_canEncode_fc78d_8 (by decide) ?_
    exact x_zret dJ1_canEncode_fc78d_12 hr ht (by decide) ⟨_, rfl, h⟩
theorem M_J1_canEncode_fc78d {l : Launch} {G : xG} (hl : l.stackTraces = false) {x0 : Int32} {t : xT} {K : Int32 → xT → Prop} (h : V_J1_canEncode_fc78d_0 K x0 t) : xMet l G yJ1_canEncode_fc78d k_J1_canEncode_fc78d (some .boolean) [.int x0] t (xKi K) 0 0 := xMet.of (by decide +kernel) rfl hl (Nat.le_of_ble_eq_true rfl) (fun Γ e1 e2 ht hn hr => by subst e1; subst e2; exact S_J1_canEncode_fc78d_0 hl ht hr h)
/-! java/lang/AbstractStringBuilder.append(C)Ljava/lang/AbstractStringBuilder; -/
def V_J5_append_3fe6f_45 (K : Option Nat → xT → Prop) (a0 : Nat) (x1 : Int32) (t : xT) (rc rs : Nat) : Prop :=
  (xis t a0 9 ∧ V_J5_isLatin1_aae02_0 (fun x_2 t_1 => ((x_2 = 0 → xgR t_1 a0 9 0 fun a_3 => xgI t_1 a0 9 3 fun x_4 => (xpF t_1 a0 9 3 (.int (x_4 + (1 : Int32))) fun t_5 => False)) ∧ (¬ x_2 = 0 → False))) a0 t)
set_option maxRecDepth 20000 in
theorem S_J5_append_3fe6f_45 {Γ : xΓ} {K : Option Nat → xT → Prop} (hl : (gl Γ).stackTraces = false) (ht : (gM Γ).sig.returnType = (some (.object "java/lang/AbstractStringBuilder"))) (hr : xRet Γ (xKr K)) {a0 : Nat} {x1 : Int32} {t : xT} {rc rs : Nat} (h : V_J5_append_3fe6f_45 K a0 x1 t rc rs) : xX Γ k_J5_append_3fe6f 45 [(0, .ref a0), (1, .int x1)] [] t rc rs := by
  unfold V_J5_append_3fe6f_45 at h
  refine x_aload_n 0 dJ5_append_3fe6f_45 rfl rfl ?_
  obtain ⟨⟨fs, hf⟩, h⟩ := h
  refine x_invV (as := []) (rest := []) dJ5_append_3fe6f_46 (q := (RJ4, TJ4, 4)) rfl xc_J5_append_3fe6f_83 hf (M_J5_isLatin1_aae02 hl h) rfl rfl (Nat.le_of_ble_eq_true rfl) (Nat.zero_le _) (Nat.zero_le _) (xk_i fun x_2 t_1 h => ?_)
  obtain ⟨h1, h2⟩ := h
  refine x_if_eq (tgt := 56) dJ5_append_3fe6f_49 (by decide) (fun q => ?_) (fun q => ?_)
  · have h := h1 q
    refine x_aload_n 0 dJ5_append_3fe6f_56 rfl rfl ?_
    obtain ⟨fs, hf, a_3, hv, h⟩ := h
    refine x_get dJ5_append_3fe6f_57 xf_J5_15 hf hv ?_
    refine x_aload_n 0 dJ5_append_3fe6f_60 rfl rfl ?_
    refine x_dup dJ5_append_3fe6f_61 rfl ?_
    obtain ⟨fs, hf, x_4, hv, h⟩ := h
    refine x_get dJ5_append_3fe6f_62 xf_J5_79 hf hv ?_
    refine x_dup_x1 dJ5_append_3fe6f_65 rfl rfl ?_
    refine x_iconst (v := (1 : Int32)) dJ5_append_3fe6f_66 (by decide) ?_
    refine x_iadd dJ5_append_3fe6f_67 ?_
    obtain ⟨fs, hf, hk, h⟩ := h
    refine x_put (v := .int (x_4 + (1 : Int32))) dJ5_append_3fe6f_68 xp_J5_79 hf rfl rfl hk ?_
    generalize hT : xup t_1 a0 _ = t_5 at h ⊢
    clear hT
    refine x_iload_n 1 dJ5_append_3fe6f_71 rfl rfl ?_
    exact h.elim
  · have h := h2 q
    refine x_aload_n 0 dJ5_append_3fe6f_52 rfl rfl ?_
    exact h.elim
def V_J5_append_3fe6f_0 (K : Option Nat → xT → Prop) (a0 : Nat) (x1 : Int32) (t : xT) (rc rs : Nat) : Prop :=
  xgI t a0 9 3 fun x_1 => (xis t a0 9 ∧ ∃ m_3 z_4 : Nat, m_3 ≤ rc ∧ z_4 ≤ rs ∧ V_J5_ensureCapacityInternal_d00df_0 (fun t_2 => (xis t_2 a0 9 ∧ V_J5_isLatin1_aae02_0 (fun x_6 t_5 => ((x_6 = 0 → V_J5_append_3fe6f_45 K a0 x1 t_5 (rc - m_3) (rs - z_4)) ∧ (¬ x_6 = 0 → (V_J1_canEncode_fc78d_0 (fun x_8 t_7 => ((x_8 = 0 → V_J5_append_3fe6f_45 K a0 x1 t_7 (rc - m_3) (rs - z_4)) ∧ (¬ x_8 = 0 → xgR t_7 a0 9 0 fun a_9 => xgI t_7 a0 9 3 fun x_10 => (xpF t_7 a0 9 3 (.int (x_10 + (1 : Int32))) fun t_11 => xsI 3 t_11 a_9 x_10 (vp_nar .byte x1.toInt8.toInt32) fun t_12 => K (some a0) t_12)))) x1 t_5)))) a0 t_2)) a0 (x_1 + (1 : Int32)) t m_3 z_4)
set_option maxRecDepth 20000 in
theorem S_J5_append_3fe6f_0 {Γ : xΓ} {K : Option Nat → xT → Prop} (hl : (gl Γ).stackTraces = false) (ht : (gM Γ).sig.returnType = (some (.object "java/lang/AbstractStringBuilder"))) (hr : xRet Γ (xKr K)) {a0 : Nat} {x1 : Int32} {t : xT} {rc rs : Nat} (h : V_J5_append_3fe6f_0 K a0 x1 t rc rs) : xX Γ k_J5_append_3fe6f 0 [(0, .ref a0), (1, .int x1)] [] t rc rs := by
  unfold V_J5_append_3fe6f_0 at h
  refine x_aload_n 0 dJ5_append_3fe6f_0 rfl rfl ?_
  refine x_aload_n 0 dJ5_append_3fe6f_1 rfl rfl ?_
  obtain ⟨fs, hf, x_1, hv, h⟩ := h
  refine x_get dJ5_append_3fe6f_2 xf_J5_79 hf hv ?_
  refine x_iconst (v := (1 : Int32)) dJ5_append_3fe6f_5 (by decide) ?_
  refine x_iadd dJ5_append_3fe6f_6 ?_
  obtain ⟨⟨fs, hf⟩, h⟩ := h
  obtain ⟨m_3, z_4, hm, hs, h⟩ := h
  refine x_invV (as := [.int (x_1 + (1 : Int32))]) (rest := []) dJ5_append_3fe6f_7 (q := (RJ4, TJ4, 4)) rfl xc_J5_append_3fe6f_100 hf (M_J5_ensureCapacityInternal_d00df hl h) rfl rfl (Nat.le_of_ble_eq_true rfl) hm hs (xk_v fun t_2 h => ?_)
  refine x_aload_n 0 dJ5_append_3fe6f_10 rfl rfl ?_
  obtain ⟨⟨fs, hf⟩, h⟩ := h
  refine x_invV (as := []) (rest := []) dJ5_append_3fe6f_11 (q := (RJ4, TJ4, 4)) rfl xc_J5_append_3fe6f_83 hf (M_J5_isLatin1_aae02 hl h) rfl rfl (Nat.le_of_ble_eq_true rfl) (Nat.zero_le _) (Nat.zero_le _) (xk_i fun x_6 t_5 h => ?_)
  obtain ⟨h1, h2⟩ := h
  refine x_if_eq (tgt := 45) dJ5_append_3fe6f_14 (by decide) (fun q => ?_) (fun q => ?_)
  · have h := h1 q
    exact S_J5_append_3fe6f_45 hl ht hr  h
  · have h := h2 q
    refine x_iload_n 1 dJ5_append_3fe6f_17 rfl rfl ?_
    refine x_invS (as := [.int x1]) (rest := []) dJ5_append_3fe6f_18 xc_J5_append_3fe6f_191 (M_J1_canEncode_fc78d hl h) rfl rfl (Nat.le_of_ble_eq_true rfl) (Nat.zero_le _) (Nat.zero_le _) (xk_i fun x_8 t_7 h => ?_)
    obtain ⟨h1, h2⟩ := h
    refine x_if_eq (tgt := 45) dJ5_append_3fe6f_21 (by decide) (fun q => ?_) (fun q => ?_)
    · have h := h1 q
      exact S_J5_append_3fe6f_45 hl ht hr  h
    · have h := h2 q
      refine x_aload_n 0 dJ5_append_3fe6f_24 rfl rfl ?_
      obtain ⟨fs, hf, a_9, hv, h⟩ := h
      refine x_get dJ5_append_3fe6f_25 xf_J5_15 hf hv ?_
      refine x_aload_n 0 dJ5_append_3fe6f_28 rfl rfl ?_
      refine x_dup dJ5_append_3fe6f_29 rfl ?_
      obtain ⟨fs, hf, x_10, hv, h⟩ := h
      refine x_get dJ5_append_3fe6f_30 xf_J5_79 hf hv ?_
      refine x_dup_x1 dJ5_append_3fe6f_33 rfl rfl ?_
      refine x_iconst (v := (1 : Int32)) dJ5_append_3fe6f_34 (by decide) ?_
      refine x_iadd dJ5_append_3fe6f_35 ?_
      obtain ⟨fs, hf, hk, h⟩ := h
      refine x_put (v := .int (x_10 + (1 : Int32))) dJ5_append_3fe6f_36 xp_J5_79 hf rfl rfl hk ?_
      generalize hT : xup t_7 a0 _ = t_11 at h ⊢
      clear hT
      refine x_iload_n 1 dJ5_append_3fe6f_39 rfl rfl ?_
      refine x_i2b dJ5_append_3fe6f_40 ?_
      obtain ⟨n, f, hf, hi, h⟩ := h
      refine x_bast dJ5_append_3fe6f_41 hf hi ?_
      generalize hT : xup t_11 a_9 _ = t_12 at h ⊢
      clear hT
      refine x_goto (tgt := 75) dJ5_append_3fe6f_42 (by decide) ?_
      refine x_aload_n 0 dJ5_append_3fe6f_75 rfl rfl ?_
      exact x_aret (o := (some a0)) dJ5_append_3fe6f_76 hr ht (Or.inl ⟨_, rfl⟩) ⟨_, rfl, h⟩
theorem M_J5_append_3fe6f {l : Launch} {G : xG} (hl : l.stackTraces = false) {a0 : Nat} {x1 : Int32} {t : xT} {K : Option Nat → xT → Prop} {rc rs : Nat} (h : V_J5_append_3fe6f_0 K a0 x1 t rc rs) : xMet l G yJ5_append_3fe6f k_J5_append_3fe6f (some (.object "java/lang/AbstractStringBuilder")) [.ref a0, .int x1] t (xKr K) rc rs := xMet.of (by decide +kernel) rfl hl (Nat.le_of_ble_eq_true rfl) (fun Γ e1 e2 ht hn hr => by subst e1; subst e2; exact S_J5_append_3fe6f_0 hl ht hr h)
/-! java/lang/StringBuilder.append(C)Ljava/lang/StringBuilder; -/
def V_J4_append_cf468_0 (K : Option Nat → xT → Prop) (a0 : Nat) (x1 : Int32) (t : xT) (rc rs : Nat) : Prop :=
  (xis t a0 9 ∧ ∃ m_3 z_4 : Nat, m_3 ≤ rc ∧ z_4 ≤ rs ∧ V_J5_append_3fe6f_0 (fun o_2 t_1 => K (some a0) t_1) a0 x1 t m_3 z_4)
set_option maxRecDepth 20000 in
theorem S_J4_append_cf468_0 {Γ : xΓ} {K : Option Nat → xT → Prop} (hl : (gl Γ).stackTraces = false) (ht : (gM Γ).sig.returnType = (some (.object "java/lang/StringBuilder"))) (hr : xRet Γ (xKr K)) {a0 : Nat} {x1 : Int32} {t : xT} {rc rs : Nat} (h : V_J4_append_cf468_0 K a0 x1 t rc rs) : xX Γ k_J4_append_cf468 0 [(0, .ref a0), (1, .int x1)] [] t rc rs := by
  unfold V_J4_append_cf468_0 at h
  refine x_aload_n 0 dJ4_append_cf468_0 rfl rfl ?_
  refine x_iload_n 1 dJ4_append_cf468_1 rfl rfl ?_
  obtain ⟨⟨fs, hf⟩, h⟩ := h
  obtain ⟨m_3, z_4, hm, hs, h⟩ := h
  refine x_invSU (as := [.int x1]) (rest := []) dJ4_append_cf468_2 (q := (RJ4, TJ4, 4)) rfl xc_J4_append_cf468_50 hf (M_J5_append_3fe6f hl h) rfl rfl (Nat.le_of_ble_eq_true rfl) hm hs (xk_r fun o_2 t_1 h => ?_)
  refine x_pop dJ4_append_cf468_5 xcat_rf ?_
  refine x_aload_n 0 dJ4_append_cf468_6 rfl rfl ?_
  exact x_aret (o := (some a0)) dJ4_append_cf468_7 hr ht (Or.inl ⟨_, rfl⟩) ⟨_, rfl, h⟩
theorem M_J4_append_cf468 {l : Launch} {G : xG} (hl : l.stackTraces = false) {a0 : Nat} {x1 : Int32} {t : xT} {K : Option Nat → xT → Prop} {rc rs : Nat} (h : V_J4_append_cf468_0 K a0 x1 t rc rs) : xMet l G yJ4_append_cf468 k_J4_append_cf468 (some (.object "java/lang/StringBuilder")) [.ref a0, .int x1] t (xKr K) rc rs := xMet.of (by decide +kernel) rfl hl (Nat.le_of_ble_eq_true rfl) (fun Γ e1 e2 ht hn hr => by subst e1; subst e2; exact S_J4_append_cf468_0 hl ht hr h)
/-! RentStream.writeDigits(Ljava/lang/StringBuilder;II)V -/
def VS_X7_writeDigits_2 (R2 : Nat → Int32 → Int32 → xT → Nat → Nat → Prop) (K : xT → Prop) (a0 : Nat) (x1 : Int32) (x3 : Int32) (t : xT) (rc rs : Nat) : Prop :=
  ((x3 ≤ 0 → K t) ∧ (¬ x3 ≤ 0 → (¬ x3 = 0 ∧ (¬ (10 : Int32) = 0 ∧ (xis t a0 9 ∧ ∃ m_3 z_4 : Nat, m_3 ≤ rc ∧ z_4 ≤ rs ∧ V_J4_append_cf468_0 (fun o_2 t_1 => (¬ (10 : Int32) = 0 ∧ R2 a0 x1 (x3 / (10 : Int32)) t_1 (rc - m_3) (rs - z_4))) a0 ((((48 : Int32) + (xrem (x1 / x3) (10 : Int32))).toUInt32 % 65536).toInt32) t m_3 z_4)))))
def V_X7_writeDigits_2 (K : xT → Prop) (n : Nat) : Nat → Int32 → Int32 → xT → Nat → Nat → Prop := Nat.rec (fun _ _ _ _ _ _ => False) (fun _ ih => VS_X7_writeDigits_2 ih K) n
set_option maxRecDepth 20000 in
theorem S_X7_writeDigits_2 {Γ : xΓ} {K : xT → Prop} (hl : (gl Γ).stackTraces = false) (ht : (gM Γ).sig.returnType = none) (hr : xRet Γ (xKv K)) : ∀ (n : Nat) (a0 : Nat) (x1 : Int32) (x3 : Int32) (t : xT) (rc rs : Nat), V_X7_writeDigits_2 K n a0 x1 x3 t rc rs → xX Γ k_X7_writeDigits 2 [(0, .ref a0), (1, .int x1), (3, .int x3)] [] t rc rs := by
  intro n
  induction n with
  | zero =>
    intro a0 x1 x3 t rc rs h
    exact h.elim
  | succ n ih =>
    intro a0 x1 x3 t rc rs h
    replace h : VS_X7_writeDigits_2 (V_X7_writeDigits_2 K n) K a0 x1 x3 t rc rs := h
    unfold VS_X7_writeDigits_2 at h
    refine x_iload_n 2 dX7_writeDigits_2 rfl rfl ?_
    obtain ⟨h1, h2⟩ := h
    refine x_if_le (tgt := 29) dX7_writeDigits_3 (by decide) (fun q => ?_) (fun q => ?_)
    · have h := h1 q
      exact x_vret dX7_writeDigits_29 hr ht ⟨rfl, h⟩
    · have h := h2 q
      refine x_aload_n 0 dX7_writeDigits_6 rfl rfl ?_
      refine x_bipush (v := (48 : Int32)) dX7_writeDigits_7 (by decide) ?_
      refine x_iload_n 1 dX7_writeDigits_9 rfl rfl ?_
      refine x_iload_n 2 dX7_writeDigits_10 rfl rfl ?_
      obtain ⟨q, h⟩ := h
      refine x_idiv dX7_writeDigits_11 q ?_
      refine x_bipush (v := (10 : Int32)) dX7_writeDigits_12 (by decide) ?_
      obtain ⟨q, h⟩ := h
      refine x_irem dX7_writeDigits_14 q ?_
      refine x_iadd dX7_writeDigits_15 ?_
      refine x_i2c dX7_writeDigits_16 ?_
      obtain ⟨⟨fs, hf⟩, h⟩ := h
      obtain ⟨m_3, z_4, hm, hs, h⟩ := h
      refine x_invV (as := [.int (((48 : Int32) + (xrem (x1 / x3) (10 : Int32))).toUInt32 % 65536).toInt32]) (rest := []) dX7_writeDigits_17 (q := (RJ4, TJ4, 4)) rfl xc_X7_writeDigits_375 hf (M_J4_append_cf468 hl h) rfl rfl (Nat.le_of_ble_eq_true rfl) hm hs (xk_r fun o_2 t_1 h => ?_)
      refine x_pop dX7_writeDigits_20 xcat_rf ?_
      refine x_iload_n 2 dX7_writeDigits_21 rfl rfl ?_
      refine x_bipush (v := (10 : Int32)) dX7_writeDigits_22 (by decide) ?_
      obtain ⟨q, h⟩ := h
      refine x_idiv dX7_writeDigits_24 q ?_
      refine x_istore_n (L' := [(3, .int (x3 / (10 : Int32))), (0, .ref a0), (1, .int x1)]) dX7_writeDigits_25 rfl (by decide) rfl ?_
      refine x_goto (tgt := 2) dX7_writeDigits_26 (by decide) ?_
      refine x_sub (L' := [(0, .ref a0), (1, .int x1), (3, .int (x3 / (10 : Int32)))]) [1, 2, 0] rfl ?_
      exact ih a0 x1 (x3 / (10 : Int32)) t_1 (rc - m_3) (rs - z_4) h
def V_X7_writeDigits_0 (K : xT → Prop) (a0 : Nat) (x1 : Int32) (x2 : Int32) (t : xT) (rc rs : Nat) : Prop :=
  ∃ f_1 : Nat, V_X7_writeDigits_2 K f_1 a0 x1 x2 t rc rs
set_option maxRecDepth 20000 in
theorem S_X7_writeDigits_0 {Γ : xΓ} {K : xT → Prop} (hl : (gl Γ).stackTraces = false) (ht : (gM Γ).sig.returnType = none) (hr : xRet Γ (xKv K)) {a0 : Nat} {x1 : Int32} {x2 : Int32} {t : xT} {rc rs : Nat} (h : V_X7_writeDigits_0 K a0 x1 x2 t rc rs) : xX Γ k_X7_writeDigits 0 [(0, .ref a0), (1, .int x1), (2, .int x2)] [] t rc rs := by
  unfold V_X7_writeDigits_0 at h
  refine x_iload_n 2 dX7_writeDigits_0 rfl rfl ?_
  refine x_istore_n (L' := [(3, .int x2), (0, .ref a0), (1, .int x1), (2, .int x2)]) dX7_writeDigits_1 rfl (by decide) rfl ?_
  obtain ⟨f_1, h⟩ := h
  refine x_sub (L' := [(0, .ref a0), (1, .int x1), (3, .int x2)]) [1, 2, 0] rfl ?_
  exact S_X7_writeDigits_2 hl ht hr  f_1 a0 x1 x2 t rc rs h
theorem M_X7_writeDigits {l : Launch} {G : xG} (hl : l.stackTraces = false) {a0 : Nat} {x1 : Int32} {x2 : Int32} {t : xT} {K : xT → Prop} {rc rs : Nat} (h : V_X7_writeDigits_0 K a0 x1 x2 t rc rs) : xMet l G yX7_writeDigits k_X7_writeDigits none [.ref a0, .int x1, .int x2] t (xKv K) rc rs := xMet.of (by decide +kernel) rfl hl (Nat.le_of_ble_eq_true rfl) (fun Γ e1 e2 ht hn hr => by subst e1; subst e2; exact S_X7_writeDigits_0 hl ht hr h)
/-! java/lang/Integer.getChars(II[B)I -/
def VS_J6_getChars_ba4f3_22 (E : Nat → Nat) (R22 : Int32 → Nat → Int32 → Int32 → xT → Prop) (K : Int32 → xT → Prop) (x0 : Int32) (a2 : Nat) (x5 : Int32) (x6 : Int32) (t : xT) : Prop :=
  (((-100 : Int32) < x0 → xaB t (E 1) (-x0) fun x_1 => xsI 3 t a2 (x5 + (-1 : Int32)) (vp_nar .byte x_1) fun t_2 => (((-9 : Int32) ≤ x0 → ((x6 = 0 → K (x5 + (-1 : Int32)) t_2) ∧ (¬ x6 = 0 → xsI 3 t_2 a2 ((x5 + (-1 : Int32)) + (-1 : Int32)) (vp_nar .byte (45 : Int32)) fun t_3 => K ((x5 + (-1 : Int32)) + (-1 : Int32)) t_3))) ∧ (¬ (-9 : Int32) ≤ x0 → xaB t_2 (E 2) (-x0) fun x_4 => xsI 3 t_2 a2 ((x5 + (-1 : Int32)) + (-1 : Int32)) (vp_nar .byte x_4) fun t_5 => ((x6 = 0 → K ((x5 + (-1 : Int32)) + (-1 : Int32)) t_5) ∧ (¬ x6 = 0 → xsI 3 t_5 a2 (((x5 + (-1 : Int32)) + (-1 : Int32)) + (-1 : Int32)) (vp_nar .byte (45 : Int32)) fun t_6 => K (((x5 + (-1 : Int32)) + (-1 : Int32)) + (-1 : Int32)) t_6))))) ∧ (¬ (-100 : Int32) < x0 → (¬ (100 : Int32) = 0 ∧ xaB t (E 1) (((x0 / (100 : Int32)) * (100 : Int32)) - x0) fun x_7 => xsI 3 t a2 (x5 + (-1 : Int32)) (vp_nar .byte x_7) fun t_8 => xaB t_8 (E 2) (((x0 / (100 : Int32)) * (100 : Int32)) - x0) fun x_9 => xsI 3 t_8 a2 ((x5 + (-1 : Int32)) + (-1 : Int32)) (vp_nar .byte x_9) fun t_10 => R22 (x0 / (100 : Int32)) a2 ((x5 + (-1 : Int32)) + (-1 : Int32)) x6 t_10)))
def V_J6_getChars_ba4f3_22 (E : Nat → Nat) (K : Int32 → xT → Prop) (n : Nat) : Int32 → Nat → Int32 → Int32 → xT → Prop := Nat.rec (fun _ _ _ _ _ => False) (fun _ ih => VS_J6_getChars_ba4f3_22 E ih K) n
set_option maxRecDepth 20000 in
theorem S_J6_getChars_ba4f3_22 {Γ : xΓ} {K : Int32 → xT → Prop} (hl : (gl Γ).stackTraces = false) (ht : (gM Γ).sig.returnType = (some .int)) (hr : xRet Γ (xKi K)) : ∀ (n : Nat) (x0 : Int32) (a2 : Nat) (x5 : Int32) (x6 : Int32) (t : xT) (rc rs : Nat), V_J6_getChars_ba4f3_22 (gG Γ).2.2.2 K n x0 a2 x5 x6 t → xX Γ k_J6_getChars_ba4f3 22 [(0, .int x0), (2, .ref a2), (5, .int x5), (6, .int x6)] [] t rc rs := by
  intro n
  induction n with
  | zero =>
    intro x0 a2 x5 x6 t rc rs h
    exact h.elim
  | succ n ih =>
    intro x0 a2 x5 x6 t rc rs h
    replace h : VS_J6_getChars_ba4f3_22 (gG Γ).2.2.2 (V_J6_getChars_ba4f3_22 (gG Γ).2.2.2 K n) K x0 a2 x5 x6 t := h
    unfold VS_J6_getChars_ba4f3_22 at h
    refine x_iload_n 0 dJ6_getChars_ba4f3_22 rfl rfl ?_
    refine x_bipush (v := (-100 : Int32)) dJ6_getChars_ba4f3_23 (by decide) ?_
    obtain ⟨h1, h2⟩ := h
    refine x_icmp_gt (tgt := 72) dJ6_getChars_ba4f3_25 (by decide) (fun q => ?_) (fun q => ?_)
    · have h := h1 q
      refine x_aload_n 1 dJ6_getChars_ba4f3_72 rfl rfl ?_
      refine x_iinc (v := (x5 + (-1 : Int32))) (L' := [(5, .int (x5 + (-1 : Int32))), (0, .int x0), (2, .ref a2), (6, .int x6)]) (j := 2) dJ6_getChars_ba4f3_73 rfl rfl (by decide) rfl ?_
      refine x_iload 0 dJ6_getChars_ba4f3_76 rfl ?_
      refine x_gets (v := .ref ((gG Γ).2.2.2 1)) dJ6_getChars_ba4f3_78 (List.mem_of_getElem? (i := 2) rfl) xw947 ?_
      refine x_iload_n 1 dJ6_getChars_ba4f3_81 rfl rfl ?_
      refine x_ineg dJ6_getChars_ba4f3_82 ?_
      obtain ⟨k, n, f, hf, hk, hi, h⟩ := h
      refine x_bald dJ6_getChars_ba4f3_83 hf hk hi ?_
      generalize f _ = x_1 at h ⊢
      obtain ⟨n, f, hf, hi, h⟩ := h
      refine x_bast dJ6_getChars_ba4f3_84 hf hi ?_
      generalize hT : xup t a2 _ = t_2 at h ⊢
      clear hT
      refine x_iload_n 1 dJ6_getChars_ba4f3_85 rfl rfl ?_
      refine x_bipush (v := (-9 : Int32)) dJ6_getChars_ba4f3_86 (by decide) ?_
      obtain ⟨h1, h2⟩ := h
      refine x_icmp_ge (tgt := 104) dJ6_getChars_ba4f3_88 (by decide) (fun q => ?_) (fun q => ?_)
      · have h := h1 q
        refine x_iload 3 dJ6_getChars_ba4f3_104 rfl ?_
        obtain ⟨h1, h2⟩ := h
        refine x_if_eq (tgt := 118) dJ6_getChars_ba4f3_106 (by decide) (fun q => ?_) (fun q => ?_)
        · have h := h1 q
          refine x_iload 0 dJ6_getChars_ba4f3_118 rfl ?_
          exact x_zret dJ6_getChars_ba4f3_120 hr ht rfl ⟨_, rfl, h⟩
        · have h := h2 q
          refine x_aload_n 2 dJ6_getChars_ba4f3_109 rfl rfl ?_
          refine x_iinc (v := ((x5 + (-1 : Int32)) + (-1 : Int32))) (L' := [(5, .int ((x5 + (-1 : Int32)) + (-1 : Int32))), (0, .int x0), (2, .ref a2), (6, .int x6)]) (j := 0) dJ6_getChars_ba4f3_110 rfl rfl (by decide) rfl ?_
          refine x_iload 0 dJ6_getChars_ba4f3_113 rfl ?_
          refine x_bipush (v := (45 : Int32)) dJ6_getChars_ba4f3_115 (by decide) ?_
          obtain ⟨n, f, hf, hi, h⟩ := h
          refine x_bast dJ6_getChars_ba4f3_117 hf hi ?_
          generalize hT : xup t_2 a2 _ = t_3 at h ⊢
          clear hT
          refine x_iload 0 dJ6_getChars_ba4f3_118 rfl ?_
          exact x_zret dJ6_getChars_ba4f3_120 hr ht rfl ⟨_, rfl, h⟩
      · have h := h2 q
        refine x_aload_n 2 dJ6_getChars_ba4f3_91 rfl rfl ?_
        refine x_iinc (v := ((x5 + (-1 : Int32)) + (-1 : Int32))) (L' := [(5, .int ((x5 + (-1 : Int32)) + (-1 : Int32))), (0, .int x0), (2, .ref a2), (6, .int x6)]) (j := 0) dJ6_getChars_ba4f3_92 rfl rfl (by decide) rfl ?_
        refine x_iload 0 dJ6_getChars_ba4f3_95 rfl ?_
        refine x_gets (v := .ref ((gG Γ).2.2.2 2)) dJ6_getChars_ba4f3_97 (List.mem_of_getElem? (i := 3) rfl) xw949 ?_
        refine x_iload_n 1 dJ6_getChars_ba4f3_100 rfl rfl ?_
        refine x_ineg dJ6_getChars_ba4f3_101 ?_
        obtain ⟨k, n, f, hf, hk, hi, h⟩ := h
        refine x_bald dJ6_getChars_ba4f3_102 hf hk hi ?_
        generalize f _ = x_4 at h ⊢
        obtain ⟨n, f, hf, hi, h⟩ := h
        refine x_bast dJ6_getChars_ba4f3_103 hf hi ?_
        generalize hT : xup t_2 a2 _ = t_5 at h ⊢
        clear hT
        refine x_iload 3 dJ6_getChars_ba4f3_104 rfl ?_
        obtain ⟨h1, h2⟩ := h
        refine x_if_eq (tgt := 118) dJ6_getChars_ba4f3_106 (by decide) (fun q => ?_) (fun q => ?_)
        · have h := h1 q
          refine x_iload 0 dJ6_getChars_ba4f3_118 rfl ?_
          exact x_zret dJ6_getChars_ba4f3_120 hr ht rfl ⟨_, rfl, h⟩
        · have h := h2 q
          refine x_aload_n 2 dJ6_getChars_ba4f3_109 rfl rfl ?_
          refine x_iinc (v := (((x5 + (-1 : Int32)) + (-1 : Int32)) + (-1 : Int32))) (L' := [(5, .int (((x5 + (-1 : Int32)) + (-1 : Int32)) + (-1 : Int32))), (0, .int x0), (2, .ref a2), (6, .int x6)]) (j := 0) dJ6_getChars_ba4f3_110 rfl rfl (by decide) rfl ?_
          refine x_iload 0 dJ6_getChars_ba4f3_113 rfl ?_
          refine x_bipush (v := (45 : Int32)) dJ6_getChars_ba4f3_115 (by decide) ?_
          obtain ⟨n, f, hf, hi, h⟩ := h
          refine x_bast dJ6_getChars_ba4f3_117 hf hi ?_
          generalize hT : xup t_5 a2 _ = t_6 at h ⊢
          clear hT
          refine x_iload 0 dJ6_getChars_ba4f3_118 rfl ?_
          exact x_zret dJ6_getChars_ba4f3_120 hr ht rfl ⟨_, rfl, h⟩
    · have h := h2 q
      refine x_iload_n 0 dJ6_getChars_ba4f3_28 rfl rfl ?_
      refine x_bipush (v := (100 : Int32)) dJ6_getChars_ba4f3_29 (by decide) ?_
      obtain ⟨q, h⟩ := h
      refine x_idiv dJ6_getChars_ba4f3_31 q ?_
      refine x_istore_n (L' := [(3, .int (x0 / (100 : Int32))), (0, .int x0), (2, .ref a2), (5, .int x5), (6, .int x6)]) dJ6_getChars_ba4f3_32 rfl (by decide) rfl ?_
      refine x_iload_n 0 dJ6_getChars_ba4f3_33 rfl rfl ?_
      refine x_bipush (v := (100 : Int32)) dJ6_getChars_ba4f3_34 (by decide) ?_
      refine x_imul dJ6_getChars_ba4f3_36 ?_
      refine x_iload_n 1 dJ6_getChars_ba4f3_37 rfl rfl ?_
      refine x_isub dJ6_getChars_ba4f3_38 ?_
      refine x_istore (L' := [(4, .int (((x0 / (100 : Int32)) * (100 : Int32)) - x0)), (3, .int (x0 / (100 : Int32))), (0, .int x0), (2, .ref a2), (5, .int x5), (6, .int x6)]) dJ6_getChars_ba4f3_39 (by decide) rfl ?_
      refine x_iload_n 1 dJ6_getChars_ba4f3_41 rfl rfl ?_
      refine x_istore_n (L' := [(0, .int (x0 / (100 : Int32))), (4, .int (((x0 / (100 : Int32)) * (100 : Int32)) - x0)), (3, .int (x0 / (100 : Int32))), (2, .ref a2), (5, .int x5), (6, .int x6)]) dJ6_getChars_ba4f3_42 rfl (by decide) rfl ?_
      refine x_aload_n 3 dJ6_getChars_ba4f3_43 rfl rfl ?_
      refine x_iinc (v := (x5 + (-1 : Int32))) (L' := [(5, .int (x5 + (-1 : Int32))), (0, .int (x0 / (100 : Int32))), (4, .int (((x0 / (100 : Int32)) * (100 : Int32)) - x0)), (3, .int (x0 / (100 : Int32))), (2, .ref a2), (6, .int x6)]) (j := 4) dJ6_getChars_ba4f3_44 rfl rfl (by decide) rfl ?_
      refine x_iload 0 dJ6_getChars_ba4f3_47 rfl ?_
      refine x_gets (v := .ref ((gG Γ).2.2.2 1)) dJ6_getChars_ba4f3_49 (List.mem_of_getElem? (i := 2) rfl) xw947 ?_
      refine x_iload 2 dJ6_getChars_ba4f3_52 rfl ?_
      obtain ⟨k, n, f, hf, hk, hi, h⟩ := h
      refine x_bald dJ6_getChars_ba4f3_54 hf hk hi ?_
      generalize f _ = x_7 at h ⊢
      obtain ⟨n, f, hf, hi, h⟩ := h
      refine x_bast dJ6_getChars_ba4f3_55 hf hi ?_
      generalize hT : xup t a2 _ = t_8 at h ⊢
      clear hT
      refine x_aload_n 4 dJ6_getChars_ba4f3_56 rfl rfl ?_
      refine x_iinc (v := ((x5 + (-1 : Int32)) + (-1 : Int32))) (L' := [(5, .int ((x5 + (-1 : Int32)) + (-1 : Int32))), (0, .int (x0 / (100 : Int32))), (4, .int (((x0 / (100 : Int32)) * (100 : Int32)) - x0)), (3, .int (x0 / (100 : Int32))), (2, .ref a2), (6, .int x6)]) (j := 0) dJ6_getChars_ba4f3_57 rfl rfl (by decide) rfl ?_
      refine x_iload 0 dJ6_getChars_ba4f3_60 rfl ?_
      refine x_gets (v := .ref ((gG Γ).2.2.2 2)) dJ6_getChars_ba4f3_62 (List.mem_of_getElem? (i := 3) rfl) xw949 ?_
      refine x_iload 2 dJ6_getChars_ba4f3_65 rfl ?_
      obtain ⟨k, n, f, hf, hk, hi, h⟩ := h
      refine x_bald dJ6_getChars_ba4f3_67 hf hk hi ?_
      generalize f _ = x_9 at h ⊢
      obtain ⟨n, f, hf, hi, h⟩ := h
      refine x_bast dJ6_getChars_ba4f3_68 hf hi ?_
      generalize hT : xup t_8 a2 _ = t_10 at h ⊢
      clear hT
      refine x_goto (tgt := 22) dJ6_getChars_ba4f3_69 (by decide) ?_
      refine x_sub (L' := [(0, .int (x0 / (100 : Int32))), (2, .ref a2), (5, .int ((x5 + (-1 : Int32)) + (-1 : Int32))), (6, .int x6)]) [1, 4, 0, 5] rfl ?_
      exact ih (x0 / (100 : Int32)) a2 ((x5 + (-1 : Int32)) + (-1 : Int32)) x6 t_10 _ _ h
def V_J6_getChars_ba4f3_0 (E : Nat → Nat) (K : Int32 → xT → Prop) (x0 : Int32) (x1 : Int32) (a2 : Nat) (t : xT) : Prop :=
  ((0 ≤ x0 → ((¬ (0 : Int32) = 0 → ∃ f_1 : Nat, V_J6_getChars_ba4f3_22 E K f_1 x0 a2 x1 (0 : Int32) t) ∧ ((0 : Int32) = 0 → ∃ f_2 : Nat, V_J6_getChars_ba4f3_22 E K f_2 (-x0) a2 x1 (0 : Int32) t))) ∧ (¬ 0 ≤ x0 → ((¬ (1 : Int32) = 0 → ∃ f_3 : Nat, V_J6_getChars_ba4f3_22 E K f_3 x0 a2 x1 (1 : Int32) t) ∧ ((1 : Int32) = 0 → ∃ f_4 : Nat, V_J6_getChars_ba4f3_22 E K f_4 (-x0) a2 x1 (1 : Int32) t))))
set_option maxRecDepth 20000 in
theorem S_J6_getChars_ba4f3_0 {Γ : xΓ} {K : Int32 → xT → Prop} (hl : (gl Γ).stackTraces = false) (ht : (gM Γ).sig.returnType = (some .int)) (hr : xRet Γ (xKi K)) {x0 : Int32} {x1 : Int32} {a2 : Nat} {t : xT} {rc rs : Nat} (h : V_J6_getChars_ba4f3_0 (gG Γ).2.2.2 K x0 x1 a2 t) : xX Γ k_J6_getChars_ba4f3 0 [(0, .int x0), (1, .int x1), (2, .ref a2)] [] t rc rs := by
  unfold V_J6_getChars_ba4f3_0 at h
  refine x_iload_n 1 dJ6_getChars_ba4f3_0 rfl rfl ?_
  refine x_istore (L' := [(5, .int x1), (0, .int x0), (1, .int x1), (2, .ref a2)]) dJ6_getChars_ba4f3_1 (by decide) rfl ?_
  refine x_iload_n 1 dJ6_getChars_ba4f3_3 rfl rfl ?_
  obtain ⟨h1, h2⟩ := h
  refine x_if_ge (tgt := 11) dJ6_getChars_ba4f3_4 (by decide) (fun q => ?_) (fun q => ?_)
  · have h := h1 q
    refine x_iconst (v := (0 : Int32)) dJ6_getChars_ba4f3_11 (by decide) ?_
    refine x_istore (L' := [(6, .int (0 : Int32)), (5, .int x1), (0, .int x0), (1, .int x1), (2, .ref a2)]) dJ6_getChars_ba4f3_12 (by decide) rfl ?_
    refine x_iload 0 dJ6_getChars_ba4f3_14 rfl ?_
    obtain ⟨h1, h2⟩ := h
    refine x_if_ne (tgt := 22) dJ6_getChars_ba4f3_16 (by decide) (fun q => ?_) (fun q => ?_)
    · have h := h1 q
      obtain ⟨f_1, h⟩ := h
      refine x_sub (L' := [(0, .int x0), (2, .ref a2), (5, .int x1), (6, .int (0 : Int32))]) [2, 4, 1, 0] rfl ?_
      exact S_J6_getChars_ba4f3_22 hl ht hr  f_1 x0 a2 x1 (0 : Int32) t _ _ h
    · have h := h2 q
      refine x_iload_n 2 dJ6_getChars_ba4f3_19 rfl rfl ?_
      refine x_ineg dJ6_getChars_ba4f3_20 ?_
      refine x_istore_n (L' := [(0, .int (-x0)), (6, .int (0 : Int32)), (5, .int x1), (1, .int x1), (2, .ref a2)]) dJ6_getChars_ba4f3_21 rfl (by decide) rfl ?_
      obtain ⟨f_2, h⟩ := h
      refine x_sub (L' := [(0, .int (-x0)), (2, .ref a2), (5, .int x1), (6, .int (0 : Int32))]) [0, 4, 2, 1] rfl ?_
      exact S_J6_getChars_ba4f3_22 hl ht hr  f_2 (-x0) a2 x1 (0 : Int32) t _ _ h
  · have h := h2 q
    refine x_iconst (v := (1 : Int32)) dJ6_getChars_ba4f3_7 (by decide) ?_
    refine x_goto (tgt := 12) dJ6_getChars_ba4f3_8 (by decide) ?_
    refine x_istore (L' := [(6, .int (1 : Int32)), (5, .int x1), (0, .int x0), (1, .int x1), (2, .ref a2)]) dJ6_getChars_ba4f3_12 (by decide) rfl ?_
    refine x_iload 0 dJ6_getChars_ba4f3_14 rfl ?_
    obtain ⟨h1, h2⟩ := h
    refine x_if_ne (tgt := 22) dJ6_getChars_ba4f3_16 (by decide) (fun q => ?_) (fun q => ?_)
    · have h := h1 q
      obtain ⟨f_3, h⟩ := h
      refine x_sub (L' := [(0, .int x0), (2, .ref a2), (5, .int x1), (6, .int (1 : Int32))]) [2, 4, 1, 0] rfl ?_
      exact S_J6_getChars_ba4f3_22 hl ht hr  f_3 x0 a2 x1 (1 : Int32) t _ _ h
    · have h := h2 q
      refine x_iload_n 2 dJ6_getChars_ba4f3_19 rfl rfl ?_
      refine x_ineg dJ6_getChars_ba4f3_20 ?_
      refine x_istore_n (L' := [(0, .int (-x0)), (6, .int (1 : Int32)), (5, .int x1), (1, .int x1), (2, .ref a2)]) dJ6_getChars_ba4f3_21 rfl (by decide) rfl ?_
      obtain ⟨f_4, h⟩ := h
      refine x_sub (L' := [(0, .int (-x0)), (2, .ref a2), (5, .int x1), (6, .int (1 : Int32))]) [0, 4, 2, 1] rfl ?_
      exact S_J6_getChars_ba4f3_22 hl ht hr  f_4 (-x0) a2 x1 (1 : Int32) t _ _ h
theorem M_J6_getChars_ba4f3 {l : Launch} {G : xG} (hl : l.stackTraces = false) {x0 : Int32} {x1 : Int32} {a2 : Nat} {t : xT} {K : Int32 → xT → Prop} (h : V_J6_getChars_ba4f3_0 G.2.2.2 K x0 x1 a2 t) : xMet l G yJ6_getChars_ba4f3 k_J6_getChars_ba4f3 (some .int) [.int x0, .int x1, .ref a2] t (xKi K) 0 0 := xMet.of (by decide +kernel) rfl hl (Nat.le_of_ble_eq_true rfl) (fun Γ e1 e2 ht hn hr => by subst e1; subst e2; exact S_J6_getChars_ba4f3_0 hl ht hr h)
/-! java/lang/Integer.stringSize(I)I -/
def VS_J6_stringSize_0f7a4_16 (R16 : Int32 → Int32 → Int32 → Int32 → xT → Prop) (K : Int32 → xT → Prop) (x0 : Int32) (x1 : Int32) (x2 : Int32) (x3 : Int32) (t : xT) : Prop :=
  (((10 : Int32) ≤ x3 → K ((10 : Int32) + x1) t) ∧ (¬ (10 : Int32) ≤ x3 → ((x0 ≤ x2 → R16 x0 x1 ((10 : Int32) * x2) (x3 + 1) t) ∧ (¬ x0 ≤ x2 → K (x3 + x1) t))))
def V_J6_stringSize_0f7a4_16 (K : Int32 → xT → Prop) (n : Nat) : Int32 → Int32 → Int32 → Int32 → xT → Prop := Nat.rec (fun _ _ _ _ _ => False) (fun _ ih => VS_J6_stringSize_0f7a4_16 ih K) n
set_option maxRecDepth 20000 in
theorem S_J6_stringSize_0f7a4_16 {Γ : xΓ} {K : Int32 → xT → Prop} (hl : (gl Γ).stackTraces = false) (ht : (gM Γ).sig.returnType = (some .int)) (hr : xRet Γ (xKi K)) : ∀ (n : Nat) (x0 : Int32) (x1 : Int32) (x2 : Int32) (x3 : Int32) (t : xT) (rc rs : Nat), V_J6_stringSize_0f7a4_16 K n x0 x1 x2 x3 t → xX Γ k_J6_stringSize_0f7a4 16 [(0, .int x0), (1, .int x1), (2, .int x2), (3, .int x3)] [] t rc rs := by
  intro n
  induction n with
  | zero =>
    intro x0 x1 x2 x3 t rc rs h
    exact h.elim
  | succ n ih =>
    intro x0 x1 x2 x3 t rc rs h
    replace h : VS_J6_stringSize_0f7a4_16 (V_J6_stringSize_0f7a4_16 K n) K x0 x1 x2 x3 t := h
    unfold VS_J6_stringSize_0f7a4_16 at h
    refine x_iload_n 3 dJ6_stringSize_0f7a4_16 rfl rfl ?_
    refine x_bipush (v := (10 : Int32)) dJ6_stringSize_0f7a4_17 (by decide) ?_
    obtain ⟨h1, h2⟩ := h
    refine x_icmp_ge (tgt := 42) dJ6_stringSize_0f7a4_19 (by decide) (fun q => ?_) (fun q => ?_)
    · have h := h1 q
      refine x_bipush (v := (10 : Int32)) dJ6_stringSize_0f7a4_42 (by decide) ?_
      refine x_iload_n 1 dJ6_stringSize_0f7a4_44 rfl rfl ?_
      refine x_iadd dJ6_stringSize_0f7a4_45 ?_
      exact x_zret dJ6_stringSize_0f7a4_46 hr ht rfl ⟨_, rfl, h⟩
    · have h := h2 q
      refine x_iload_n 0 dJ6_stringSize_0f7a4_22 rfl rfl ?_
      refine x_iload_n 2 dJ6_stringSize_0f7a4_23 rfl rfl ?_
      obtain ⟨h1, h2⟩ := h
      refine x_icmp_le (tgt := 31) dJ6_stringSize_0f7a4_24 (by decide) (fun q => ?_) (fun q => ?_)
      · have h := h1 q
        refine x_bipush (v := (10 : Int32)) dJ6_stringSize_0f7a4_31 (by decide) ?_
        refine x_iload_n 2 dJ6_stringSize_0f7a4_33 rfl rfl ?_
        refine x_imul dJ6_stringSize_0f7a4_34 ?_
        refine x_istore_n (L' := [(2, .int ((10 : Int32) * x2)), (0, .int x0), (1, .int x1), (3, .int x3)]) dJ6_stringSize_0f7a4_35 rfl (by decide) rfl ?_
        refine x_iinc (v := (x3 + 1)) (L' := [(3, .int (x3 + 1)), (2, .int ((10 : Int32) * x2)), (0, .int x0), (1, .int x1)]) (j := 3) dJ6_stringSize_0f7a4_36 rfl rfl (by decide) rfl ?_
        refine x_goto (tgt := 16) dJ6_stringSize_0f7a4_39 (by decide) ?_
        refine x_sub (L' := [(0, .int x0), (1, .int x1), (2, .int ((10 : Int32) * x2)), (3, .int (x3 + 1))]) [2, 3, 1, 0] rfl ?_
        exact ih x0 x1 ((10 : Int32) * x2) (x3 + 1) t _ _ h
      · have h := h2 q
        refine x_iload_n 3 dJ6_stringSize_0f7a4_27 rfl rfl ?_
        refine x_iload_n 1 dJ6_stringSize_0f7a4_28 rfl rfl ?_
        refine x_iadd dJ6_stringSize_0f7a4_29 ?_
        exact x_zret dJ6_stringSize_0f7a4_30 hr ht rfl ⟨_, rfl, h⟩
def V_J6_stringSize_0f7a4_0 (K : Int32 → xT → Prop) (x0 : Int32) (t : xT) : Prop :=
  ((x0 < 0 → ∃ f_1 : Nat, V_J6_stringSize_0f7a4_16 K f_1 x0 (1 : Int32) (-10 : Int32) (1 : Int32) t) ∧ (¬ x0 < 0 → ∃ f_2 : Nat, V_J6_stringSize_0f7a4_16 K f_2 (-x0) (0 : Int32) (-10 : Int32) (1 : Int32) t))
set_option maxRecDepth 20000 in
theorem S_J6_stringSize_0f7a4_0 {Γ : xΓ} {K : Int32 → xT → Prop} (hl : (gl Γ).stackTraces = false) (ht : (gM Γ).sig.returnType = (some .int)) (hr : xRet Γ (xKi K)) {x0 : Int32} {t : xT} {rc rs : Nat} (h : V_J6_stringSize_0f7a4_0 K x0 t) : xX Γ k_J6_stringSize_0f7a4 0 [(0, .int x0)] [] t rc rs := by
  unfold V_J6_stringSize_0f7a4_0 at h
  refine x_iconst (v := (1 : Int32)) dJ6_stringSize_0f7a4_0 (by decide) ?_
  refine x_istore_n (L' := [(1, .int (1 : Int32)), (0, .int x0)]) dJ6_stringSize_0f7a4_1 rfl (by decide) rfl ?_
  refine x_iload_n 1 dJ6_stringSize_0f7a4_2 rfl rfl ?_
  obtain ⟨h1, h2⟩ := h
  refine x_if_lt (tgt := 11) dJ6_stringSize_0f7a4_3 (by decide) (fun q => ?_) (fun q => ?_)
  · have h := h1 q
    refine x_bipush (v := (-10 : Int32)) dJ6_stringSize_0f7a4_11 (by decide) ?_
    refine x_istore_n (L' := [(2, .int (-10 : Int32)), (1, .int (1 : Int32)), (0, .int x0)]) dJ6_stringSize_0f7a4_13 rfl (by decide) rfl ?_
    refine x_iconst (v := (1 : Int32)) dJ6_stringSize_0f7a4_14 (by decide) ?_
    refine x_istore_n (L' := [(3, .int (1 : Int32)), (2, .int (-10 : Int32)), (1, .int (1 : Int32)), (0, .int x0)]) dJ6_stringSize_0f7a4_15 rfl (by decide) rfl ?_
    obtain ⟨f_1, h⟩ := h
    refine x_sub (L' := [(0, .int x0), (1, .int (1 : Int32)), (2, .int (-10 : Int32)), (3, .int (1 : Int32))]) [3, 2, 1, 0] rfl ?_
    exact S_J6_stringSize_0f7a4_16 hl ht hr  f_1 x0 (1 : Int32) (-10 : Int32) (1 : Int32) t _ _ h
  · have h := h2 q
    refine x_iconst (v := (0 : Int32)) dJ6_stringSize_0f7a4_6 (by decide) ?_
    refine x_istore_n (L' := [(1, .int (0 : Int32)), (0, .int x0)]) dJ6_stringSize_0f7a4_7 rfl (by decide) rfl ?_
    refine x_iload_n 1 dJ6_stringSize_0f7a4_8 rfl rfl ?_
    refine x_ineg dJ6_stringSize_0f7a4_9 ?_
    refine x_istore_n (L' := [(0, .int (-x0)), (1, .int (0 : Int32))]) dJ6_stringSize_0f7a4_10 rfl (by decide) rfl ?_
    refine x_bipush (v := (-10 : Int32)) dJ6_stringSize_0f7a4_11 (by decide) ?_
    refine x_istore_n (L' := [(2, .int (-10 : Int32)), (0, .int (-x0)), (1, .int (0 : Int32))]) dJ6_stringSize_0f7a4_13 rfl (by decide) rfl ?_
    refine x_iconst (v := (1 : Int32)) dJ6_stringSize_0f7a4_14 (by decide) ?_
    refine x_istore_n (L' := [(3, .int (1 : Int32)), (2, .int (-10 : Int32)), (0, .int (-x0)), (1, .int (0 : Int32))]) dJ6_stringSize_0f7a4_15 rfl (by decide) rfl ?_
    obtain ⟨f_2, h⟩ := h
    refine x_sub (L' := [(0, .int (-x0)), (1, .int (0 : Int32)), (2, .int (-10 : Int32)), (3, .int (1 : Int32))]) [2, 3, 1, 0] rfl ?_
    exact S_J6_stringSize_0f7a4_16 hl ht hr  f_2 (-x0) (0 : Int32) (-10 : Int32) (1 : Int32) t _ _ h
theorem M_J6_stringSize_0f7a4 {l : Launch} {G : xG} (hl : l.stackTraces = false) {x0 : Int32} {t : xT} {K : Int32 → xT → Prop} (h : V_J6_stringSize_0f7a4_0 K x0 t) : xMet l G yJ6_stringSize_0f7a4 k_J6_stringSize_0f7a4 (some .int) [.int x0] t (xKi K) 0 0 := xMet.of (by decide +kernel) rfl hl (Nat.le_of_ble_eq_true rfl) (fun Γ e1 e2 ht hn hr => by subst e1; subst e2; exact S_J6_stringSize_0f7a4_0 hl ht hr h)
/-! java/lang/AbstractStringBuilder.append(I)Ljava/lang/AbstractStringBuilder; -/
def V_J5_append_c97b9_0 (E : Nat → Nat) (K : Option Nat → xT → Prop) (a0 : Nat) (x1 : Int32) (t : xT) (rc rs : Nat) : Prop :=
  xgI t a0 9 3 fun x_1 => (V_J6_stringSize_0f7a4_0 (fun x_3 t_2 => (xis t_2 a0 9 ∧ ∃ m_5 z_6 : Nat, m_5 ≤ rc ∧ z_6 ≤ rs ∧ V_J5_ensureCapacityInternal_d00df_0 (fun t_4 => (xis t_4 a0 9 ∧ V_J5_isLatin1_aae02_0 (fun x_8 t_7 => ((x_8 = 0 → xgR t_7 a0 9 0 fun a_9 => False) ∧ (¬ x_8 = 0 → xgR t_7 a0 9 0 fun a_10 => (V_J6_getChars_ba4f3_0 E (fun x_12 t_11 => (xpF t_11 a0 9 3 (.int (x_1 + x_3)) fun t_13 => K (some a0) t_13)) x1 (x_1 + x_3) a_10 t_7)))) a0 t_4)) a0 (x_1 + x_3) t_2 m_5 z_6)) x1 t)
set_option maxRecDepth 20000 in
theorem S_J5_append_c97b9_0 {Γ : xΓ} {K : Option Nat → xT → Prop} (hl : (gl Γ).stackTraces = false) (ht : (gM Γ).sig.returnType = (some (.object "java/lang/AbstractStringBuilder"))) (hr : xRet Γ (xKr K)) {a0 : Nat} {x1 : Int32} {t : xT} {rc rs : Nat} (h : V_J5_append_c97b9_0 (gG Γ).2.2.2 K a0 x1 t rc rs) : xX Γ k_J5_append_c97b9 0 [(0, .ref a0), (1, .int x1)] [] t rc rs := by
  unfold V_J5_append_c97b9_0 at h
  refine x_aload_n 0 dJ5_append_c97b9_0 rfl rfl ?_
  obtain ⟨fs, hf, x_1, hv, h⟩ := h
  refine x_get dJ5_append_c97b9_1 xf_J5_79 hf hv ?_
  refine x_istore_n (L' := [(2, .int x_1), (0, .ref a0), (1, .int x1)]) dJ5_append_c97b9_4 rfl (by decide) rfl ?_
  refine x_iload_n 0 dJ5_append_c97b9_5 rfl rfl ?_
  refine x_iload_n 2 dJ5_append_c97b9_6 rfl rfl ?_
  refine x_invS (as := [.int x1]) (rest := [.int x_1]) dJ5_append_c97b9_7 xc_J5_append_c97b9_245 (M_J6_stringSize_0f7a4 hl h) rfl rfl (Nat.le_of_ble_eq_true rfl) (Nat.zero_le _) (Nat.zero_le _) (xk_i fun x_3 t_2 h => ?_)
  refine x_iadd dJ5_append_c97b9_10 ?_
  refine x_istore_n (L' := [(3, .int (x_1 + x_3)), (2, .int x_1), (0, .ref a0), (1, .int x1)]) dJ5_append_c97b9_11 rfl (by decide) rfl ?_
  refine x_aload_n 2 dJ5_append_c97b9_12 rfl rfl ?_
  refine x_iload_n 0 dJ5_append_c97b9_13 rfl rfl ?_
  obtain ⟨⟨fs, hf⟩, h⟩ := h
  obtain ⟨m_5, z_6, hm, hs, h⟩ := h
  refine x_invV (as := [.int (x_1 + x_3)]) (rest := []) dJ5_append_c97b9_14 (q := (RJ4, TJ4, 4)) rfl xc_J5_append_c97b9_100 hf (M_J5_ensureCapacityInternal_d00df hl h) rfl rfl (Nat.le_of_ble_eq_true rfl) hm hs (xk_v fun t_4 h => ?_)
  refine x_aload_n 2 dJ5_append_c97b9_17 rfl rfl ?_
  obtain ⟨⟨fs, hf⟩, h⟩ := h
  refine x_invV (as := []) (rest := []) dJ5_append_c97b9_18 (q := (RJ4, TJ4, 4)) rfl xc_J5_append_c97b9_83 hf (M_J5_isLatin1_aae02 hl h) rfl rfl (Nat.le_of_ble_eq_true rfl) (Nat.zero_le _) (Nat.zero_le _) (xk_i fun x_8 t_7 h => ?_)
  obtain ⟨h1, h2⟩ := h
  refine x_if_eq (tgt := 37) dJ5_append_c97b9_21 (by decide) (fun q => ?_) (fun q => ?_)
  · have h := h1 q
    refine x_iload_n 3 dJ5_append_c97b9_37 rfl rfl ?_
    refine x_iload_n 1 dJ5_append_c97b9_38 rfl rfl ?_
    refine x_iload_n 0 dJ5_append_c97b9_39 rfl rfl ?_
    refine x_aload_n 2 dJ5_append_c97b9_40 rfl rfl ?_
    obtain ⟨fs, hf, a_9, hv, h⟩ := h
    refine x_get dJ5_append_c97b9_41 xf_J5_15 hf hv ?_
    exact h.elim
  · have h := h2 q
    refine x_iload_n 3 dJ5_append_c97b9_24 rfl rfl ?_
    refine x_iload_n 0 dJ5_append_c97b9_25 rfl rfl ?_
    refine x_aload_n 2 dJ5_append_c97b9_26 rfl rfl ?_
    obtain ⟨fs, hf, a_10, hv, h⟩ := h
    refine x_get dJ5_append_c97b9_27 xf_J5_15 hf hv ?_
    refine x_invS (as := [.int x1, .int (x_1 + x_3), .ref a_10]) (rest := []) dJ5_append_c97b9_30 xc_J5_append_c97b9_248 (M_J6_getChars_ba4f3 hl h) rfl rfl (Nat.le_of_ble_eq_true rfl) (Nat.zero_le _) (Nat.zero_le _) (xk_i fun x_12 t_11 h => ?_)
    refine x_pop dJ5_append_c97b9_33 rfl ?_
    refine x_goto (tgt := 48) dJ5_append_c97b9_34 (by decide) ?_
    refine x_aload_n 2 dJ5_append_c97b9_48 rfl rfl ?_
    refine x_iload_n 0 dJ5_append_c97b9_49 rfl rfl ?_
    obtain ⟨fs, hf, hk, h⟩ := h
    refine x_put (v := .int (x_1 + x_3)) dJ5_append_c97b9_50 xp_J5_79 hf rfl rfl hk ?_
    generalize hT : xup t_11 a0 _ = t_13 at h ⊢
    clear hT
    refine x_aload_n 2 dJ5_append_c97b9_53 rfl rfl ?_
    exact x_aret (o := (some a0)) dJ5_append_c97b9_54 hr ht (Or.inl ⟨_, rfl⟩) ⟨_, rfl, h⟩
theorem M_J5_append_c97b9 {l : Launch} {G : xG} (hl : l.stackTraces = false) {a0 : Nat} {x1 : Int32} {t : xT} {K : Option Nat → xT → Prop} {rc rs : Nat} (h : V_J5_append_c97b9_0 G.2.2.2 K a0 x1 t rc rs) : xMet l G yJ5_append_c97b9 k_J5_append_c97b9 (some (.object "java/lang/AbstractStringBuilder")) [.ref a0, .int x1] t (xKr K) rc rs := xMet.of (by decide +kernel) rfl hl (Nat.le_of_ble_eq_true rfl) (fun Γ e1 e2 ht hn hr => by subst e1; subst e2; exact S_J5_append_c97b9_0 hl ht hr h)
/-! java/lang/StringBuilder.append(I)Ljava/lang/StringBuilder; -/
def V_J4_append_bf812_0 (E : Nat → Nat) (K : Option Nat → xT → Prop) (a0 : Nat) (x1 : Int32) (t : xT) (rc rs : Nat) : Prop :=
  (xis t a0 9 ∧ ∃ m_3 z_4 : Nat, m_3 ≤ rc ∧ z_4 ≤ rs ∧ V_J5_append_c97b9_0 E (fun o_2 t_1 => K (some a0) t_1) a0 x1 t m_3 z_4)
set_option maxRecDepth 20000 in
theorem S_J4_append_bf812_0 {Γ : xΓ} {K : Option Nat → xT → Prop} (hl : (gl Γ).stackTraces = false) (ht : (gM Γ).sig.returnType = (some (.object "java/lang/StringBuilder"))) (hr : xRet Γ (xKr K)) {a0 : Nat} {x1 : Int32} {t : xT} {rc rs : Nat} (h : V_J4_append_bf812_0 (gG Γ).2.2.2 K a0 x1 t rc rs) : xX Γ k_J4_append_bf812 0 [(0, .ref a0), (1, .int x1)] [] t rc rs := by
  unfold V_J4_append_bf812_0 at h
  refine x_aload_n 0 dJ4_append_bf812_0 rfl rfl ?_
  refine x_iload_n 1 dJ4_append_bf812_1 rfl rfl ?_
  obtain ⟨⟨fs, hf⟩, h⟩ := h
  obtain ⟨m_3, z_4, hm, hs, h⟩ := h
  refine x_invSU (as := [.int x1]) (rest := []) dJ4_append_bf812_2 (q := (RJ4, TJ4, 4)) rfl xc_J4_append_bf812_53 hf (M_J5_append_c97b9 hl h) rfl rfl (Nat.le_of_ble_eq_true rfl) hm hs (xk_r fun o_2 t_1 h => ?_)
  refine x_pop dJ4_append_bf812_5 xcat_rf ?_
  refine x_aload_n 0 dJ4_append_bf812_6 rfl rfl ?_
  exact x_aret (o := (some a0)) dJ4_append_bf812_7 hr ht (Or.inl ⟨_, rfl⟩) ⟨_, rfl, h⟩
theorem M_J4_append_bf812 {l : Launch} {G : xG} (hl : l.stackTraces = false) {a0 : Nat} {x1 : Int32} {t : xT} {K : Option Nat → xT → Prop} {rc rs : Nat} (h : V_J4_append_bf812_0 G.2.2.2 K a0 x1 t rc rs) : xMet l G yJ4_append_bf812 k_J4_append_bf812 (some (.object "java/lang/StringBuilder")) [.ref a0, .int x1] t (xKr K) rc rs := xMet.of (by decide +kernel) rfl hl (Nat.le_of_ble_eq_true rfl) (fun Γ e1 e2 ht hn hr => by subst e1; subst e2; exact S_J4_append_bf812_0 hl ht hr h)
/-! RentStream.writeWhole(Ljava/lang/StringBuilder;I)V -/
def VS_X7_writeWhole_5 (E : Nat → Nat) (R5 : Nat → Int32 → Int32 → Int32 → xT → Nat → Nat → Prop) (K : xT → Prop) (a0 : Nat) (x1 : Int32) (x2 : Int32) (x3 : Int32) (t : xT) (rc rs : Nat) : Prop :=
  ((x3 ≤ 0 → K t) ∧ (¬ x3 ≤ 0 → (¬ x3 = 0 ∧ (¬ (1000 : Int32) = 0 ∧ ((x2 = 0 → ((0 < (xrem (x1 / x3) (1000 : Int32)) → (xis t a0 9 ∧ ∃ m_3 z_4 : Nat, m_3 ≤ rc ∧ z_4 ≤ rs ∧ V_J4_append_bf812_0 E (fun o_2 t_1 => (¬ (1000 : Int32) = 0 ∧ R5 a0 x1 (1 : Int32) (x3 / (1000 : Int32)) t_1 (rc - m_3) (rs - z_4))) a0 (xrem (x1 / x3) (1000 : Int32)) t m_3 z_4)) ∧ (¬ 0 < (xrem (x1 / x3) (1000 : Int32)) → ((¬ x3 = (1 : Int32) → (¬ (1000 : Int32) = 0 ∧ R5 a0 x1 x2 (x3 / (1000 : Int32)) t rc rs)) ∧ (x3 = (1 : Int32) → (xis t a0 9 ∧ ∃ m_7 z_8 : Nat, m_7 ≤ rc ∧ z_8 ≤ rs ∧ V_J4_append_bf812_0 E (fun o_6 t_5 => (¬ (1000 : Int32) = 0 ∧ R5 a0 x1 (1 : Int32) (x3 / (1000 : Int32)) t_5 (rc - m_7) (rs - z_8))) a0 (xrem (x1 / x3) (1000 : Int32)) t m_7 z_8)))))) ∧ (¬ x2 = 0 → (xis t a0 9 ∧ ∃ m_11 z_12 : Nat, m_11 ≤ rc ∧ z_12 ≤ rs ∧ V_J4_append_cf468_0 (fun o_10 t_9 => (∃ m_14 z_15 : Nat, m_14 ≤ (rc - m_11) ∧ z_15 ≤ (rs - z_12) ∧ V_X7_writeDigits_0 (fun t_13 => (¬ (1000 : Int32) = 0 ∧ R5 a0 x1 x2 (x3 / (1000 : Int32)) t_13 ((rc - m_11) - m_14) ((rs - z_12) - z_15))) a0 (xrem (x1 / x3) (1000 : Int32)) (100 : Int32) t_9 m_14 z_15)) a0 (46 : Int32) t m_11 z_12)))))))
def V_X7_writeWhole_5 (E : Nat → Nat) (K : xT → Prop) (n : Nat) : Nat → Int32 → Int32 → Int32 → xT → Nat → Nat → Prop := Nat.rec (fun _ _ _ _ _ _ _ => False) (fun _ ih => VS_X7_writeWhole_5 E ih K) n
set_option maxRecDepth 20000 in
theorem S_X7_writeWhole_5 {Γ : xΓ} {K : xT → Prop} (hl : (gl Γ).stackTraces = false) (ht : (gM Γ).sig.returnType = none) (hr : xRet Γ (xKv K)) : ∀ (n : Nat) (a0 : Nat) (x1 : Int32) (x2 : Int32) (x3 : Int32) (t : xT) (rc rs : Nat), V_X7_writeWhole_5 (gG Γ).2.2.2 K n a0 x1 x2 x3 t rc rs → xX Γ k_X7_writeWhole 5 [(0, .ref a0), (1, .int x1), (2, .int x2), (3, .int x3)] [] t rc rs := by
  intro n
  induction n with
  | zero =>
    intro a0 x1 x2 x3 t rc rs h
    exact h.elim
  | succ n ih =>
    intro a0 x1 x2 x3 t rc rs h
    replace h : VS_X7_writeWhole_5 (gG Γ).2.2.2 (V_X7_writeWhole_5 (gG Γ).2.2.2 K n) K a0 x1 x2 x3 t rc rs := h
    unfold VS_X7_writeWhole_5 at h
    refine x_iload_n 3 dX7_writeWhole_5 rfl rfl ?_
    obtain ⟨h1, h2⟩ := h
    refine x_if_le (tgt := 68) dX7_writeWhole_6 (by decide) (fun q => ?_) (fun q => ?_)
    · have h := h1 q
      exact x_vret dX7_writeWhole_68 hr ht ⟨rfl, h⟩
    · have h := h2 q
      refine x_iload_n 1 dX7_writeWhole_9 rfl rfl ?_
      refine x_iload_n 3 dX7_writeWhole_10 rfl rfl ?_
      obtain ⟨q, h⟩ := h
      refine x_idiv dX7_writeWhole_11 q ?_
      refine x_sipush (v := (1000 : Int32)) dX7_writeWhole_12 (by decide) ?_
      obtain ⟨q, h⟩ := h
      refine x_irem dX7_writeWhole_15 q ?_
      refine x_istore (L' := [(4, .int (xrem (x1 / x3) (1000 : Int32))), (0, .ref a0), (1, .int x1), (2, .int x2), (3, .int x3)]) dX7_writeWhole_16 (by decide) rfl ?_
      refine x_iload_n 3 dX7_writeWhole_18 rfl rfl ?_
      obtain ⟨h1, h2⟩ := h
      refine x_if_eq (tgt := 40) dX7_writeWhole_19 (by decide) (fun q => ?_) (fun q => ?_)
      · have h := h1 q
        refine x_iload 0 dX7_writeWhole_40 rfl ?_
        obtain ⟨h1, h2⟩ := h
        refine x_if_gt (tgt := 50) dX7_writeWhole_42 (by decide) (fun q => ?_) (fun q => ?_)
        · have h := h1 q
          refine x_aload_n 1 dX7_writeWhole_50 rfl rfl ?_
          refine x_iload 0 dX7_writeWhole_51 rfl ?_
          obtain ⟨⟨fs, hf⟩, h⟩ := h
          obtain ⟨m_3, z_4, hm, hs, h⟩ := h
          refine x_invV (as := [.int (xrem (x1 / x3) (1000 : Int32))]) (rest := []) dX7_writeWhole_53 (q := (RJ4, TJ4, 4)) rfl xc_X7_writeWhole_379 hf (M_J4_append_bf812 hl h) rfl rfl (Nat.le_of_ble_eq_true rfl) hm hs (xk_r fun o_2 t_1 h => ?_)
          refine x_pop dX7_writeWhole_56 xcat_rf ?_
          refine x_iconst (v := (1 : Int32)) dX7_writeWhole_57 (by decide) ?_
          refine x_istore_n (L' := [(2, .int (1 : Int32)), (4, .int (xrem (x1 / x3) (1000 : Int32))), (0, .ref a0), (1, .int x1), (3, .int x3)]) dX7_writeWhole_58 rfl (by decide) rfl ?_
          refine x_iload_n 4 dX7_writeWhole_59 rfl rfl ?_
          refine x_sipush (v := (1000 : Int32)) dX7_writeWhole_60 (by decide) ?_
          obtain ⟨q, h⟩ := h
          refine x_idiv dX7_writeWhole_63 q ?_
          refine x_istore_n (L' := [(3, .int (x3 / (1000 : Int32))), (2, .int (1 : Int32)), (4, .int (xrem (x1 / x3) (1000 : Int32))), (0, .ref a0), (1, .int x1)]) dX7_writeWhole_64 rfl (by decide) rfl ?_
          refine x_goto (tgt := 5) dX7_writeWhole_65 (by decide) ?_
          refine x_sub (L' := [(0, .ref a0), (1, .int x1), (2, .int (1 : Int32)), (3, .int (x3 / (1000 : Int32)))]) [3, 4, 1, 0] rfl ?_
          exact ih a0 x1 (1 : Int32) (x3 / (1000 : Int32)) t_1 (rc - m_3) (rs - z_4) h
        · have h := h2 q
          refine x_iload_n 4 dX7_writeWhole_45 rfl rfl ?_
          refine x_iconst (v := (1 : Int32)) dX7_writeWhole_46 (by decide) ?_
          obtain ⟨h1, h2⟩ := h
          refine x_icmp_ne (tgt := 59) dX7_writeWhole_47 (by decide) (fun q => ?_) (fun q => ?_)
          · have h := h1 q
            refine x_iload_n 4 dX7_writeWhole_59 rfl rfl ?_
            refine x_sipush (v := (1000 : Int32)) dX7_writeWhole_60 (by decide) ?_
            obtain ⟨q, h⟩ := h
            refine x_idiv dX7_writeWhole_63 q ?_
            refine x_istore_n (L' := [(3, .int (x3 / (1000 : Int32))), (4, .int (xrem (x1 / x3) (1000 : Int32))), (0, .ref a0), (1, .int x1), (2, .int x2)]) dX7_writeWhole_64 rfl (by decide) rfl ?_
            refine x_goto (tgt := 5) dX7_writeWhole_65 (by decide) ?_
            refine x_sub (L' := [(0, .ref a0), (1, .int x1), (2, .int x2), (3, .int (x3 / (1000 : Int32)))]) [2, 3, 4, 0] rfl ?_
            exact ih a0 x1 x2 (x3 / (1000 : Int32)) t rc rs h
          · have h := h2 q
            refine x_aload_n 1 dX7_writeWhole_50 rfl rfl ?_
            refine x_iload 0 dX7_writeWhole_51 rfl ?_
            obtain ⟨⟨fs, hf⟩, h⟩ := h
            obtain ⟨m_7, z_8, hm, hs, h⟩ := h
            refine x_invV (as := [.int (xrem (x1 / x3) (1000 : Int32))]) (rest := []) dX7_writeWhole_53 (q := (RJ4, TJ4, 4)) rfl xc_X7_writeWhole_379 hf (M_J4_append_bf812 hl h) rfl rfl (Nat.le_of_ble_eq_true rfl) hm hs (xk_r fun o_6 t_5 h => ?_)
            refine x_pop dX7_writeWhole_56 xcat_rf ?_
            refine x_iconst (v := (1 : Int32)) dX7_writeWhole_57 (by decide) ?_
            refine x_istore_n (L' := [(2, .int (1 : Int32)), (4, .int (xrem (x1 / x3) (1000 : Int32))), (0, .ref a0), (1, .int x1), (3, .int x3)]) dX7_writeWhole_58 rfl (by decide) rfl ?_
            refine x_iload_n 4 dX7_writeWhole_59 rfl rfl ?_
            refine x_sipush (v := (1000 : Int32)) dX7_writeWhole_60 (by decide) ?_
            obtain ⟨q, h⟩ := h
            refine x_idiv dX7_writeWhole_63 q ?_
            refine x_istore_n (L' := [(3, .int (x3 / (1000 : Int32))), (2, .int (1 : Int32)), (4, .int (xrem (x1 / x3) (1000 : Int32))), (0, .ref a0), (1, .int x1)]) dX7_writeWhole_64 rfl (by decide) rfl ?_
            refine x_goto (tgt := 5) dX7_writeWhole_65 (by decide) ?_
            refine x_sub (L' := [(0, .ref a0), (1, .int x1), (2, .int (1 : Int32)), (3, .int (x3 / (1000 : Int32)))]) [3, 4, 1, 0] rfl ?_
            exact ih a0 x1 (1 : Int32) (x3 / (1000 : Int32)) t_5 (rc - m_7) (rs - z_8) h
      · have h := h2 q
        refine x_aload_n 1 dX7_writeWhole_22 rfl rfl ?_
        refine x_bipush (v := (46 : Int32)) dX7_writeWhole_23 (by decide) ?_
        obtain ⟨⟨fs, hf⟩, h⟩ := h
        obtain ⟨m_11, z_12, hm, hs, h⟩ := h
        refine x_invV (as := [.int (46 : Int32)]) (rest := []) dX7_writeWhole_25 (q := (RJ4, TJ4, 4)) rfl xc_X7_writeWhole_375 hf (M_J4_append_cf468 hl h) rfl rfl (Nat.le_of_ble_eq_true rfl) hm hs (xk_r fun o_10 t_9 h => ?_)
        refine x_pop dX7_writeWhole_28 xcat_rf ?_
        refine x_aload_n 1 dX7_writeWhole_29 rfl rfl ?_
        refine x_iload 0 dX7_writeWhole_30 rfl ?_
        refine x_bipush (v := (100 : Int32)) dX7_writeWhole_32 (by decide) ?_
        obtain ⟨m_14, z_15, hm, hs, h⟩ := h
        refine x_invS (as := [.ref a0, .int (xrem (x1 / x3) (1000 : Int32)), .int (100 : Int32)]) (rest := []) dX7_writeWhole_34 xc_X7_writeWhole_395 (M_X7_writeDigits hl h) rfl rfl (Nat.le_of_ble_eq_true rfl) hm hs (xk_v fun t_13 h => ?_)
        refine x_goto (tgt := 59) dX7_writeWhole_37 (by decide) ?_
        refine x_iload_n 4 dX7_writeWhole_59 rfl rfl ?_
        refine x_sipush (v := (1000 : Int32)) dX7_writeWhole_60 (by decide) ?_
        obtain ⟨q, h⟩ := h
        refine x_idiv dX7_writeWhole_63 q ?_
        refine x_istore_n (L' := [(3, .int (x3 / (1000 : Int32))), (4, .int (xrem (x1 / x3) (1000 : Int32))), (0, .ref a0), (1, .int x1), (2, .int x2)]) dX7_writeWhole_64 rfl (by decide) rfl ?_
        refine x_goto (tgt := 5) dX7_writeWhole_65 (by decide) ?_
        refine x_sub (L' := [(0, .ref a0), (1, .int x1), (2, .int x2), (3, .int (x3 / (1000 : Int32)))]) [2, 3, 4, 0] rfl ?_
        exact ih a0 x1 x2 (x3 / (1000 : Int32)) t_13 ((rc - m_11) - m_14) ((rs - z_12) - z_15) h
def V_X7_writeWhole_0 (E : Nat → Nat) (K : xT → Prop) (a0 : Nat) (x1 : Int32) (t : xT) (rc rs : Nat) : Prop :=
  ∃ f_1 : Nat, V_X7_writeWhole_5 E K f_1 a0 x1 (0 : Int32) (1000000 : Int32) t rc rs
set_option maxRecDepth 20000 in
theorem S_X7_writeWhole_0 {Γ : xΓ} {K : xT → Prop} (hl : (gl Γ).stackTraces = false) (ht : (gM Γ).sig.returnType = none) (hr : xRet Γ (xKv K)) {a0 : Nat} {x1 : Int32} {t : xT} {rc rs : Nat} (h : V_X7_writeWhole_0 (gG Γ).2.2.2 K a0 x1 t rc rs) : xX Γ k_X7_writeWhole 0 [(0, .ref a0), (1, .int x1)] [] t rc rs := by
  unfold V_X7_writeWhole_0 at h
  refine x_iconst (v := (0 : Int32)) dX7_writeWhole_0 (by decide) ?_
  refine x_istore_n (L' := [(2, .int (0 : Int32)), (0, .ref a0), (1, .int x1)]) dX7_writeWhole_1 rfl (by decide) rfl ?_
  refine x_ldc dX7_writeWhole_2 xw560 ?_
  refine x_istore_n (L' := [(3, .int (1000000 : Int32)), (2, .int (0 : Int32)), (0, .ref a0), (1, .int x1)]) dX7_writeWhole_4 rfl (by decide) rfl ?_
  obtain ⟨f_1, h⟩ := h
  refine x_sub (L' := [(0, .ref a0), (1, .int x1), (2, .int (0 : Int32)), (3, .int (1000000 : Int32))]) [2, 3, 1, 0] rfl ?_
  exact S_X7_writeWhole_5 hl ht hr  f_1 a0 x1 (0 : Int32) (1000000 : Int32) t rc rs h
theorem M_X7_writeWhole {l : Launch} {G : xG} (hl : l.stackTraces = false) {a0 : Nat} {x1 : Int32} {t : xT} {K : xT → Prop} {rc rs : Nat} (h : V_X7_writeWhole_0 G.2.2.2 K a0 x1 t rc rs) : xMet l G yX7_writeWhole k_X7_writeWhole none [.ref a0, .int x1] t (xKv K) rc rs := xMet.of (by decide +kernel) rfl hl (Nat.le_of_ble_eq_true rfl) (fun Γ e1 e2 ht hn hr => by subst e1; subst e2; exact S_X7_writeWhole_0 hl ht hr h)
/-! RentStream.writeAmount(Ljava/lang/StringBuilder;CI)V -/
def V_X7_writeAmount_0 (E : Nat → Nat) (K : xT → Prop) (a0 : Nat) (x1 : Int32) (x2 : Int32) (t : xT) (rc rs : Nat) : Prop :=
  (xis t a0 9 ∧ ∃ m_3 z_4 : Nat, m_3 ≤ rc ∧ z_4 ≤ rs ∧ V_J4_append_cf468_0 (fun o_2 t_1 => (xis t_1 a0 9 ∧ ∃ m_7 z_8 : Nat, m_7 ≤ (rc - m_3) ∧ z_8 ≤ (rs - z_4) ∧ V_J4_append_cf468_0 (fun o_6 t_5 => (¬ (100 : Int32) = 0 ∧ (∃ m_10 z_11 : Nat, m_10 ≤ ((rc - m_3) - m_7) ∧ z_11 ≤ ((rs - z_4) - z_8) ∧ V_X7_writeWhole_0 E (fun t_9 => (xis t_9 a0 9 ∧ ∃ m_14 z_15 : Nat, m_14 ≤ (((rc - m_3) - m_7) - m_10) ∧ z_15 ≤ (((rs - z_4) - z_8) - z_11) ∧ V_J4_append_cf468_0 (fun o_13 t_12 => (¬ (100 : Int32) = 0 ∧ (∃ m_17 z_18 : Nat, m_17 ≤ ((((rc - m_3) - m_7) - m_10) - m_14) ∧ z_18 ≤ ((((rs - z_4) - z_8) - z_11) - z_15) ∧ V_X7_writeDigits_0 (fun t_16 => K t_16) a0 (xrem x2 (100 : Int32)) (10 : Int32) t_12 m_17 z_18))) a0 (44 : Int32) t_9 m_14 z_15)) a0 (x2 / (100 : Int32)) t_5 m_10 z_11))) a0 x1 t_1 m_7 z_8)) a0 (32 : Int32) t m_3 z_4)
set_option maxRecDepth 20000 in
theorem S_X7_writeAmount_0 {Γ : xΓ} {K : xT → Prop} (hl : (gl Γ).stackTraces = false) (ht : (gM Γ).sig.returnType = none) (hr : xRet Γ (xKv K)) {a0 : Nat} {x1 : Int32} {x2 : Int32} {t : xT} {rc rs : Nat} (h : V_X7_writeAmount_0 (gG Γ).2.2.2 K a0 x1 x2 t rc rs) : xX Γ k_X7_writeAmount 0 [(0, .ref a0), (1, .int x1), (2, .int x2)] [] t rc rs := by
  unfold V_X7_writeAmount_0 at h
  refine x_aload_n 0 dX7_writeAmount_0 rfl rfl ?_
  refine x_bipush (v := (32 : Int32)) dX7_writeAmount_1 (by decide) ?_
  obtain ⟨⟨fs, hf⟩, h⟩ := h
  obtain ⟨m_3, z_4, hm, hs, h⟩ := h
  refine x_invV (as := [.int (32 : Int32)]) (rest := []) dX7_writeAmount_3 (q := (RJ4, TJ4, 4)) rfl xc_X7_writeAmount_375 hf (M_J4_append_cf468 hl h) rfl rfl (Nat.le_of_ble_eq_true rfl) hm hs (xk_r fun o_2 t_1 h => ?_)
  refine x_pop dX7_writeAmount_6 xcat_rf ?_
  refine x_aload_n 0 dX7_writeAmount_7 rfl rfl ?_
  refine x_iload_n 1 dX7_writeAmount_8 rfl rfl ?_
  obtain ⟨⟨fs, hf⟩, h⟩ := h
  obtain ⟨m_7, z_8, hm, hs, h⟩ := h
  refine x_invV (as := [.int x1]) (rest := []) dX7_writeAmount_9 (q := (RJ4, TJ4, 4)) rfl xc_X7_writeAmount_375 hf (M_J4_append_cf468 hl h) rfl rfl (Nat.le_of_ble_eq_true rfl) hm hs (xk_r fun o_6 t_5 h => ?_)
  refine x_pop dX7_writeAmount_12 xcat_rf ?_
  refine x_aload_n 0 dX7_writeAmount_13 rfl rfl ?_
  refine x_iload_n 2 dX7_writeAmount_14 rfl rfl ?_
  refine x_bipush (v := (100 : Int32)) dX7_writeAmount_15 (by decide) ?_
  obtain ⟨q, h⟩ := h
  refine x_idiv dX7_writeAmount_17 q ?_
  obtain ⟨m_10, z_11, hm, hs, h⟩ := h
  refine x_invS (as := [.ref a0, .int (x2 / (100 : Int32))]) (rest := []) dX7_writeAmount_18 xc_X7_writeAmount_391 (M_X7_writeWhole hl h) rfl rfl (Nat.le_of_ble_eq_true rfl) hm hs (xk_v fun t_9 h => ?_)
  refine x_aload_n 0 dX7_writeAmount_21 rfl rfl ?_
  refine x_bipush (v := (44 : Int32)) dX7_writeAmount_22 (by decide) ?_
  obtain ⟨⟨fs, hf⟩, h⟩ := h
  obtain ⟨m_14, z_15, hm, hs, h⟩ := h
  refine x_invV (as := [.int (44 : Int32)]) (rest := []) dX7_writeAmount_24 (q := (RJ4, TJ4, 4)) rfl xc_X7_writeAmount_375 hf (M_J4_append_cf468 hl h) rfl rfl (Nat.le_of_ble_eq_true rfl) hm hs (xk_r fun o_13 t_12 h => ?_)
  refine x_pop dX7_writeAmount_27 xcat_rf ?_
  refine x_aload_n 0 dX7_writeAmount_28 rfl rfl ?_
  refine x_iload_n 2 dX7_writeAmount_29 rfl rfl ?_
  refine x_bipush (v := (100 : Int32)) dX7_writeAmount_30 (by decide) ?_
  obtain ⟨q, h⟩ := h
  refine x_irem dX7_writeAmount_32 q ?_
  refine x_bipush (v := (10 : Int32)) dX7_writeAmount_33 (by decide) ?_
  obtain ⟨m_17, z_18, hm, hs, h⟩ := h
  refine x_invS (as := [.ref a0, .int (xrem x2 (100 : Int32)), .int (10 : Int32)]) (rest := []) dX7_writeAmount_35 xc_X7_writeAmount_395 (M_X7_writeDigits hl h) rfl rfl (Nat.le_of_ble_eq_true rfl) hm hs (xk_v fun t_16 h => ?_)
  exact x_vret dX7_writeAmount_38 hr ht ⟨rfl, h⟩
theorem M_X7_writeAmount {l : Launch} {G : xG} (hl : l.stackTraces = false) {a0 : Nat} {x1 : Int32} {x2 : Int32} {t : xT} {K : xT → Prop} {rc rs : Nat} (h : V_X7_writeAmount_0 G.2.2.2 K a0 x1 x2 t rc rs) : xMet l G yX7_writeAmount k_X7_writeAmount none [.ref a0, .int x1, .int x2] t (xKv K) rc rs := xMet.of (by decide +kernel) rfl hl (Nat.le_of_ble_eq_true rfl) (fun Γ e1 e2 ht hn hr => by subst e1; subst e2; exact S_X7_writeAmount_0 hl ht hr h)
/-! java/lang/String.coder()B -/
def V_J0_coder_7d493_0 (K : Int32 → xT → Prop) (a0 : Nat) (t : xT) : Prop :=
  (((1 : Int32) = 0 → K (1 : Int32) t) ∧ (¬ (1 : Int32) = 0 → xgS t a0 fun a_1 x_2 => (narrow .byte (.int x_2) = .int x_2 ∧ K x_2 t)))
set_option maxRecDepth 20000 in
theorem S_J0_coder_7d493_0 {Γ : xΓ} {K : Int32 → xT → Prop} (hl : (gl Γ).stackTraces = false) (ht : (gM Γ).sig.returnType = (some .byte)) (hr : xRet Γ (xKi K)) {a0 : Nat} {t : xT} {rc rs : Nat} (h : V_J0_coder_7d493_0 K a0 t) : xX Γ k_J0_coder_7d493 0 [(0, .ref a0)] [] t rc rs := by
  unfold V_J0_coder_7d493_0 at h
  refine x_gets (v := .int 1) dJ0_coder_7d493_0 (List.mem_of_getElem? (i := 0) rfl) xw899 ?_
  obtain ⟨h1, h2⟩ := h
  refine x_if_eq (tgt := 13) dJ0_coder_7d493_3 (by decide) (fun q => ?_) (fun q => ?_)
  · have h := h1 q
    refine x_iconst (v := (1 : Int32)) dJ0_coder_7d493_13 (by decide) ?_
    exact x_zret dJ0_coder_7d493_14 hr ht (by decide) ⟨_, rfl, h⟩
  · have h := h2 q
    refine x_aload_n 0 dJ0_coder_7d493_6 rfl rfl ?_
    obtain ⟨a_1, x_2, hv, h⟩ := h
    refine x_strC dJ0_coder_7d493_7 xw1017 hv ?_
    refine x_goto (tgt := 14) dJ0_coder_7d493_10 (by decide) ?_
    obtain ⟨hn, h⟩ := h
    exact x_zret dJ0_coder_7d493_14 hr ht hn ⟨_, rfl, h⟩
theorem M_J0_coder_7d493 {l : Launch} {G : xG} (hl : l.stackTraces = false) {a0 : Nat} {t : xT} {K : Int32 → xT → Prop} (h : V_J0_coder_7d493_0 K a0 t) : xMet l G yJ0_coder_7d493 k_J0_coder_7d493 (some .byte) [.ref a0] t (xKi K) 0 0 := xMet.of (by decide +kernel) rfl hl (Nat.le_of_ble_eq_true rfl) (fun Γ e1 e2 ht hn hr => by subst e1; subst e2; exact S_J0_coder_7d493_0 hl ht hr h)
/-! java/lang/AbstractStringBuilder.inflateIfNeededFor(Ljava/lang/String;)V -/
def V_J5_inflateIfNeededFor_a7421_0 (K : xT → Prop) (a0 : Nat) (a1 : Nat) (t : xT) : Prop :=
  (((1 : Int32) = 0 → K t) ∧ (¬ (1 : Int32) = 0 → xgI t a0 9 1 fun x_1 => (xis t a1 11 ∧ V_J0_coder_7d493_0 (fun x_3 t_2 => ((x_1 = x_3 → K t_2) ∧ (¬ x_1 = x_3 → False))) a1 t)))
set_option maxRecDepth 20000 in
theorem S_J5_inflateIfNeededFor_a7421_0 {Γ : xΓ} {K : xT → Prop} (hl : (gl Γ).stackTraces = false) (ht : (gM Γ).sig.returnType = none) (hr : xRet Γ (xKv K)) {a0 : Nat} {a1 : Nat} {t : xT} {rc rs : Nat} (h : V_J5_inflateIfNeededFor_a7421_0 K a0 a1 t) : xX Γ k_J5_inflateIfNeededFor_a7421 0 [(0, .ref a0), (1, .ref a1)] [] t rc rs := by
  unfold V_J5_inflateIfNeededFor_a7421_0 at h
  refine x_gets (v := .int 1) dJ5_inflateIfNeededFor_a7421_0 (List.mem_of_getElem? (i := 0) rfl) xw115 ?_
  obtain ⟨h1, h2⟩ := h
  refine x_if_eq (tgt := 21) dJ5_inflateIfNeededFor_a7421_3 (by decide) (fun q => ?_) (fun q => ?_)
  · have h := h1 q
    exact x_vret dJ5_inflateIfNeededFor_a7421_21 hr ht ⟨rfl, h⟩
  · have h := h2 q
    refine x_aload_n 0 dJ5_inflateIfNeededFor_a7421_6 rfl rfl ?_
    obtain ⟨fs, hf, x_1, hv, h⟩ := h
    refine x_get dJ5_inflateIfNeededFor_a7421_7 xf_J5_22 hf hv ?_
    refine x_aload_n 1 dJ5_inflateIfNeededFor_a7421_10 rfl rfl ?_
    obtain ⟨⟨fs, hf⟩, h⟩ := h
    refine x_invVS (as := []) (rest := [.int x_1]) dJ5_inflateIfNeededFor_a7421_11 xc_J5_inflateIfNeededFor_a7421_40 hf (M_J0_coder_7d493 hl h) rfl rfl (Nat.le_of_ble_eq_true rfl) (Nat.zero_le _) (Nat.zero_le _) (xk_i fun x_3 t_2 h => ?_)
    obtain ⟨h1, h2⟩ := h
    refine x_icmp_eq (tgt := 21) dJ5_inflateIfNeededFor_a7421_14 (by decide) (fun q => ?_) (fun q => ?_)
    · have h := h1 q
      exact x_vret dJ5_inflateIfNeededFor_a7421_21 hr ht ⟨rfl, h⟩
    · have h := h2 q
      refine x_aload_n 0 dJ5_inflateIfNeededFor_a7421_17 rfl rfl ?_
      exact h.elim
theorem M_J5_inflateIfNeededFor_a7421 {l : Launch} {G : xG} (hl : l.stackTraces = false) {a0 : Nat} {a1 : Nat} {t : xT} {K : xT → Prop} (h : V_J5_inflateIfNeededFor_a7421_0 K a0 a1 t) : xMet l G yJ5_inflateIfNeededFor_a7421 k_J5_inflateIfNeededFor_a7421 none [.ref a0, .ref a1] t (xKv K) 0 0 := xMet.of (by decide +kernel) rfl hl (Nat.le_of_ble_eq_true rfl) (fun Γ e1 e2 ht hn hr => by subst e1; subst e2; exact S_J5_inflateIfNeededFor_a7421_0 hl ht hr h)
/-! java/lang/String.getBytes([BIB)V -/
def V_J0_getBytes_840e7_0 (K : xT → Prop) (a0 : Nat) (a1 : Nat) (x2 : Int32) (x3 : Int32) (t : xT) : Prop :=
  (xis t a0 11 ∧ V_J0_coder_7d493_0 (fun x_2 t_1 => ((¬ x_2 = x3 → xgS t_1 a0 fun a_3 x_4 => xgS t_1 a0 fun a_5 x_6 => xal t_1 a_5 fun x_7 => False) ∧ (x_2 = x3 → xgS t_1 a0 fun a_8 x_9 => xgS t_1 a0 fun a_10 x_11 => xal t_1 a_10 fun x_12 => xcB t_1 a_8 (0 : Int32) a1 (x2 <<< (x3 &&& 31)) x_12 fun t_13 => K t_13))) a0 t)
set_option maxRecDepth 20000 in
theorem S_J0_getBytes_840e7_0 {Γ : xΓ} {K : xT → Prop} (hl : (gl Γ).stackTraces = false) (ht : (gM Γ).sig.returnType = none) (hr : xRet Γ (xKv K)) {a0 : Nat} {a1 : Nat} {x2 : Int32} {x3 : Int32} {t : xT} {rc rs : Nat} (h : V_J0_getBytes_840e7_0 K a0 a1 x2 x3 t) : xX Γ k_J0_getBytes_840e7 0 [(0, .ref a0), (1, .ref a1), (2, .int x2), (3, .int x3)] [] t rc rs := by
  unfold V_J0_getBytes_840e7_0 at h
  refine x_aload_n 0 dJ0_getBytes_840e7_0 rfl rfl ?_
  obtain ⟨⟨fs, hf⟩, h⟩ := h
  refine x_invVS (as := []) (rest := []) dJ0_getBytes_840e7_1 xc_J0_getBytes_840e7_335 hf (M_J0_coder_7d493 hl h) rfl rfl (Nat.le_of_ble_eq_true rfl) (Nat.zero_le _) (Nat.zero_le _) (xk_i fun x_2 t_1 h => ?_)
  refine x_iload_n 3 dJ0_getBytes_840e7_4 rfl rfl ?_
  obtain ⟨h1, h2⟩ := h
  refine x_icmp_ne (tgt := 28) dJ0_getBytes_840e7_5 (by decide) (fun q => ?_) (fun q => ?_)
  · have h := h1 q
    refine x_aload_n 0 dJ0_getBytes_840e7_28 rfl rfl ?_
    obtain ⟨a_3, x_4, hv, h⟩ := h
    refine x_strV dJ0_getBytes_840e7_29 xw1016 hv ?_
    refine x_iconst (v := (0 : Int32)) dJ0_getBytes_840e7_32 (by decide) ?_
    refine x_aload_n 1 dJ0_getBytes_840e7_33 rfl rfl ?_
    refine x_iload_n 2 dJ0_getBytes_840e7_34 rfl rfl ?_
    refine x_aload_n 0 dJ0_getBytes_840e7_35 rfl rfl ?_
    obtain ⟨a_5, x_6, hv, h⟩ := h
    refine x_strV dJ0_getBytes_840e7_36 xw1016 hv ?_
    obtain ⟨k, z, hf, h⟩ := h
    refine x_alen dJ0_getBytes_840e7_39 hf ?_
    generalize Int32.ofNat z.1 = x_7 at h ⊢
    exact h.elim
  · have h := h2 q
    refine x_aload_n 0 dJ0_getBytes_840e7_8 rfl rfl ?_
    obtain ⟨a_8, x_9, hv, h⟩ := h
    refine x_strV dJ0_getBytes_840e7_9 xw1016 hv ?_
    refine x_iconst (v := (0 : Int32)) dJ0_getBytes_840e7_12 (by decide) ?_
    refine x_aload_n 1 dJ0_getBytes_840e7_13 rfl rfl ?_
    refine x_iload_n 2 dJ0_getBytes_840e7_14 rfl rfl ?_
    refine x_iload_n 3 dJ0_getBytes_840e7_15 rfl rfl ?_
    refine x_ishl dJ0_getBytes_840e7_16 ?_
    refine x_aload_n 0 dJ0_getBytes_840e7_17 rfl rfl ?_
    obtain ⟨a_10, x_11, hv, h⟩ := h
    refine x_strV dJ0_getBytes_840e7_18 xw1016 hv ?_
    obtain ⟨k, z, hf, h⟩ := h
    refine x_alen dJ0_getBytes_840e7_21 hf ?_
    generalize Int32.ofNat z.1 = x_12 at h ⊢
    obtain ⟨k, n0, n1, f, g, e1, e2, e3, e4, e5, e6, e7, e8, e9, h⟩ := h
    refine x_copyB dJ0_getBytes_840e7_22 xlc_J0_212 (by decide) (by decide) (Nat.le_of_ble_eq_true rfl) e1 e2 e3 e4 e5 e6 e7 e8 e9 ?_
    generalize hT : xup t_1 a1 _ = t_13 at h ⊢
    clear hT
    refine x_goto (tgt := 43) dJ0_getBytes_840e7_25 (by decide) ?_
    exact x_vret dJ0_getBytes_840e7_43 hr ht ⟨rfl, h⟩
theorem M_J0_getBytes_840e7 {l : Launch} {G : xG} (hl : l.stackTraces = false) {a0 : Nat} {a1 : Nat} {x2 : Int32} {x3 : Int32} {t : xT} {K : xT → Prop} (h : V_J0_getBytes_840e7_0 K a0 a1 x2 x3 t) : xMet l G yJ0_getBytes_840e7 k_J0_getBytes_840e7 none [.ref a0, .ref a1, .int x2, .int x3] t (xKv K) 0 0 := xMet.of (by decide +kernel) rfl hl (Nat.le_of_ble_eq_true rfl) (fun Γ e1 e2 ht hn hr => by subst e1; subst e2; exact S_J0_getBytes_840e7_0 hl ht hr h)
/-! java/lang/AbstractStringBuilder.putStringAt(ILjava/lang/String;)V -/
def V_J5_putStringAt_47b60_0 (K : xT → Prop) (a0 : Nat) (x1 : Int32) (a2 : Nat) (t : xT) : Prop :=
  (xis t a0 9 ∧ V_J5_inflateIfNeededFor_a7421_0 (fun t_1 => xgR t_1 a0 9 0 fun a_2 => xgI t_1 a0 9 1 fun x_3 => (xis t_1 a2 11 ∧ V_J0_getBytes_840e7_0 (fun t_4 => K t_4) a2 a_2 x1 x_3 t_1)) a0 a2 t)
set_option maxRecDepth 20000 in
theorem S_J5_putStringAt_47b60_0 {Γ : xΓ} {K : xT → Prop} (hl : (gl Γ).stackTraces = false) (ht : (gM Γ).sig.returnType = none) (hr : xRet Γ (xKv K)) {a0 : Nat} {x1 : Int32} {a2 : Nat} {t : xT} {rc rs : Nat} (h : V_J5_putStringAt_47b60_0 K a0 x1 a2 t) : xX Γ k_J5_putStringAt_47b60 0 [(0, .ref a0), (1, .int x1), (2, .ref a2)] [] t rc rs := by
  unfold V_J5_putStringAt_47b60_0 at h
  refine x_aload_n 0 dJ5_putStringAt_47b60_0 rfl rfl ?_
  refine x_aload_n 2 dJ5_putStringAt_47b60_1 rfl rfl ?_
  obtain ⟨⟨fs, hf⟩, h⟩ := h
  refine x_invV (as := [.ref a2]) (rest := []) dJ5_putStringAt_47b60_2 (q := (RJ4, TJ4, 4)) rfl xc_J5_putStringAt_47b60_397 hf (M_J5_inflateIfNeededFor_a7421 hl h) rfl rfl (Nat.le_of_ble_eq_true rfl) (Nat.zero_le _) (Nat.zero_le _) (xk_v fun t_1 h => ?_)
  refine x_aload_n 2 dJ5_putStringAt_47b60_5 rfl rfl ?_
  refine x_aload_n 0 dJ5_putStringAt_47b60_6 rfl rfl ?_
  obtain ⟨fs, hf, a_2, hv, h⟩ := h
  refine x_get dJ5_putStringAt_47b60_7 xf_J5_15 hf hv ?_
  refine x_iload_n 1 dJ5_putStringAt_47b60_10 rfl rfl ?_
  refine x_aload_n 0 dJ5_putStringAt_47b60_11 rfl rfl ?_
  obtain ⟨fs, hf, x_3, hv, h⟩ := h
  refine x_get dJ5_putStringAt_47b60_12 xf_J5_22 hf hv ?_
  obtain ⟨⟨fs, hf⟩, h⟩ := h
  refine x_invVS (as := [.ref a_2, .int x1, .int x_3]) (rest := []) dJ5_putStringAt_47b60_15 xc_J5_putStringAt_47b60_399 hf (M_J0_getBytes_840e7 hl h) rfl rfl (Nat.le_of_ble_eq_true rfl) (Nat.zero_le _) (Nat.zero_le _) (xk_v fun t_4 h => ?_)
  exact x_vret dJ5_putStringAt_47b60_18 hr ht ⟨rfl, h⟩
theorem M_J5_putStringAt_47b60 {l : Launch} {G : xG} (hl : l.stackTraces = false) {a0 : Nat} {x1 : Int32} {a2 : Nat} {t : xT} {K : xT → Prop} (h : V_J5_putStringAt_47b60_0 K a0 x1 a2 t) : xMet l G yJ5_putStringAt_47b60 k_J5_putStringAt_47b60 none [.ref a0, .int x1, .ref a2] t (xKv K) 0 0 := xMet.of (by decide +kernel) rfl hl (Nat.le_of_ble_eq_true rfl) (fun Γ e1 e2 ht hn hr => by subst e1; subst e2; exact S_J5_putStringAt_47b60_0 hl ht hr h)
/-! java/lang/String.length()I -/
def V_J0_length_8abf5_0 (K : Int32 → xT → Prop) (a0 : Nat) (t : xT) : Prop :=
  xgS t a0 fun a_1 x_2 => xal t a_1 fun x_3 => (xis t a0 11 ∧ V_J0_coder_7d493_0 (fun x_5 t_4 => K (x_3 >>> (x_5 &&& 31)) t_4) a0 t)
set_option maxRecDepth 20000 in
theorem S_J0_length_8abf5_0 {Γ : xΓ} {K : Int32 → xT → Prop} (hl : (gl Γ).stackTraces = false) (ht : (gM Γ).sig.returnType = (some .int)) (hr : xRet Γ (xKi K)) {a0 : Nat} {t : xT} {rc rs : Nat} (h : V_J0_length_8abf5_0 K a0 t) : xX Γ k_J0_length_8abf5 0 [(0, .ref a0)] [] t rc rs := by
  unfold V_J0_length_8abf5_0 at h
  refine x_aload_n 0 dJ0_length_8abf5_0 rfl rfl ?_
  obtain ⟨a_1, x_2, hv, h⟩ := h
  refine x_strV dJ0_length_8abf5_1 xw1016 hv ?_
  obtain ⟨k, z, hf, h⟩ := h
  refine x_alen dJ0_length_8abf5_4 hf ?_
  generalize Int32.ofNat z.1 = x_3 at h ⊢
  refine x_aload_n 0 dJ0_length_8abf5_5 rfl rfl ?_
  obtain ⟨⟨fs, hf⟩, h⟩ := h
  refine x_invVS (as := []) (rest := [.int x_3]) dJ0_length_8abf5_6 xc_J0_length_8abf5_335 hf (M_J0_coder_7d493 hl h) rfl rfl (Nat.le_of_ble_eq_true rfl) (Nat.zero_le _) (Nat.zero_le _) (xk_i fun x_5 t_4 h => ?_)
  refine x_ishr dJ0_length_8abf5_9 ?_
  exact x_zret dJ0_length_8abf5_10 hr ht rfl ⟨_, rfl, h⟩
theorem M_J0_length_8abf5 {l : Launch} {G : xG} (hl : l.stackTraces = false) {a0 : Nat} {t : xT} {K : Int32 → xT → Prop} (h : V_J0_length_8abf5_0 K a0 t) : xMet l G yJ0_length_8abf5 k_J0_length_8abf5 (some .int) [.ref a0] t (xKi K) 0 0 := xMet.of (by decide +kernel) rfl hl (Nat.le_of_ble_eq_true rfl) (fun Γ e1 e2 ht hn hr => by subst e1; subst e2; exact S_J0_length_8abf5_0 hl ht hr h)
/-! java/lang/AbstractStringBuilder.append(Ljava/lang/String;)Ljava/lang/AbstractStringBuilder; -/
def V_J5_append_cf1ce_0 (K : Option Nat → xT → Prop) (a0 : Nat) (a1 : Nat) (t : xT) (rc rs : Nat) : Prop :=
  (xis t a1 11 ∧ V_J0_length_8abf5_0 (fun x_2 t_1 => xgI t_1 a0 9 3 fun x_3 => (xis t_1 a0 9 ∧ ∃ m_5 z_6 : Nat, m_5 ≤ rc ∧ z_6 ≤ rs ∧ V_J5_ensureCapacityInternal_d00df_0 (fun t_4 => xgI t_4 a0 9 3 fun x_7 => (xis t_4 a0 9 ∧ V_J5_putStringAt_47b60_0 (fun t_8 => xgI t_8 a0 9 3 fun x_9 => (xpF t_8 a0 9 3 (.int (x_9 + x_2)) fun t_10 => K (some a0) t_10)) a0 x_7 a1 t_4)) a0 (x_3 + x_2) t_1 m_5 z_6)) a1 t)
set_option maxRecDepth 20000 in
theorem S_J5_append_cf1ce_0 {Γ : xΓ} {K : Option Nat → xT → Prop} (hl : (gl Γ).stackTraces = false) (ht : (gM Γ).sig.returnType = (some (.object "java/lang/AbstractStringBuilder"))) (hr : xRet Γ (xKr K)) {a0 : Nat} {a1 : Nat} {t : xT} {rc rs : Nat} (h : V_J5_append_cf1ce_0 K a0 a1 t rc rs) : xX Γ k_J5_append_cf1ce 0 [(0, .ref a0), (1, .ref a1)] [] t rc rs := by
  unfold V_J5_append_cf1ce_0 at h
  refine x_aload_n 1 dJ5_append_cf1ce_0 rfl rfl ?_
  refine x_ifnonnull (x := some a1) (tgt := 9) dJ5_append_cf1ce_1 (by decide) (fun _ _ => ?_) (fun q => nomatch q)
  refine x_aload_n 1 dJ5_append_cf1ce_9 rfl rfl ?_
  obtain ⟨⟨fs, hf⟩, h⟩ := h
  refine x_invVS (as := []) (rest := []) dJ5_append_cf1ce_10 xc_J5_append_cf1ce_32 hf (M_J0_length_8abf5 hl h) rfl rfl (Nat.le_of_ble_eq_true rfl) (Nat.zero_le _) (Nat.zero_le _) (xk_i fun x_2 t_1 h => ?_)
  refine x_istore_n (L' := [(2, .int x_2), (0, .ref a0), (1, .ref a1)]) dJ5_append_cf1ce_13 rfl (by decide) rfl ?_
  refine x_aload_n 1 dJ5_append_cf1ce_14 rfl rfl ?_
  refine x_aload_n 1 dJ5_append_cf1ce_15 rfl rfl ?_
  obtain ⟨fs, hf, x_3, hv, h⟩ := h
  refine x_get dJ5_append_cf1ce_16 xf_J5_79 hf hv ?_
  refine x_iload_n 0 dJ5_append_cf1ce_19 rfl rfl ?_
  refine x_iadd dJ5_append_cf1ce_20 ?_
  obtain ⟨⟨fs, hf⟩, h⟩ := h
  obtain ⟨m_5, z_6, hm, hs, h⟩ := h
  refine x_invV (as := [.int (x_3 + x_2)]) (rest := []) dJ5_append_cf1ce_21 (q := (RJ4, TJ4, 4)) rfl xc_J5_append_cf1ce_100 hf (M_J5_ensureCapacityInternal_d00df hl h) rfl rfl (Nat.le_of_ble_eq_true rfl) hm hs (xk_v fun t_4 h => ?_)
  refine x_aload_n 1 dJ5_append_cf1ce_24 rfl rfl ?_
  refine x_aload_n 1 dJ5_append_cf1ce_25 rfl rfl ?_
  obtain ⟨fs, hf, x_7, hv, h⟩ := h
  refine x_get dJ5_append_cf1ce_26 xf_J5_79 hf hv ?_
  refine x_aload_n 2 dJ5_append_cf1ce_29 rfl rfl ?_
  obtain ⟨⟨fs, hf⟩, h⟩ := h
  refine x_invV (as := [.int x_7, .ref a1]) (rest := []) dJ5_append_cf1ce_30 (q := (RJ4, TJ4, 4)) rfl xc_J5_append_cf1ce_208 hf (M_J5_putStringAt_47b60 hl h) rfl rfl (Nat.le_of_ble_eq_true rfl) (Nat.zero_le _) (Nat.zero_le _) (xk_v fun t_8 h => ?_)
  refine x_aload_n 1 dJ5_append_cf1ce_33 rfl rfl ?_
  refine x_dup dJ5_append_cf1ce_34 rfl ?_
  obtain ⟨fs, hf, x_9, hv, h⟩ := h
  refine x_get dJ5_append_cf1ce_35 xf_J5_79 hf hv ?_
  refine x_iload_n 0 dJ5_append_cf1ce_38 rfl rfl ?_
  refine x_iadd dJ5_append_cf1ce_39 ?_
  obtain ⟨fs, hf, hk, h⟩ := h
  refine x_put (v := .int (x_9 + x_2)) dJ5_append_cf1ce_40 xp_J5_79 hf rfl rfl hk ?_
  generalize hT : xup t_8 a0 _ = t_10 at h ⊢
  clear hT
  refine x_aload_n 1 dJ5_append_cf1ce_43 rfl rfl ?_
  exact x_aret (o := (some a0)) dJ5_append_cf1ce_44 hr ht (Or.inl ⟨_, rfl⟩) ⟨_, rfl, h⟩
theorem M_J5_append_cf1ce {l : Launch} {G : xG} (hl : l.stackTraces = false) {a0 : Nat} {a1 : Nat} {t : xT} {K : Option Nat → xT → Prop} {rc rs : Nat} (h : V_J5_append_cf1ce_0 K a0 a1 t rc rs) : xMet l G yJ5_append_cf1ce k_J5_append_cf1ce (some (.object "java/lang/AbstractStringBuilder")) [.ref a0, .ref a1] t (xKr K) rc rs := xMet.of (by decide +kernel) rfl hl (Nat.le_of_ble_eq_true rfl) (fun Γ e1 e2 ht hn hr => by subst e1; subst e2; exact S_J5_append_cf1ce_0 hl ht hr h)
/-! java/lang/StringBuilder.append(Ljava/lang/String;)Ljava/lang/StringBuilder; -/
def V_J4_append_15ec4_0 (K : Option Nat → xT → Prop) (a0 : Nat) (a1 : Nat) (t : xT) (rc rs : Nat) : Prop :=
  (xis t a0 9 ∧ ∃ m_3 z_4 : Nat, m_3 ≤ rc ∧ z_4 ≤ rs ∧ V_J5_append_cf1ce_0 (fun o_2 t_1 => K (some a0) t_1) a0 a1 t m_3 z_4)
set_option maxRecDepth 20000 in
theorem S_J4_append_15ec4_0 {Γ : xΓ} {K : Option Nat → xT → Prop} (hl : (gl Γ).stackTraces = false) (ht : (gM Γ).sig.returnType = (some (.object "java/lang/StringBuilder"))) (hr : xRet Γ (xKr K)) {a0 : Nat} {a1 : Nat} {t : xT} {rc rs : Nat} (h : V_J4_append_15ec4_0 K a0 a1 t rc rs) : xX Γ k_J4_append_15ec4 0 [(0, .ref a0), (1, .ref a1)] [] t rc rs := by
  unfold V_J4_append_15ec4_0 at h
  refine x_aload_n 0 dJ4_append_15ec4_0 rfl rfl ?_
  refine x_aload_n 1 dJ4_append_15ec4_1 rfl rfl ?_
  obtain ⟨⟨fs, hf⟩, h⟩ := h
  obtain ⟨m_3, z_4, hm, hs, h⟩ := h
  refine x_invSU (as := [.ref a1]) (rest := []) dJ4_append_15ec4_2 (q := (RJ4, TJ4, 4)) rfl xc_J4_append_15ec4_29 hf (M_J5_append_cf1ce hl h) rfl rfl (Nat.le_of_ble_eq_true rfl) hm hs (xk_r fun o_2 t_1 h => ?_)
  refine x_pop dJ4_append_15ec4_5 xcat_rf ?_
  refine x_aload_n 0 dJ4_append_15ec4_6 rfl rfl ?_
  exact x_aret (o := (some a0)) dJ4_append_15ec4_7 hr ht (Or.inl ⟨_, rfl⟩) ⟨_, rfl, h⟩
theorem M_J4_append_15ec4 {l : Launch} {G : xG} (hl : l.stackTraces = false) {a0 : Nat} {a1 : Nat} {t : xT} {K : Option Nat → xT → Prop} {rc rs : Nat} (h : V_J4_append_15ec4_0 K a0 a1 t rc rs) : xMet l G yJ4_append_15ec4 k_J4_append_15ec4 (some (.object "java/lang/StringBuilder")) [.ref a0, .ref a1] t (xKr K) rc rs := xMet.of (by decide +kernel) rfl hl (Nat.le_of_ble_eq_true rfl) (fun Γ e1 e2 ht hn hr => by subst e1; subst e2; exact S_J4_append_15ec4_0 hl ht hr h)
/-! RentStream.writeLine(Ljava/lang/StringBuilder;IILRentStream$Bill;)V -/
def V_X7_writeLine_0 (E : Nat → Nat) (K : xT → Prop) (a0 : Nat) (x1 : Int32) (x2 : Int32) (a3 : Nat) (t : xT) (rc rs : Nat) : Prop :=
  (xis t a0 9 ∧ ∃ m_3 z_4 : Nat, m_3 ≤ rc ∧ z_4 ≤ rs ∧ V_J4_append_cf468_0 (fun o_2 t_1 => (xis t_1 a0 9 ∧ ∃ m_7 z_8 : Nat, m_7 ≤ (rc - m_3) ∧ z_8 ≤ (rs - z_4) ∧ V_J4_append_bf812_0 E (fun o_6 t_5 => (xis t_5 a0 9 ∧ ∃ m_11 z_12 : Nat, m_11 ≤ ((rc - m_3) - m_7) ∧ z_12 ≤ ((rs - z_4) - z_8) ∧ V_J4_append_15ec4_0 (fun o_10 t_9 => (xis t_9 a0 9 ∧ ∃ m_15 z_16 : Nat, m_15 ≤ (((rc - m_3) - m_7) - m_11) ∧ z_16 ≤ (((rs - z_4) - z_8) - z_12) ∧ V_J4_append_bf812_0 E (fun o_14 t_13 => xgI t_13 a3 0 0 fun x_17 => (∃ m_19 z_20 : Nat, m_19 ≤ ((((rc - m_3) - m_7) - m_11) - m_15) ∧ z_20 ≤ ((((rs - z_4) - z_8) - z_12) - z_16) ∧ V_X7_writeAmount_0 E (fun t_18 => xgI t_18 a3 0 1 fun x_21 => (∃ m_23 z_24 : Nat, m_23 ≤ (((((rc - m_3) - m_7) - m_11) - m_15) - m_19) ∧ z_24 ≤ (((((rs - z_4) - z_8) - z_12) - z_16) - z_20) ∧ V_X7_writeAmount_0 E (fun t_22 => xgI t_22 a3 0 2 fun x_25 => (∃ m_27 z_28 : Nat, m_27 ≤ ((((((rc - m_3) - m_7) - m_11) - m_15) - m_19) - m_23) ∧ z_28 ≤ ((((((rs - z_4) - z_8) - z_12) - z_16) - z_20) - z_24) ∧ V_X7_writeAmount_0 E (fun t_26 => xgI t_26 a3 0 3 fun x_29 => (∃ m_31 z_32 : Nat, m_31 ≤ (((((((rc - m_3) - m_7) - m_11) - m_15) - m_19) - m_23) - m_27) ∧ z_32 ≤ (((((((rs - z_4) - z_8) - z_12) - z_16) - z_20) - z_24) - z_28) ∧ V_X7_writeAmount_0 E (fun t_30 => (xis t_30 a3 0 ∧ V_X0_ofTenant_0 (fun x_34 t_33 => (∃ m_36 z_37 : Nat, m_36 ≤ ((((((((rc - m_3) - m_7) - m_11) - m_15) - m_19) - m_23) - m_27) - m_31) ∧ z_37 ≤ ((((((((rs - z_4) - z_8) - z_12) - z_16) - z_20) - z_24) - z_28) - z_32) ∧ V_X7_writeAmount_0 E (fun t_35 => K t_35) a0 (84 : Int32) x_34 t_33 m_36 z_37)) a3 t_30)) a0 (72 : Int32) x_29 t_26 m_31 z_32)) a0 (66 : Int32) x_25 t_22 m_27 z_28)) a0 (88 : Int32) x_21 t_18 m_23 z_24)) a0 (82 : Int32) x_17 t_13 m_19 z_20)) a0 x2 t_9 m_15 z_16)) a0 (E 3) t_5 m_11 z_12)) a0 x1 t_1 m_7 z_8)) a0 (76 : Int32) t m_3 z_4)
set_option maxRecDepth 20000 in
theorem S_X7_writeLine_0 {Γ : xΓ} {K : xT → Prop} (hl : (gl Γ).stackTraces = false) (ht : (gM Γ).sig.returnType = none) (hr : xRet Γ (xKv K)) {a0 : Nat} {x1 : Int32} {x2 : Int32} {a3 : Nat} {t : xT} {rc rs : Nat} (h : V_X7_writeLine_0 (gG Γ).2.2.2 K a0 x1 x2 a3 t rc rs) : xX Γ k_X7_writeLine 0 [(0, .ref a0), (1, .int x1), (2, .int x2), (3, .ref a3)] [] t rc rs := by
  unfold V_X7_writeLine_0 at h
  refine x_aload_n 0 dX7_writeLine_0 rfl rfl ?_
  refine x_bipush (v := (76 : Int32)) dX7_writeLine_1 (by decide) ?_
  obtain ⟨⟨fs, hf⟩, h⟩ := h
  obtain ⟨m_3, z_4, hm, hs, h⟩ := h
  refine x_invV (as := [.int (76 : Int32)]) (rest := []) dX7_writeLine_3 (q := (RJ4, TJ4, 4)) rfl xc_X7_writeLine_375 hf (M_J4_append_cf468 hl h) rfl rfl (Nat.le_of_ble_eq_true rfl) hm hs (xk_r fun o_2 t_1 h => ?_)
  refine x_pop dX7_writeLine_6 xcat_rf ?_
  refine x_aload_n 0 dX7_writeLine_7 rfl rfl ?_
  refine x_iload_n 1 dX7_writeLine_8 rfl rfl ?_
  obtain ⟨⟨fs, hf⟩, h⟩ := h
  obtain ⟨m_7, z_8, hm, hs, h⟩ := h
  refine x_invV (as := [.int x1]) (rest := []) dX7_writeLine_9 (q := (RJ4, TJ4, 4)) rfl xc_X7_writeLine_379 hf (M_J4_append_bf812 hl h) rfl rfl (Nat.le_of_ble_eq_true rfl) hm hs (xk_r fun o_6 t_5 h => ?_)
  refine x_pop dX7_writeLine_12 xcat_rf ?_
  refine x_aload_n 0 dX7_writeLine_13 rfl rfl ?_
  refine x_ldcM3 (κ := k_X7_writeLine) dX7_writeLine_14 rfl ?_
  obtain ⟨⟨fs, hf⟩, h⟩ := h
  obtain ⟨m_11, z_12, hm, hs, h⟩ := h
  refine x_invV (as := [.ref ((gG Γ).2.2.2 3)]) (rest := []) dX7_writeLine_17 (q := (RJ4, TJ4, 4)) rfl xc_X7_writeLine_384 hf (M_J4_append_15ec4 hl h) rfl rfl (Nat.le_of_ble_eq_true rfl) hm hs (xk_r fun o_10 t_9 h => ?_)
  refine x_pop dX7_writeLine_20 xcat_rf ?_
  refine x_aload_n 0 dX7_writeLine_21 rfl rfl ?_
  refine x_iload_n 2 dX7_writeLine_22 rfl rfl ?_
  obtain ⟨⟨fs, hf⟩, h⟩ := h
  obtain ⟨m_15, z_16, hm, hs, h⟩ := h
  refine x_invV (as := [.int x2]) (rest := []) dX7_writeLine_23 (q := (RJ4, TJ4, 4)) rfl xc_X7_writeLine_379 hf (M_J4_append_bf812 hl h) rfl rfl (Nat.le_of_ble_eq_true rfl) hm hs (xk_r fun o_14 t_13 h => ?_)
  refine x_pop dX7_writeLine_26 xcat_rf ?_
  refine x_aload_n 0 dX7_writeLine_27 rfl rfl ?_
  refine x_bipush (v := (82 : Int32)) dX7_writeLine_28 (by decide) ?_
  refine x_aload_n 3 dX7_writeLine_30 rfl rfl ?_
  obtain ⟨fs, hf, x_17, hv, h⟩ := h
  refine x_get dX7_writeLine_31 xf_X7_350 hf hv ?_
  obtain ⟨m_19, z_20, hm, hs, h⟩ := h
  refine x_invS (as := [.ref a0, .int (82 : Int32), .int x_17]) (rest := []) dX7_writeLine_34 xc_X7_writeLine_387 (M_X7_writeAmount hl h) rfl rfl (Nat.le_of_ble_eq_true rfl) hm hs (xk_v fun t_18 h => ?_)
  refine x_aload_n 0 dX7_writeLine_37 rfl rfl ?_
  refine x_bipush (v := (88 : Int32)) dX7_writeLine_38 (by decide) ?_
  refine x_aload_n 3 dX7_writeLine_40 rfl rfl ?_
  obtain ⟨fs, hf, x_21, hv, h⟩ := h
  refine x_get dX7_writeLine_41 xf_X7_356 hf hv ?_
  obtain ⟨m_23, z_24, hm, hs, h⟩ := h
  refine x_invS (as := [.ref a0, .int (88 : Int32), .int x_21]) (rest := []) dX7_writeLine_44 xc_X7_writeLine_387 (M_X7_writeAmount hl h) rfl rfl (Nat.le_of_ble_eq_true rfl) hm hs (xk_v fun t_22 h => ?_)
  refine x_aload_n 0 dX7_writeLine_47 rfl rfl ?_
  refine x_bipush (v := (66 : Int32)) dX7_writeLine_48 (by decide) ?_
  refine x_aload_n 3 dX7_writeLine_50 rfl rfl ?_
  obtain ⟨fs, hf, x_25, hv, h⟩ := h
  refine x_get dX7_writeLine_51 xf_X7_292 hf hv ?_
  obtain ⟨m_27, z_28, hm, hs, h⟩ := h
  refine x_invS (as := [.ref a0, .int (66 : Int32), .int x_25]) (rest := []) dX7_writeLine_54 xc_X7_writeLine_387 (M_X7_writeAmount hl h) rfl rfl (Nat.le_of_ble_eq_true rfl) hm hs (xk_v fun t_26 h => ?_)
  refine x_aload_n 0 dX7_writeLine_57 rfl rfl ?_
  refine x_bipush (v := (72 : Int32)) dX7_writeLine_58 (by decide) ?_
  refine x_aload_n 3 dX7_writeLine_60 rfl rfl ?_
  obtain ⟨fs, hf, x_29, hv, h⟩ := h
  refine x_get dX7_writeLine_61 xf_X7_359 hf hv ?_
  obtain ⟨m_31, z_32, hm, hs, h⟩ := h
  refine x_invS (as := [.ref a0, .int (72 : Int32), .int x_29]) (rest := []) dX7_writeLine_64 xc_X7_writeLine_387 (M_X7_writeAmount hl h) rfl rfl (Nat.le_of_ble_eq_true rfl) hm hs (xk_v fun t_30 h => ?_)
  refine x_aload_n 0 dX7_writeLine_67 rfl rfl ?_
  refine x_bipush (v := (84 : Int32)) dX7_writeLine_68 (by decide) ?_
  refine x_aload_n 3 dX7_writeLine_70 rfl rfl ?_
  obtain ⟨⟨fs, hf⟩, h⟩ := h
  refine x_invV (as := []) (rest := [.int (84 : Int32), .ref a0]) dX7_writeLine_71 (q := (RX0, TX0, 4)) rfl xc_X7_writeLine_220 hf (M_X0_ofTenant hl h) rfl rfl (Nat.le_of_ble_eq_true rfl) (Nat.zero_le _) (Nat.zero_le _) (xk_i fun x_34 t_33 h => ?_)
  obtain ⟨m_36, z_37, hm, hs, h⟩ := h
  refine x_invS (as := [.ref a0, .int (84 : Int32), .int x_34]) (rest := []) dX7_writeLine_74 xc_X7_writeLine_387 (M_X7_writeAmount hl h) rfl rfl (Nat.le_of_ble_eq_true rfl) hm hs (xk_v fun t_35 h => ?_)
  exact x_vret dX7_writeLine_77 hr ht ⟨rfl, h⟩
theorem M_X7_writeLine {l : Launch} {G : xG} (hl : l.stackTraces = false) {a0 : Nat} {x1 : Int32} {x2 : Int32} {a3 : Nat} {t : xT} {K : xT → Prop} {rc rs : Nat} (h : V_X7_writeLine_0 G.2.2.2 K a0 x1 x2 a3 t rc rs) : xMet l G yX7_writeLine k_X7_writeLine none [.ref a0, .int x1, .int x2, .ref a3] t (xKv K) rc rs := xMet.of (by decide +kernel) rfl hl (Nat.le_of_ble_eq_true rfl) (fun Γ e1 e2 ht hn hr => by subst e1; subst e2; exact S_X7_writeLine_0 hl ht hr h)
/-! java/lang/String.checkIndex(II)V -/
def V_J0_checkIndex_df160_0 (K : xT → Prop) (x0 : Int32) (x1 : Int32) (t : xT) : Prop :=
  (∀ o_1 : Option Nat, (V_J3_checkIndex_8e157_0 (fun x_3 t_2 => K t_2) x0 x1 o_1 t))
set_option maxRecDepth 20000 in
theorem S_J0_checkIndex_df160_0 {Γ : xΓ} {K : xT → Prop} (hl : (gl Γ).stackTraces = false) (ht : (gM Γ).sig.returnType = none) (hr : xRet Γ (xKv K)) {x0 : Int32} {x1 : Int32} {t : xT} {rc rs : Nat} (h : V_J0_checkIndex_df160_0 K x0 x1 t) : xX Γ k_J0_checkIndex_df160 0 [(0, .int x0), (1, .int x1)] [] t rc rs := by
  unfold V_J0_checkIndex_df160_0 at h
  refine x_iload_n 0 dJ0_checkIndex_df160_0 rfl rfl ?_
  refine x_iload_n 1 dJ0_checkIndex_df160_1 rfl rfl ?_
  refine x_getsq dJ0_checkIndex_df160_2 (List.mem_of_getElem? (i := 2) rfl) xw877 (fun o_1 => ?_)
  replace h := h o_1
  refine x_invS (as := [.int x0, .int x1, va_rf o_1]) (rest := []) dJ0_checkIndex_df160_5 xc_J0_checkIndex_df160_1059 (M_J3_checkIndex_8e157 hl h) rfl rfl (Nat.le_of_ble_eq_true rfl) (Nat.zero_le _) (Nat.zero_le _) (xk_i fun x_3 t_2 h => ?_)
  refine x_pop dJ0_checkIndex_df160_8 rfl ?_
  exact x_vret dJ0_checkIndex_df160_9 hr ht ⟨rfl, h⟩
theorem M_J0_checkIndex_df160 {l : Launch} {G : xG} (hl : l.stackTraces = false) {x0 : Int32} {x1 : Int32} {t : xT} {K : xT → Prop} (h : V_J0_checkIndex_df160_0 K x0 x1 t) : xMet l G yJ0_checkIndex_df160 k_J0_checkIndex_df160 none [.int x0, .int x1] t (xKv K) 0 0 := xMet.of (by decide +kernel) rfl hl (Nat.le_of_ble_eq_true rfl) (fun Γ e1 e2 ht hn hr => by subst e1; subst e2; exact S_J0_checkIndex_df160_0 hl ht hr h)
/-! java/lang/AbstractStringBuilder.charAt(I)C -/
def V_J5_charAt_5068e_0 (K : Int32 → xT → Prop) (a0 : Nat) (x1 : Int32) (t : xT) : Prop :=
  xgI t a0 9 1 fun x_1 => xgR t a0 9 0 fun a_2 => xgI t a0 9 3 fun x_3 => xal t a_2 fun x_4 => (V_J0_checkIndex_df160_0 (fun t_5 => ((¬ x_1 = 0 → False) ∧ (x_1 = 0 → xaB t_5 a_2 x1 fun x_6 => (narrow .char (.int ((x_6 &&& (255 : Int32)).toUInt32 % 65536).toInt32) = .int ((x_6 &&& (255 : Int32)).toUInt32 % 65536).toInt32 ∧ K (((x_6 &&& (255 : Int32)).toUInt32 % 65536).toInt32) t_5)))) x1 (if (x_4 >>> (x_1 &&& 31)) < x_3 then (x_4 >>> (x_1 &&& 31)) else x_3) t)
set_option maxRecDepth 20000 in
theorem S_J5_charAt_5068e_0 {Γ : xΓ} {K : Int32 → xT → Prop} (hl : (gl Γ).stackTraces = false) (ht : (gM Γ).sig.returnType = (some .char)) (hr : xRet Γ (xKi K)) {a0 : Nat} {x1 : Int32} {t : xT} {rc rs : Nat} (h : V_J5_charAt_5068e_0 K a0 x1 t) : xX Γ k_J5_charAt_5068e 0 [(0, .ref a0), (1, .int x1)] [] t rc rs := by
  unfold V_J5_charAt_5068e_0 at h
  refine x_aload_n 0 dJ5_charAt_5068e_0 rfl rfl ?_
  obtain ⟨fs, hf, x_1, hv, h⟩ := h
  refine x_get dJ5_charAt_5068e_1 xf_J5_22 hf hv ?_
  refine x_istore_n (L' := [(2, .int x_1), (0, .ref a0), (1, .int x1)]) dJ5_charAt_5068e_4 rfl (by decide) rfl ?_
  refine x_aload_n 1 dJ5_charAt_5068e_5 rfl rfl ?_
  obtain ⟨fs, hf, a_2, hv, h⟩ := h
  refine x_get dJ5_charAt_5068e_6 xf_J5_15 hf hv ?_
  refine x_astore_n (L' := [(3, .ref a_2), (2, .int x_1), (0, .ref a0), (1, .int x1)]) dJ5_charAt_5068e_9 rfl (by decide) rfl ?_
  refine x_aload_n 2 dJ5_charAt_5068e_10 rfl rfl ?_
  obtain ⟨fs, hf, x_3, hv, h⟩ := h
  refine x_get dJ5_charAt_5068e_11 xf_J5_79 hf hv ?_
  refine x_aload_n 0 dJ5_charAt_5068e_14 rfl rfl ?_
  obtain ⟨k, z, hf, h⟩ := h
  refine x_alen dJ5_charAt_5068e_15 hf ?_
  generalize Int32.ofNat z.1 = x_4 at h ⊢
  refine x_iload_n 1 dJ5_charAt_5068e_16 rfl rfl ?_
  refine x_ishr dJ5_charAt_5068e_17 ?_
  refine x_mmin dJ5_charAt_5068e_18 xlm_J5_138 (by decide) (by decide) (Nat.le_of_ble_eq_true rfl) ?_
  refine x_istore (L' := [(4, .int (if (x_4 >>> (x_1 &&& 31)) < x_3 then (x_4 >>> (x_1 &&& 31)) else x_3)), (3, .ref a_2), (2, .int x_1), (0, .ref a0), (1, .int x1)]) dJ5_charAt_5068e_21 (by decide) rfl ?_
  refine x_iload_n 4 dJ5_charAt_5068e_23 rfl rfl ?_
  refine x_iload 0 dJ5_charAt_5068e_24 rfl ?_
  refine x_invS (as := [.int x1, .int (if (x_4 >>> (x_1 &&& 31)) < x_3 then (x_4 >>> (x_1 &&& 31)) else x_3)]) (rest := []) dJ5_charAt_5068e_26 xc_J5_charAt_5068e_144 (M_J0_checkIndex_df160 hl h) rfl rfl (Nat.le_of_ble_eq_true rfl) (Nat.zero_le _) (Nat.zero_le _) (xk_v fun t_5 h => ?_)
  refine x_iload_n 2 dJ5_charAt_5068e_29 rfl rfl ?_
  obtain ⟨h1, h2⟩ := h
  refine x_if_ne (tgt := 42) dJ5_charAt_5068e_30 (by decide) (fun q => ?_) (fun q => ?_)
  · have h := h1 q
    refine x_aload_n 1 dJ5_charAt_5068e_42 rfl rfl ?_
    refine x_iload_n 4 dJ5_charAt_5068e_43 rfl rfl ?_
    exact h.elim
  · have h := h2 q
    refine x_aload_n 1 dJ5_charAt_5068e_33 rfl rfl ?_
    refine x_iload_n 4 dJ5_charAt_5068e_34 rfl rfl ?_
    obtain ⟨k, n, f, hf, hk, hi, h⟩ := h
    refine x_bald dJ5_charAt_5068e_35 hf hk hi ?_
    generalize f _ = x_6 at h ⊢
    refine x_sipush (v := (255 : Int32)) dJ5_charAt_5068e_36 (by decide) ?_
    refine x_iand dJ5_charAt_5068e_39 ?_
    refine x_i2c dJ5_charAt_5068e_40 ?_
    obtain ⟨hn, h⟩ := h
    exact x_zret dJ5_charAt_5068e_41 hr ht hn ⟨_, rfl, h⟩
theorem M_J5_charAt_5068e {l : Launch} {G : xG} (hl : l.stackTraces = false) {a0 : Nat} {x1 : Int32} {t : xT} {K : Int32 → xT → Prop} (h : V_J5_charAt_5068e_0 K a0 x1 t) : xMet l G yJ5_charAt_5068e k_J5_charAt_5068e (some .char) [.ref a0, .int x1] t (xKi K) 0 0 := xMet.of (by decide +kernel) rfl hl (Nat.le_of_ble_eq_true rfl) (fun Γ e1 e2 ht hn hr => by subst e1; subst e2; exact S_J5_charAt_5068e_0 hl ht hr h)
/-! java/lang/StringBuilder.charAt(I)C -/
def V_J4_charAt_5068e_0 (K : Int32 → xT → Prop) (a0 : Nat) (x1 : Int32) (t : xT) : Prop :=
  (xis t a0 9 ∧ V_J5_charAt_5068e_0 (fun x_2 t_1 => (narrow .char (.int x_2) = .int x_2 ∧ K x_2 t_1)) a0 x1 t)
set_option maxRecDepth 20000 in
theorem S_J4_charAt_5068e_0 {Γ : xΓ} {K : Int32 → xT → Prop} (hl : (gl Γ).stackTraces = false) (ht : (gM Γ).sig.returnType = (some .char)) (hr : xRet Γ (xKi K)) {a0 : Nat} {x1 : Int32} {t : xT} {rc rs : Nat} (h : V_J4_charAt_5068e_0 K a0 x1 t) : xX Γ k_J4_charAt_5068e 0 [(0, .ref a0), (1, .int x1)] [] t rc rs := by
  unfold V_J4_charAt_5068e_0 at h
  refine x_aload_n 0 dJ4_charAt_5068e_0 rfl rfl ?_
  refine x_iload_n 1 dJ4_charAt_5068e_1 rfl rfl ?_
  obtain ⟨⟨fs, hf⟩, h⟩ := h
  refine x_invSU (as := [.int x1]) (rest := []) dJ4_charAt_5068e_2 (q := (RJ4, TJ4, 4)) rfl xc_J4_charAt_5068e_329 hf (M_J5_charAt_5068e hl h) rfl rfl (Nat.le_of_ble_eq_true rfl) (Nat.zero_le _) (Nat.zero_le _) (xk_i fun x_2 t_1 h => ?_)
  obtain ⟨hn, h⟩ := h
  exact x_zret dJ4_charAt_5068e_5 hr ht hn ⟨_, rfl, h⟩
theorem M_J4_charAt_5068e {l : Launch} {G : xG} (hl : l.stackTraces = false) {a0 : Nat} {x1 : Int32} {t : xT} {K : Int32 → xT → Prop} (h : V_J4_charAt_5068e_0 K a0 x1 t) : xMet l G yJ4_charAt_5068e k_J4_charAt_5068e (some .char) [.ref a0, .int x1] t (xKi K) 0 0 := xMet.of (by decide +kernel) rfl hl (Nat.le_of_ble_eq_true rfl) (fun Γ e1 e2 ht hn hr => by subst e1; subst e2; exact S_J4_charAt_5068e_0 hl ht hr h)
/-! java/lang/AbstractStringBuilder.length()I -/
def V_J5_length_8abf5_0 (K : Int32 → xT → Prop) (a0 : Nat) (t : xT) : Prop :=
  xgI t a0 9 3 fun x_1 => K x_1 t
set_option maxRecDepth 20000 in
theorem S_J5_length_8abf5_0 {Γ : xΓ} {K : Int32 → xT → Prop} (hl : (gl Γ).stackTraces = false) (ht : (gM Γ).sig.returnType = (some .int)) (hr : xRet Γ (xKi K)) {a0 : Nat} {t : xT} {rc rs : Nat} (h : V_J5_length_8abf5_0 K a0 t) : xX Γ k_J5_length_8abf5 0 [(0, .ref a0)] [] t rc rs := by
  unfold V_J5_length_8abf5_0 at h
  refine x_aload_n 0 dJ5_length_8abf5_0 rfl rfl ?_
  obtain ⟨fs, hf, x_1, hv, h⟩ := h
  refine x_get dJ5_length_8abf5_1 xf_J5_79 hf hv ?_
  exact x_zret dJ5_length_8abf5_4 hr ht rfl ⟨_, rfl, h⟩
theorem M_J5_length_8abf5 {l : Launch} {G : xG} (hl : l.stackTraces = false) {a0 : Nat} {t : xT} {K : Int32 → xT → Prop} (h : V_J5_length_8abf5_0 K a0 t) : xMet l G yJ5_length_8abf5 k_J5_length_8abf5 (some .int) [.ref a0] t (xKi K) 0 0 := xMet.of (by decide +kernel) rfl hl (Nat.le_of_ble_eq_true rfl) (fun Γ e1 e2 ht hn hr => by subst e1; subst e2; exact S_J5_length_8abf5_0 hl ht hr h)
/-! java/lang/StringBuilder.length()I -/
def V_J4_length_8abf5_0 (K : Int32 → xT → Prop) (a0 : Nat) (t : xT) : Prop :=
  (xis t a0 9 ∧ V_J5_length_8abf5_0 (fun x_2 t_1 => K x_2 t_1) a0 t)
set_option maxRecDepth 20000 in
theorem S_J4_length_8abf5_0 {Γ : xΓ} {K : Int32 → xT → Prop} (hl : (gl Γ).stackTraces = false) (ht : (gM Γ).sig.returnType = (some .int)) (hr : xRet Γ (xKi K)) {a0 : Nat} {t : xT} {rc rs : Nat} (h : V_J4_length_8abf5_0 K a0 t) : xX Γ k_J4_length_8abf5 0 [(0, .ref a0)] [] t rc rs := by
  unfold V_J4_length_8abf5_0 at h
  refine x_aload_n 0 dJ4_length_8abf5_0 rfl rfl ?_
  obtain ⟨⟨fs, hf⟩, h⟩ := h
  refine x_invSU (as := []) (rest := []) dJ4_length_8abf5_1 (q := (RJ4, TJ4, 4)) rfl xc_J4_length_8abf5_343 hf (M_J5_length_8abf5 hl h) rfl rfl (Nat.le_of_ble_eq_true rfl) (Nat.zero_le _) (Nat.zero_le _) (xk_i fun x_2 t_1 h => ?_)
  exact x_zret dJ4_length_8abf5_4 hr ht rfl ⟨_, rfl, h⟩
theorem M_J4_length_8abf5 {l : Launch} {G : xG} (hl : l.stackTraces = false) {a0 : Nat} {t : xT} {K : Int32 → xT → Prop} (h : V_J4_length_8abf5_0 K a0 t) : xMet l G yJ4_length_8abf5 k_J4_length_8abf5 (some .int) [.ref a0] t (xKi K) 0 0 := xMet.of (by decide +kernel) rfl hl (Nat.le_of_ble_eq_true rfl) (fun Γ e1 e2 ht hn hr => by subst e1; subst e2; exact S_J4_length_8abf5_0 hl ht hr h)
/-! java/lang/AbstractStringBuilder.setLength(I)V -/
def V_J5_setLength_d00df_0 (K : xT → Prop) (a0 : Nat) (x1 : Int32) (t : xT) (rc rs : Nat) : Prop :=
  ((0 ≤ x1 → (xis t a0 9 ∧ ∃ m_2 z_3 : Nat, m_2 ≤ rc ∧ z_3 ≤ rs ∧ V_J5_ensureCapacityInternal_d00df_0 (fun t_1 => xgI t_1 a0 9 3 fun x_4 => ((x1 ≤ x_4 → xgI t_1 a0 9 3 fun x_5 => ((x_5 ≤ x1 → (xpF t_1 a0 9 3 (.int x1) fun t_6 => K t_6)) ∧ (¬ x_5 ≤ x1 → (xpF t_1 a0 9 2 (.int (1 : Int32)) fun t_7 => (xpF t_7 a0 9 3 (.int x1) fun t_8 => K t_8))))) ∧ (¬ x1 ≤ x_4 → (xis t_1 a0 9 ∧ V_J5_isLatin1_aae02_0 (fun x_10 t_9 => ((x_10 = 0 → xgR t_9 a0 9 0 fun a_11 => xgI t_9 a0 9 3 fun x_12 => False) ∧ (¬ x_10 = 0 → xgR t_9 a0 9 0 fun a_13 => xgI t_9 a0 9 3 fun x_14 => False))) a0 t_1)))) a0 x1 t m_2 z_3)) ∧ (¬ 0 ≤ x1 → False))
set_option maxRecDepth 20000 in
theorem S_J5_setLength_d00df_0 {Γ : xΓ} {K : xT → Prop} (hl : (gl Γ).stackTraces = false) (ht : (gM Γ).sig.returnType = none) (hr : xRet Γ (xKv K)) {a0 : Nat} {x1 : Int32} {t : xT} {rc rs : Nat} (h : V_J5_setLength_d00df_0 K a0 x1 t rc rs) : xX Γ k_J5_setLength_d00df 0 [(0, .ref a0), (1, .int x1)] [] t rc rs := by
  unfold V_J5_setLength_d00df_0 at h
  refine x_iload_n 1 dJ5_setLength_d00df_0 rfl rfl ?_
  obtain ⟨h1, h2⟩ := h
  refine x_if_ge (tgt := 13) dJ5_setLength_d00df_1 (by decide) (fun q => ?_) (fun q => ?_)
  · have h := h1 q
    refine x_aload_n 0 dJ5_setLength_d00df_13 rfl rfl ?_
    refine x_iload_n 1 dJ5_setLength_d00df_14 rfl rfl ?_
    obtain ⟨⟨fs, hf⟩, h⟩ := h
    obtain ⟨m_2, z_3, hm, hs, h⟩ := h
    refine x_invV (as := [.int x1]) (rest := []) dJ5_setLength_d00df_15 (q := (RJ4, TJ4, 4)) rfl xc_J5_setLength_d00df_100 hf (M_J5_ensureCapacityInternal_d00df hl h) rfl rfl (Nat.le_of_ble_eq_true rfl) hm hs (xk_v fun t_1 h => ?_)
    refine x_aload_n 0 dJ5_setLength_d00df_18 rfl rfl ?_
    obtain ⟨fs, hf, x_4, hv, h⟩ := h
    refine x_get dJ5_setLength_d00df_19 xf_J5_79 hf hv ?_
    refine x_iload_n 1 dJ5_setLength_d00df_22 rfl rfl ?_
    obtain ⟨h1, h2⟩ := h
    refine x_icmp_ge (tgt := 63) dJ5_setLength_d00df_23 (by decide) (fun q => ?_) (fun q => ?_)
    · have h := h1 q
      refine x_aload_n 0 dJ5_setLength_d00df_63 rfl rfl ?_
      obtain ⟨fs, hf, x_5, hv, h⟩ := h
      refine x_get dJ5_setLength_d00df_64 xf_J5_79 hf hv ?_
      refine x_iload_n 1 dJ5_setLength_d00df_67 rfl rfl ?_
      obtain ⟨h1, h2⟩ := h
      refine x_icmp_le (tgt := 76) dJ5_setLength_d00df_68 (by decide) (fun q => ?_) (fun q => ?_)
      · have h := h1 q
        refine x_aload_n 0 dJ5_setLength_d00df_76 rfl rfl ?_
        refine x_iload_n 1 dJ5_setLength_d00df_77 rfl rfl ?_
        obtain ⟨fs, hf, hk, h⟩ := h
        refine x_put (v := .int x1) dJ5_setLength_d00df_78 xp_J5_79 hf rfl rfl hk ?_
        generalize hT : xup t_1 a0 _ = t_6 at h ⊢
        clear hT
        exact x_vret dJ5_setLength_d00df_81 hr ht ⟨rfl, h⟩
      · have h := h2 q
        refine x_aload_n 0 dJ5_setLength_d00df_71 rfl rfl ?_
        refine x_iconst (v := (1 : Int32)) dJ5_setLength_d00df_72 (by decide) ?_
        obtain ⟨fs, hf, hk, h⟩ := h
        refine x_put (v := .int (1 : Int32)) dJ5_setLength_d00df_73 xp_J5_73 hf rfl rfl hk ?_
        generalize hT : xup t_1 a0 _ = t_7 at h ⊢
        clear hT
        refine x_aload_n 0 dJ5_setLength_d00df_76 rfl rfl ?_
        refine x_iload_n 1 dJ5_setLength_d00df_77 rfl rfl ?_
        obtain ⟨fs, hf, hk, h⟩ := h
        refine x_put (v := .int x1) dJ5_setLength_d00df_78 xp_J5_79 hf rfl rfl hk ?_
        generalize hT : xup t_7 a0 _ = t_8 at h ⊢
        clear hT
        exact x_vret dJ5_setLength_d00df_81 hr ht ⟨rfl, h⟩
    · have h := h2 q
      refine x_aload_n 0 dJ5_setLength_d00df_26 rfl rfl ?_
      obtain ⟨⟨fs, hf⟩, h⟩ := h
      refine x_invV (as := []) (rest := []) dJ5_setLength_d00df_27 (q := (RJ4, TJ4, 4)) rfl xc_J5_setLength_d00df_83 hf (M_J5_isLatin1_aae02 hl h) rfl rfl (Nat.le_of_ble_eq_true rfl) (Nat.zero_le _) (Nat.zero_le _) (xk_i fun x_10 t_9 h => ?_)
      obtain ⟨h1, h2⟩ := h
      refine x_if_eq (tgt := 48) dJ5_setLength_d00df_30 (by decide) (fun q => ?_) (fun q => ?_)
      · have h := h1 q
        refine x_aload_n 0 dJ5_setLength_d00df_48 rfl rfl ?_
        obtain ⟨fs, hf, a_11, hv, h⟩ := h
        refine x_get dJ5_setLength_d00df_49 xf_J5_15 hf hv ?_
        refine x_aload_n 0 dJ5_setLength_d00df_52 rfl rfl ?_
        obtain ⟨fs, hf, x_12, hv, h⟩ := h
        refine x_get dJ5_setLength_d00df_53 xf_J5_79 hf hv ?_
        refine x_iload_n 1 dJ5_setLength_d00df_56 rfl rfl ?_
        exact h.elim
      · have h := h2 q
        refine x_aload_n 0 dJ5_setLength_d00df_33 rfl rfl ?_
        obtain ⟨fs, hf, a_13, hv, h⟩ := h
        refine x_get dJ5_setLength_d00df_34 xf_J5_15 hf hv ?_
        refine x_aload_n 0 dJ5_setLength_d00df_37 rfl rfl ?_
        obtain ⟨fs, hf, x_14, hv, h⟩ := h
        refine x_get dJ5_setLength_d00df_38 xf_J5_79 hf hv ?_
        refine x_iload_n 1 dJ5_setLength_d00df_41 rfl rfl ?_
        exact h.elim
  · have h := h2 q
    exact h.elim
theorem M_J5_setLength_d00df {l : Launch} {G : xG} (hl : l.stackTraces = false) {a0 : Nat} {x1 : Int32} {t : xT} {K : xT → Prop} {rc rs : Nat} (h : V_J5_setLength_d00df_0 K a0 x1 t rc rs) : xMet l G yJ5_setLength_d00df k_J5_setLength_d00df none [.ref a0, .int x1] t (xKv K) rc rs := xMet.of (by decide +kernel) rfl hl (Nat.le_of_ble_eq_true rfl) (fun Γ e1 e2 ht hn hr => by subst e1; subst e2; exact S_J5_setLength_d00df_0 hl ht hr h)
/-! java/lang/StringBuilder.setLength(I)V -/
def V_J4_setLength_d00df_0 (K : xT → Prop) (a0 : Nat) (x1 : Int32) (t : xT) (rc rs : Nat) : Prop :=
  (xis t a0 9 ∧ ∃ m_2 z_3 : Nat, m_2 ≤ rc ∧ z_3 ≤ rs ∧ V_J5_setLength_d00df_0 (fun t_1 => K t_1) a0 x1 t m_2 z_3)
set_option maxRecDepth 20000 in
theorem S_J4_setLength_d00df_0 {Γ : xΓ} {K : xT → Prop} (hl : (gl Γ).stackTraces = false) (ht : (gM Γ).sig.returnType = none) (hr : xRet Γ (xKv K)) {a0 : Nat} {x1 : Int32} {t : xT} {rc rs : Nat} (h : V_J4_setLength_d00df_0 K a0 x1 t rc rs) : xX Γ k_J4_setLength_d00df 0 [(0, .ref a0), (1, .int x1)] [] t rc rs := by
  unfold V_J4_setLength_d00df_0 at h
  refine x_aload_n 0 dJ4_setLength_d00df_0 rfl rfl ?_
  refine x_iload_n 1 dJ4_setLength_d00df_1 rfl rfl ?_
  obtain ⟨⟨fs, hf⟩, h⟩ := h
  obtain ⟨m_2, z_3, hm, hs, h⟩ := h
  refine x_invSU (as := [.int x1]) (rest := []) dJ4_setLength_d00df_2 (q := (RJ4, TJ4, 4)) rfl xc_J4_setLength_d00df_333 hf (M_J5_setLength_d00df hl h) rfl rfl (Nat.le_of_ble_eq_true rfl) hm hs (xk_v fun t_1 h => ?_)
  exact x_vret dJ4_setLength_d00df_5 hr ht ⟨rfl, h⟩
theorem M_J4_setLength_d00df {l : Launch} {G : xG} (hl : l.stackTraces = false) {a0 : Nat} {x1 : Int32} {t : xT} {K : xT → Prop} {rc rs : Nat} (h : V_J4_setLength_d00df_0 K a0 x1 t rc rs) : xMet l G yJ4_setLength_d00df k_J4_setLength_d00df none [.ref a0, .int x1] t (xKv K) rc rs := xMet.of (by decide +kernel) rfl hl (Nat.le_of_ble_eq_true rfl) (fun Γ e1 e2 ht hn hr => by subst e1; subst e2; exact S_J4_setLength_d00df_0 hl ht hr h)
/-! RentStream.line(III)C -/
def V_X7_line_0 (E : Nat → Nat) (KX : String → xT → Prop) (K : Int32 → xT → Prop) (a0 : Nat) (x1 : Int32) (x2 : Int32) (x3 : Int32) (t : xT) (rc rs : Nat) : Prop :=
  (xis t a0 7 ∧ ∃ m_3 z_4 : Nat, m_3 ≤ rc ∧ z_4 ≤ rs ∧ V_X7_leaseAt_0 KX (fun o_2 t_1 => (xis t_1 a0 7 ∧ ∃ m_6 z_7 : Nat, m_6 ≤ (rc - m_3) ∧ z_7 ≤ (rs - z_4) ∧ V_X7_needMonth_0 KX (fun t_5 => ((0 ≤ x3 → xnl o_2 fun a_8 => (xis t_5 a_8 3 ∧ V_X3_billOf_0 (fun o_10 t_9 => ((o_10 = none → K (32 : Int32) t_9) ∧ (∀ a_11 : Nat, o_10 = some a_11 → xgR t_9 a0 7 5 fun a_12 => (xis t_9 a_12 9 ∧ ∃ m_14 z_15 : Nat, m_14 ≤ ((rc - m_3) - m_6) ∧ z_15 ≤ ((rs - z_4) - z_7) ∧ V_J4_setLength_d00df_0 (fun t_13 => xgR t_13 a0 7 5 fun a_16 => (∃ m_18 z_19 : Nat, m_18 ≤ (((rc - m_3) - m_6) - m_14) ∧ z_19 ≤ (((rs - z_4) - z_7) - z_15) ∧ V_X7_writeLine_0 E (fun t_17 => xgR t_17 a0 7 5 fun a_20 => (xis t_17 a_20 9 ∧ V_J4_length_8abf5_0 (fun x_22 t_21 => ((x_22 ≤ x3 → K (32 : Int32) t_21) ∧ (¬ x_22 ≤ x3 → xgR t_21 a0 7 5 fun a_23 => (xis t_21 a_23 9 ∧ V_J4_charAt_5068e_0 (fun x_25 t_24 => (narrow .char (.int x_25) = .int x_25 ∧ K x_25 t_24)) a_23 x3 t_21)))) a_20 t_17)) a_16 x1 x2 a_11 t_13 m_18 z_19)) a_12 (0 : Int32) t_9 m_14 z_15)))) a_8 x2 t_5)) ∧ (¬ 0 ≤ x3 → (1 ≤ ((rc - m_3) - m_6) ∧ 6 ≤ ((rs - z_4) - z_7) ∧ KX "java/lang/IndexOutOfBoundsException" t_5)))) a0 x2 t_1 m_6 z_7)) a0 x1 t m_3 z_4)
set_option maxRecDepth 20000 in
theorem S_X7_line_0 {Γ : xΓ} {KX : String → xT → Prop} {K : Int32 → xT → Prop} (hl : (gl Γ).stackTraces = false) (ht : (gM Γ).sig.returnType = (some .char)) (hr : xRet Γ (xKi K)) (hx : xThr Γ KX) {a0 : Nat} {x1 : Int32} {x2 : Int32} {x3 : Int32} {t : xT} {rc rs : Nat} (h : V_X7_line_0 (gG Γ).2.2.2 KX K a0 x1 x2 x3 t rc rs) : xX Γ k_X7_line 0 [(0, .ref a0), (1, .int x1), (2, .int x2), (3, .int x3)] [] t rc rs := by
  unfold V_X7_line_0 at h
  refine x_aload_n 0 dX7_line_0 rfl rfl ?_
  refine x_iload_n 1 dX7_line_1 rfl rfl ?_
  obtain ⟨⟨fs, hf⟩, h⟩ := h
  obtain ⟨m_3, z_4, hm, hs, h⟩ := h
  refine x_invVX (as := [.int x1]) (rest := []) dX7_line_2 (q := (RX7, TX7, 10)) rfl xc_X7_line_103 hf (M_X7_leaseAt hl h) rfl rfl (Nat.le_of_ble_eq_true rfl) hm hs (fun _ _ h => x_thrown hx h) (xk_r fun o_2 t_1 h => ?_)
  refine x_ostore (L' := [(4, va_rf o_2), (0, .ref a0), (1, .int x1), (2, .int x2), (3, .int x3)]) dX7_line_5 (by decide) rfl ?_
  refine x_aload_n 1 dX7_line_7 rfl rfl ?_
  refine x_iload_n 3 dX7_line_8 rfl rfl ?_
  obtain ⟨⟨fs, hf⟩, h⟩ := h
  obtain ⟨m_6, z_7, hm, hs, h⟩ := h
  refine x_invVX (as := [.int x2]) (rest := []) dX7_line_9 (q := (RX7, TX7, 10)) rfl xc_X7_line_162 hf (M_X7_needMonth hl h) rfl rfl (Nat.le_of_ble_eq_true rfl) hm hs (fun _ _ h => x_thrown hx h) (xk_v fun t_5 h => ?_)
  refine x_iload_n 4 dX7_line_12 rfl rfl ?_
  obtain ⟨h1, h2⟩ := h
  refine x_if_ge (tgt := 26) dX7_line_13 (by decide) (fun q => ?_) (fun q => ?_)
  · have h := h1 q
    refine x_oload 0 dX7_line_26 rfl ?_
    refine x_iload_n 3 dX7_line_28 rfl rfl ?_
    obtain ⟨a_8, e, h⟩ := h
    revert h
    subst e
    intro h
    obtain ⟨⟨fs, hf⟩, h⟩ := h
    refine x_invV (as := [.int x2]) (rest := []) dX7_line_29 (q := (RX3, TX3, 11)) rfl xc_X7_line_228 hf (M_X3_billOf hl h) rfl rfl (Nat.le_of_ble_eq_true rfl) (Nat.zero_le _) (Nat.zero_le _) (xk_r fun o_10 t_9 h => ?_)
    refine x_ostore (L' := [(5, va_rf o_10), (4, .ref a_8), (0, .ref a0), (1, .int x1), (2, .int x2), (3, .int x3)]) dX7_line_32 (by decide) rfl ?_
    refine x_oload 0 dX7_line_34 rfl ?_
    obtain ⟨h1, h2⟩ := h
    refine x_ifnonnull (x := o_10) (tgt := 42) dX7_line_36 (by decide) (fun a_11 q => ?_) (fun q => ?_)
    · have h := h2 _ q
      revert h
      subst q
      intro h
      refine x_aload_n 2 dX7_line_42 rfl rfl ?_
      obtain ⟨fs, hf, a_12, hv, h⟩ := h
      refine x_get dX7_line_43 xf_X7_37 hf hv ?_
      refine x_iconst (v := (0 : Int32)) dX7_line_46 (by decide) ?_
      obtain ⟨⟨fs, hf⟩, h⟩ := h
      obtain ⟨m_14, z_15, hm, hs, h⟩ := h
      refine x_invV (as := [.int (0 : Int32)]) (rest := []) dX7_line_47 (q := (RJ4, TJ4, 4)) rfl xc_X7_line_239 hf (M_J4_setLength_d00df hl h) rfl rfl (Nat.le_of_ble_eq_true rfl) hm hs (xk_v fun t_13 h => ?_)
      refine x_aload_n 2 dX7_line_50 rfl rfl ?_
      obtain ⟨fs, hf, a_16, hv, h⟩ := h
      refine x_get dX7_line_51 xf_X7_37 hf hv ?_
      refine x_iload_n 3 dX7_line_54 rfl rfl ?_
      refine x_iload_n 4 dX7_line_55 rfl rfl ?_
      refine x_aload 0 dX7_line_56 rfl ?_
      obtain ⟨m_18, z_19, hm, hs, h⟩ := h
      refine x_invS (as := [.ref a_16, .int x1, .int x2, .ref a_11]) (rest := []) dX7_line_58 xc_X7_line_242 (M_X7_writeLine hl h) rfl rfl (Nat.le_of_ble_eq_true rfl) hm hs (xk_v fun t_17 h => ?_)
      refine x_iload_n 5 dX7_line_61 rfl rfl ?_
      refine x_aload_n 2 dX7_line_62 rfl rfl ?_
      obtain ⟨fs, hf, a_20, hv, h⟩ := h
      refine x_get dX7_line_63 xf_X7_37 hf hv ?_
      obtain ⟨⟨fs, hf⟩, h⟩ := h
      refine x_invV (as := []) (rest := [.int x3]) dX7_line_66 (q := (RJ4, TJ4, 4)) rfl xc_X7_line_246 hf (M_J4_length_8abf5 hl h) rfl rfl (Nat.le_of_ble_eq_true rfl) (Nat.zero_le _) (Nat.zero_le _) (xk_i fun x_22 t_21 h => ?_)
      obtain ⟨h1, h2⟩ := h
      refine x_icmp_ge (tgt := 83) dX7_line_69 (by decide) (fun q => ?_) (fun q => ?_)
      · have h := h1 q
        refine x_bipush (v := (32 : Int32)) dX7_line_83 (by decide) ?_
        exact x_zret dX7_line_85 hr ht (by decide) ⟨_, rfl, h⟩
      · have h := h2 q
        refine x_aload_n 2 dX7_line_72 rfl rfl ?_
        obtain ⟨fs, hf, a_23, hv, h⟩ := h
        refine x_get dX7_line_73 xf_X7_37 hf hv ?_
        refine x_iload_n 5 dX7_line_76 rfl rfl ?_
        obtain ⟨⟨fs, hf⟩, h⟩ := h
        refine x_invV (as := [.int x3]) (rest := []) dX7_line_77 (q := (RJ4, TJ4, 4)) rfl xc_X7_line_249 hf (M_J4_charAt_5068e hl h) rfl rfl (Nat.le_of_ble_eq_true rfl) (Nat.zero_le _) (Nat.zero_le _) (xk_i fun x_25 t_24 h => ?_)
        refine x_goto (tgt := 85) dX7_line_80 (by decide) ?_
        obtain ⟨hn, h⟩ := h
        exact x_zret dX7_line_85 hr ht hn ⟨_, rfl, h⟩
    · have h := h1 q
      refine x_bipush (v := (32 : Int32)) dX7_line_39 (by decide) ?_
      exact x_zret dX7_line_41 hr ht (by decide) ⟨_, rfl, h⟩
  · have h := h2 q
    obtain ⟨q1, q2, h⟩ := h
    exact x_throw dX7_line_16 dX7_line_19 dX7_line_20 dX7_line_22 dX7_line_25 xtw_144 (List.mem_of_getElem? (i := 21) rfl) hx (Nat.le_of_ble_eq_true rfl) (Nat.le_of_ble_eq_true rfl) (Nat.le_of_ble_eq_true rfl) q1 q2 h
theorem M_X7_line {l : Launch} {G : xG} (hl : l.stackTraces = false) {a0 : Nat} {x1 : Int32} {x2 : Int32} {x3 : Int32} {t : xT} {KX : String → xT → Prop} {K : Int32 → xT → Prop} {rc rs : Nat} (h : V_X7_line_0 G.2.2.2 KX K a0 x1 x2 x3 t rc rs) : xMetX l G yX7_line k_X7_line (some .char) [.ref a0, .int x1, .int x2, .int x3] t (xKi K) KX rc rs := xMetX.of (by decide +kernel) rfl hl (Nat.le_of_ble_eq_true rfl) (fun Γ e1 e2 ht hn hr hx => by subst e1; subst e2; exact S_X7_line_0 hl ht hr hx h)
/-! RentStream.mend(I)I -/
def V_X7_mend_0 (KX : String → xT → Prop) (K : Int32 → xT → Prop) (a0 : Nat) (x1 : Int32) (t : xT) (rc rs : Nat) : Prop :=
  ((x1 < 0 → (1 ≤ rc ∧ 6 ≤ rs ∧ KX "java/lang/IndexOutOfBoundsException" t)) ∧ (¬ x1 < 0 → xgR t a0 7 2 fun a_1 => (xis t a_1 10 ∧ V_Jx4a65c_size_8abf5_0 (fun x_3 t_2 => ((x1 < x_3 → xgR t_2 a0 7 2 fun a_4 => (xis t_2 a_4 10 ∧ V_Jx4a65c_get_915e3_0 (fun o_6 t_5 => xnl o_6 fun a_7 => (xis t_5 a_7 6 ∧ xgI t_5 a_7 6 0 fun x_8 => ((x_8 = 0 → (xpF t_5 a_7 6 0 (.int (1 : Int32)) fun t_9 => xgI t_9 a_7 6 1 fun x_10 => K x_10 t_9)) ∧ (¬ x_8 = 0 → (1 ≤ rc ∧ 6 ≤ rs ∧ KX "java/lang/IllegalStateException" t_5))))) a_4 x1 t_2)) ∧ (¬ x1 < x_3 → (1 ≤ rc ∧ 6 ≤ rs ∧ KX "java/lang/IndexOutOfBoundsException" t_2)))) a_1 t)))
set_option maxRecDepth 20000 in
theorem S_X7_mend_0 {Γ : xΓ} {KX : String → xT → Prop} {K : Int32 → xT → Prop} (hl : (gl Γ).stackTraces = false) (ht : (gM Γ).sig.returnType = (some .int)) (hr : xRet Γ (xKi K)) (hx : xThr Γ KX) {a0 : Nat} {x1 : Int32} {t : xT} {rc rs : Nat} (h : V_X7_mend_0 KX K a0 x1 t rc rs) : xX Γ k_X7_mend 0 [(0, .ref a0), (1, .int x1)] [] t rc rs := by
  unfold V_X7_mend_0 at h
  refine x_iload_n 1 dX7_mend_0 rfl rfl ?_
  obtain ⟨h1, h2⟩ := h
  refine x_if_lt (tgt := 15) dX7_mend_1 (by decide) (fun q => ?_) (fun q => ?_)
  · have h := h1 q
    obtain ⟨q1, q2, h⟩ := h
    exact x_throw dX7_mend_15 dX7_mend_18 dX7_mend_19 dX7_mend_21 dX7_mend_24 xtw_144 (List.mem_of_getElem? (i := 13) rfl) hx (Nat.le_of_ble_eq_true rfl) (Nat.le_of_ble_eq_true rfl) (Nat.le_of_ble_eq_true rfl) q1 q2 h
  · have h := h2 q
    refine x_iload_n 1 dX7_mend_4 rfl rfl ?_
    refine x_aload_n 0 dX7_mend_5 rfl rfl ?_
    obtain ⟨fs, hf, a_1, hv, h⟩ := h
    refine x_get dX7_mend_6 xf_X7_19 hf hv ?_
    obtain ⟨⟨fs, hf⟩, h⟩ := h
    refine x_invV (as := []) (rest := [.int x1]) dX7_mend_9 (q := (RJx4a65c, TJx4a65c, 3)) rfl xc_X7_mend_66 hf (M_Jx4a65c_size_8abf5 hl h) rfl rfl (Nat.le_of_ble_eq_true rfl) (Nat.zero_le _) (Nat.zero_le _) (xk_i fun x_3 t_2 h => ?_)
    obtain ⟨h1, h2⟩ := h
    refine x_icmp_lt (tgt := 25) dX7_mend_12 (by decide) (fun q => ?_) (fun q => ?_)
    · have h := h1 q
      refine x_aload_n 0 dX7_mend_25 rfl rfl ?_
      obtain ⟨fs, hf, a_4, hv, h⟩ := h
      refine x_get dX7_mend_26 xf_X7_19 hf hv ?_
      refine x_iload_n 1 dX7_mend_29 rfl rfl ?_
      obtain ⟨⟨fs, hf⟩, h⟩ := h
      refine x_invV (as := [.int x1]) (rest := []) dX7_mend_30 (q := (RJx4a65c, TJx4a65c, 3)) rfl xc_X7_mend_149 hf (M_Jx4a65c_get_915e3 hl h) rfl rfl (Nat.le_of_ble_eq_true rfl) (Nat.zero_le _) (Nat.zero_le _) (xk_r fun o_6 t_5 h => ?_)
      obtain ⟨a_7, e, h⟩ := h
      revert h
      subst e
      intro h
      obtain ⟨⟨fs, hf⟩, h⟩ := h
      refine x_ccast dX7_mend_33 (q := (RX6, TX6, 5)) rfl xw583 hf ?_
      refine x_astore_n (L' := [(2, .ref a_7), (0, .ref a0), (1, .int x1)]) dX7_mend_36 rfl (by decide) rfl ?_
      refine x_aload_n 0 dX7_mend_37 rfl rfl ?_
      obtain ⟨fs, hf, x_8, hv, h⟩ := h
      refine x_get dX7_mend_38 xf_X7_153 hf hv ?_
      obtain ⟨h1, h2⟩ := h
      refine x_if_eq (tgt := 54) dX7_mend_41 (by decide) (fun q => ?_) (fun q => ?_)
      · have h := h1 q
        refine x_aload_n 0 dX7_mend_54 rfl rfl ?_
        refine x_iconst (v := (1 : Int32)) dX7_mend_55 (by decide) ?_
        obtain ⟨fs, hf, hk, h⟩ := h
        refine x_put (v := .int (1 : Int32)) dX7_mend_56 xp_X7_153 hf rfl rfl hk ?_
        generalize hT : xup t_5 a_7 _ = t_9 at h ⊢
        clear hT
        refine x_aload_n 0 dX7_mend_59 rfl rfl ?_
        obtain ⟨fs, hf, x_10, hv, h⟩ := h
        refine x_get dX7_mend_60 xf_X7_159 hf hv ?_
        exact x_zret dX7_mend_63 hr ht rfl ⟨_, rfl, h⟩
      · have h := h2 q
        obtain ⟨q1, q2, h⟩ := h
        exact x_throw dX7_mend_44 dX7_mend_47 dX7_mend_48 dX7_mend_50 dX7_mend_53 xtw_70 (List.mem_of_getElem? (i := 14) rfl) hx (Nat.le_of_ble_eq_true rfl) (Nat.le_of_ble_eq_true rfl) (Nat.le_of_ble_eq_true rfl) q1 q2 h
    · have h := h2 q
      obtain ⟨q1, q2, h⟩ := h
      exact x_throw dX7_mend_15 dX7_mend_18 dX7_mend_19 dX7_mend_21 dX7_mend_24 xtw_144 (List.mem_of_getElem? (i := 13) rfl) hx (Nat.le_of_ble_eq_true rfl) (Nat.le_of_ble_eq_true rfl) (Nat.le_of_ble_eq_true rfl) q1 q2 h
theorem M_X7_mend {l : Launch} {G : xG} (hl : l.stackTraces = false) {a0 : Nat} {x1 : Int32} {t : xT} {KX : String → xT → Prop} {K : Int32 → xT → Prop} {rc rs : Nat} (h : V_X7_mend_0 KX K a0 x1 t rc rs) : xMetX l G yX7_mend k_X7_mend (some .int) [.ref a0, .int x1] t (xKi K) KX rc rs := xMetX.of (by decide +kernel) rfl hl (Nat.le_of_ble_eq_true rfl) (fun Γ e1 e2 ht hn hr hx => by subst e1; subst e2; exact S_X7_mend_0 hl ht hr hx h)
/-! RentStream.owes(I)J -/
def V_X7_owes_0 (KX : String → xT → Prop) (K : Int64 → xT → Prop) (a0 : Nat) (x1 : Int32) (t : xT) (rc rs : Nat) : Prop :=
  (xis t a0 7 ∧ ∃ m_3 z_4 : Nat, m_3 ≤ rc ∧ z_4 ≤ rs ∧ V_X7_leaseAt_0 KX (fun o_2 t_1 => xnl o_2 fun a_5 => xgJ t_1 a_5 3 5 fun y_6 => K y_6 t_1) a0 x1 t m_3 z_4)
set_option maxRecDepth 20000 in
theorem S_X7_owes_0 {Γ : xΓ} {KX : String → xT → Prop} {K : Int64 → xT → Prop} (hl : (gl Γ).stackTraces = false) (ht : (gM Γ).sig.returnType = (some .long)) (hr : xRet Γ (xKl K)) (hx : xThr Γ KX) {a0 : Nat} {x1 : Int32} {t : xT} {rc rs : Nat} (h : V_X7_owes_0 KX K a0 x1 t rc rs) : xX Γ k_X7_owes 0 [(0, .ref a0), (1, .int x1)] [] t rc rs := by
  unfold V_X7_owes_0 at h
  refine x_aload_n 0 dX7_owes_0 rfl rfl ?_
  refine x_iload_n 1 dX7_owes_1 rfl rfl ?_
  obtain ⟨⟨fs, hf⟩, h⟩ := h
  obtain ⟨m_3, z_4, hm, hs, h⟩ := h
  refine x_invVX (as := [.int x1]) (rest := []) dX7_owes_2 (q := (RX7, TX7, 10)) rfl xc_X7_owes_103 hf (M_X7_leaseAt hl h) rfl rfl (Nat.le_of_ble_eq_true rfl) hm hs (fun _ _ h => x_thrown hx h) (xk_r fun o_2 t_1 h => ?_)
  obtain ⟨a_5, e, h⟩ := h
  revert h
  subst e
  intro h
  obtain ⟨fs, hf, y_6, hv, h⟩ := h
  refine x_get dX7_owes_5 xf_X7_182 hf hv ?_
  exact x_lret dX7_owes_8 hr ht ⟨_, rfl, h⟩
theorem M_X7_owes {l : Launch} {G : xG} (hl : l.stackTraces = false) {a0 : Nat} {x1 : Int32} {t : xT} {KX : String → xT → Prop} {K : Int64 → xT → Prop} {rc rs : Nat} (h : V_X7_owes_0 KX K a0 x1 t rc rs) : xMetX l G yX7_owes k_X7_owes (some .long) [.ref a0, .int x1] t (xKl K) KX rc rs := xMetX.of (by decide +kernel) rfl hl (Nat.le_of_ble_eq_true rfl) (fun Γ e1 e2 ht hn hr hx => by subst e1; subst e2; exact S_X7_owes_0 hl ht hr hx h)
/-! RentStream.owesAnew(I)J -/
def VS_X7_owesAnew_21 (R21 : Nat → Option Nat → Int64 → Int32 → Int32 → xT → Nat → Nat → Prop) (KX : String → xT → Prop) (K : Int64 → xT → Prop) (a0 : Nat) (o2 : Option Nat) (y3 : Int64) (x5 : Int32) (x6 : Int32) (t : xT) (rc rs : Nat) : Prop :=
  ((x5 ≤ x6 → K y3 t) ∧ (¬ x5 ≤ x6 → xnl o2 fun a_1 => (xis t a_1 3 ∧ V_X3_runsIn_0 (fun x_3 t_2 => ((x_3 = 0 → R21 a0 (some a_1) y3 x5 (x6 + 1) t_2 rc rs) ∧ (¬ x_3 = 0 → (xis t_2 a0 7 ∧ V_X7_shareHeat_0 (fun t_4 => xgR t_4 a0 7 6 fun a_5 => (xis t_4 a0 7 ∧ V_X7_settle_0 (fun t_6 => xgR t_6 a0 7 6 fun a_7 => (xis t_6 a_7 0 ∧ V_X0_ofTenant_0 (fun x_9 t_8 => R21 a0 (some a_1) (y3 + x_9.toInt64) x5 (x6 + 1) t_8 rc rs) a_7 t_6)) a0 a_1 x6 a_5 t_4)) a0 x6 t_2)))) a_1 x6 t)))
def V_X7_owesAnew_21 (KX : String → xT → Prop) (K : Int64 → xT → Prop) (n : Nat) : Nat → Option Nat → Int64 → Int32 → Int32 → xT → Nat → Nat → Prop := Nat.rec (fun _ _ _ _ _ _ _ _ => False) (fun _ ih => VS_X7_owesAnew_21 ih KX K) n
set_option maxRecDepth 20000 in
theorem S_X7_owesAnew_21 {Γ : xΓ} {KX : String → xT → Prop} {K : Int64 → xT → Prop} (hl : (gl Γ).stackTraces = false) (ht : (gM Γ).sig.returnType = (some .long)) (hr : xRet Γ (xKl K)) (hx : xThr Γ KX) : ∀ (n : Nat) (a0 : Nat) (o2 : Option Nat) (y3 : Int64) (x5 : Int32) (x6 : Int32) (t : xT) (rc rs : Nat), V_X7_owesAnew_21 KX K n a0 o2 y3 x5 x6 t rc rs → xX Γ k_X7_owesAnew 21 [(0, .ref a0), (2, va_rf o2), (3, .long y3), (5, .int x5), (6, .int x6)] [] t rc rs := by
  intro n
  induction n with
  | zero =>
    intro a0 o2 y3 x5 x6 t rc rs h
    exact h.elim
  | succ n ih =>
    intro a0 o2 y3 x5 x6 t rc rs h
    replace h : VS_X7_owesAnew_21 (V_X7_owesAnew_21 KX K n) KX K a0 o2 y3 x5 x6 t rc rs := h
    unfold VS_X7_owesAnew_21 at h
    refine x_iload 4 dX7_owesAnew_21 rfl ?_
    refine x_iload 3 dX7_owesAnew_23 rfl ?_
    obtain ⟨h1, h2⟩ := h
    refine x_icmp_ge (tgt := 71) dX7_owesAnew_25 (by decide) (fun q => ?_) (fun q => ?_)
    · have h := h1 q
      refine x_lload_n 2 dX7_owesAnew_71 rfl rfl ?_
      exact x_lret dX7_owesAnew_72 hr ht ⟨_, rfl, h⟩
    · have h := h2 q
      refine x_oload_n 1 dX7_owesAnew_28 rfl rfl ?_
      refine x_iload 4 dX7_owesAnew_29 rfl ?_
      obtain ⟨a_1, e, h⟩ := h
      revert h
      subst e
      intro h
      obtain ⟨⟨fs, hf⟩, h⟩ := h
      refine x_invV (as := [.int x6]) (rest := []) dX7_owesAnew_31 (q := (RX3, TX3, 11)) rfl xc_X7_owesAnew_209 hf (M_X3_runsIn hl h) rfl rfl (Nat.le_of_ble_eq_true rfl) (Nat.zero_le _) (Nat.zero_le _) (xk_i fun x_3 t_2 h => ?_)
      obtain ⟨h1, h2⟩ := h
      refine x_if_eq (tgt := 65) dX7_owesAnew_34 (by decide) (fun q => ?_) (fun q => ?_)
      · have h := h1 q
        refine x_iinc (v := (x6 + 1)) (L' := [(6, .int (x6 + 1)), (0, .ref a0), (2, .ref a_1), (3, .long y3), (5, .int x5)]) (j := 4) dX7_owesAnew_65 rfl rfl (by decide) rfl ?_
        refine x_goto (tgt := 21) dX7_owesAnew_68 (by decide) ?_
        refine x_sub (L' := [(0, .ref a0), (2, va_rf (some a_1)), (3, .long y3), (5, .int x5), (6, .int (x6 + 1))]) [1, 2, 3, 4, 0] rfl ?_
        exact ih a0 (some a_1) y3 x5 (x6 + 1) t_2 rc rs h
      · have h := h2 q
        refine x_aload_n 0 dX7_owesAnew_37 rfl rfl ?_
        refine x_iload 4 dX7_owesAnew_38 rfl ?_
        obtain ⟨⟨fs, hf⟩, h⟩ := h
        refine x_invV (as := [.int x6]) (rest := []) dX7_owesAnew_40 (q := (RX7, TX7, 10)) rfl xc_X7_owesAnew_213 hf (M_X7_shareHeat hl h) rfl rfl (Nat.le_of_ble_eq_true rfl) (Nat.zero_le _) (Nat.zero_le _) (xk_v fun t_4 h => ?_)
        refine x_aload_n 0 dX7_owesAnew_43 rfl rfl ?_
        refine x_aload_n 1 dX7_owesAnew_44 rfl rfl ?_
        refine x_iload 4 dX7_owesAnew_45 rfl ?_
        refine x_aload_n 0 dX7_owesAnew_47 rfl rfl ?_
        obtain ⟨fs, hf, a_5, hv, h⟩ := h
        refine x_get dX7_owesAnew_48 xf_X7_44 hf hv ?_
        obtain ⟨⟨fs, hf⟩, h⟩ := h
        refine x_invV (as := [.ref a_1, .int x6, .ref a_5]) (rest := []) dX7_owesAnew_51 (q := (RX7, TX7, 10)) rfl xc_X7_owesAnew_216 hf (M_X7_settle hl h) rfl rfl (Nat.le_of_ble_eq_true rfl) (Nat.zero_le _) (Nat.zero_le _) (xk_v fun t_6 h => ?_)
        refine x_lload_n 2 dX7_owesAnew_54 rfl rfl ?_
        refine x_aload_n 0 dX7_owesAnew_55 rfl rfl ?_
        obtain ⟨fs, hf, a_7, hv, h⟩ := h
        refine x_get dX7_owesAnew_56 xf_X7_44 hf hv ?_
        obtain ⟨⟨fs, hf⟩, h⟩ := h
        refine x_invV (as := []) (rest := [.long y3]) dX7_owesAnew_59 (q := (RX0, TX0, 4)) rfl xc_X7_owesAnew_220 hf (M_X0_ofTenant hl h) rfl rfl (Nat.le_of_ble_eq_true rfl) (Nat.zero_le _) (Nat.zero_le _) (xk_i fun x_9 t_8 h => ?_)
        refine x_i2l dX7_owesAnew_62 ?_
        refine x_ladd dX7_owesAnew_63 ?_
        refine x_lstore_n (L' := [(3, .long (y3 + x_9.toInt64)), (0, .ref a0), (2, .ref a_1), (5, .int x5), (6, .int x6)]) dX7_owesAnew_64 rfl (by decide) rfl ?_
        refine x_iinc (v := (x6 + 1)) (L' := [(6, .int (x6 + 1)), (3, .long (y3 + x_9.toInt64)), (0, .ref a0), (2, .ref a_1), (5, .int x5)]) (j := 4) dX7_owesAnew_65 rfl rfl (by decide) rfl ?_
        refine x_goto (tgt := 21) dX7_owesAnew_68 (by decide) ?_
        refine x_sub (L' := [(0, .ref a0), (2, va_rf (some a_1)), (3, .long (y3 + x_9.toInt64)), (5, .int x5), (6, .int (x6 + 1))]) [2, 3, 1, 4, 0] rfl ?_
        exact ih a0 (some a_1) (y3 + x_9.toInt64) x5 (x6 + 1) t_8 rc rs h
def V_X7_owesAnew_0 (KX : String → xT → Prop) (K : Int64 → xT → Prop) (a0 : Nat) (x1 : Int32) (t : xT) (rc rs : Nat) : Prop :=
  (xis t a0 7 ∧ ∃ m_3 z_4 : Nat, m_3 ≤ rc ∧ z_4 ≤ rs ∧ V_X7_leaseAt_0 KX (fun o_2 t_1 => xnl o_2 fun a_5 => xgJ t_1 a_5 3 7 fun y_6 => (xis t_1 a0 7 ∧ V_X7_monthNow_0 (fun x_8 t_7 => ∃ f_9 : Nat, V_X7_owesAnew_21 KX K f_9 a0 (some a_5) (-y_6) x_8 (0 : Int32) t_7 (rc - m_3) (rs - z_4)) a0 t_1)) a0 x1 t m_3 z_4)
set_option maxRecDepth 20000 in
theorem S_X7_owesAnew_0 {Γ : xΓ} {KX : String → xT → Prop} {K : Int64 → xT → Prop} (hl : (gl Γ).stackTraces = false) (ht : (gM Γ).sig.returnType = (some .long)) (hr : xRet Γ (xKl K)) (hx : xThr Γ KX) {a0 : Nat} {x1 : Int32} {t : xT} {rc rs : Nat} (h : V_X7_owesAnew_0 KX K a0 x1 t rc rs) : xX Γ k_X7_owesAnew 0 [(0, .ref a0), (1, .int x1)] [] t rc rs := by
  unfold V_X7_owesAnew_0 at h
  refine x_aload_n 0 dX7_owesAnew_0 rfl rfl ?_
  refine x_iload_n 1 dX7_owesAnew_1 rfl rfl ?_
  obtain ⟨⟨fs, hf⟩, h⟩ := h
  obtain ⟨m_3, z_4, hm, hs, h⟩ := h
  refine x_invVX (as := [.int x1]) (rest := []) dX7_owesAnew_2 (q := (RX7, TX7, 10)) rfl xc_X7_owesAnew_103 hf (M_X7_leaseAt hl h) rfl rfl (Nat.le_of_ble_eq_true rfl) hm hs (fun _ _ h => x_thrown hx h) (xk_r fun o_2 t_1 h => ?_)
  refine x_ostore_n (L' := [(2, va_rf o_2), (0, .ref a0), (1, .int x1)]) dX7_owesAnew_5 rfl (by decide) rfl ?_
  refine x_oload_n 0 dX7_owesAnew_6 rfl rfl ?_
  obtain ⟨a_5, e, h⟩ := h
  revert h
  subst e
  intro h
  obtain ⟨fs, hf, y_6, hv, h⟩ := h
  refine x_get dX7_owesAnew_7 xf_X7_179 hf hv ?_
  refine x_lneg dX7_owesAnew_10 ?_
  refine x_lstore_n (L' := [(3, .long (-y_6)), (2, .ref a_5), (0, .ref a0), (1, .int x1)]) dX7_owesAnew_11 rfl (by decide) rfl ?_
  refine x_aload_n 2 dX7_owesAnew_12 rfl rfl ?_
  obtain ⟨⟨fs, hf⟩, h⟩ := h
  refine x_invV (as := []) (rest := []) dX7_owesAnew_13 (q := (RX7, TX7, 10)) rfl xc_X7_owesAnew_97 hf (M_X7_monthNow hl h) rfl rfl (Nat.le_of_ble_eq_true rfl) (Nat.zero_le _) (Nat.zero_le _) (xk_i fun x_8 t_7 h => ?_)
  refine x_istore (L' := [(5, .int x_8), (3, .long (-y_6)), (2, .ref a_5), (0, .ref a0), (1, .int x1)]) dX7_owesAnew_16 (by decide) rfl ?_
  refine x_iconst (v := (0 : Int32)) dX7_owesAnew_18 (by decide) ?_
  refine x_istore (L' := [(6, .int (0 : Int32)), (5, .int x_8), (3, .long (-y_6)), (2, .ref a_5), (0, .ref a0), (1, .int x1)]) dX7_owesAnew_19 (by decide) rfl ?_
  obtain ⟨f_9, h⟩ := h
  refine x_sub (L' := [(0, .ref a0), (2, va_rf (some a_5)), (3, .long (-y_6)), (5, .int x_8), (6, .int (0 : Int32))]) [4, 3, 2, 1, 0] rfl ?_
  exact S_X7_owesAnew_21 hl ht hr hx  f_9 a0 (some a_5) (-y_6) x_8 (0 : Int32) t_7 (rc - m_3) (rs - z_4) h
theorem M_X7_owesAnew {l : Launch} {G : xG} (hl : l.stackTraces = false) {a0 : Nat} {x1 : Int32} {t : xT} {KX : String → xT → Prop} {K : Int64 → xT → Prop} {rc rs : Nat} (h : V_X7_owesAnew_0 KX K a0 x1 t rc rs) : xMetX l G yX7_owesAnew k_X7_owesAnew (some .long) [.ref a0, .int x1] t (xKl K) KX rc rs := xMetX.of (by decide +kernel) rfl hl (Nat.le_of_ble_eq_true rfl) (fun Γ e1 e2 ht hn hr hx => by subst e1; subst e2; exact S_X7_owesAnew_0 hl ht hr hx h)
/-! RentStream.owner()J -/
def V_X7_owner_0 (K : Int64 → xT → Prop) (a0 : Nat) (t : xT) : Prop :=
  xgJ t a0 7 9 fun y_1 => K y_1 t
set_option maxRecDepth 20000 in
theorem S_X7_owner_0 {Γ : xΓ} {K : Int64 → xT → Prop} (hl : (gl Γ).stackTraces = false) (ht : (gM Γ).sig.returnType = (some .long)) (hr : xRet Γ (xKl K)) {a0 : Nat} {t : xT} {rc rs : Nat} (h : V_X7_owner_0 K a0 t) : xX Γ k_X7_owner 0 [(0, .ref a0)] [] t rc rs := by
  unfold V_X7_owner_0 at h
  refine x_aload_n 0 dX7_owner_0 rfl rfl ?_
  obtain ⟨fs, hf, y_1, hv, h⟩ := h
  refine x_get dX7_owner_1 xf_X7_55 hf hv ?_
  exact x_lret dX7_owner_4 hr ht ⟨_, rfl, h⟩
theorem M_X7_owner {l : Launch} {G : xG} (hl : l.stackTraces = false) {a0 : Nat} {t : xT} {K : Int64 → xT → Prop} (h : V_X7_owner_0 K a0 t) : xMet l G yX7_owner k_X7_owner (some .long) [.ref a0] t (xKl K) 0 0 := xMet.of (by decide +kernel) rfl hl (Nat.le_of_ble_eq_true rfl) (fun Γ e1 e2 ht hn hr => by subst e1; subst e2; exact S_X7_owner_0 hl ht hr h)
/-! RentStream.pass(I)I -/
def VS_X7_pass_45 (R45 : Nat → Int32 → Int32 → xT → Nat → Nat → Prop) (KX : String → xT → Prop) (K : Int32 → xT → Prop) (a0 : Nat) (x1 : Int32) (x2 : Int32) (t : xT) (rc rs : Nat) : Prop :=
  ((x1 ≤ x2 → xgI t a0 7 8 fun x_1 => K x_1 t) ∧ (¬ x1 ≤ x2 → (xis t a0 7 ∧ ∃ m_3 z_4 : Nat, m_3 ≤ rc ∧ z_4 ≤ rs ∧ V_X7_endDay_0 (fun t_2 => R45 a0 x1 (x2 + 1) t_2 (rc - m_3) (rs - z_4)) a0 t m_3 z_4)))
def V_X7_pass_45 (KX : String → xT → Prop) (K : Int32 → xT → Prop) (n : Nat) : Nat → Int32 → Int32 → xT → Nat → Nat → Prop := Nat.rec (fun _ _ _ _ _ _ => False) (fun _ ih => VS_X7_pass_45 ih KX K) n
set_option maxRecDepth 20000 in
theorem S_X7_pass_45 {Γ : xΓ} {KX : String → xT → Prop} {K : Int32 → xT → Prop} (hl : (gl Γ).stackTraces = false) (ht : (gM Γ).sig.returnType = (some .int)) (hr : xRet Γ (xKi K)) (hx : xThr Γ KX) : ∀ (n : Nat) (a0 : Nat) (x1 : Int32) (x2 : Int32) (t : xT) (rc rs : Nat), V_X7_pass_45 KX K n a0 x1 x2 t rc rs → xX Γ k_X7_pass 45 [(0, .ref a0), (1, .int x1), (2, .int x2)] [] t rc rs := by
  intro n
  induction n with
  | zero =>
    intro a0 x1 x2 t rc rs h
    exact h.elim
  | succ n ih =>
    intro a0 x1 x2 t rc rs h
    replace h : VS_X7_pass_45 (V_X7_pass_45 KX K n) KX K a0 x1 x2 t rc rs := h
    unfold VS_X7_pass_45 at h
    refine x_iload_n 2 dX7_pass_45 rfl rfl ?_
    refine x_iload_n 1 dX7_pass_46 rfl rfl ?_
    obtain ⟨h1, h2⟩ := h
    refine x_icmp_ge (tgt := 60) dX7_pass_47 (by decide) (fun q => ?_) (fun q => ?_)
    · have h := h1 q
      refine x_aload_n 0 dX7_pass_60 rfl rfl ?_
      obtain ⟨fs, hf, x_1, hv, h⟩ := h
      refine x_get dX7_pass_61 xf_X7_52 hf hv ?_
      exact x_zret dX7_pass_64 hr ht rfl ⟨_, rfl, h⟩
    · have h := h2 q
      refine x_aload_n 0 dX7_pass_50 rfl rfl ?_
      obtain ⟨⟨fs, hf⟩, h⟩ := h
      obtain ⟨m_3, z_4, hm, hs, h⟩ := h
      refine x_invV (as := []) (rest := []) dX7_pass_51 (q := (RX7, TX7, 10)) rfl xc_X7_pass_206 hf (M_X7_endDay hl h) rfl rfl (Nat.le_of_ble_eq_true rfl) hm hs (xk_v fun t_2 h => ?_)
      refine x_iinc (v := (x2 + 1)) (L' := [(2, .int (x2 + 1)), (0, .ref a0), (1, .int x1)]) (j := 2) dX7_pass_54 rfl rfl (by decide) rfl ?_
      refine x_goto (tgt := 45) dX7_pass_57 (by decide) ?_
      refine x_sub (L' := [(0, .ref a0), (1, .int x1), (2, .int (x2 + 1))]) [1, 2, 0] rfl ?_
      exact ih a0 x1 (x2 + 1) t_2 (rc - m_3) (rs - z_4) h
def V_X7_pass_0 (KX : String → xT → Prop) (K : Int32 → xT → Prop) (a0 : Nat) (x1 : Int32) (t : xT) (rc rs : Nat) : Prop :=
  ((x1 < (1 : Int32) → (1 ≤ rc ∧ 6 ≤ rs ∧ KX "java/lang/IllegalArgumentException" t)) ∧ (¬ x1 < (1 : Int32) → ((x1 ≤ (60 : Int32) → xgI t a0 7 8 fun x_1 => (((x_1 + x1) ≤ (3600 : Int32) → ∃ f_2 : Nat, V_X7_pass_45 KX K f_2 a0 x1 (0 : Int32) t rc rs) ∧ (¬ (x_1 + x1) ≤ (3600 : Int32) → (1 ≤ rc ∧ 6 ≤ rs ∧ KX "java/lang/IllegalStateException" t)))) ∧ (¬ x1 ≤ (60 : Int32) → (1 ≤ rc ∧ 6 ≤ rs ∧ KX "java/lang/IllegalArgumentException" t)))))
set_option maxRecDepth 20000 in
theorem S_X7_pass_0 {Γ : xΓ} {KX : String → xT → Prop} {K : Int32 → xT → Prop} (hl : (gl Γ).stackTraces = false) (ht : (gM Γ).sig.returnType = (some .int)) (hr : xRet Γ (xKi K)) (hx : xThr Γ KX) {a0 : Nat} {x1 : Int32} {t : xT} {rc rs : Nat} (h : V_X7_pass_0 KX K a0 x1 t rc rs) : xX Γ k_X7_pass 0 [(0, .ref a0), (1, .int x1)] [] t rc rs := by
  unfold V_X7_pass_0 at h
  refine x_iload_n 1 dX7_pass_0 rfl rfl ?_
  refine x_iconst (v := (1 : Int32)) dX7_pass_1 (by decide) ?_
  obtain ⟨h1, h2⟩ := h
  refine x_icmp_lt (tgt := 11) dX7_pass_2 (by decide) (fun q => ?_) (fun q => ?_)
  · have h := h1 q
    obtain ⟨q1, q2, h⟩ := h
    exact x_throw dX7_pass_11 dX7_pass_14 dX7_pass_15 dX7_pass_17 dX7_pass_20 xtw_59 (List.mem_of_getElem? (i := 18) rfl) hx (Nat.le_of_ble_eq_true rfl) (Nat.le_of_ble_eq_true rfl) (Nat.le_of_ble_eq_true rfl) q1 q2 h
  · have h := h2 q
    refine x_iload_n 1 dX7_pass_5 rfl rfl ?_
    refine x_bipush (v := (60 : Int32)) dX7_pass_6 (by decide) ?_
    obtain ⟨h1, h2⟩ := h
    refine x_icmp_le (tgt := 21) dX7_pass_8 (by decide) (fun q => ?_) (fun q => ?_)
    · have h := h1 q
      refine x_aload_n 0 dX7_pass_21 rfl rfl ?_
      obtain ⟨fs, hf, x_1, hv, h⟩ := h
      refine x_get dX7_pass_22 xf_X7_52 hf hv ?_
      refine x_iload_n 1 dX7_pass_25 rfl rfl ?_
      refine x_iadd dX7_pass_26 ?_
      refine x_sipush (v := (3600 : Int32)) dX7_pass_27 (by decide) ?_
      obtain ⟨h1, h2⟩ := h
      refine x_icmp_le (tgt := 43) dX7_pass_30 (by decide) (fun q => ?_) (fun q => ?_)
      · have h := h1 q
        refine x_iconst (v := (0 : Int32)) dX7_pass_43 (by decide) ?_
        refine x_istore_n (L' := [(2, .int (0 : Int32)), (0, .ref a0), (1, .int x1)]) dX7_pass_44 rfl (by decide) rfl ?_
        obtain ⟨f_2, h⟩ := h
        refine x_sub (L' := [(0, .ref a0), (1, .int x1), (2, .int (0 : Int32))]) [1, 2, 0] rfl ?_
        exact S_X7_pass_45 hl ht hr hx  f_2 a0 x1 (0 : Int32) t rc rs h
      · have h := h2 q
        obtain ⟨q1, q2, h⟩ := h
        exact x_throw dX7_pass_33 dX7_pass_36 dX7_pass_37 dX7_pass_39 dX7_pass_42 xtw_70 (List.mem_of_getElem? (i := 19) rfl) hx (Nat.le_of_ble_eq_true rfl) (Nat.le_of_ble_eq_true rfl) (Nat.le_of_ble_eq_true rfl) q1 q2 h
    · have h := h2 q
      obtain ⟨q1, q2, h⟩ := h
      exact x_throw dX7_pass_11 dX7_pass_14 dX7_pass_15 dX7_pass_17 dX7_pass_20 xtw_59 (List.mem_of_getElem? (i := 18) rfl) hx (Nat.le_of_ble_eq_true rfl) (Nat.le_of_ble_eq_true rfl) (Nat.le_of_ble_eq_true rfl) q1 q2 h
theorem M_X7_pass {l : Launch} {G : xG} (hl : l.stackTraces = false) {a0 : Nat} {x1 : Int32} {t : xT} {KX : String → xT → Prop} {K : Int32 → xT → Prop} {rc rs : Nat} (h : V_X7_pass_0 KX K a0 x1 t rc rs) : xMetX l G yX7_pass k_X7_pass (some .int) [.ref a0, .int x1] t (xKi K) KX rc rs := xMetX.of (by decide +kernel) rfl hl (Nat.le_of_ble_eq_true rfl) (fun Γ e1 e2 ht hn hr hx => by subst e1; subst e2; exact S_X7_pass_0 hl ht hr hx h)
/-! RentStream.pay(II)J -/
def V_X7_pay_0 (KX : String → xT → Prop) (K : Int64 → xT → Prop) (a0 : Nat) (x1 : Int32) (x2 : Int32) (t : xT) (rc rs : Nat) : Prop :=
  (xis t a0 7 ∧ ∃ m_3 z_4 : Nat, m_3 ≤ rc ∧ z_4 ≤ rs ∧ V_X7_leaseAt_0 KX (fun o_2 t_1 => ((x2 < (1 : Int32) → (1 ≤ (rc - m_3) ∧ 6 ≤ (rs - z_4) ∧ KX "java/lang/IllegalArgumentException" t_1)) ∧ (¬ x2 < (1 : Int32) → ((x2 ≤ (1000000 : Int32) → xnl o_2 fun a_5 => xgJ t_1 a_5 3 7 fun y_6 => (xpF t_1 a_5 3 7 (.long (y_6 + x2.toInt64)) fun t_7 => (xis t_7 a0 7 ∧ V_X7_postToTenant_0 (fun t_8 => xgJ t_8 a_5 3 5 fun y_9 => K y_9 t_8) a0 a_5 (((-x2)).toInt64) t_7))) ∧ (¬ x2 ≤ (1000000 : Int32) → (1 ≤ (rc - m_3) ∧ 6 ≤ (rs - z_4) ∧ KX "java/lang/IllegalArgumentException" t_1)))))) a0 x1 t m_3 z_4)
set_option maxRecDepth 20000 in
theorem S_X7_pay_0 {Γ : xΓ} {KX : String → xT → Prop} {K : Int64 → xT → Prop} (hl : (gl Γ).stackTraces = false) (ht : (gM Γ).sig.returnType = (some .long)) (hr : xRet Γ (xKl K)) (hx : xThr Γ KX) {a0 : Nat} {x1 : Int32} {x2 : Int32} {t : xT} {rc rs : Nat} (h : V_X7_pay_0 KX K a0 x1 x2 t rc rs) : xX Γ k_X7_pay 0 [(0, .ref a0), (1, .int x1), (2, .int x2)] [] t rc rs := by
  unfold V_X7_pay_0 at h
  refine x_aload_n 0 dX7_pay_0 rfl rfl ?_
  refine x_iload_n 1 dX7_pay_1 rfl rfl ?_
  obtain ⟨⟨fs, hf⟩, h⟩ := h
  obtain ⟨m_3, z_4, hm, hs, h⟩ := h
  refine x_invVX (as := [.int x1]) (rest := []) dX7_pay_2 (q := (RX7, TX7, 10)) rfl xc_X7_pay_103 hf (M_X7_leaseAt hl h) rfl rfl (Nat.le_of_ble_eq_true rfl) hm hs (fun _ _ h => x_thrown hx h) (xk_r fun o_2 t_1 h => ?_)
  refine x_ostore_n (L' := [(3, va_rf o_2), (0, .ref a0), (1, .int x1), (2, .int x2)]) dX7_pay_5 rfl (by decide) rfl ?_
  refine x_iload_n 3 dX7_pay_6 rfl rfl ?_
  refine x_iconst (v := (1 : Int32)) dX7_pay_7 (by decide) ?_
  obtain ⟨h1, h2⟩ := h
  refine x_icmp_lt (tgt := 17) dX7_pay_8 (by decide) (fun q => ?_) (fun q => ?_)
  · have h := h1 q
    obtain ⟨q1, q2, h⟩ := h
    exact x_throw dX7_pay_17 dX7_pay_20 dX7_pay_21 dX7_pay_23 dX7_pay_26 xtw_59 (List.mem_of_getElem? (i := 9) rfl) hx (Nat.le_of_ble_eq_true rfl) (Nat.le_of_ble_eq_true rfl) (Nat.le_of_ble_eq_true rfl) q1 q2 h
  · have h := h2 q
    refine x_iload_n 3 dX7_pay_11 rfl rfl ?_
    refine x_ldc dX7_pay_12 xw560 ?_
    obtain ⟨h1, h2⟩ := h
    refine x_icmp_le (tgt := 27) dX7_pay_14 (by decide) (fun q => ?_) (fun q => ?_)
    · have h := h1 q
      refine x_oload_n 0 dX7_pay_27 rfl rfl ?_
      refine x_dup dX7_pay_28 xcat_rf ?_
      obtain ⟨a_5, e, h⟩ := h
      revert h
      subst e
      intro h
      obtain ⟨fs, hf, y_6, hv, h⟩ := h
      refine x_get dX7_pay_29 xf_X7_179 hf hv ?_
      refine x_iload_n 3 dX7_pay_32 rfl rfl ?_
      refine x_i2l dX7_pay_33 ?_
      refine x_ladd dX7_pay_34 ?_
      obtain ⟨fs, hf, hk, h⟩ := h
      refine x_put (v := .long (y_6 + x2.toInt64)) dX7_pay_35 xp_X7_179 hf rfl rfl hk ?_
      generalize hT : xup t_1 a_5 _ = t_7 at h ⊢
      clear hT
      refine x_aload_n 1 dX7_pay_38 rfl rfl ?_
      refine x_aload_n 0 dX7_pay_39 rfl rfl ?_
      refine x_iload_n 3 dX7_pay_40 rfl rfl ?_
      refine x_ineg dX7_pay_41 ?_
      refine x_i2l dX7_pay_42 ?_
      obtain ⟨⟨fs, hf⟩, h⟩ := h
      refine x_invV (as := [.ref a_5, .long ((-x2)).toInt64]) (rest := []) dX7_pay_43 (q := (RX7, TX7, 10)) rfl xc_X7_pay_172 hf (M_X7_postToTenant hl h) rfl rfl (Nat.le_of_ble_eq_true rfl) (Nat.zero_le _) (Nat.zero_le _) (xk_v fun t_8 h => ?_)
      refine x_aload_n 0 dX7_pay_46 rfl rfl ?_
      obtain ⟨fs, hf, y_9, hv, h⟩ := h
      refine x_get dX7_pay_47 xf_X7_182 hf hv ?_
      exact x_lret dX7_pay_50 hr ht ⟨_, rfl, h⟩
    · have h := h2 q
      obtain ⟨q1, q2, h⟩ := h
      exact x_throw dX7_pay_17 dX7_pay_20 dX7_pay_21 dX7_pay_23 dX7_pay_26 xtw_59 (List.mem_of_getElem? (i := 9) rfl) hx (Nat.le_of_ble_eq_true rfl) (Nat.le_of_ble_eq_true rfl) (Nat.le_of_ble_eq_true rfl) q1 q2 h
theorem M_X7_pay {l : Launch} {G : xG} (hl : l.stackTraces = false) {a0 : Nat} {x1 : Int32} {x2 : Int32} {t : xT} {KX : String → xT → Prop} {K : Int64 → xT → Prop} {rc rs : Nat} (h : V_X7_pay_0 KX K a0 x1 x2 t rc rs) : xMetX l G yX7_pay k_X7_pay (some .long) [.ref a0, .int x1, .int x2] t (xKl K) KX rc rs := xMetX.of (by decide +kernel) rfl hl (Nat.le_of_ble_eq_true rfl) (fun Γ e1 e2 ht hn hr hx => by subst e1; subst e2; exact S_X7_pay_0 hl ht hr hx h)
/-! RentStream$Plan.begin(JJ)V -/
def V_X5_begin_0 (K : xT → Prop) (a0 : Nat) (y1 : Int64) (y3 : Int64) (t : xT) : Prop :=
  (xpF t a0 5 0 (.int (1 : Int32)) fun t_1 => (xpF t_1 a0 5 1 (.long y1) fun t_2 => (xpF t_2 a0 5 2 (.long y3) fun t_3 => (xpF t_3 a0 5 3 (.int (0 : Int32)) fun t_4 => K t_4))))
set_option maxRecDepth 20000 in
theorem S_X5_begin_0 {Γ : xΓ} {K : xT → Prop} (hl : (gl Γ).stackTraces = false) (ht : (gM Γ).sig.returnType = none) (hr : xRet Γ (xKv K)) {a0 : Nat} {y1 : Int64} {y3 : Int64} {t : xT} {rc rs : Nat} (h : V_X5_begin_0 K a0 y1 y3 t) : xX Γ k_X5_begin 0 [(0, .ref a0), (1, .long y1), (3, .long y3)] [] t rc rs := by
  unfold V_X5_begin_0 at h
  refine x_aload_n 0 dX5_begin_0 rfl rfl ?_
  refine x_iconst (v := (1 : Int32)) dX5_begin_1 (by decide) ?_
  obtain ⟨fs, hf, hk, h⟩ := h
  refine x_put (v := .int (1 : Int32)) dX5_begin_2 xp_X5_9 hf rfl rfl hk ?_
  generalize hT : xup t a0 _ = t_1 at h ⊢
  clear hT
  refine x_aload_n 0 dX5_begin_5 rfl rfl ?_
  refine x_lload_n 1 dX5_begin_6 rfl rfl ?_
  obtain ⟨fs, hf, hk, h⟩ := h
  refine x_put (v := .long y1) dX5_begin_7 xp_X5_15 hf rfl rfl hk ?_
  generalize hT : xup t_1 a0 _ = t_2 at h ⊢
  clear hT
  refine x_aload_n 0 dX5_begin_10 rfl rfl ?_
  refine x_lload_n 2 dX5_begin_11 rfl rfl ?_
  obtain ⟨fs, hf, hk, h⟩ := h
  refine x_put (v := .long y3) dX5_begin_12 xp_X5_19 hf rfl rfl hk ?_
  generalize hT : xup t_2 a0 _ = t_3 at h ⊢
  clear hT
  refine x_aload_n 0 dX5_begin_15 rfl rfl ?_
  refine x_iconst (v := (0 : Int32)) dX5_begin_16 (by decide) ?_
  obtain ⟨fs, hf, hk, h⟩ := h
  refine x_put (v := .int (0 : Int32)) dX5_begin_17 xp_X5_22 hf rfl rfl hk ?_
  generalize hT : xup t_3 a0 _ = t_4 at h ⊢
  clear hT
  exact x_vret dX5_begin_20 hr ht ⟨rfl, h⟩
theorem M_X5_begin {l : Launch} {G : xG} (hl : l.stackTraces = false) {a0 : Nat} {y1 : Int64} {y3 : Int64} {t : xT} {K : xT → Prop} (h : V_X5_begin_0 K a0 y1 y3 t) : xMet l G yX5_begin k_X5_begin none [.ref a0, .long y1, .long y3] t (xKv K) 0 0 := xMet.of (by decide +kernel) rfl hl (Nat.le_of_ble_eq_true rfl) (fun Γ e1 e2 ht hn hr => by subst e1; subst e2; exact S_X5_begin_0 hl ht hr h)
/-! RentStream.plan(II)J -/
def V_X7_plan_0 (KX : String → xT → Prop) (K : Int64 → xT → Prop) (a0 : Nat) (x1 : Int32) (x2 : Int32) (t : xT) (rc rs : Nat) : Prop :=
  (xis t a0 7 ∧ ∃ m_3 z_4 : Nat, m_3 ≤ rc ∧ z_4 ≤ rs ∧ V_X7_leaseAt_0 KX (fun o_2 t_1 => ((x2 < (1 : Int32) → (1 ≤ (rc - m_3) ∧ 6 ≤ (rs - z_4) ∧ KX "java/lang/IllegalArgumentException" t_1)) ∧ (¬ x2 < (1 : Int32) → ((x2 ≤ (12 : Int32) → xnl o_2 fun a_5 => xgR t_1 a_5 3 3 fun a_6 => xgI t_1 a_6 5 0 fun x_7 => ((x_7 = (1 : Int32) → (1 ≤ (rc - m_3) ∧ 6 ≤ (rs - z_4) ∧ KX "java/lang/IllegalStateException" t_1)) ∧ (¬ x_7 = (1 : Int32) → xgJ t_1 a_5 3 5 fun y_8 => (((0 : Int64) < y_8 → xgJ t_1 a_5 3 5 fun y_9 => (¬ x2.toInt64 = 0 ∧ xgR t_1 a_5 3 3 fun a_10 => xgJ t_1 a_5 3 5 fun y_11 => (xis t_1 a_10 5 ∧ V_X5_begin_0 (fun t_12 => K (((y_9 + x2.toInt64) - (1 : Int64)) / x2.toInt64) t_12) a_10 y_11 (((y_9 + x2.toInt64) - (1 : Int64)) / x2.toInt64) t_1))) ∧ (¬ (0 : Int64) < y_8 → (1 ≤ (rc - m_3) ∧ 6 ≤ (rs - z_4) ∧ KX "java/lang/IllegalStateException" t_1)))))) ∧ (¬ x2 ≤ (12 : Int32) → (1 ≤ (rc - m_3) ∧ 6 ≤ (rs - z_4) ∧ KX "java/lang/IllegalArgumentException" t_1)))))) a0 x1 t m_3 z_4)
set_option maxRecDepth 20000 in
theorem S_X7_plan_0 {Γ : xΓ} {KX : String → xT → Prop} {K : Int64 → xT → Prop} (hl : (gl Γ).stackTraces = false) (ht : (gM Γ).sig.returnType = (some .long)) (hr : xRet Γ (xKl K)) (hx : xThr Γ KX) {a0 : Nat} {x1 : Int32} {x2 : Int32} {t : xT} {rc rs : Nat} (h : V_X7_plan_0 KX K a0 x1 x2 t rc rs) : xX Γ k_X7_plan 0 [(0, .ref a0), (1, .int x1), (2, .int x2)] [] t rc rs := by
  unfold V_X7_plan_0 at h
  refine x_aload_n 0 dX7_plan_0 rfl rfl ?_
  refine x_iload_n 1 dX7_plan_1 rfl rfl ?_
  obtain ⟨⟨fs, hf⟩, h⟩ := h
  obtain ⟨m_3, z_4, hm, hs, h⟩ := h
  refine x_invVX (as := [.int x1]) (rest := []) dX7_plan_2 (q := (RX7, TX7, 10)) rfl xc_X7_plan_103 hf (M_X7_leaseAt hl h) rfl rfl (Nat.le_of_ble_eq_true rfl) hm hs (fun _ _ h => x_thrown hx h) (xk_r fun o_2 t_1 h => ?_)
  refine x_ostore_n (L' := [(3, va_rf o_2), (0, .ref a0), (1, .int x1), (2, .int x2)]) dX7_plan_5 rfl (by decide) rfl ?_
  refine x_iload_n 3 dX7_plan_6 rfl rfl ?_
  refine x_iconst (v := (1 : Int32)) dX7_plan_7 (by decide) ?_
  obtain ⟨h1, h2⟩ := h
  refine x_icmp_lt (tgt := 17) dX7_plan_8 (by decide) (fun q => ?_) (fun q => ?_)
  · have h := h1 q
    obtain ⟨q1, q2, h⟩ := h
    exact x_throw dX7_plan_17 dX7_plan_20 dX7_plan_21 dX7_plan_23 dX7_plan_26 xtw_59 (List.mem_of_getElem? (i := 16) rfl) hx (Nat.le_of_ble_eq_true rfl) (Nat.le_of_ble_eq_true rfl) (Nat.le_of_ble_eq_true rfl) q1 q2 h
  · have h := h2 q
    refine x_iload_n 3 dX7_plan_11 rfl rfl ?_
    refine x_bipush (v := (12 : Int32)) dX7_plan_12 (by decide) ?_
    obtain ⟨h1, h2⟩ := h
    refine x_icmp_le (tgt := 27) dX7_plan_14 (by decide) (fun q => ?_) (fun q => ?_)
    · have h := h1 q
      refine x_oload_n 0 dX7_plan_27 rfl rfl ?_
      obtain ⟨a_5, e, h⟩ := h
      revert h
      subst e
      intro h
      obtain ⟨fs, hf, a_6, hv, h⟩ := h
      refine x_get dX7_plan_28 xf_X7_187 hf hv ?_
      obtain ⟨fs, hf, x_7, hv, h⟩ := h
      refine x_get dX7_plan_31 xf_X7_191 hf hv ?_
      refine x_iconst (v := (1 : Int32)) dX7_plan_34 (by decide) ?_
      obtain ⟨h1, h2⟩ := h
      refine x_icmp_eq (tgt := 47) dX7_plan_35 (by decide) (fun q => ?_) (fun q => ?_)
      · have h := h1 q
        obtain ⟨q1, q2, h⟩ := h
        exact x_throw dX7_plan_47 dX7_plan_50 dX7_plan_51 dX7_plan_53 dX7_plan_56 xtw_70 (List.mem_of_getElem? (i := 17) rfl) hx (Nat.le_of_ble_eq_true rfl) (Nat.le_of_ble_eq_true rfl) (Nat.le_of_ble_eq_true rfl) q1 q2 h
      · have h := h2 q
        refine x_aload_n 0 dX7_plan_38 rfl rfl ?_
        obtain ⟨fs, hf, y_8, hv, h⟩ := h
        refine x_get dX7_plan_39 xf_X7_182 hf hv ?_
        refine x_lconst (v := (0 : Int64)) dX7_plan_42 (by decide) ?_
        obtain ⟨h1, h2⟩ := h
        refine x_lcmp_gt (tgt := 57) dX7_plan_43 dX7_plan_44 (by decide) (fun q => ?_) (fun q => ?_)
        · have h := h1 q
          refine x_aload_n 0 dX7_plan_57 rfl rfl ?_
          obtain ⟨fs, hf, y_9, hv, h⟩ := h
          refine x_get dX7_plan_58 xf_X7_182 hf hv ?_
          refine x_iload_n 3 dX7_plan_61 rfl rfl ?_
          refine x_i2l dX7_plan_62 ?_
          refine x_ladd dX7_plan_63 ?_
          refine x_lconst (v := (1 : Int64)) dX7_plan_64 (by decide) ?_
          refine x_lsub dX7_plan_65 ?_
          refine x_iload_n 3 dX7_plan_66 rfl rfl ?_
          refine x_i2l dX7_plan_67 ?_
          obtain ⟨q, h⟩ := h
          refine x_ldiv dX7_plan_68 q ?_
          refine x_lstore (L' := [(4, .long (((y_9 + x2.toInt64) - (1 : Int64)) / x2.toInt64)), (3, .ref a_5), (0, .ref a0), (1, .int x1), (2, .int x2)]) dX7_plan_69 (by decide) rfl ?_
          refine x_aload_n 1 dX7_plan_71 rfl rfl ?_
          obtain ⟨fs, hf, a_10, hv, h⟩ := h
          refine x_get dX7_plan_72 xf_X7_187 hf hv ?_
          refine x_aload_n 1 dX7_plan_75 rfl rfl ?_
          obtain ⟨fs, hf, y_11, hv, h⟩ := h
          refine x_get dX7_plan_76 xf_X7_182 hf hv ?_
          refine x_lload 0 dX7_plan_79 rfl ?_
          obtain ⟨⟨fs, hf⟩, h⟩ := h
          refine x_invV (as := [.long y_11, .long (((y_9 + x2.toInt64) - (1 : Int64)) / x2.toInt64)]) (rest := []) dX7_plan_81 (q := (RX5, TX5, 4)) rfl xc_X7_plan_198 hf (M_X5_begin hl h) rfl rfl (Nat.le_of_ble_eq_true rfl) (Nat.zero_le _) (Nat.zero_le _) (xk_v fun t_12 h => ?_)
          refine x_lload 0 dX7_plan_84 rfl ?_
          exact x_lret dX7_plan_86 hr ht ⟨_, rfl, h⟩
        · have h := h2 q
          obtain ⟨q1, q2, h⟩ := h
          exact x_throw dX7_plan_47 dX7_plan_50 dX7_plan_51 dX7_plan_53 dX7_plan_56 xtw_70 (List.mem_of_getElem? (i := 17) rfl) hx (Nat.le_of_ble_eq_true rfl) (Nat.le_of_ble_eq_true rfl) (Nat.le_of_ble_eq_true rfl) q1 q2 h
    · have h := h2 q
      obtain ⟨q1, q2, h⟩ := h
      exact x_throw dX7_plan_17 dX7_plan_20 dX7_plan_21 dX7_plan_23 dX7_plan_26 xtw_59 (List.mem_of_getElem? (i := 16) rfl) hx (Nat.le_of_ble_eq_true rfl) (Nat.le_of_ble_eq_true rfl) (Nat.le_of_ble_eq_true rfl) q1 q2 h
theorem M_X7_plan {l : Launch} {G : xG} (hl : l.stackTraces = false) {a0 : Nat} {x1 : Int32} {x2 : Int32} {t : xT} {KX : String → xT → Prop} {K : Int64 → xT → Prop} {rc rs : Nat} (h : V_X7_plan_0 KX K a0 x1 x2 t rc rs) : xMetX l G yX7_plan k_X7_plan (some .long) [.ref a0, .int x1, .int x2] t (xKl K) KX rc rs := xMetX.of (by decide +kernel) rfl hl (Nat.le_of_ble_eq_true rfl) (fun Γ e1 e2 ht hn hr hx => by subst e1; subst e2; exact S_X7_plan_0 hl ht hr hx h)
/-! RentStream.planOf(I)I -/
def V_X7_planOf_0 (KX : String → xT → Prop) (K : Int32 → xT → Prop) (a0 : Nat) (x1 : Int32) (t : xT) (rc rs : Nat) : Prop :=
  (xis t a0 7 ∧ ∃ m_3 z_4 : Nat, m_3 ≤ rc ∧ z_4 ≤ rs ∧ V_X7_leaseAt_0 KX (fun o_2 t_1 => xnl o_2 fun a_5 => xgR t_1 a_5 3 3 fun a_6 => xgI t_1 a_6 5 0 fun x_7 => K x_7 t_1) a0 x1 t m_3 z_4)
set_option maxRecDepth 20000 in
theorem S_X7_planOf_0 {Γ : xΓ} {KX : String → xT → Prop} {K : Int32 → xT → Prop} (hl : (gl Γ).stackTraces = false) (ht : (gM Γ).sig.returnType = (some .int)) (hr : xRet Γ (xKi K)) (hx : xThr Γ KX) {a0 : Nat} {x1 : Int32} {t : xT} {rc rs : Nat} (h : V_X7_planOf_0 KX K a0 x1 t rc rs) : xX Γ k_X7_planOf 0 [(0, .ref a0), (1, .int x1)] [] t rc rs := by
  unfold V_X7_planOf_0 at h
  refine x_aload_n 0 dX7_planOf_0 rfl rfl ?_
  refine x_iload_n 1 dX7_planOf_1 rfl rfl ?_
  obtain ⟨⟨fs, hf⟩, h⟩ := h
  obtain ⟨m_3, z_4, hm, hs, h⟩ := h
  refine x_invVX (as := [.int x1]) (rest := []) dX7_planOf_2 (q := (RX7, TX7, 10)) rfl xc_X7_planOf_103 hf (M_X7_leaseAt hl h) rfl rfl (Nat.le_of_ble_eq_true rfl) hm hs (fun _ _ h => x_thrown hx h) (xk_r fun o_2 t_1 h => ?_)
  obtain ⟨a_5, e, h⟩ := h
  revert h
  subst e
  intro h
  obtain ⟨fs, hf, a_6, hv, h⟩ := h
  refine x_get dX7_planOf_5 xf_X7_187 hf hv ?_
  obtain ⟨fs, hf, x_7, hv, h⟩ := h
  refine x_get dX7_planOf_8 xf_X7_191 hf hv ?_
  exact x_zret dX7_planOf_11 hr ht rfl ⟨_, rfl, h⟩
theorem M_X7_planOf {l : Launch} {G : xG} (hl : l.stackTraces = false) {a0 : Nat} {x1 : Int32} {t : xT} {KX : String → xT → Prop} {K : Int32 → xT → Prop} {rc rs : Nat} (h : V_X7_planOf_0 KX K a0 x1 t rc rs) : xMetX l G yX7_planOf k_X7_planOf (some .int) [.ref a0, .int x1] t (xKi K) KX rc rs := xMetX.of (by decide +kernel) rfl hl (Nat.le_of_ble_eq_true rfl) (fun Γ e1 e2 ht hn hr hx => by subst e1; subst e2; exact S_X7_planOf_0 hl ht hr hx h)
/-! RentStream.points(I)I -/
def V_X7_points_0 (KX : String → xT → Prop) (K : Int32 → xT → Prop) (a0 : Nat) (x1 : Int32) (t : xT) (rc rs : Nat) : Prop :=
  (xis t a0 7 ∧ ∃ m_3 z_4 : Nat, m_3 ≤ rc ∧ z_4 ≤ rs ∧ V_X7_flatAt_0 KX (fun o_2 t_1 => xnl o_2 fun a_5 => xgR t_1 a_5 1 2 fun a_6 => (xis t_1 a0 7 ∧ V_X7_monthNow_0 (fun x_8 t_7 => (xis t_7 a_6 4 ∧ V_X4_in_0 (fun x_10 t_9 => K x_10 t_9) a_6 x_8 t_7)) a0 t_1)) a0 x1 t m_3 z_4)
set_option maxRecDepth 20000 in
theorem S_X7_points_0 {Γ : xΓ} {KX : String → xT → Prop} {K : Int32 → xT → Prop} (hl : (gl Γ).stackTraces = false) (ht : (gM Γ).sig.returnType = (some .int)) (hr : xRet Γ (xKi K)) (hx : xThr Γ KX) {a0 : Nat} {x1 : Int32} {t : xT} {rc rs : Nat} (h : V_X7_points_0 KX K a0 x1 t rc rs) : xX Γ k_X7_points 0 [(0, .ref a0), (1, .int x1)] [] t rc rs := by
  unfold V_X7_points_0 at h
  refine x_aload_n 0 dX7_points_0 rfl rfl ?_
  refine x_iload_n 1 dX7_points_1 rfl rfl ?_
  obtain ⟨⟨fs, hf⟩, h⟩ := h
  obtain ⟨m_3, z_4, hm, hs, h⟩ := h
  refine x_invVX (as := [.int x1]) (rest := []) dX7_points_2 (q := (RX7, TX7, 10)) rfl xc_X7_points_82 hf (M_X7_flatAt hl h) rfl rfl (Nat.le_of_ble_eq_true rfl) hm hs (fun _ _ h => x_thrown hx h) (xk_r fun o_2 t_1 h => ?_)
  obtain ⟨a_5, e, h⟩ := h
  revert h
  subst e
  intro h
  obtain ⟨fs, hf, a_6, hv, h⟩ := h
  refine x_get dX7_points_5 xf_X7_256 hf hv ?_
  refine x_aload_n 0 dX7_points_8 rfl rfl ?_
  obtain ⟨⟨fs, hf⟩, h⟩ := h
  refine x_invV (as := []) (rest := [.ref a_6]) dX7_points_9 (q := (RX7, TX7, 10)) rfl xc_X7_points_97 hf (M_X7_monthNow hl h) rfl rfl (Nat.le_of_ble_eq_true rfl) (Nat.zero_le _) (Nat.zero_le _) (xk_i fun x_8 t_7 h => ?_)
  obtain ⟨⟨fs, hf⟩, h⟩ := h
  refine x_invV (as := [.int x_8]) (rest := []) dX7_points_12 (q := (RX4, TX4, 1)) rfl xc_X7_points_114 hf (M_X4_in hl h) rfl rfl (Nat.le_of_ble_eq_true rfl) (Nat.zero_le _) (Nat.zero_le _) (xk_i fun x_10 t_9 h => ?_)
  exact x_zret dX7_points_15 hr ht rfl ⟨_, rfl, h⟩
theorem M_X7_points {l : Launch} {G : xG} (hl : l.stackTraces = false) {a0 : Nat} {x1 : Int32} {t : xT} {KX : String → xT → Prop} {K : Int32 → xT → Prop} {rc rs : Nat} (h : V_X7_points_0 KX K a0 x1 t rc rs) : xMetX l G yX7_points k_X7_points (some .int) [.ref a0, .int x1] t (xKi K) KX rc rs := xMetX.of (by decide +kernel) rfl hl (Nat.le_of_ble_eq_true rfl) (fun Γ e1 e2 ht hn hr hx => by subst e1; subst e2; exact S_X7_points_0 hl ht hr hx h)
/-! RentStream$Flat.readMeter(II)I -/
def V_X1_readMeter_0 (K : Int32 → xT → Prop) (a0 : Nat) (x1 : Int32) (x2 : Int32) (t : xT) : Prop :=
  xgI t a0 1 3 fun x_1 => (xpF t a0 1 3 (.int x1) fun t_2 => (xpF t_2 a0 1 5 (.int x2) fun t_3 => K (x1 - x_1) t_3))
set_option maxRecDepth 20000 in
theorem S_X1_readMeter_0 {Γ : xΓ} {K : Int32 → xT → Prop} (hl : (gl Γ).stackTraces = false) (ht : (gM Γ).sig.returnType = (some .int)) (hr : xRet Γ (xKi K)) {a0 : Nat} {x1 : Int32} {x2 : Int32} {t : xT} {rc rs : Nat} (h : V_X1_readMeter_0 K a0 x1 x2 t) : xX Γ k_X1_readMeter 0 [(0, .ref a0), (1, .int x1), (2, .int x2)] [] t rc rs := by
  unfold V_X1_readMeter_0 at h
  refine x_iload_n 1 dX1_readMeter_0 rfl rfl ?_
  refine x_aload_n 0 dX1_readMeter_1 rfl rfl ?_
  obtain ⟨fs, hf, x_1, hv, h⟩ := h
  refine x_get dX1_readMeter_2 xf_X1_23 hf hv ?_
  refine x_isub dX1_readMeter_5 ?_
  refine x_istore_n (L' := [(3, .int (x1 - x_1)), (0, .ref a0), (1, .int x1), (2, .int x2)]) dX1_readMeter_6 rfl (by decide) rfl ?_
  refine x_aload_n 1 dX1_readMeter_7 rfl rfl ?_
  refine x_iload_n 2 dX1_readMeter_8 rfl rfl ?_
  obtain ⟨fs, hf, hk, h⟩ := h
  refine x_put (v := .int x1) dX1_readMeter_9 xp_X1_23 hf rfl rfl hk ?_
  generalize hT : xup t a0 _ = t_2 at h ⊢
  clear hT
  refine x_aload_n 1 dX1_readMeter_12 rfl rfl ?_
  refine x_iload_n 3 dX1_readMeter_13 rfl rfl ?_
  obtain ⟨fs, hf, hk, h⟩ := h
  refine x_put (v := .int x2) dX1_readMeter_14 xp_X1_30 hf rfl rfl hk ?_
  generalize hT : xup t_2 a0 _ = t_3 at h ⊢
  clear hT
  refine x_iload_n 0 dX1_readMeter_17 rfl rfl ?_
  exact x_zret dX1_readMeter_18 hr ht rfl ⟨_, rfl, h⟩
theorem M_X1_readMeter {l : Launch} {G : xG} (hl : l.stackTraces = false) {a0 : Nat} {x1 : Int32} {x2 : Int32} {t : xT} {K : Int32 → xT → Prop} (h : V_X1_readMeter_0 K a0 x1 x2 t) : xMet l G yX1_readMeter k_X1_readMeter (some .int) [.ref a0, .int x1, .int x2] t (xKi K) 0 0 := xMet.of (by decide +kernel) rfl hl (Nat.le_of_ble_eq_true rfl) (fun Γ e1 e2 ht hn hr => by subst e1; subst e2; exact S_X1_readMeter_0 hl ht hr h)
/-! RentStream.read(II)I -/
def V_X7_read_0 (KX : String → xT → Prop) (K : Int32 → xT → Prop) (a0 : Nat) (x1 : Int32) (x2 : Int32) (t : xT) (rc rs : Nat) : Prop :=
  (xis t a0 7 ∧ ∃ m_3 z_4 : Nat, m_3 ≤ rc ∧ z_4 ≤ rs ∧ V_X7_flatAt_0 KX (fun o_2 t_1 => xnl o_2 fun a_5 => xgI t_1 a_5 1 3 fun x_6 => ((x2 < x_6 → (1 ≤ (rc - m_3) ∧ 6 ≤ (rs - z_4) ∧ KX "java/lang/IllegalArgumentException" t_1)) ∧ (¬ x2 < x_6 → ((x2 ≤ (1000000 : Int32) → (xis t_1 a0 7 ∧ V_X7_monthNow_0 (fun x_8 t_7 => (xis t_7 a_5 1 ∧ V_X1_readMeter_0 (fun x_10 t_9 => K x_10 t_9) a_5 x2 x_8 t_7)) a0 t_1)) ∧ (¬ x2 ≤ (1000000 : Int32) → (1 ≤ (rc - m_3) ∧ 6 ≤ (rs - z_4) ∧ KX "java/lang/IllegalArgumentException" t_1)))))) a0 x1 t m_3 z_4)
set_option maxRecDepth 20000 in
theorem S_X7_read_0 {Γ : xΓ} {KX : String → xT → Prop} {K : Int32 → xT → Prop} (hl : (gl Γ).stackTraces = false) (ht : (gM Γ).sig.returnType = (some .int)) (hr : xRet Γ (xKi K)) (hx : xThr Γ KX) {a0 : Nat} {x1 : Int32} {x2 : Int32} {t : xT} {rc rs : Nat} (h : V_X7_read_0 KX K a0 x1 x2 t rc rs) : xX Γ k_X7_read 0 [(0, .ref a0), (1, .int x1), (2, .int x2)] [] t rc rs := by
  unfold V_X7_read_0 at h
  refine x_aload_n 0 dX7_read_0 rfl rfl ?_
  refine x_iload_n 1 dX7_read_1 rfl rfl ?_
  obtain ⟨⟨fs, hf⟩, h⟩ := h
  obtain ⟨m_3, z_4, hm, hs, h⟩ := h
  refine x_invVX (as := [.int x1]) (rest := []) dX7_read_2 (q := (RX7, TX7, 10)) rfl xc_X7_read_82 hf (M_X7_flatAt hl h) rfl rfl (Nat.le_of_ble_eq_true rfl) hm hs (fun _ _ h => x_thrown hx h) (xk_r fun o_2 t_1 h => ?_)
  refine x_ostore_n (L' := [(3, va_rf o_2), (0, .ref a0), (1, .int x1), (2, .int x2)]) dX7_read_5 rfl (by decide) rfl ?_
  refine x_iload_n 3 dX7_read_6 rfl rfl ?_
  refine x_oload_n 0 dX7_read_7 rfl rfl ?_
  obtain ⟨a_5, e, h⟩ := h
  revert h
  subst e
  intro h
  obtain ⟨fs, hf, x_6, hv, h⟩ := h
  refine x_get dX7_read_8 xf_X7_118 hf hv ?_
  obtain ⟨h1, h2⟩ := h
  refine x_icmp_lt (tgt := 20) dX7_read_11 (by decide) (fun q => ?_) (fun q => ?_)
  · have h := h1 q
    obtain ⟨q1, q2, h⟩ := h
    exact x_throw dX7_read_20 dX7_read_23 dX7_read_24 dX7_read_26 dX7_read_29 xtw_59 (List.mem_of_getElem? (i := 8) rfl) hx (Nat.le_of_ble_eq_true rfl) (Nat.le_of_ble_eq_true rfl) (Nat.le_of_ble_eq_true rfl) q1 q2 h
  · have h := h2 q
    refine x_iload_n 3 dX7_read_14 rfl rfl ?_
    refine x_ldc dX7_read_15 xw560 ?_
    obtain ⟨h1, h2⟩ := h
    refine x_icmp_le (tgt := 30) dX7_read_17 (by decide) (fun q => ?_) (fun q => ?_)
    · have h := h1 q
      refine x_aload_n 0 dX7_read_30 rfl rfl ?_
      refine x_iload_n 3 dX7_read_31 rfl rfl ?_
      refine x_aload_n 1 dX7_read_32 rfl rfl ?_
      obtain ⟨⟨fs, hf⟩, h⟩ := h
      refine x_invV (as := []) (rest := [.int x2, .ref a_5]) dX7_read_33 (q := (RX7, TX7, 10)) rfl xc_X7_read_97 hf (M_X7_monthNow hl h) rfl rfl (Nat.le_of_ble_eq_true rfl) (Nat.zero_le _) (Nat.zero_le _) (xk_i fun x_8 t_7 h => ?_)
      obtain ⟨⟨fs, hf⟩, h⟩ := h
      refine x_invV (as := [.int x2, .int x_8]) (rest := []) dX7_read_36 (q := (RX1, TX1, 6)) rfl xc_X7_read_124 hf (M_X1_readMeter hl h) rfl rfl (Nat.le_of_ble_eq_true rfl) (Nat.zero_le _) (Nat.zero_le _) (xk_i fun x_10 t_9 h => ?_)
      exact x_zret dX7_read_39 hr ht rfl ⟨_, rfl, h⟩
    · have h := h2 q
      obtain ⟨q1, q2, h⟩ := h
      exact x_throw dX7_read_20 dX7_read_23 dX7_read_24 dX7_read_26 dX7_read_29 xtw_59 (List.mem_of_getElem? (i := 8) rfl) hx (Nat.le_of_ble_eq_true rfl) (Nat.le_of_ble_eq_true rfl) (Nat.le_of_ble_eq_true rfl) q1 q2 h
theorem M_X7_read {l : Launch} {G : xG} (hl : l.stackTraces = false) {a0 : Nat} {x1 : Int32} {x2 : Int32} {t : xT} {KX : String → xT → Prop} {K : Int32 → xT → Prop} {rc rs : Nat} (h : V_X7_read_0 KX K a0 x1 x2 t rc rs) : xMetX l G yX7_read k_X7_read (some .int) [.ref a0, .int x1, .int x2] t (xKi K) KX rc rs := xMetX.of (by decide +kernel) rfl hl (Nat.le_of_ble_eq_true rfl) (fun Γ e1 e2 ht hn hr hx => by subst e1; subst e2; exact S_X7_read_0 hl ht hr hx h)
