/-! ===== the words of the printed walks ===== -/
def xnl (o : Option Nat) (K : Nat → Prop) : Prop := ∃ a, o = some a ∧ K a
def xis (t : xT) (a ci : Nat) : Prop := ∃ fs, t a = some (.inr (ci, fs))
def xgI (t : xT) (a ci k : Nat) (K : Int32 → Prop) : Prop := ∃ fs, t a = some (.inr (ci, fs)) ∧ ∃ x, fs[k]? = some (.int x) ∧ K x
def xgJ (t : xT) (a ci k : Nat) (K : Int64 → Prop) : Prop := ∃ fs, t a = some (.inr (ci, fs)) ∧ ∃ x, fs[k]? = some (.long x) ∧ K x
def xgR (t : xT) (a ci k : Nat) (K : Nat → Prop) : Prop := ∃ fs, t a = some (.inr (ci, fs)) ∧ ∃ x, fs[k]? = some (.ref x) ∧ K x
def xgS (t : xT) (a : Nat) (K : Nat → Int32 → Prop) : Prop := ∃ v c, t a = some (.inr (11, [.ref v, .int c])) ∧ K v c
def xpF (t : xT) (a ci k : Nat) (v : Value) (K : xT → Prop) : Prop := ∃ fs, t a = some (.inr (ci, fs)) ∧ k < fs.length ∧ K (xup t a (.inr (ci, fs.set k v)))
def xal (t : xT) (a : Nat) (K : Int32 → Prop) : Prop := ∃ (k : Nat) (z : vp_A), t a = some (.inl (k, z)) ∧ K (Int32.ofNat z.1)
def xaI (k : Nat) (t : xT) (a : Nat) (i : Int32) (K : Int32 → Prop) : Prop := ∃ (n : Nat) (f : Nat → Int32), t a = some (.inl (k, n, .inl f)) ∧ vp_in i n ∧ K (f i.toNatClampNeg)
def xaB (t : xT) (a : Nat) (i : Int32) (K : Int32 → Prop) : Prop := ∃ (k n : Nat) (f : Nat → Int32), t a = some (.inl (k, n, .inl f)) ∧ (k = 3 ∨ k = 7) ∧ vp_in i n ∧ K (f i.toNatClampNeg)
def xaJ (t : xT) (a : Nat) (i : Int32) (K : Int64 → Prop) : Prop := ∃ (n : Nat) (f : Nat → Int64), t a = some (.inl (1, n, .inr (.inl f))) ∧ vp_in i n ∧ K (f i.toNatClampNeg)
def xaQ (k : Nat) (t : xT) (a : Nat) (i : Int32) (K : Option Nat → Prop) : Prop := ∃ (n : Nat) (f : Nat → Option Nat), t a = some (.inl (k, n, .inr (.inr (.inr (.inr f))))) ∧ vp_in i n ∧ K (f i.toNatClampNeg)
def xsI (k : Nat) (t : xT) (a : Nat) (i v : Int32) (K : xT → Prop) : Prop := ∃ (n : Nat) (f : Nat → Int32), t a = some (.inl (k, n, .inl f)) ∧ vp_in i n ∧ K (xup t a (.inl (k, n, .inl (va_up f i.toNatClampNeg v))))
def xsJ (t : xT) (a : Nat) (i : Int32) (v : Int64) (K : xT → Prop) : Prop := ∃ (n : Nat) (f : Nat → Int64), t a = some (.inl (1, n, .inr (.inl f))) ∧ vp_in i n ∧ K (xup t a (.inl (1, n, .inr (.inl (va_up f i.toNatClampNeg v)))))
def xsQ5 (t : xT) (a : Nat) (i : Int32) (v : Nat) (K : xT → Prop) : Prop := ∃ (n : Nat) (f : Nat → Option Nat), t a = some (.inl (5, n, .inr (.inr (.inr (.inr f))))) ∧ vp_in i n ∧ ∃ vs, t v = some (.inr (0, vs)) ∧ K (xup t a (.inl (5, n, .inr (.inr (.inr (.inr (va_up f i.toNatClampNeg (some v))))))))
def xsQ6 (t : xT) (a : Nat) (i : Int32) (v : Nat) (K : xT → Prop) : Prop := ∃ (n : Nat) (f : Nat → Option Nat), t a = some (.inl (6, n, .inr (.inr (.inr (.inr f))))) ∧ vp_in i n ∧ ∃ ci vs, t v = some (.inr (ci, vs)) ∧ xObj ci ∧ K (xup t a (.inl (6, n, .inr (.inr (.inr (.inr (va_up f i.toNatClampNeg (some v))))))))
def xnw (e : xE) (n : Nat) (t : xT) (c s : Nat) (K : Nat → xT → Prop) : Prop := 1 ≤ c ∧ n ≤ s ∧ ∀ q, t q = none → K q (xup t q e)
def xnA (k : Nat) (f : (Nat → Int32) ⊕ (Nat → Int64) ⊕ (Nat → UInt32) ⊕ (Nat → UInt64) ⊕ (Nat → Option Nat)) (n : Int32) (t : xT) (c s : Nat) (K : Nat → xT → Prop) : Prop := ¬ n < 0 ∧ n.toNatClampNeg * 8 ≤ 536870912 ∧ 1 ≤ c ∧ n.toNatClampNeg ≤ s ∧ ∀ q, t q = none → K q (xup t q (.inl (k, n.toNatClampNeg, f)))
def xcB (t : xT) (b : Nat) (sp : Int32) (a : Nat) (dp n : Int32) (K : xT → Prop) : Prop := ∃ (k n0 n1 : Nat) (f g : Nat → Int32), t b = some (.inl (k, n0, .inl f)) ∧ (k = 3 ∨ k = 7) ∧ t a = some (.inl (3, n1, .inl g)) ∧ ¬ sp < 0 ∧ ¬ dp < 0 ∧ ¬ n < 0 ∧ sp.toNatClampNeg + n.toNatClampNeg ≤ n0 ∧ dp.toNatClampNeg + n.toNatClampNeg ≤ n1 ∧ (∀ i : Nat, i < n.toNatClampNeg → fits .byte (.int (f (sp.toNatClampNeg + i))) = true) ∧ K (xup t a (.inl (3, n1, .inl (va_cpy f g sp.toNatClampNeg dp.toNatClampNeg n.toNatClampNeg))))
def xcQ (t : xT) (b : Nat) (sp : Int32) (a : Nat) (dp n : Int32) (K : xT → Prop) : Prop := ∃ (n0 n1 : Nat) (f g : Nat → Option Nat), t b = some (.inl (6, n0, .inr (.inr (.inr (.inr f))))) ∧ t a = some (.inl (6, n1, .inr (.inr (.inr (.inr g))))) ∧ ¬ sp < 0 ∧ ¬ dp < 0 ∧ ¬ n < 0 ∧ sp.toNatClampNeg + n.toNatClampNeg ≤ n0 ∧ dp.toNatClampNeg + n.toNatClampNeg ≤ n1 ∧ (∀ i : Nat, i < n.toNatClampNeg → ∀ y : Nat, f (sp.toNatClampNeg + i) = some y → ∃ ci fs, t y = some (.inr (ci, fs)) ∧ xObj ci) ∧ K (xup t a (.inl (6, n1, .inr (.inr (.inr (.inr (va_cpy f g sp.toNatClampNeg dp.toNatClampNeg n.toNatClampNeg)))))))
theorem xcat_rf {o : Option Nat} : (va_rf o).category = 1 := by cases o <;> rfl
/-- the String " M" -/
theorem x_ldcM3 {Γ : xΓ} {κ : xκ} {pc : Nat} {L : List (Nat × Value)} {rest : List Value} {τ : xT} {rc rs : Nat} (d : decode κ.2.1 pc = .ok (.ldc_w 382, 3)) (hκ : κ.1 = RX7 := by rfl) (kk : xX Γ κ (pc + 3) L (.ref ((gG Γ).2.2.2 3) :: rest) τ rc rs) : xX Γ κ pc L rest τ rc rs := by
  intro ok H locs ls cs ss hW hS h1 h2 h T hT X
  have hstr := ok.2.2.2.2.2.1.2.2.2.2.2.2.2.2.2.1
  obtain ⟨t, a1, b1⟩ := kk ok H locs ls cs ss hW hS h1 h2 h T hT X
  exact ⟨t, X.ldcStringW ok.1 (own := "RentStream") (text := " M") (index := 382) (a := (gG Γ).2.2.2 3) (by have h9 := ok.2.2.2.1; rw [hκ] at h9; exact h9) hstr.1 hstr.2 (g := F0 (gm Γ) pc ls rest) rfl (by rw [ok.2.1]; exact d) t a1, b1⟩

/-! RentStream$Bill.<init>()V -/
def V_X0_init_0 (K : xT → Prop) (a0 : Nat) (t : xT) : Prop :=
  (xpF t a0 0 0 (.int (0 : Int32)) fun t_1 => (xpF t_1 a0 0 1 (.int (0 : Int32)) fun t_2 => (xpF t_2 a0 0 2 (.int (0 : Int32)) fun t_3 => (xpF t_3 a0 0 3 (.int (0 : Int32)) fun t_4 => K t_4))))
set_option maxRecDepth 20000 in
theorem S_X0_init_0 {Γ : xΓ} {K : xT → Prop} (hl : (gl Γ).stackTraces = false) (ht : (gM Γ).sig.returnType = none) (hr : xRet Γ (xKv K)) (hnm : (gM Γ).name = "<init>") {a0 : Nat} {t : xT} {rc rs : Nat} (h : V_X0_init_0 K a0 t) : xX Γ k_X0_init 0 [(0, .ref a0)] [] t rc rs := by
  unfold V_X0_init_0 at h
  refine x_aload_n 0 dX0_init_0 rfl rfl ?_
  refine x_objInit dX0_init_1 (List.forall_mem_cons.mpr ⟨xw144, List.forall_mem_cons.mpr ⟨xw67, List.forall_mem_cons.mpr ⟨xw68, fun _ h => absurd h List.not_mem_nil⟩⟩⟩) (by decide) (by decide) (Nat.le_of_ble_eq_true rfl) ?_
  refine x_aload_n 0 dX0_init_4 rfl rfl ?_
  refine x_iconst (v := (0 : Int32)) dX0_init_5 (by decide) ?_
  obtain ⟨fs, hf, hk, h⟩ := h
  refine x_put (v := .int (0 : Int32)) dX0_init_6 xp_X0_9 hf rfl rfl hk ?_
  generalize hT : xup t a0 _ = t_1 at h ⊢
  clear hT
  refine x_aload_n 0 dX0_init_9 rfl rfl ?_
  refine x_iconst (v := (0 : Int32)) dX0_init_10 (by decide) ?_
  obtain ⟨fs, hf, hk, h⟩ := h
  refine x_put (v := .int (0 : Int32)) dX0_init_11 xp_X0_15 hf rfl rfl hk ?_
  generalize hT : xup t_1 a0 _ = t_2 at h ⊢
  clear hT
  refine x_aload_n 0 dX0_init_14 rfl rfl ?_
  refine x_iconst (v := (0 : Int32)) dX0_init_15 (by decide) ?_
  obtain ⟨fs, hf, hk, h⟩ := h
  refine x_put (v := .int (0 : Int32)) dX0_init_16 xp_X0_18 hf rfl rfl hk ?_
  generalize hT : xup t_2 a0 _ = t_3 at h ⊢
  clear hT
  refine x_aload_n 0 dX0_init_19 rfl rfl ?_
  refine x_iconst (v := (0 : Int32)) dX0_init_20 (by decide) ?_
  obtain ⟨fs, hf, hk, h⟩ := h
  refine x_put (v := .int (0 : Int32)) dX0_init_21 xp_X0_21 hf rfl rfl hk ?_
  generalize hT : xup t_3 a0 _ = t_4 at h ⊢
  clear hT
  exact x_vret dX0_init_24 hr ht ⟨rfl, h⟩
theorem M_X0_init {l : Launch} {G : xG} (hl : l.stackTraces = false) {a0 : Nat} {t : xT} {K : xT → Prop} (h : V_X0_init_0 K a0 t) : xMet l G yX0_init k_X0_init none [.ref a0] t (xKv K) 0 0 := xMet.of (by decide +kernel) rfl hl (Nat.le_of_ble_eq_true rfl) (fun Γ e1 e2 ht hn hr => by subst e1; subst e2; exact S_X0_init_0 hl ht hr hn h)
/-! RentStream$Months.<init>(I)V -/
def VS_X4_init_14 (R14 : Nat → Int32 → Int32 → xT → Nat → Nat → Prop) (K : xT → Prop) (a0 : Nat) (x1 : Int32) (x2 : Int32) (t : xT) (rc rs : Nat) : Prop :=
  xgR t a0 4 0 fun a_1 => xal t a_1 fun x_2 => ((x_2 ≤ x2 → K t) ∧ (¬ x_2 ≤ x2 → xgR t a0 4 0 fun a_3 => xsI 0 t a_3 x2 x1 fun t_4 => R14 a0 x1 (x2 + 1) t_4 rc rs))
def V_X4_init_14 (K : xT → Prop) (n : Nat) : Nat → Int32 → Int32 → xT → Nat → Nat → Prop := Nat.rec (fun _ _ _ _ _ _ => False) (fun _ ih => VS_X4_init_14 ih K) n
set_option maxRecDepth 20000 in
theorem S_X4_init_14 {Γ : xΓ} {K : xT → Prop} (hl : (gl Γ).stackTraces = false) (ht : (gM Γ).sig.returnType = none) (hr : xRet Γ (xKv K)) (hnm : (gM Γ).name = "<init>") : ∀ (n : Nat) (a0 : Nat) (x1 : Int32) (x2 : Int32) (t : xT) (rc rs : Nat), V_X4_init_14 K n a0 x1 x2 t rc rs → xX Γ k_X4_init 14 [(0, .ref a0), (1, .int x1), (2, .int x2)] [] t rc rs := by
  intro n
  induction n with
  | zero =>
    intro a0 x1 x2 t rc rs h
    exact h.elim
  | succ n ih =>
    intro a0 x1 x2 t rc rs h
    replace h : VS_X4_init_14 (V_X4_init_14 K n) K a0 x1 x2 t rc rs := h
    unfold VS_X4_init_14 at h
    refine x_iload_n 2 dX4_init_14 rfl rfl ?_
    refine x_aload_n 0 dX4_init_15 rfl rfl ?_
    obtain ⟨fs, hf, a_1, hv, h⟩ := h
    refine x_get dX4_init_16 xf_X4_9 hf hv ?_
    obtain ⟨k, z, hf, h⟩ := h
    refine x_alen dX4_init_19 hf ?_
    generalize Int32.ofNat z.1 = x_2 at h ⊢
    obtain ⟨h1, h2⟩ := h
    refine x_icmp_ge (tgt := 36) dX4_init_20 (by decide) (fun q => ?_) (fun q => ?_)
    · have h := h1 q
      exact x_vret dX4_init_36 hr ht ⟨rfl, h⟩
    · have h := h2 q
      refine x_aload_n 0 dX4_init_23 rfl rfl ?_
      obtain ⟨fs, hf, a_3, hv, h⟩ := h
      refine x_get dX4_init_24 xf_X4_9 hf hv ?_
      refine x_iload_n 2 dX4_init_27 rfl rfl ?_
      refine x_iload_n 1 dX4_init_28 rfl rfl ?_
      obtain ⟨n, f, hf, hi, h⟩ := h
      refine x_iast dX4_init_29 hf hi ?_
      generalize hT : xup t a_3 _ = t_4 at h ⊢
      clear hT
      refine x_iinc (v := (x2 + 1)) (L' := [(2, .int (x2 + 1)), (0, .ref a0), (1, .int x1)]) (j := 2) dX4_init_30 rfl rfl (by decide) rfl ?_
      refine x_goto (tgt := 14) dX4_init_33 (by decide) ?_
      refine x_sub (L' := [(0, .ref a0), (1, .int x1), (2, .int (x2 + 1))]) [1, 2, 0] rfl ?_
      exact ih a0 x1 (x2 + 1) t_4 rc rs h
def V_X4_init_0 (K : xT → Prop) (a0 : Nat) (x1 : Int32) (t : xT) (rc rs : Nat) : Prop :=
  xnA 0 (.inl (fun _ => 0)) (121 : Int32) t rc rs fun a_1 t_2 => (xpF t_2 a0 4 0 (.ref a_1) fun t_3 => ∃ f_4 : Nat, V_X4_init_14 K f_4 a0 x1 (0 : Int32) t_3 (rc - 1) (rs - (121 : Int32).toNatClampNeg))
set_option maxRecDepth 20000 in
theorem S_X4_init_0 {Γ : xΓ} {K : xT → Prop} (hl : (gl Γ).stackTraces = false) (ht : (gM Γ).sig.returnType = none) (hr : xRet Γ (xKv K)) (hnm : (gM Γ).name = "<init>") {a0 : Nat} {x1 : Int32} {t : xT} {rc rs : Nat} (h : V_X4_init_0 K a0 x1 t rc rs) : xX Γ k_X4_init 0 [(0, .ref a0), (1, .int x1)] [] t rc rs := by
  unfold V_X4_init_0 at h
  refine x_aload_n 0 dX4_init_0 rfl rfl ?_
  refine x_objInit dX4_init_1 (List.forall_mem_cons.mpr ⟨xw100, List.forall_mem_cons.mpr ⟨xw67, List.forall_mem_cons.mpr ⟨xw68, fun _ h => absurd h List.not_mem_nil⟩⟩⟩) (by decide) (by decide) (Nat.le_of_ble_eq_true rfl) ?_
  refine x_aload_n 0 dX4_init_4 rfl rfl ?_
  refine x_bipush (v := (121 : Int32)) dX4_init_5 (by decide) ?_
  obtain ⟨q0, qb, q1, q2, h⟩ := h
  refine x_newa0 dX4_init_7 xw105 q0 qb q1 q2 (fun a_1 hq => ?_)
  replace h := h a_1 hq
  generalize hT : xup t a_1 _ = t_2 at h ⊢
  clear hT
  obtain ⟨fs, hf, hk, h⟩ := h
  refine x_putF (v := .ref a_1) dX4_init_9 xp_X4_9 hnm hf rfl rfl hk ?_
  generalize hT : xup t_2 a0 _ = t_3 at h ⊢
  clear hT
  refine x_iconst (v := (0 : Int32)) dX4_init_12 (by decide) ?_
  refine x_istore_n (L' := [(2, .int (0 : Int32)), (0, .ref a0), (1, .int x1)]) dX4_init_13 rfl (by decide) rfl ?_
  obtain ⟨f_4, h⟩ := h
  refine x_sub (L' := [(0, .ref a0), (1, .int x1), (2, .int (0 : Int32))]) [1, 2, 0] rfl ?_
  exact S_X4_init_14 hl ht hr hnm  f_4 a0 x1 (0 : Int32) t_3 (rc - 1) (rs - (121 : Int32).toNatClampNeg) h
theorem M_X4_init {l : Launch} {G : xG} (hl : l.stackTraces = false) {a0 : Nat} {x1 : Int32} {t : xT} {K : xT → Prop} {rc rs : Nat} (h : V_X4_init_0 K a0 x1 t rc rs) : xMet l G yX4_init k_X4_init none [.ref a0, .int x1] t (xKv K) rc rs := xMet.of (by decide +kernel) rfl hl (Nat.le_of_ble_eq_true rfl) (fun Γ e1 e2 ht hn hr => by subst e1; subst e2; exact S_X4_init_0 hl ht hr hn h)
/-! java/lang/AbstractStringBuilder.<init>(I)V -/
def V_J5_init_d00df_0 (K : xT → Prop) (a0 : Nat) (x1 : Int32) (t : xT) (rc rs : Nat) : Prop :=
  (((1 : Int32) = 0 → False) ∧ (¬ (1 : Int32) = 0 → xnA 3 (.inl (fun _ => 0)) x1 t rc rs fun a_1 t_2 => (xpF t_2 a0 9 0 (.ref a_1) fun t_3 => (xpF t_3 a0 9 1 (.int (0 : Int32)) fun t_4 => K t_4))))
set_option maxRecDepth 20000 in
theorem S_J5_init_d00df_0 {Γ : xΓ} {K : xT → Prop} (hl : (gl Γ).stackTraces = false) (ht : (gM Γ).sig.returnType = none) (hr : xRet Γ (xKv K)) (hnm : (gM Γ).name = "<init>") {a0 : Nat} {x1 : Int32} {t : xT} {rc rs : Nat} (h : V_J5_init_d00df_0 K a0 x1 t rc rs) : xX Γ k_J5_init_d00df 0 [(0, .ref a0), (1, .int x1)] [] t rc rs := by
  unfold V_J5_init_d00df_0 at h
  refine x_aload_n 0 dJ5_init_d00df_0 rfl rfl ?_
  refine x_objInit dJ5_init_d00df_1 (List.forall_mem_cons.mpr ⟨xw114, List.forall_mem_cons.mpr ⟨xw67, List.forall_mem_cons.mpr ⟨xw68, fun _ h => absurd h List.not_mem_nil⟩⟩⟩) (by decide) (by decide) (Nat.le_of_ble_eq_true rfl) ?_
  refine x_gets (v := .int 1) dJ5_init_d00df_4 (List.mem_of_getElem? (i := 0) rfl) xw115 ?_
  obtain ⟨h1, h2⟩ := h
  refine x_if_eq (tgt := 25) dJ5_init_d00df_7 (by decide) (fun q => ?_) (fun q => ?_)
  · have h := h1 q
    refine x_aload_n 0 dJ5_init_d00df_25 rfl rfl ?_
    refine x_iload_n 1 dJ5_init_d00df_26 rfl rfl ?_
    exact h.elim
  · have h := h2 q
    refine x_aload_n 0 dJ5_init_d00df_10 rfl rfl ?_
    refine x_iload_n 1 dJ5_init_d00df_11 rfl rfl ?_
    obtain ⟨q0, qb, q1, q2, h⟩ := h
    refine x_newa3 dJ5_init_d00df_12 xw138 q0 qb q1 q2 (fun a_1 hq => ?_)
    replace h := h a_1 hq
    generalize hT : xup t a_1 _ = t_2 at h ⊢
    clear hT
    obtain ⟨fs, hf, hk, h⟩ := h
    refine x_put (v := .ref a_1) dJ5_init_d00df_14 xp_J5_15 hf rfl rfl hk ?_
    generalize hT : xup t_2 a0 _ = t_3 at h ⊢
    clear hT
    refine x_aload_n 0 dJ5_init_d00df_17 rfl rfl ?_
    refine x_iconst (v := (0 : Int32)) dJ5_init_d00df_18 (by decide) ?_
    obtain ⟨fs, hf, hk, h⟩ := h
    refine x_put (v := .int (0 : Int32)) dJ5_init_d00df_19 xp_J5_22 hf rfl rfl hk ?_
    generalize hT : xup t_3 a0 _ = t_4 at h ⊢
    clear hT
    refine x_goto (tgt := 38) dJ5_init_d00df_22 (by decide) ?_
    exact x_vret dJ5_init_d00df_38 hr ht ⟨rfl, h⟩
theorem M_J5_init_d00df {l : Launch} {G : xG} (hl : l.stackTraces = false) {a0 : Nat} {x1 : Int32} {t : xT} {K : xT → Prop} {rc rs : Nat} (h : V_J5_init_d00df_0 K a0 x1 t rc rs) : xMet l G yJ5_init_d00df k_J5_init_d00df none [.ref a0, .int x1] t (xKv K) rc rs := xMet.of (by decide +kernel) rfl hl (Nat.le_of_ble_eq_true rfl) (fun Γ e1 e2 ht hn hr => by subst e1; subst e2; exact S_J5_init_d00df_0 hl ht hr hn h)
/-! java/lang/StringBuilder.<init>()V -/
def V_J4_init_da8c8_0 (K : xT → Prop) (a0 : Nat) (t : xT) (rc rs : Nat) : Prop :=
  (∃ m_2 z_3 : Nat, m_2 ≤ rc ∧ z_3 ≤ rs ∧ V_J5_init_d00df_0 (fun t_1 => K t_1) a0 (16 : Int32) t m_2 z_3)
set_option maxRecDepth 20000 in
theorem S_J4_init_da8c8_0 {Γ : xΓ} {K : xT → Prop} (hl : (gl Γ).stackTraces = false) (ht : (gM Γ).sig.returnType = none) (hr : xRet Γ (xKv K)) (hnm : (gM Γ).name = "<init>") {a0 : Nat} {t : xT} {rc rs : Nat} (h : V_J4_init_da8c8_0 K a0 t rc rs) : xX Γ k_J4_init_da8c8 0 [(0, .ref a0)] [] t rc rs := by
  unfold V_J4_init_da8c8_0 at h
  refine x_aload_n 0 dJ4_init_da8c8_0 rfl rfl ?_
  refine x_bipush (v := (16 : Int32)) dJ4_init_da8c8_1 (by decide) ?_
  obtain ⟨m_2, z_3, hm, hs, h⟩ := h
  refine x_invI (as := [.int (16 : Int32)]) (rest := []) dJ4_init_da8c8_3 xc_J4_init_da8c8_1 (M_J5_init_d00df hl h) rfl rfl (Nat.le_of_ble_eq_true rfl) hm hs (xk_v fun t_1 h => ?_)
  exact x_vret dJ4_init_da8c8_6 hr ht ⟨rfl, h⟩
theorem M_J4_init_da8c8 {l : Launch} {G : xG} (hl : l.stackTraces = false) {a0 : Nat} {t : xT} {K : xT → Prop} {rc rs : Nat} (h : V_J4_init_da8c8_0 K a0 t rc rs) : xMet l G yJ4_init_da8c8 k_J4_init_da8c8 none [.ref a0] t (xKv K) rc rs := xMet.of (by decide +kernel) rfl hl (Nat.le_of_ble_eq_true rfl) (fun Γ e1 e2 ht hn hr => by subst e1; subst e2; exact S_J4_init_da8c8_0 hl ht hr hn h)
/-! java/util/AbstractCollection.<init>()V -/
def V_Jxa1e45_init_da8c8_0 (K : xT → Prop) (a0 : Nat) (t : xT) : Prop :=
  K t
set_option maxRecDepth 20000 in
theorem S_Jxa1e45_init_da8c8_0 {Γ : xΓ} {K : xT → Prop} (hl : (gl Γ).stackTraces = false) (ht : (gM Γ).sig.returnType = none) (hr : xRet Γ (xKv K)) (hnm : (gM Γ).name = "<init>") {a0 : Nat} {t : xT} {rc rs : Nat} (h : V_Jxa1e45_init_da8c8_0 K a0 t) : xX Γ k_Jxa1e45_init_da8c8 0 [(0, .ref a0)] [] t rc rs := by
  unfold V_Jxa1e45_init_da8c8_0 at h
  refine x_aload_n 0 dJxa1e45_init_da8c8_0 rfl rfl ?_
  refine x_objInit dJxa1e45_init_da8c8_1 (List.forall_mem_cons.mpr ⟨xw80, List.forall_mem_cons.mpr ⟨xw67, List.forall_mem_cons.mpr ⟨xw68, fun _ h => absurd h List.not_mem_nil⟩⟩⟩) (by decide) (by decide) (Nat.le_of_ble_eq_true rfl) ?_
  exact x_vret dJxa1e45_init_da8c8_4 hr ht ⟨rfl, h⟩
theorem M_Jxa1e45_init_da8c8 {l : Launch} {G : xG} (hl : l.stackTraces = false) {a0 : Nat} {t : xT} {K : xT → Prop} (h : V_Jxa1e45_init_da8c8_0 K a0 t) : xMet l G yJxa1e45_init_da8c8 k_Jxa1e45_init_da8c8 none [.ref a0] t (xKv K) 0 0 := xMet.of (by decide +kernel) rfl hl (Nat.le_of_ble_eq_true rfl) (fun Γ e1 e2 ht hn hr => by subst e1; subst e2; exact S_Jxa1e45_init_da8c8_0 hl ht hr hn h)
/-! java/util/AbstractList.<init>()V -/
def V_Jxc12de_init_da8c8_0 (K : xT → Prop) (a0 : Nat) (t : xT) : Prop :=
  (V_Jxa1e45_init_da8c8_0 (fun t_1 => (xpF t_1 a0 10 0 (.int (0 : Int32)) fun t_2 => K t_2)) a0 t)
set_option maxRecDepth 20000 in
theorem S_Jxc12de_init_da8c8_0 {Γ : xΓ} {K : xT → Prop} (hl : (gl Γ).stackTraces = false) (ht : (gM Γ).sig.returnType = none) (hr : xRet Γ (xKv K)) (hnm : (gM Γ).name = "<init>") {a0 : Nat} {t : xT} {rc rs : Nat} (h : V_Jxc12de_init_da8c8_0 K a0 t) : xX Γ k_Jxc12de_init_da8c8 0 [(0, .ref a0)] [] t rc rs := by
  unfold V_Jxc12de_init_da8c8_0 at h
  refine x_aload_n 0 dJxc12de_init_da8c8_0 rfl rfl ?_
  refine x_invI (as := []) (rest := []) dJxc12de_init_da8c8_1 xc_Jxc12de_init_da8c8_1 (M_Jxa1e45_init_da8c8 hl h) rfl rfl (Nat.le_of_ble_eq_true rfl) (Nat.zero_le _) (Nat.zero_le _) (xk_v fun t_1 h => ?_)
  refine x_aload_n 0 dJxc12de_init_da8c8_4 rfl rfl ?_
  refine x_iconst (v := (0 : Int32)) dJxc12de_init_da8c8_5 (by decide) ?_
  obtain ⟨fs, hf, hk, h⟩ := h
  refine x_put (v := .int (0 : Int32)) dJxc12de_init_da8c8_6 xp_Jxc12de_7 hf rfl rfl hk ?_
  generalize hT : xup t_1 a0 _ = t_2 at h ⊢
  clear hT
  exact x_vret dJxc12de_init_da8c8_9 hr ht ⟨rfl, h⟩
theorem M_Jxc12de_init_da8c8 {l : Launch} {G : xG} (hl : l.stackTraces = false) {a0 : Nat} {t : xT} {K : xT → Prop} (h : V_Jxc12de_init_da8c8_0 K a0 t) : xMet l G yJxc12de_init_da8c8 k_Jxc12de_init_da8c8 none [.ref a0] t (xKv K) 0 0 := xMet.of (by decide +kernel) rfl hl (Nat.le_of_ble_eq_true rfl) (fun Γ e1 e2 ht hn hr => by subst e1; subst e2; exact S_Jxc12de_init_da8c8_0 hl ht hr hn h)
/-! java/util/ArrayList.<init>()V -/
def V_Jx4a65c_init_da8c8_0 (E : Nat → Nat) (K : xT → Prop) (a0 : Nat) (t : xT) : Prop :=
  (V_Jxc12de_init_da8c8_0 (fun t_1 => (xpF t_1 a0 10 1 (.ref (E 0)) fun t_2 => K t_2)) a0 t)
set_option maxRecDepth 20000 in
theorem S_Jx4a65c_init_da8c8_0 {Γ : xΓ} {K : xT → Prop} (hl : (gl Γ).stackTraces = false) (ht : (gM Γ).sig.returnType = none) (hr : xRet Γ (xKv K)) (hnm : (gM Γ).name = "<init>") {a0 : Nat} {t : xT} {rc rs : Nat} (h : V_Jx4a65c_init_da8c8_0 (gG Γ).2.2.2 K a0 t) : xX Γ k_Jx4a65c_init_da8c8 0 [(0, .ref a0)] [] t rc rs := by
  unfold V_Jx4a65c_init_da8c8_0 at h
  refine x_aload_n 0 dJx4a65c_init_da8c8_0 rfl rfl ?_
  refine x_invI (as := []) (rest := []) dJx4a65c_init_da8c8_1 xc_Jx4a65c_init_da8c8_1 (M_Jxc12de_init_da8c8 hl h) rfl rfl (Nat.le_of_ble_eq_true rfl) (Nat.zero_le _) (Nat.zero_le _) (xk_v fun t_1 h => ?_)
  refine x_aload_n 0 dJx4a65c_init_da8c8_4 rfl rfl ?_
  refine x_gets (v := .ref ((gG Γ).2.2.2 0)) dJx4a65c_init_da8c8_5 (List.mem_of_getElem? (i := 1) rfl) xw81 ?_
  obtain ⟨fs, hf, hk, h⟩ := h
  refine x_put (v := .ref ((gG Γ).2.2.2 0)) dJx4a65c_init_da8c8_8 xp_Jx4a65c_9 hf rfl rfl hk ?_
  generalize hT : xup t_1 a0 _ = t_2 at h ⊢
  clear hT
  exact x_vret dJx4a65c_init_da8c8_11 hr ht ⟨rfl, h⟩
theorem M_Jx4a65c_init_da8c8 {l : Launch} {G : xG} (hl : l.stackTraces = false) {a0 : Nat} {t : xT} {K : xT → Prop} (h : V_Jx4a65c_init_da8c8_0 G.2.2.2 K a0 t) : xMet l G yJx4a65c_init_da8c8 k_Jx4a65c_init_da8c8 none [.ref a0] t (xKv K) 0 0 := xMet.of (by decide +kernel) rfl hl (Nat.le_of_ble_eq_true rfl) (fun Γ e1 e2 ht hn hr => by subst e1; subst e2; exact S_Jx4a65c_init_da8c8_0 hl ht hr hn h)
/-! RentStream.<init>()V -/
def V_X7_init_0 (E : Nat → Nat) (K : xT → Prop) (a0 : Nat) (t : xT) (rc rs : Nat) : Prop :=
  xnw (.inr (10, [.int 0, .null, .int 0])) 3 t rc rs fun a_1 t_2 => (V_Jx4a65c_init_da8c8_0 E (fun t_3 => (xpF t_3 a0 7 0 (.ref a_1) fun t_4 => xnw (.inr (10, [.int 0, .null, .int 0])) 3 t_4 (rc - 1) (rs - 3) fun a_5 t_6 => (V_Jx4a65c_init_da8c8_0 E (fun t_7 => (xpF t_7 a0 7 1 (.ref a_5) fun t_8 => xnw (.inr (10, [.int 0, .null, .int 0])) 3 t_8 ((rc - 1) - 1) ((rs - 3) - 3) fun a_9 t_10 => (V_Jx4a65c_init_da8c8_0 E (fun t_11 => (xpF t_11 a0 7 2 (.ref a_9) fun t_12 => xnw (.inr (4, [.null])) 1 t_12 (((rc - 1) - 1) - 1) (((rs - 3) - 3) - 3) fun a_13 t_14 => (∃ m_16 z_17 : Nat, m_16 ≤ ((((rc - 1) - 1) - 1) - 1) ∧ z_17 ≤ ((((rs - 3) - 3) - 3) - 1) ∧ V_X4_init_0 (fun t_15 => (xpF t_15 a0 7 3 (.ref a_13) fun t_18 => xnw (.inr (4, [.null])) 1 t_18 (((((rc - 1) - 1) - 1) - 1) - m_16) (((((rs - 3) - 3) - 3) - 1) - z_17) fun a_19 t_20 => (∃ m_22 z_23 : Nat, m_22 ≤ ((((((rc - 1) - 1) - 1) - 1) - m_16) - 1) ∧ z_23 ≤ ((((((rs - 3) - 3) - 3) - 1) - z_17) - 1) ∧ V_X4_init_0 (fun t_21 => (xpF t_21 a0 7 4 (.ref a_19) fun t_24 => xnw (.inr (9, [.null, .int 0, .int 0, .int 0])) 4 t_24 (((((((rc - 1) - 1) - 1) - 1) - m_16) - 1) - m_22) (((((((rs - 3) - 3) - 3) - 1) - z_17) - 1) - z_23) fun a_25 t_26 => (∃ m_28 z_29 : Nat, m_28 ≤ ((((((((rc - 1) - 1) - 1) - 1) - m_16) - 1) - m_22) - 1) ∧ z_29 ≤ ((((((((rs - 3) - 3) - 3) - 1) - z_17) - 1) - z_23) - 4) ∧ V_J4_init_da8c8_0 (fun t_27 => (xpF t_27 a0 7 5 (.ref a_25) fun t_30 => xnw (.inr (0, [.int 0, .int 0, .int 0, .int 0])) 4 t_30 (((((((((rc - 1) - 1) - 1) - 1) - m_16) - 1) - m_22) - 1) - m_28) (((((((((rs - 3) - 3) - 3) - 1) - z_17) - 1) - z_23) - 4) - z_29) fun a_31 t_32 => (V_X0_init_0 (fun t_33 => (xpF t_33 a0 7 6 (.ref a_31) fun t_34 => (xpF t_34 a0 7 7 (.int (100 : Int32)) fun t_35 => (xpF t_35 a0 7 8 (.int (0 : Int32)) fun t_36 => (xpF t_36 a0 7 9 (.long (0 : Int64)) fun t_37 => K t_37))))) a_31 t_32))) a_25 t_26 m_28 z_29))) a_19 (0 : Int32) t_20 m_22 z_23))) a_13 (100 : Int32) t_14 m_16 z_17))) a_9 t_10))) a_5 t_6))) a_1 t_2)
set_option maxRecDepth 20000 in
theorem S_X7_init_0 {Γ : xΓ} {K : xT → Prop} (hl : (gl Γ).stackTraces = false) (ht : (gM Γ).sig.returnType = none) (hr : xRet Γ (xKv K)) (hnm : (gM Γ).name = "<init>") {a0 : Nat} {t : xT} {rc rs : Nat} (h : V_X7_init_0 (gG Γ).2.2.2 K a0 t rc rs) : xX Γ k_X7_init 0 [(0, .ref a0)] [] t rc rs := by
  unfold V_X7_init_0 at h
  refine x_aload_n 0 dX7_init_0 rfl rfl ?_
  refine x_objInit dX7_init_1 (List.forall_mem_cons.mpr ⟨xw66, List.forall_mem_cons.mpr ⟨xw67, List.forall_mem_cons.mpr ⟨xw68, fun _ h => absurd h List.not_mem_nil⟩⟩⟩) (by decide) (by decide) (Nat.le_of_ble_eq_true rfl) ?_
  refine x_aload_n 0 dX7_init_4 rfl rfl ?_
  obtain ⟨q1, q2, h⟩ := h
  refine x_new dX7_init_5 xn_X7_7 q1 q2 (fun a_1 hq => ?_)
  replace h := h a_1 hq
  generalize hT : xup t a_1 _ = t_2 at h ⊢
  clear hT
  refine x_dup dX7_init_8 rfl ?_
  refine x_invI (as := []) (rest := [.ref a_1, .ref a0]) dX7_init_9 xc_X7_init_9 (M_Jx4a65c_init_da8c8 hl h) rfl rfl (Nat.le_of_ble_eq_true rfl) (Nat.zero_le _) (Nat.zero_le _) (xk_v fun t_3 h => ?_)
  obtain ⟨fs, hf, hk, h⟩ := h
  refine x_putF (v := .ref a_1) dX7_init_12 xp_X7_10 hnm hf rfl rfl hk ?_
  generalize hT : xup t_3 a0 _ = t_4 at h ⊢
  clear hT
  refine x_aload_n 0 dX7_init_15 rfl rfl ?_
  obtain ⟨q1, q2, h⟩ := h
  refine x_new dX7_init_16 xn_X7_7 q1 q2 (fun a_5 hq => ?_)
  replace h := h a_5 hq
  generalize hT : xup t_4 a_5 _ = t_6 at h ⊢
  clear hT
  refine x_dup dX7_init_19 rfl ?_
  refine x_invI (as := []) (rest := [.ref a_5, .ref a0]) dX7_init_20 xc_X7_init_9 (M_Jx4a65c_init_da8c8 hl h) rfl rfl (Nat.le_of_ble_eq_true rfl) (Nat.zero_le _) (Nat.zero_le _) (xk_v fun t_7 h => ?_)
  obtain ⟨fs, hf, hk, h⟩ := h
  refine x_putF (v := .ref a_5) dX7_init_23 xp_X7_16 hnm hf rfl rfl hk ?_
  generalize hT : xup t_7 a0 _ = t_8 at h ⊢
  clear hT
  refine x_aload_n 0 dX7_init_26 rfl rfl ?_
  obtain ⟨q1, q2, h⟩ := h
  refine x_new dX7_init_27 xn_X7_7 q1 q2 (fun a_9 hq => ?_)
  replace h := h a_9 hq
  generalize hT : xup t_8 a_9 _ = t_10 at h ⊢
  clear hT
  refine x_dup dX7_init_30 rfl ?_
  refine x_invI (as := []) (rest := [.ref a_9, .ref a0]) dX7_init_31 xc_X7_init_9 (M_Jx4a65c_init_da8c8 hl h) rfl rfl (Nat.le_of_ble_eq_true rfl) (Nat.zero_le _) (Nat.zero_le _) (xk_v fun t_11 h => ?_)
  obtain ⟨fs, hf, hk, h⟩ := h
  refine x_putF (v := .ref a_9) dX7_init_34 xp_X7_19 hnm hf rfl rfl hk ?_
  generalize hT : xup t_11 a0 _ = t_12 at h ⊢
  clear hT
  refine x_aload_n 0 dX7_init_37 rfl rfl ?_
  obtain ⟨q1, q2, h⟩ := h
  refine x_new dX7_init_38 xn_X7_22 q1 q2 (fun a_13 hq => ?_)
  replace h := h a_13 hq
  generalize hT : xup t_12 a_13 _ = t_14 at h ⊢
  clear hT
  refine x_dup dX7_init_41 rfl ?_
  refine x_bipush (v := (100 : Int32)) dX7_init_42 (by decide) ?_
  obtain ⟨m_16, z_17, hm, hs, h⟩ := h
  refine x_invI (as := [.int (100 : Int32)]) (rest := [.ref a_13, .ref a0]) dX7_init_44 xc_X7_init_24 (M_X4_init hl h) rfl rfl (Nat.le_of_ble_eq_true rfl) hm hs (xk_v fun t_15 h => ?_)
  obtain ⟨fs, hf, hk, h⟩ := h
  refine x_putF (v := .ref a_13) dX7_init_47 xp_X7_27 hnm hf rfl rfl hk ?_
  generalize hT : xup t_15 a0 _ = t_18 at h ⊢
  clear hT
  refine x_aload_n 0 dX7_init_50 rfl rfl ?_
  obtain ⟨q1, q2, h⟩ := h
  refine x_new dX7_init_51 xn_X7_22 q1 q2 (fun a_19 hq => ?_)
  replace h := h a_19 hq
  generalize hT : xup t_18 a_19 _ = t_20 at h ⊢
  clear hT
  refine x_dup dX7_init_54 rfl ?_
  refine x_iconst (v := (0 : Int32)) dX7_init_55 (by decide) ?_
  obtain ⟨m_22, z_23, hm, hs, h⟩ := h
  refine x_invI (as := [.int (0 : Int32)]) (rest := [.ref a_19, .ref a0]) dX7_init_56 xc_X7_init_24 (M_X4_init hl h) rfl rfl (Nat.le_of_ble_eq_true rfl) hm hs (xk_v fun t_21 h => ?_)
  obtain ⟨fs, hf, hk, h⟩ := h
  refine x_putF (v := .ref a_19) dX7_init_59 xp_X7_31 hnm hf rfl rfl hk ?_
  generalize hT : xup t_21 a0 _ = t_24 at h ⊢
  clear hT
  refine x_aload_n 0 dX7_init_62 rfl rfl ?_
  obtain ⟨q1, q2, h⟩ := h
  refine x_new dX7_init_63 xn_X7_34 q1 q2 (fun a_25 hq => ?_)
  replace h := h a_25 hq
  generalize hT : xup t_24 a_25 _ = t_26 at h ⊢
  clear hT
  refine x_dup dX7_init_66 rfl ?_
  obtain ⟨m_28, z_29, hm, hs, h⟩ := h
  refine x_invI (as := []) (rest := [.ref a_25, .ref a0]) dX7_init_67 xc_X7_init_36 (M_J4_init_da8c8 hl h) rfl rfl (Nat.le_of_ble_eq_true rfl) hm hs (xk_v fun t_27 h => ?_)
  obtain ⟨fs, hf, hk, h⟩ := h
  refine x_putF (v := .ref a_25) dX7_init_70 xp_X7_37 hnm hf rfl rfl hk ?_
  generalize hT : xup t_27 a0 _ = t_30 at h ⊢
  clear hT
  refine x_aload_n 0 dX7_init_73 rfl rfl ?_
  obtain ⟨q1, q2, h⟩ := h
  refine x_new dX7_init_74 xn_X7_41 q1 q2 (fun a_31 hq => ?_)
  replace h := h a_31 hq
  generalize hT : xup t_30 a_31 _ = t_32 at h ⊢
  clear hT
  refine x_dup dX7_init_77 rfl ?_
  refine x_invIN (as := []) (rest := [.ref a_31, .ref a0]) dX7_init_78 xc_X7_init_43 (M_X0_init hl h) rfl rfl (Nat.le_of_ble_eq_true rfl) (Nat.zero_le _) (Nat.zero_le _) (xk_v fun t_33 h => ?_)
  obtain ⟨fs, hf, hk, h⟩ := h
  refine x_putF (v := .ref a_31) dX7_init_81 xp_X7_44 hnm hf rfl rfl hk ?_
  generalize hT : xup t_33 a0 _ = t_34 at h ⊢
  clear hT
  refine x_aload_n 0 dX7_init_84 rfl rfl ?_
  refine x_bipush (v := (100 : Int32)) dX7_init_85 (by decide) ?_
  obtain ⟨fs, hf, hk, h⟩ := h
  refine x_put (v := .int (100 : Int32)) dX7_init_87 xp_X7_48 hf rfl rfl hk ?_
  generalize hT : xup t_34 a0 _ = t_35 at h ⊢
  clear hT
  refine x_aload_n 0 dX7_init_90 rfl rfl ?_
  refine x_iconst (v := (0 : Int32)) dX7_init_91 (by decide) ?_
  obtain ⟨fs, hf, hk, h⟩ := h
  refine x_put (v := .int (0 : Int32)) dX7_init_92 xp_X7_52 hf rfl rfl hk ?_
  generalize hT : xup t_35 a0 _ = t_36 at h ⊢
  clear hT
  refine x_aload_n 0 dX7_init_95 rfl rfl ?_
  refine x_lconst (v := (0 : Int64)) dX7_init_96 (by decide) ?_
  obtain ⟨fs, hf, hk, h⟩ := h
  refine x_put (v := .long (0 : Int64)) dX7_init_97 xp_X7_55 hf rfl rfl hk ?_
  generalize hT : xup t_36 a0 _ = t_37 at h ⊢
  clear hT
  exact x_vret dX7_init_100 hr ht ⟨rfl, h⟩
theorem M_X7_init {l : Launch} {G : xG} (hl : l.stackTraces = false) {a0 : Nat} {t : xT} {K : xT → Prop} {rc rs : Nat} (h : V_X7_init_0 G.2.2.2 K a0 t rc rs) : xMet l G yX7_init k_X7_init none [.ref a0] t (xKv K) rc rs := xMet.of (by decide +kernel) rfl hl (Nat.le_of_ble_eq_true rfl) (fun Γ e1 e2 ht hn hr => by subst e1; subst e2; exact S_X7_init_0 hl ht hr hn h)
/-! RentStream.benefitFor(II)I -/
def V_X7_benefitFor_0 (K : Int32 → xT → Prop) (x0 : Int32) (x1 : Int32) (t : xT) : Prop :=
  (¬ (10 : Int32) = 0 ∧ (¬ (10 : Int32) = 0 ∧ K (if (0 : Int32) < (if ((x0 * (8 : Int32)) / (10 : Int32)) < (x0 - ((x1 * (3 : Int32)) / (10 : Int32))) then ((x0 * (8 : Int32)) / (10 : Int32)) else (x0 - ((x1 * (3 : Int32)) / (10 : Int32)))) then (if ((x0 * (8 : Int32)) / (10 : Int32)) < (x0 - ((x1 * (3 : Int32)) / (10 : Int32))) then ((x0 * (8 : Int32)) / (10 : Int32)) else (x0 - ((x1 * (3 : Int32)) / (10 : Int32)))) else (0 : Int32)) t))
set_option maxRecDepth 20000 in
theorem S_X7_benefitFor_0 {Γ : xΓ} {K : Int32 → xT → Prop} (hl : (gl Γ).stackTraces = false) (ht : (gM Γ).sig.returnType = (some .int)) (hr : xRet Γ (xKi K)) {x0 : Int32} {x1 : Int32} {t : xT} {rc rs : Nat} (h : V_X7_benefitFor_0 K x0 x1 t) : xX Γ k_X7_benefitFor 0 [(0, .int x0), (1, .int x1)] [] t rc rs := by
  unfold V_X7_benefitFor_0 at h
  refine x_iload_n 0 dX7_benefitFor_0 rfl rfl ?_
  refine x_iload_n 1 dX7_benefitFor_1 rfl rfl ?_
  refine x_iconst (v := (3 : Int32)) dX7_benefitFor_2 (by decide) ?_
  refine x_imul dX7_benefitFor_3 ?_
  refine x_bipush (v := (10 : Int32)) dX7_benefitFor_4 (by decide) ?_
  obtain ⟨q, h⟩ := h
  refine x_idiv dX7_benefitFor_6 q ?_
  refine x_isub dX7_benefitFor_7 ?_
  refine x_istore_n (L' := [(2, .int (x0 - ((x1 * (3 : Int32)) / (10 : Int32)))), (0, .int x0), (1, .int x1)]) dX7_benefitFor_8 rfl (by decide) rfl ?_
  refine x_iload_n 1 dX7_benefitFor_9 rfl rfl ?_
  refine x_bipush (v := (8 : Int32)) dX7_benefitFor_10 (by decide) ?_
  refine x_imul dX7_benefitFor_12 ?_
  refine x_bipush (v := (10 : Int32)) dX7_benefitFor_13 (by decide) ?_
  obtain ⟨q, h⟩ := h
  refine x_idiv dX7_benefitFor_15 q ?_
  refine x_istore_n (L' := [(3, .int ((x0 * (8 : Int32)) / (10 : Int32))), (2, .int (x0 - ((x1 * (3 : Int32)) / (10 : Int32)))), (0, .int x0), (1, .int x1)]) dX7_benefitFor_16 rfl (by decide) rfl ?_
  refine x_iconst (v := (0 : Int32)) dX7_benefitFor_17 (by decide) ?_
  refine x_iload_n 1 dX7_benefitFor_18 rfl rfl ?_
  refine x_iload_n 0 dX7_benefitFor_19 rfl rfl ?_
  refine x_mmin dX7_benefitFor_20 xlm_X7_370 (by decide) (by decide) (Nat.le_of_ble_eq_true rfl) ?_
  refine x_mmax dX7_benefitFor_23 xlm_X7_372 (by decide) (by decide) (Nat.le_of_ble_eq_true rfl) ?_
  exact x_zret dX7_benefitFor_26 hr ht rfl ⟨_, rfl, h⟩
theorem M_X7_benefitFor {l : Launch} {G : xG} (hl : l.stackTraces = false) {x0 : Int32} {x1 : Int32} {t : xT} {K : Int32 → xT → Prop} (h : V_X7_benefitFor_0 K x0 x1 t) : xMet l G yX7_benefitFor k_X7_benefitFor (some .int) [.int x0, .int x1] t (xKi K) 0 0 := xMet.of (by decide +kernel) rfl hl (Nat.le_of_ble_eq_true rfl) (fun Γ e1 e2 ht hn hr => by subst e1; subst e2; exact S_X7_benefitFor_0 hl ht hr h)
/-! RentStream.postToDesk(LRentStream$Lease;J)V -/
def V_X7_postToDesk_0 (K : xT → Prop) (a0 : Nat) (a1 : Nat) (y2 : Int64) (t : xT) : Prop :=
  xgJ t a1 3 6 fun y_1 => (xpF t a1 3 6 (.long (y_1 + y2)) fun t_2 => xgJ t_2 a0 7 9 fun y_3 => (xpF t_2 a0 7 9 (.long (y_3 - y2)) fun t_4 => K t_4))
set_option maxRecDepth 20000 in
theorem S_X7_postToDesk_0 {Γ : xΓ} {K : xT → Prop} (hl : (gl Γ).stackTraces = false) (ht : (gM Γ).sig.returnType = none) (hr : xRet Γ (xKv K)) {a0 : Nat} {a1 : Nat} {y2 : Int64} {t : xT} {rc rs : Nat} (h : V_X7_postToDesk_0 K a0 a1 y2 t) : xX Γ k_X7_postToDesk 0 [(0, .ref a0), (1, .ref a1), (2, .long y2)] [] t rc rs := by
  unfold V_X7_postToDesk_0 at h
  refine x_aload_n 1 dX7_postToDesk_0 rfl rfl ?_
  refine x_dup dX7_postToDesk_1 rfl ?_
  obtain ⟨fs, hf, y_1, hv, h⟩ := h
  refine x_get dX7_postToDesk_2 xf_X7_223 hf hv ?_
  refine x_lload_n 2 dX7_postToDesk_5 rfl rfl ?_
  refine x_ladd dX7_postToDesk_6 ?_
  obtain ⟨fs, hf, hk, h⟩ := h
  refine x_put (v := .long (y_1 + y2)) dX7_postToDesk_7 xp_X7_223 hf rfl rfl hk ?_
  generalize hT : xup t a1 _ = t_2 at h ⊢
  clear hT
  refine x_aload_n 0 dX7_postToDesk_10 rfl rfl ?_
  refine x_dup dX7_postToDesk_11 rfl ?_
  obtain ⟨fs, hf, y_3, hv, h⟩ := h
  refine x_get dX7_postToDesk_12 xf_X7_55 hf hv ?_
  refine x_lload_n 2 dX7_postToDesk_15 rfl rfl ?_
  refine x_lsub dX7_postToDesk_16 ?_
  obtain ⟨fs, hf, hk, h⟩ := h
  refine x_put (v := .long (y_3 - y2)) dX7_postToDesk_17 xp_X7_55 hf rfl rfl hk ?_
  generalize hT : xup t_2 a0 _ = t_4 at h ⊢
  clear hT
  exact x_vret dX7_postToDesk_20 hr ht ⟨rfl, h⟩
theorem M_X7_postToDesk {l : Launch} {G : xG} (hl : l.stackTraces = false) {a0 : Nat} {a1 : Nat} {y2 : Int64} {t : xT} {K : xT → Prop} (h : V_X7_postToDesk_0 K a0 a1 y2 t) : xMet l G yX7_postToDesk k_X7_postToDesk none [.ref a0, .ref a1, .long y2] t (xKv K) 0 0 := xMet.of (by decide +kernel) rfl hl (Nat.le_of_ble_eq_true rfl) (fun Γ e1 e2 ht hn hr => by subst e1; subst e2; exact S_X7_postToDesk_0 hl ht hr h)
/-! RentStream$Months.in(I)I -/
def V_X4_in_0 (K : Int32 → xT → Prop) (a0 : Nat) (x1 : Int32) (t : xT) : Prop :=
  ((x1 < 0 → K (-1 : Int32) t) ∧ (¬ x1 < 0 → xgR t a0 4 0 fun a_1 => xal t a_1 fun x_2 => ((x_2 ≤ x1 → K (-1 : Int32) t) ∧ (¬ x_2 ≤ x1 → xgR t a0 4 0 fun a_3 => xaI 0 t a_3 x1 fun x_4 => K x_4 t))))
set_option maxRecDepth 20000 in
theorem S_X4_in_0 {Γ : xΓ} {K : Int32 → xT → Prop} (hl : (gl Γ).stackTraces = false) (ht : (gM Γ).sig.returnType = (some .int)) (hr : xRet Γ (xKi K)) {a0 : Nat} {x1 : Int32} {t : xT} {rc rs : Nat} (h : V_X4_in_0 K a0 x1 t) : xX Γ k_X4_in 0 [(0, .ref a0), (1, .int x1)] [] t rc rs := by
  unfold V_X4_in_0 at h
  refine x_iload_n 1 dX4_in_0 rfl rfl ?_
  obtain ⟨h1, h2⟩ := h
  refine x_if_lt (tgt := 22) dX4_in_1 (by decide) (fun q => ?_) (fun q => ?_)
  · have h := h1 q
    refine x_iconst (v := (-1 : Int32)) dX4_in_22 (by decide) ?_
    exact x_zret dX4_in_23 hr ht rfl ⟨_, rfl, h⟩
  · have h := h2 q
    refine x_iload_n 1 dX4_in_4 rfl rfl ?_
    refine x_aload_n 0 dX4_in_5 rfl rfl ?_
    obtain ⟨fs, hf, a_1, hv, h⟩ := h
    refine x_get dX4_in_6 xf_X4_9 hf hv ?_
    obtain ⟨k, z, hf, h⟩ := h
    refine x_alen dX4_in_9 hf ?_
    generalize Int32.ofNat z.1 = x_2 at h ⊢
    obtain ⟨h1, h2⟩ := h
    refine x_icmp_ge (tgt := 22) dX4_in_10 (by decide) (fun q => ?_) (fun q => ?_)
    · have h := h1 q
      refine x_iconst (v := (-1 : Int32)) dX4_in_22 (by decide) ?_
      exact x_zret dX4_in_23 hr ht rfl ⟨_, rfl, h⟩
    · have h := h2 q
      refine x_aload_n 0 dX4_in_13 rfl rfl ?_
      obtain ⟨fs, hf, a_3, hv, h⟩ := h
      refine x_get dX4_in_14 xf_X4_9 hf hv ?_
      refine x_iload_n 1 dX4_in_17 rfl rfl ?_
      obtain ⟨n, f, hf, hi, h⟩ := h
      refine x_iald dX4_in_18 hf hi ?_
      generalize f _ = x_4 at h ⊢
      refine x_goto (tgt := 23) dX4_in_19 (by decide) ?_
      exact x_zret dX4_in_23 hr ht rfl ⟨_, rfl, h⟩
theorem M_X4_in {l : Launch} {G : xG} (hl : l.stackTraces = false) {a0 : Nat} {x1 : Int32} {t : xT} {K : Int32 → xT → Prop} (h : V_X4_in_0 K a0 x1 t) : xMet l G yX4_in k_X4_in (some .int) [.ref a0, .int x1] t (xKi K) 0 0 := xMet.of (by decide +kernel) rfl hl (Nat.le_of_ble_eq_true rfl) (fun Γ e1 e2 ht hn hr => by subst e1; subst e2; exact S_X4_in_0 hl ht hr h)
/-! RentStream$Lease.incomeIn(I)I -/
def VS_X3_incomeIn_2 (R2 : Nat → Int32 → xT → Prop) (K : Int32 → xT → Prop) (a0 : Nat) (x2 : Int32) (t : xT) : Prop :=
  ((x2 < 0 → K (0 : Int32) t) ∧ (¬ x2 < 0 → xgR t a0 3 2 fun a_1 => (xis t a_1 4 ∧ V_X4_in_0 (fun x_3 t_2 => ((x_3 = (-1 : Int32) → R2 a0 (x2 + (-1 : Int32)) t_2) ∧ (¬ x_3 = (-1 : Int32) → xgR t_2 a0 3 2 fun a_4 => (xis t_2 a_4 4 ∧ V_X4_in_0 (fun x_6 t_5 => K x_6 t_5) a_4 x2 t_2)))) a_1 x2 t)))
def V_X3_incomeIn_2 (K : Int32 → xT → Prop) (n : Nat) : Nat → Int32 → xT → Prop := Nat.rec (fun _ _ _ => False) (fun _ ih => VS_X3_incomeIn_2 ih K) n
set_option maxRecDepth 20000 in
theorem S_X3_incomeIn_2 {Γ : xΓ} {K : Int32 → xT → Prop} (hl : (gl Γ).stackTraces = false) (ht : (gM Γ).sig.returnType = (some .int)) (hr : xRet Γ (xKi K)) : ∀ (n : Nat) (a0 : Nat) (x2 : Int32) (t : xT) (rc rs : Nat), V_X3_incomeIn_2 K n a0 x2 t → xX Γ k_X3_incomeIn 2 [(0, .ref a0), (2, .int x2)] [] t rc rs := by
  intro n
  induction n with
  | zero =>
    intro a0 x2 t rc rs h
    exact h.elim
  | succ n ih =>
    intro a0 x2 t rc rs h
    replace h : VS_X3_incomeIn_2 (V_X3_incomeIn_2 K n) K a0 x2 t := h
    unfold VS_X3_incomeIn_2 at h
    refine x_iload_n 1 dX3_incomeIn_2 rfl rfl ?_
    obtain ⟨h1, h2⟩ := h
    refine x_if_lt (tgt := 33) dX3_incomeIn_3 (by decide) (fun q => ?_) (fun q => ?_)
    · have h := h1 q
      refine x_iconst (v := (0 : Int32)) dX3_incomeIn_33 (by decide) ?_
      exact x_zret dX3_incomeIn_34 hr ht rfl ⟨_, rfl, h⟩
    · have h := h2 q
      refine x_aload_n 0 dX3_incomeIn_6 rfl rfl ?_
      obtain ⟨fs, hf, a_1, hv, h⟩ := h
      refine x_get dX3_incomeIn_7 xf_X3_20 hf hv ?_
      refine x_iload_n 1 dX3_incomeIn_10 rfl rfl ?_
      obtain ⟨⟨fs, hf⟩, h⟩ := h
      refine x_invV (as := [.int x2]) (rest := []) dX3_incomeIn_11 (q := (RX4, TX4, 1)) rfl xc_X3_incomeIn_73 hf (M_X4_in hl h) rfl rfl (Nat.le_of_ble_eq_true rfl) (Nat.zero_le _) (Nat.zero_le _) (xk_i fun x_3 t_2 h => ?_)
      refine x_iconst (v := (-1 : Int32)) dX3_incomeIn_14 (by decide) ?_
      obtain ⟨h1, h2⟩ := h
      refine x_icmp_eq (tgt := 27) dX3_incomeIn_15 (by decide) (fun q => ?_) (fun q => ?_)
      · have h := h1 q
        refine x_iinc (v := (x2 + (-1 : Int32))) (L' := [(2, .int (x2 + (-1 : Int32))), (0, .ref a0)]) (j := 1) dX3_incomeIn_27 rfl rfl (by decide) rfl ?_
        refine x_goto (tgt := 2) dX3_incomeIn_30 (by decide) ?_
        refine x_sub (L' := [(0, .ref a0), (2, .int (x2 + (-1 : Int32)))]) [1, 0] rfl ?_
        exact ih a0 (x2 + (-1 : Int32)) t_2 _ _ h
      · have h := h2 q
        refine x_aload_n 0 dX3_incomeIn_18 rfl rfl ?_
        obtain ⟨fs, hf, a_4, hv, h⟩ := h
        refine x_get dX3_incomeIn_19 xf_X3_20 hf hv ?_
        refine x_iload_n 1 dX3_incomeIn_22 rfl rfl ?_
        obtain ⟨⟨fs, hf⟩, h⟩ := h
        refine x_invV (as := [.int x2]) (rest := []) dX3_incomeIn_23 (q := (RX4, TX4, 1)) rfl xc_X3_incomeIn_73 hf (M_X4_in hl h) rfl rfl (Nat.le_of_ble_eq_true rfl) (Nat.zero_le _) (Nat.zero_le _) (xk_i fun x_6 t_5 h => ?_)
        exact x_zret dX3_incomeIn_26 hr ht rfl ⟨_, rfl, h⟩
def V_X3_incomeIn_0 (K : Int32 → xT → Prop) (a0 : Nat) (x1 : Int32) (t : xT) : Prop :=
  ∃ f_1 : Nat, V_X3_incomeIn_2 K f_1 a0 x1 t
set_option maxRecDepth 20000 in
theorem S_X3_incomeIn_0 {Γ : xΓ} {K : Int32 → xT → Prop} (hl : (gl Γ).stackTraces = false) (ht : (gM Γ).sig.returnType = (some .int)) (hr : xRet Γ (xKi K)) {a0 : Nat} {x1 : Int32} {t : xT} {rc rs : Nat} (h : V_X3_incomeIn_0 K a0 x1 t) : xX Γ k_X3_incomeIn 0 [(0, .ref a0), (1, .int x1)] [] t rc rs := by
  unfold V_X3_incomeIn_0 at h
  refine x_iload_n 1 dX3_incomeIn_0 rfl rfl ?_
  refine x_istore_n (L' := [(2, .int x1), (0, .ref a0), (1, .int x1)]) dX3_incomeIn_1 rfl (by decide) rfl ?_
  obtain ⟨f_1, h⟩ := h
  refine x_sub (L' := [(0, .ref a0), (2, .int x1)]) [1, 0] rfl ?_
  exact S_X3_incomeIn_2 hl ht hr  f_1 a0 x1 t _ _ h
theorem M_X3_incomeIn {l : Launch} {G : xG} (hl : l.stackTraces = false) {a0 : Nat} {x1 : Int32} {t : xT} {K : Int32 → xT → Prop} (h : V_X3_incomeIn_0 K a0 x1 t) : xMet l G yX3_incomeIn k_X3_incomeIn (some .int) [.ref a0, .int x1] t (xKi K) 0 0 := xMet.of (by decide +kernel) rfl hl (Nat.le_of_ble_eq_true rfl) (fun Γ e1 e2 ht hn hr => by subst e1; subst e2; exact S_X3_incomeIn_0 hl ht hr h)
/-! RentStream$Lease.rentAt(I)I -/
def V_X3_rentAt_0 (K : Int32 → xT → Prop) (a0 : Nat) (x1 : Int32) (t : xT) : Prop :=
  xgI t a0 3 8 fun x_1 => (¬ (100 : Int32) = 0 ∧ K ((x_1 * x1) / (100 : Int32)) t)
set_option maxRecDepth 20000 in
theorem S_X3_rentAt_0 {Γ : xΓ} {K : Int32 → xT → Prop} (hl : (gl Γ).stackTraces = false) (ht : (gM Γ).sig.returnType = (some .int)) (hr : xRet Γ (xKi K)) {a0 : Nat} {x1 : Int32} {t : xT} {rc rs : Nat} (h : V_X3_rentAt_0 K a0 x1 t) : xX Γ k_X3_rentAt 0 [(0, .ref a0), (1, .int x1)] [] t rc rs := by
  unfold V_X3_rentAt_0 at h
  refine x_aload_n 0 dX3_rentAt_0 rfl rfl ?_
  obtain ⟨fs, hf, x_1, hv, h⟩ := h
  refine x_get dX3_rentAt_1 xf_X3_58 hf hv ?_
  refine x_iload_n 1 dX3_rentAt_4 rfl rfl ?_
  refine x_imul dX3_rentAt_5 ?_
  refine x_bipush (v := (100 : Int32)) dX3_rentAt_6 (by decide) ?_
  obtain ⟨q, h⟩ := h
  refine x_idiv dX3_rentAt_8 q ?_
  exact x_zret dX3_rentAt_9 hr ht rfl ⟨_, rfl, h⟩
theorem M_X3_rentAt {l : Launch} {G : xG} (hl : l.stackTraces = false) {a0 : Nat} {x1 : Int32} {t : xT} {K : Int32 → xT → Prop} (h : V_X3_rentAt_0 K a0 x1 t) : xMet l G yX3_rentAt k_X3_rentAt (some .int) [.ref a0, .int x1] t (xKi K) 0 0 := xMet.of (by decide +kernel) rfl hl (Nat.le_of_ble_eq_true rfl) (fun Γ e1 e2 ht hn hr => by subst e1; subst e2; exact S_X3_rentAt_0 hl ht hr h)
/-! RentStream.payAhead(LRentStream$Lease;I)V -/
def V_X7_payAhead_0 (K : xT → Prop) (a0 : Nat) (a1 : Nat) (x2 : Int32) (t : xT) : Prop :=
  xgR t a0 7 3 fun a_1 => (xis t a_1 4 ∧ V_X4_in_0 (fun x_3 t_2 => (xis t_2 a1 3 ∧ V_X3_rentAt_0 (fun x_5 t_4 => (xis t_4 a1 3 ∧ V_X3_incomeIn_0 (fun x_7 t_6 => (V_X7_benefitFor_0 (fun x_9 t_8 => xgJ t_8 a1 3 6 fun y_10 => (((x_9.toInt64 + y_10) ≤ (0 : Int64) → K t_8) ∧ (¬ (x_9.toInt64 + y_10) ≤ (0 : Int64) → (xis t_8 a0 7 ∧ V_X7_postToDesk_0 (fun t_11 => K t_11) a0 a1 (-(x_9.toInt64 + y_10)) t_8)))) x_5 x_7 t_6)) a1 x2 t_4)) a1 x_3 t_2)) a_1 x2 t)
set_option maxRecDepth 20000 in
theorem S_X7_payAhead_0 {Γ : xΓ} {K : xT → Prop} (hl : (gl Γ).stackTraces = false) (ht : (gM Γ).sig.returnType = none) (hr : xRet Γ (xKv K)) {a0 : Nat} {a1 : Nat} {x2 : Int32} {t : xT} {rc rs : Nat} (h : V_X7_payAhead_0 K a0 a1 x2 t) : xX Γ k_X7_payAhead 0 [(0, .ref a0), (1, .ref a1), (2, .int x2)] [] t rc rs := by
  unfold V_X7_payAhead_0 at h
  refine x_aload_n 1 dX7_payAhead_0 rfl rfl ?_
  refine x_aload_n 0 dX7_payAhead_1 rfl rfl ?_
  obtain ⟨fs, hf, a_1, hv, h⟩ := h
  refine x_get dX7_payAhead_2 xf_X7_27 hf hv ?_
  refine x_iload_n 2 dX7_payAhead_5 rfl rfl ?_
  obtain ⟨⟨fs, hf⟩, h⟩ := h
  refine x_invV (as := [.int x2]) (rest := [.ref a1]) dX7_payAhead_6 (q := (RX4, TX4, 1)) rfl xc_X7_payAhead_114 hf (M_X4_in hl h) rfl rfl (Nat.le_of_ble_eq_true rfl) (Nat.zero_le _) (Nat.zero_le _) (xk_i fun x_3 t_2 h => ?_)
  obtain ⟨⟨fs, hf⟩, h⟩ := h
  refine x_invV (as := [.int x_3]) (rest := []) dX7_payAhead_9 (q := (RX3, TX3, 11)) rfl xc_X7_payAhead_298 hf (M_X3_rentAt hl h) rfl rfl (Nat.le_of_ble_eq_true rfl) (Nat.zero_le _) (Nat.zero_le _) (xk_i fun x_5 t_4 h => ?_)
  refine x_istore_n (L' := [(3, .int x_5), (0, .ref a0), (1, .ref a1), (2, .int x2)]) dX7_payAhead_12 rfl (by decide) rfl ?_
  refine x_iload_n 0 dX7_payAhead_13 rfl rfl ?_
  refine x_aload_n 2 dX7_payAhead_14 rfl rfl ?_
  refine x_iload_n 3 dX7_payAhead_15 rfl rfl ?_
  obtain ⟨⟨fs, hf⟩, h⟩ := h
  refine x_invV (as := [.int x2]) (rest := [.int x_5]) dX7_payAhead_16 (q := (RX3, TX3, 11)) rfl xc_X7_payAhead_301 hf (M_X3_incomeIn hl h) rfl rfl (Nat.le_of_ble_eq_true rfl) (Nat.zero_le _) (Nat.zero_le _) (xk_i fun x_7 t_6 h => ?_)
  refine x_invS (as := [.int x_5, .int x_7]) (rest := []) dX7_payAhead_19 xc_X7_payAhead_304 (M_X7_benefitFor hl h) rfl rfl (Nat.le_of_ble_eq_true rfl) (Nat.zero_le _) (Nat.zero_le _) (xk_i fun x_9 t_8 h => ?_)
  refine x_i2l dX7_payAhead_22 ?_
  refine x_aload_n 2 dX7_payAhead_23 rfl rfl ?_
  obtain ⟨fs, hf, y_10, hv, h⟩ := h
  refine x_get dX7_payAhead_24 xf_X7_223 hf hv ?_
  refine x_ladd dX7_payAhead_27 ?_
  refine x_lstore (L' := [(4, .long (x_9.toInt64 + y_10)), (3, .int x_5), (0, .ref a0), (1, .ref a1), (2, .int x2)]) dX7_payAhead_28 (by decide) rfl ?_
  refine x_lload 0 dX7_payAhead_30 rfl ?_
  refine x_lconst (v := (0 : Int64)) dX7_payAhead_32 (by decide) ?_
  obtain ⟨h1, h2⟩ := h
  refine x_lcmp_le (tgt := 45) dX7_payAhead_33 dX7_payAhead_34 (by decide) (fun q => ?_) (fun q => ?_)
  · have h := h1 q
    exact x_vret dX7_payAhead_45 hr ht ⟨rfl, h⟩
  · have h := h2 q
    refine x_aload_n 2 dX7_payAhead_37 rfl rfl ?_
    refine x_aload_n 3 dX7_payAhead_38 rfl rfl ?_
    refine x_lload 0 dX7_payAhead_39 rfl ?_
    refine x_lneg dX7_payAhead_41 ?_
    obtain ⟨⟨fs, hf⟩, h⟩ := h
    refine x_invV (as := [.ref a1, .long (-(x_9.toInt64 + y_10))]) (rest := []) dX7_payAhead_42 (q := (RX7, TX7, 10)) rfl xc_X7_payAhead_176 hf (M_X7_postToDesk hl h) rfl rfl (Nat.le_of_ble_eq_true rfl) (Nat.zero_le _) (Nat.zero_le _) (xk_v fun t_11 h => ?_)
    exact x_vret dX7_payAhead_45 hr ht ⟨rfl, h⟩
theorem M_X7_payAhead {l : Launch} {G : xG} (hl : l.stackTraces = false) {a0 : Nat} {a1 : Nat} {x2 : Int32} {t : xT} {K : xT → Prop} (h : V_X7_payAhead_0 K a0 a1 x2 t) : xMet l G yX7_payAhead k_X7_payAhead none [.ref a0, .ref a1, .int x2] t (xKv K) 0 0 := xMet.of (by decide +kernel) rfl hl (Nat.le_of_ble_eq_true rfl) (fun Γ e1 e2 ht hn hr => by subst e1; subst e2; exact S_X7_payAhead_0 hl ht hr h)
/-! RentStream$Lease.runsIn(I)Z -/
def V_X3_runsIn_0 (K : Int32 → xT → Prop) (a0 : Nat) (x1 : Int32) (t : xT) : Prop :=
  xgI t a0 3 9 fun x_1 => ((x1 < x_1 → K (0 : Int32) t) ∧ (¬ x1 < x_1 → xgI t a0 3 1 fun x_2 => ((x_2 = (-1 : Int32) → K (1 : Int32) t) ∧ (¬ x_2 = (-1 : Int32) → xgI t a0 3 1 fun x_3 => ((x_3 < x1 → K (0 : Int32) t) ∧ (¬ x_3 < x1 → K (1 : Int32) t))))))
set_option maxRecDepth 20000 in
theorem S_X3_runsIn_0 {Γ : xΓ} {K : Int32 → xT → Prop} (hl : (gl Γ).stackTraces = false) (ht : (gM Γ).sig.returnType = (some .boolean)) (hr : xRet Γ (xKi K)) {a0 : Nat} {x1 : Int32} {t : xT} {rc rs : Nat} (h : V_X3_runsIn_0 K a0 x1 t) : xX Γ k_X3_runsIn 0 [(0, .ref a0), (1, .int x1)] [] t rc rs := by
  unfold V_X3_runsIn_0 at h
  refine x_aload_n 0 dX3_runsIn_0 rfl rfl ?_
  obtain ⟨fs, hf, x_1, hv, h⟩ := h
  refine x_get dX3_runsIn_1 xf_X3_61 hf hv ?_
  refine x_iload_n 1 dX3_runsIn_4 rfl rfl ?_
  obtain ⟨h1, h2⟩ := h
  refine x_icmp_gt (tgt := 28) dX3_runsIn_5 (by decide) (fun q => ?_) (fun q => ?_)
  · have h := h1 q
    refine x_iconst (v := (0 : Int32)) dX3_runsIn_28 (by decide) ?_
    exact x_zret dX3_runsIn_29 hr ht (by decide) ⟨_, rfl, h⟩
  · have h := h2 q
    refine x_aload_n 0 dX3_runsIn_8 rfl rfl ?_
    obtain ⟨fs, hf, x_2, hv, h⟩ := h
    refine x_get dX3_runsIn_9 xf_X3_9 hf hv ?_
    refine x_iconst (v := (-1 : Int32)) dX3_runsIn_12 (by decide) ?_
    obtain ⟨h1, h2⟩ := h
    refine x_icmp_eq (tgt := 24) dX3_runsIn_13 (by decide) (fun q => ?_) (fun q => ?_)
    · have h := h1 q
      refine x_iconst (v := (1 : Int32)) dX3_runsIn_24 (by decide) ?_
      refine x_goto (tgt := 29) dX3_runsIn_25 (by decide) ?_
      exact x_zret dX3_runsIn_29 hr ht (by decide) ⟨_, rfl, h⟩
    · have h := h2 q
      refine x_iload_n 1 dX3_runsIn_16 rfl rfl ?_
      refine x_aload_n 0 dX3_runsIn_17 rfl rfl ?_
      obtain ⟨fs, hf, x_3, hv, h⟩ := h
      refine x_get dX3_runsIn_18 xf_X3_9 hf hv ?_
      obtain ⟨h1, h2⟩ := h
      refine x_icmp_gt (tgt := 28) dX3_runsIn_21 (by decide) (fun q => ?_) (fun q => ?_)
      · have h := h1 q
        refine x_iconst (v := (0 : Int32)) dX3_runsIn_28 (by decide) ?_
        exact x_zret dX3_runsIn_29 hr ht (by decide) ⟨_, rfl, h⟩
      · have h := h2 q
        refine x_iconst (v := (1 : Int32)) dX3_runsIn_24 (by decide) ?_
        refine x_goto (tgt := 29) dX3_runsIn_25 (by decide) ?_
        exact x_zret dX3_runsIn_29 hr ht (by decide) ⟨_, rfl, h⟩
theorem M_X3_runsIn {l : Launch} {G : xG} (hl : l.stackTraces = false) {a0 : Nat} {x1 : Int32} {t : xT} {K : Int32 → xT → Prop} (h : V_X3_runsIn_0 K a0 x1 t) : xMet l G yX3_runsIn k_X3_runsIn (some .boolean) [.ref a0, .int x1] t (xKi K) 0 0 := xMet.of (by decide +kernel) rfl hl (Nat.le_of_ble_eq_true rfl) (fun Γ e1 e2 ht hn hr => by subst e1; subst e2; exact S_X3_runsIn_0 hl ht hr h)
/-! RentStream$Months.put(II)V -/
def V_X4_put_0 (K : xT → Prop) (a0 : Nat) (x1 : Int32) (x2 : Int32) (t : xT) : Prop :=
  ((x1 < 0 → K t) ∧ (¬ x1 < 0 → xgR t a0 4 0 fun a_1 => xal t a_1 fun x_2 => ((x_2 ≤ x1 → K t) ∧ (¬ x_2 ≤ x1 → xgR t a0 4 0 fun a_3 => xsI 0 t a_3 x1 x2 fun t_4 => K t_4))))
set_option maxRecDepth 20000 in
theorem S_X4_put_0 {Γ : xΓ} {K : xT → Prop} (hl : (gl Γ).stackTraces = false) (ht : (gM Γ).sig.returnType = none) (hr : xRet Γ (xKv K)) {a0 : Nat} {x1 : Int32} {x2 : Int32} {t : xT} {rc rs : Nat} (h : V_X4_put_0 K a0 x1 x2 t) : xX Γ k_X4_put 0 [(0, .ref a0), (1, .int x1), (2, .int x2)] [] t rc rs := by
  unfold V_X4_put_0 at h
  refine x_iload_n 1 dX4_put_0 rfl rfl ?_
  obtain ⟨h1, h2⟩ := h
  refine x_if_lt (tgt := 20) dX4_put_1 (by decide) (fun q => ?_) (fun q => ?_)
  · have h := h1 q
    exact x_vret dX4_put_20 hr ht ⟨rfl, h⟩
  · have h := h2 q
    refine x_iload_n 1 dX4_put_4 rfl rfl ?_
    refine x_aload_n 0 dX4_put_5 rfl rfl ?_
    obtain ⟨fs, hf, a_1, hv, h⟩ := h
    refine x_get dX4_put_6 xf_X4_9 hf hv ?_
    obtain ⟨k, z, hf, h⟩ := h
    refine x_alen dX4_put_9 hf ?_
    generalize Int32.ofNat z.1 = x_2 at h ⊢
    obtain ⟨h1, h2⟩ := h
    refine x_icmp_ge (tgt := 20) dX4_put_10 (by decide) (fun q => ?_) (fun q => ?_)
    · have h := h1 q
      exact x_vret dX4_put_20 hr ht ⟨rfl, h⟩
    · have h := h2 q
      refine x_aload_n 0 dX4_put_13 rfl rfl ?_
      obtain ⟨fs, hf, a_3, hv, h⟩ := h
      refine x_get dX4_put_14 xf_X4_9 hf hv ?_
      refine x_iload_n 1 dX4_put_17 rfl rfl ?_
      refine x_iload_n 2 dX4_put_18 rfl rfl ?_
      obtain ⟨n, f, hf, hi, h⟩ := h
      refine x_iast dX4_put_19 hf hi ?_
      generalize hT : xup t a_3 _ = t_4 at h ⊢
      clear hT
      exact x_vret dX4_put_20 hr ht ⟨rfl, h⟩
theorem M_X4_put {l : Launch} {G : xG} (hl : l.stackTraces = false) {a0 : Nat} {x1 : Int32} {x2 : Int32} {t : xT} {K : xT → Prop} (h : V_X4_put_0 K a0 x1 x2 t) : xMet l G yX4_put k_X4_put none [.ref a0, .int x1, .int x2] t (xKv K) 0 0 := xMet.of (by decide +kernel) rfl hl (Nat.le_of_ble_eq_true rfl) (fun Γ e1 e2 ht hn hr => by subst e1; subst e2; exact S_X4_put_0 hl ht hr h)
/-! java/util/ArrayList.elementData(I)Ljava/lang/Object; -/
def V_Jx4a65c_elementData_915e3_0 (K : Option Nat → xT → Prop) (a0 : Nat) (x1 : Int32) (t : xT) : Prop :=
  xgR t a0 10 1 fun a_1 => xaQ 6 t a_1 x1 fun o_2 => K o_2 t
set_option maxRecDepth 20000 in
theorem S_Jx4a65c_elementData_915e3_0 {Γ : xΓ} {K : Option Nat → xT → Prop} (hl : (gl Γ).stackTraces = false) (ht : (gM Γ).sig.returnType = (some (.object "java/lang/Object"))) (hr : xRet Γ (xKr K)) {a0 : Nat} {x1 : Int32} {t : xT} {rc rs : Nat} (h : V_Jx4a65c_elementData_915e3_0 K a0 x1 t) : xX Γ k_Jx4a65c_elementData_915e3 0 [(0, .ref a0), (1, .int x1)] [] t rc rs := by
  unfold V_Jx4a65c_elementData_915e3_0 at h
  refine x_aload_n 0 dJx4a65c_elementData_915e3_0 rfl rfl ?_
  obtain ⟨fs, hf, a_1, hv, h⟩ := h
  refine x_get dJx4a65c_elementData_915e3_1 xf_Jx4a65c_9 hf hv ?_
  refine x_iload_n 1 dJx4a65c_elementData_915e3_4 rfl rfl ?_
  obtain ⟨n, f, hf, hi, h⟩ := h
  refine x_aald6 dJx4a65c_elementData_915e3_5 hf hi ?_
  generalize f _ = o_2 at h ⊢
  exact x_aret (o := o_2) dJx4a65c_elementData_915e3_6 hr ht (Or.inl ⟨_, rfl⟩) ⟨_, rfl, h⟩
theorem M_Jx4a65c_elementData_915e3 {l : Launch} {G : xG} (hl : l.stackTraces = false) {a0 : Nat} {x1 : Int32} {t : xT} {K : Option Nat → xT → Prop} (h : V_Jx4a65c_elementData_915e3_0 K a0 x1 t) : xMet l G yJx4a65c_elementData_915e3 k_Jx4a65c_elementData_915e3 (some (.object "java/lang/Object")) [.ref a0, .int x1] t (xKr K) 0 0 := xMet.of (by decide +kernel) rfl hl (Nat.le_of_ble_eq_true rfl) (fun Γ e1 e2 ht hn hr => by subst e1; subst e2; exact S_Jx4a65c_elementData_915e3_0 hl ht hr h)
/-! jdk/internal/util/Preconditions.checkIndex(IILjava/util/function/BiFunction;)I -/
def V_J3_checkIndex_8e157_0 (K : Int32 → xT → Prop) (x0 : Int32) (x1 : Int32) (o2 : Option Nat) (t : xT) : Prop :=
  ((x0 < 0 → False) ∧ (¬ x0 < 0 → ((x0 < x1 → K x0 t) ∧ (¬ x0 < x1 → False))))
set_option maxRecDepth 20000 in
theorem S_J3_checkIndex_8e157_0 {Γ : xΓ} {K : Int32 → xT → Prop} (hl : (gl Γ).stackTraces = false) (ht : (gM Γ).sig.returnType = (some .int)) (hr : xRet Γ (xKi K)) {x0 : Int32} {x1 : Int32} {o2 : Option Nat} {t : xT} {rc rs : Nat} (h : V_J3_checkIndex_8e157_0 K x0 x1 o2 t) : xX Γ k_J3_checkIndex_8e157 0 [(0, .int x0), (1, .int x1), (2, va_rf o2)] [] t rc rs := by
  unfold V_J3_checkIndex_8e157_0 at h
  refine x_iload_n 0 dJ3_checkIndex_8e157_0 rfl rfl ?_
  obtain ⟨h1, h2⟩ := h
  refine x_if_lt (tgt := 9) dJ3_checkIndex_8e157_1 (by decide) (fun q => ?_) (fun q => ?_)
  · have h := h1 q
    refine x_oload_n 2 dJ3_checkIndex_8e157_9 rfl rfl ?_
    refine x_iload_n 0 dJ3_checkIndex_8e157_10 rfl rfl ?_
    refine x_iload_n 1 dJ3_checkIndex_8e157_11 rfl rfl ?_
    exact h.elim
  · have h := h2 q
    refine x_iload_n 0 dJ3_checkIndex_8e157_4 rfl rfl ?_
    refine x_iload_n 1 dJ3_checkIndex_8e157_5 rfl rfl ?_
    obtain ⟨h1, h2⟩ := h
    refine x_icmp_lt (tgt := 16) dJ3_checkIndex_8e157_6 (by decide) (fun q => ?_) (fun q => ?_)
    · have h := h1 q
      refine x_iload_n 0 dJ3_checkIndex_8e157_16 rfl rfl ?_
      exact x_zret dJ3_checkIndex_8e157_17 hr ht rfl ⟨_, rfl, h⟩
    · have h := h2 q
      refine x_oload_n 2 dJ3_checkIndex_8e157_9 rfl rfl ?_
      refine x_iload_n 0 dJ3_checkIndex_8e157_10 rfl rfl ?_
      refine x_iload_n 1 dJ3_checkIndex_8e157_11 rfl rfl ?_
      exact h.elim
theorem M_J3_checkIndex_8e157 {l : Launch} {G : xG} (hl : l.stackTraces = false) {x0 : Int32} {x1 : Int32} {o2 : Option Nat} {t : xT} {K : Int32 → xT → Prop} (h : V_J3_checkIndex_8e157_0 K x0 x1 o2 t) : xMet l G yJ3_checkIndex_8e157 k_J3_checkIndex_8e157 (some .int) [.int x0, .int x1, va_rf o2] t (xKi K) 0 0 := by cases o2 <;> exact xMet.of (by decide +kernel) rfl hl (Nat.le_of_ble_eq_true rfl) (fun Γ e1 e2 ht hn hr => by subst e1; subst e2; exact S_J3_checkIndex_8e157_0 hl ht hr h)
/-! java/util/Objects.checkIndex(II)I -/
def V_J15_checkIndex_7cf53_0 (K : Int32 → xT → Prop) (x0 : Int32) (x1 : Int32) (t : xT) : Prop :=
  (V_J3_checkIndex_8e157_0 (fun x_2 t_1 => K x_2 t_1) x0 x1 none t)
set_option maxRecDepth 20000 in
theorem S_J15_checkIndex_7cf53_0 {Γ : xΓ} {K : Int32 → xT → Prop} (hl : (gl Γ).stackTraces = false) (ht : (gM Γ).sig.returnType = (some .int)) (hr : xRet Γ (xKi K)) {x0 : Int32} {x1 : Int32} {t : xT} {rc rs : Nat} (h : V_J15_checkIndex_7cf53_0 K x0 x1 t) : xX Γ k_J15_checkIndex_7cf53 0 [(0, .int x0), (1, .int x1)] [] t rc rs := by
  unfold V_J15_checkIndex_7cf53_0 at h
  refine x_iload_n 0 dJ15_checkIndex_7cf53_0 rfl rfl ?_
  refine x_iload_n 1 dJ15_checkIndex_7cf53_1 rfl rfl ?_
  refine x_null dJ15_checkIndex_7cf53_2 ?_
  refine x_invS (as := [.int x0, .int x1, va_rf none]) (rest := []) dJ15_checkIndex_7cf53_3 xc_J15_checkIndex_7cf53_105 (M_J3_checkIndex_8e157 hl h) rfl rfl (Nat.le_of_ble_eq_true rfl) (Nat.zero_le _) (Nat.zero_le _) (xk_i fun x_2 t_1 h => ?_)
  exact x_zret dJ15_checkIndex_7cf53_6 hr ht rfl ⟨_, rfl, h⟩
theorem M_J15_checkIndex_7cf53 {l : Launch} {G : xG} (hl : l.stackTraces = false) {x0 : Int32} {x1 : Int32} {t : xT} {K : Int32 → xT → Prop} (h : V_J15_checkIndex_7cf53_0 K x0 x1 t) : xMet l G yJ15_checkIndex_7cf53 k_J15_checkIndex_7cf53 (some .int) [.int x0, .int x1] t (xKi K) 0 0 := xMet.of (by decide +kernel) rfl hl (Nat.le_of_ble_eq_true rfl) (fun Γ e1 e2 ht hn hr => by subst e1; subst e2; exact S_J15_checkIndex_7cf53_0 hl ht hr h)
/-! java/util/ArrayList.get(I)Ljava/lang/Object; -/
def V_Jx4a65c_get_915e3_0 (K : Option Nat → xT → Prop) (a0 : Nat) (x1 : Int32) (t : xT) : Prop :=
  xgI t a0 10 2 fun x_1 => (V_J15_checkIndex_7cf53_0 (fun x_3 t_2 => (xis t_2 a0 10 ∧ V_Jx4a65c_elementData_915e3_0 (fun o_5 t_4 => K o_5 t_4) a0 x1 t_2)) x1 x_1 t)
set_option maxRecDepth 20000 in
theorem S_Jx4a65c_get_915e3_0 {Γ : xΓ} {K : Option Nat → xT → Prop} (hl : (gl Γ).stackTraces = false) (ht : (gM Γ).sig.returnType = (some (.object "java/lang/Object"))) (hr : xRet Γ (xKr K)) {a0 : Nat} {x1 : Int32} {t : xT} {rc rs : Nat} (h : V_Jx4a65c_get_915e3_0 K a0 x1 t) : xX Γ k_Jx4a65c_get_915e3 0 [(0, .ref a0), (1, .int x1)] [] t rc rs := by
  unfold V_Jx4a65c_get_915e3_0 at h
  refine x_iload_n 1 dJx4a65c_get_915e3_0 rfl rfl ?_
  refine x_aload_n 0 dJx4a65c_get_915e3_1 rfl rfl ?_
  obtain ⟨fs, hf, x_1, hv, h⟩ := h
  refine x_get dJx4a65c_get_915e3_2 xf_Jx4a65c_48 hf hv ?_
  refine x_invS (as := [.int x1, .int x_1]) (rest := []) dJx4a65c_get_915e3_5 xc_Jx4a65c_get_915e3_118 (M_J15_checkIndex_7cf53 hl h) rfl rfl (Nat.le_of_ble_eq_true rfl) (Nat.zero_le _) (Nat.zero_le _) (xk_i fun x_3 t_2 h => ?_)
  refine x_pop dJx4a65c_get_915e3_8 rfl ?_
  refine x_aload_n 0 dJx4a65c_get_915e3_9 rfl rfl ?_
  refine x_iload_n 1 dJx4a65c_get_915e3_10 rfl rfl ?_
  obtain ⟨⟨fs, hf⟩, h⟩ := h
  refine x_invV (as := [.int x1]) (rest := []) dJx4a65c_get_915e3_11 (q := (RJx4a65c, TJx4a65c, 3)) rfl xc_Jx4a65c_get_915e3_123 hf (M_Jx4a65c_elementData_915e3 hl h) rfl rfl (Nat.le_of_ble_eq_true rfl) (Nat.zero_le _) (Nat.zero_le _) (xk_r fun o_5 t_4 h => ?_)
  exact x_aret (o := o_5) dJx4a65c_get_915e3_14 hr ht (Or.inl ⟨_, rfl⟩) ⟨_, rfl, h⟩
theorem M_Jx4a65c_get_915e3 {l : Launch} {G : xG} (hl : l.stackTraces = false) {a0 : Nat} {x1 : Int32} {t : xT} {K : Option Nat → xT → Prop} (h : V_Jx4a65c_get_915e3_0 K a0 x1 t) : xMet l G yJx4a65c_get_915e3 k_Jx4a65c_get_915e3 (some (.object "java/lang/Object")) [.ref a0, .int x1] t (xKr K) 0 0 := xMet.of (by decide +kernel) rfl hl (Nat.le_of_ble_eq_true rfl) (fun Γ e1 e2 ht hn hr => by subst e1; subst e2; exact S_Jx4a65c_get_915e3_0 hl ht hr h)
/-! java/util/ArrayList.size()I -/
def V_Jx4a65c_size_8abf5_0 (K : Int32 → xT → Prop) (a0 : Nat) (t : xT) : Prop :=
  xgI t a0 10 2 fun x_1 => K x_1 t
set_option maxRecDepth 20000 in
theorem S_Jx4a65c_size_8abf5_0 {Γ : xΓ} {K : Int32 → xT → Prop} (hl : (gl Γ).stackTraces = false) (ht : (gM Γ).sig.returnType = (some .int)) (hr : xRet Γ (xKi K)) {a0 : Nat} {t : xT} {rc rs : Nat} (h : V_Jx4a65c_size_8abf5_0 K a0 t) : xX Γ k_Jx4a65c_size_8abf5 0 [(0, .ref a0)] [] t rc rs := by
  unfold V_Jx4a65c_size_8abf5_0 at h
  refine x_aload_n 0 dJx4a65c_size_8abf5_0 rfl rfl ?_
  obtain ⟨fs, hf, x_1, hv, h⟩ := h
  refine x_get dJx4a65c_size_8abf5_1 xf_Jx4a65c_48 hf hv ?_
  exact x_zret dJx4a65c_size_8abf5_4 hr ht rfl ⟨_, rfl, h⟩
theorem M_Jx4a65c_size_8abf5 {l : Launch} {G : xG} (hl : l.stackTraces = false) {a0 : Nat} {t : xT} {K : Int32 → xT → Prop} (h : V_Jx4a65c_size_8abf5_0 K a0 t) : xMet l G yJx4a65c_size_8abf5 k_Jx4a65c_size_8abf5 (some .int) [.ref a0] t (xKi K) 0 0 := xMet.of (by decide +kernel) rfl hl (Nat.le_of_ble_eq_true rfl) (fun Γ e1 e2 ht hn hr => by subst e1; subst e2; exact S_Jx4a65c_size_8abf5_0 hl ht hr h)
/-! RentStream.beginMonth(I)V -/
def VS_X7_beginMonth_14 (R14 : Nat → Int32 → Int32 → xT → Prop) (K : xT → Prop) (a0 : Nat) (x1 : Int32) (x2 : Int32) (t : xT) : Prop :=
  xgR t a0 7 1 fun a_1 => (xis t a_1 10 ∧ V_Jx4a65c_size_8abf5_0 (fun x_3 t_2 => ((x_3 ≤ x2 → K t_2) ∧ (¬ x_3 ≤ x2 → xgR t_2 a0 7 1 fun a_4 => (xis t_2 a_4 10 ∧ V_Jx4a65c_get_915e3_0 (fun o_6 t_5 => xnl o_6 fun a_7 => (xis t_5 a_7 3 ∧ (xis t_5 a_7 3 ∧ V_X3_runsIn_0 (fun x_9 t_8 => ((x_9 = 0 → R14 a0 x1 (x2 + 1) t_8) ∧ (¬ x_9 = 0 → (xis t_8 a0 7 ∧ V_X7_payAhead_0 (fun t_10 => R14 a0 x1 (x2 + 1) t_10) a0 a_7 x1 t_8)))) a_7 x1 t_5))) a_4 x2 t_2)))) a_1 t)
def V_X7_beginMonth_14 (K : xT → Prop) (n : Nat) : Nat → Int32 → Int32 → xT → Prop := Nat.rec (fun _ _ _ _ => False) (fun _ ih => VS_X7_beginMonth_14 ih K) n
set_option maxRecDepth 20000 in
theorem S_X7_beginMonth_14 {Γ : xΓ} {K : xT → Prop} (hl : (gl Γ).stackTraces = false) (ht : (gM Γ).sig.returnType = none) (hr : xRet Γ (xKv K)) : ∀ (n : Nat) (a0 : Nat) (x1 : Int32) (x2 : Int32) (t : xT) (rc rs : Nat), V_X7_beginMonth_14 K n a0 x1 x2 t → xX Γ k_X7_beginMonth 14 [(0, .ref a0), (1, .int x1), (2, .int x2)] [] t rc rs := by
  intro n
  induction n with
  | zero =>
    intro a0 x1 x2 t rc rs h
    exact h.elim
  | succ n ih =>
    intro a0 x1 x2 t rc rs h
    replace h : VS_X7_beginMonth_14 (V_X7_beginMonth_14 K n) K a0 x1 x2 t := h
    unfold VS_X7_beginMonth_14 at h
    refine x_iload_n 2 dX7_beginMonth_14 rfl rfl ?_
    refine x_aload_n 0 dX7_beginMonth_15 rfl rfl ?_
    obtain ⟨fs, hf, a_1, hv, h⟩ := h
    refine x_get dX7_beginMonth_16 xf_X7_16 hf hv ?_
    obtain ⟨⟨fs, hf⟩, h⟩ := h
    refine x_invV (as := []) (rest := [.int x2]) dX7_beginMonth_19 (q := (RJx4a65c, TJx4a65c, 3)) rfl xc_X7_beginMonth_66 hf (M_Jx4a65c_size_8abf5 hl h) rfl rfl (Nat.le_of_ble_eq_true rfl) (Nat.zero_le _) (Nat.zero_le _) (xk_i fun x_3 t_2 h => ?_)
    obtain ⟨h1, h2⟩ := h
    refine x_icmp_ge (tgt := 57) dX7_beginMonth_22 (by decide) (fun q => ?_) (fun q => ?_)
    · have h := h1 q
      exact x_vret dX7_beginMonth_57 hr ht ⟨rfl, h⟩
    · have h := h2 q
      refine x_aload_n 0 dX7_beginMonth_25 rfl rfl ?_
      obtain ⟨fs, hf, a_4, hv, h⟩ := h
      refine x_get dX7_beginMonth_26 xf_X7_16 hf hv ?_
      refine x_iload_n 2 dX7_beginMonth_29 rfl rfl ?_
      obtain ⟨⟨fs, hf⟩, h⟩ := h
      refine x_invV (as := [.int x2]) (rest := []) dX7_beginMonth_30 (q := (RJx4a65c, TJx4a65c, 3)) rfl xc_X7_beginMonth_149 hf (M_Jx4a65c_get_915e3 hl h) rfl rfl (Nat.le_of_ble_eq_true rfl) (Nat.zero_le _) (Nat.zero_le _) (xk_r fun o_6 t_5 h => ?_)
      obtain ⟨a_7, e, h⟩ := h
      revert h
      subst e
      intro h
      obtain ⟨⟨fs, hf⟩, h⟩ := h
      refine x_ccast dX7_beginMonth_33 (q := (RX3, TX3, 11)) rfl xw429 hf ?_
      refine x_astore_n (L' := [(3, .ref a_7), (0, .ref a0), (1, .int x1), (2, .int x2)]) dX7_beginMonth_36 rfl (by decide) rfl ?_
      refine x_aload_n 0 dX7_beginMonth_37 rfl rfl ?_
      refine x_iload_n 2 dX7_beginMonth_38 rfl rfl ?_
      obtain ⟨⟨fs, hf⟩, h⟩ := h
      refine x_invV (as := [.int x1]) (rest := []) dX7_beginMonth_39 (q := (RX3, TX3, 11)) rfl xc_X7_beginMonth_209 hf (M_X3_runsIn hl h) rfl rfl (Nat.le_of_ble_eq_true rfl) (Nat.zero_le _) (Nat.zero_le _) (xk_i fun x_9 t_8 h => ?_)
      obtain ⟨h1, h2⟩ := h
      refine x_if_eq (tgt := 51) dX7_beginMonth_42 (by decide) (fun q => ?_) (fun q => ?_)
      · have h := h1 q
        refine x_iinc (v := (x2 + 1)) (L' := [(2, .int (x2 + 1)), (3, .ref a_7), (0, .ref a0), (1, .int x1)]) (j := 3) dX7_beginMonth_51 rfl rfl (by decide) rfl ?_
        refine x_goto (tgt := 14) dX7_beginMonth_54 (by decide) ?_
        refine x_sub (L' := [(0, .ref a0), (1, .int x1), (2, .int (x2 + 1))]) [2, 3, 0] rfl ?_
        exact ih a0 x1 (x2 + 1) t_8 _ _ h
      · have h := h2 q
        refine x_aload_n 1 dX7_beginMonth_45 rfl rfl ?_
        refine x_aload_n 0 dX7_beginMonth_46 rfl rfl ?_
        refine x_iload_n 2 dX7_beginMonth_47 rfl rfl ?_
        obtain ⟨⟨fs, hf⟩, h⟩ := h
        refine x_invV (as := [.ref a_7, .int x1]) (rest := []) dX7_beginMonth_48 (q := (RX7, TX7, 10)) rfl xc_X7_beginMonth_295 hf (M_X7_payAhead hl h) rfl rfl (Nat.le_of_ble_eq_true rfl) (Nat.zero_le _) (Nat.zero_le _) (xk_v fun t_10 h => ?_)
        refine x_iinc (v := (x2 + 1)) (L' := [(2, .int (x2 + 1)), (3, .ref a_7), (0, .ref a0), (1, .int x1)]) (j := 3) dX7_beginMonth_51 rfl rfl (by decide) rfl ?_
        refine x_goto (tgt := 14) dX7_beginMonth_54 (by decide) ?_
        refine x_sub (L' := [(0, .ref a0), (1, .int x1), (2, .int (x2 + 1))]) [2, 3, 0] rfl ?_
        exact ih a0 x1 (x2 + 1) t_10 _ _ h
def V_X7_beginMonth_0 (K : xT → Prop) (a0 : Nat) (x1 : Int32) (t : xT) : Prop :=
  xgR t a0 7 3 fun a_1 => xgI t a0 7 7 fun x_2 => (xis t a_1 4 ∧ V_X4_put_0 (fun t_3 => ∃ f_4 : Nat, V_X7_beginMonth_14 K f_4 a0 x1 (0 : Int32) t_3) a_1 x1 x_2 t)
set_option maxRecDepth 20000 in
theorem S_X7_beginMonth_0 {Γ : xΓ} {K : xT → Prop} (hl : (gl Γ).stackTraces = false) (ht : (gM Γ).sig.returnType = none) (hr : xRet Γ (xKv K)) {a0 : Nat} {x1 : Int32} {t : xT} {rc rs : Nat} (h : V_X7_beginMonth_0 K a0 x1 t) : xX Γ k_X7_beginMonth 0 [(0, .ref a0), (1, .int x1)] [] t rc rs := by
  unfold V_X7_beginMonth_0 at h
  refine x_aload_n 0 dX7_beginMonth_0 rfl rfl ?_
  obtain ⟨fs, hf, a_1, hv, h⟩ := h
  refine x_get dX7_beginMonth_1 xf_X7_27 hf hv ?_
  refine x_iload_n 1 dX7_beginMonth_4 rfl rfl ?_
  refine x_aload_n 0 dX7_beginMonth_5 rfl rfl ?_
  obtain ⟨fs, hf, x_2, hv, h⟩ := h
  refine x_get dX7_beginMonth_6 xf_X7_48 hf hv ?_
  obtain ⟨⟨fs, hf⟩, h⟩ := h
  refine x_invV (as := [.int x1, .int x_2]) (rest := []) dX7_beginMonth_9 (q := (RX4, TX4, 1)) rfl xc_X7_beginMonth_133 hf (M_X4_put hl h) rfl rfl (Nat.le_of_ble_eq_true rfl) (Nat.zero_le _) (Nat.zero_le _) (xk_v fun t_3 h => ?_)
  refine x_iconst (v := (0 : Int32)) dX7_beginMonth_12 (by decide) ?_
  refine x_istore_n (L' := [(2, .int (0 : Int32)), (0, .ref a0), (1, .int x1)]) dX7_beginMonth_13 rfl (by decide) rfl ?_
  obtain ⟨f_4, h⟩ := h
  refine x_sub (L' := [(0, .ref a0), (1, .int x1), (2, .int (0 : Int32))]) [1, 2, 0] rfl ?_
  exact S_X7_beginMonth_14 hl ht hr  f_4 a0 x1 (0 : Int32) t_3 _ _ h
theorem M_X7_beginMonth {l : Launch} {G : xG} (hl : l.stackTraces = false) {a0 : Nat} {x1 : Int32} {t : xT} {K : xT → Prop} (h : V_X7_beginMonth_0 K a0 x1 t) : xMet l G yX7_beginMonth k_X7_beginMonth none [.ref a0, .int x1] t (xKv K) 0 0 := xMet.of (by decide +kernel) rfl hl (Nat.le_of_ble_eq_true rfl) (fun Γ e1 e2 ht hn hr => by subst e1; subst e2; exact S_X7_beginMonth_0 hl ht hr h)
/-! RentStream.leaseAt(I)LRentStream$Lease; -/
def V_X7_leaseAt_0 (KX : String → xT → Prop) (K : Option Nat → xT → Prop) (a0 : Nat) (x1 : Int32) (t : xT) (rc rs : Nat) : Prop :=
  ((x1 < 0 → (1 ≤ rc ∧ 6 ≤ rs ∧ KX "java/lang/IndexOutOfBoundsException" t)) ∧ (¬ x1 < 0 → xgR t a0 7 1 fun a_1 => (xis t a_1 10 ∧ V_Jx4a65c_size_8abf5_0 (fun x_3 t_2 => ((x1 < x_3 → xgR t_2 a0 7 1 fun a_4 => (xis t_2 a_4 10 ∧ V_Jx4a65c_get_915e3_0 (fun o_6 t_5 => xnl o_6 fun a_7 => (xis t_5 a_7 3 ∧ K (some a_7) t_5)) a_4 x1 t_2)) ∧ (¬ x1 < x_3 → (1 ≤ rc ∧ 6 ≤ rs ∧ KX "java/lang/IndexOutOfBoundsException" t_2)))) a_1 t)))
set_option maxRecDepth 20000 in
theorem S_X7_leaseAt_0 {Γ : xΓ} {KX : String → xT → Prop} {K : Option Nat → xT → Prop} (hl : (gl Γ).stackTraces = false) (ht : (gM Γ).sig.returnType = (some (.object "RentStream$Lease"))) (hr : xRet Γ (xKr K)) (hx : xThr Γ KX) {a0 : Nat} {x1 : Int32} {t : xT} {rc rs : Nat} (h : V_X7_leaseAt_0 KX K a0 x1 t rc rs) : xX Γ k_X7_leaseAt 0 [(0, .ref a0), (1, .int x1)] [] t rc rs := by
  unfold V_X7_leaseAt_0 at h
  refine x_iload_n 1 dX7_leaseAt_0 rfl rfl ?_
  obtain ⟨h1, h2⟩ := h
  refine x_if_lt (tgt := 15) dX7_leaseAt_1 (by decide) (fun q => ?_) (fun q => ?_)
  · have h := h1 q
    obtain ⟨q1, q2, h⟩ := h
    exact x_throwW dX7_leaseAt_15 dX7_leaseAt_18 dX7_leaseAt_19 dX7_leaseAt_22 dX7_leaseAt_25 xtw_144 (List.mem_of_getElem? (i := 5) rfl) hx (Nat.le_of_ble_eq_true rfl) (Nat.le_of_ble_eq_true rfl) (Nat.le_of_ble_eq_true rfl) q1 q2 h
  · have h := h2 q
    refine x_iload_n 1 dX7_leaseAt_4 rfl rfl ?_
    refine x_aload_n 0 dX7_leaseAt_5 rfl rfl ?_
    obtain ⟨fs, hf, a_1, hv, h⟩ := h
    refine x_get dX7_leaseAt_6 xf_X7_16 hf hv ?_
    obtain ⟨⟨fs, hf⟩, h⟩ := h
    refine x_invV (as := []) (rest := [.int x1]) dX7_leaseAt_9 (q := (RJx4a65c, TJx4a65c, 3)) rfl xc_X7_leaseAt_66 hf (M_Jx4a65c_size_8abf5 hl h) rfl rfl (Nat.le_of_ble_eq_true rfl) (Nat.zero_le _) (Nat.zero_le _) (xk_i fun x_3 t_2 h => ?_)
    obtain ⟨h1, h2⟩ := h
    refine x_icmp_lt (tgt := 26) dX7_leaseAt_12 (by decide) (fun q => ?_) (fun q => ?_)
    · have h := h1 q
      refine x_aload_n 0 dX7_leaseAt_26 rfl rfl ?_
      obtain ⟨fs, hf, a_4, hv, h⟩ := h
      refine x_get dX7_leaseAt_27 xf_X7_16 hf hv ?_
      refine x_iload_n 1 dX7_leaseAt_30 rfl rfl ?_
      obtain ⟨⟨fs, hf⟩, h⟩ := h
      refine x_invV (as := [.int x1]) (rest := []) dX7_leaseAt_31 (q := (RJx4a65c, TJx4a65c, 3)) rfl xc_X7_leaseAt_149 hf (M_Jx4a65c_get_915e3 hl h) rfl rfl (Nat.le_of_ble_eq_true rfl) (Nat.zero_le _) (Nat.zero_le _) (xk_r fun o_6 t_5 h => ?_)
      obtain ⟨a_7, e, h⟩ := h
      revert h
      subst e
      intro h
      obtain ⟨⟨fs, hf⟩, h⟩ := h
      refine x_ccast dX7_leaseAt_34 (q := (RX3, TX3, 11)) rfl xw429 hf ?_
      exact x_aret (o := (some a_7)) dX7_leaseAt_37 hr ht (Or.inl ⟨_, rfl⟩) ⟨_, rfl, h⟩
    · have h := h2 q
      obtain ⟨q1, q2, h⟩ := h
      exact x_throwW dX7_leaseAt_15 dX7_leaseAt_18 dX7_leaseAt_19 dX7_leaseAt_22 dX7_leaseAt_25 xtw_144 (List.mem_of_getElem? (i := 5) rfl) hx (Nat.le_of_ble_eq_true rfl) (Nat.le_of_ble_eq_true rfl) (Nat.le_of_ble_eq_true rfl) q1 q2 h
theorem M_X7_leaseAt {l : Launch} {G : xG} (hl : l.stackTraces = false) {a0 : Nat} {x1 : Int32} {t : xT} {KX : String → xT → Prop} {K : Option Nat → xT → Prop} {rc rs : Nat} (h : V_X7_leaseAt_0 KX K a0 x1 t rc rs) : xMetX l G yX7_leaseAt k_X7_leaseAt (some (.object "RentStream$Lease")) [.ref a0, .int x1] t (xKr K) KX rc rs := xMetX.of (by decide +kernel) rfl hl (Nat.le_of_ble_eq_true rfl) (fun Γ e1 e2 ht hn hr hx => by subst e1; subst e2; exact S_X7_leaseAt_0 hl ht hr hx h)
/-! RentStream.monthNow()I -/
def V_X7_monthNow_0 (K : Int32 → xT → Prop) (a0 : Nat) (t : xT) : Prop :=
  xgI t a0 7 8 fun x_1 => (¬ (30 : Int32) = 0 ∧ K (x_1 / (30 : Int32)) t)
set_option maxRecDepth 20000 in
theorem S_X7_monthNow_0 {Γ : xΓ} {K : Int32 → xT → Prop} (hl : (gl Γ).stackTraces = false) (ht : (gM Γ).sig.returnType = (some .int)) (hr : xRet Γ (xKi K)) {a0 : Nat} {t : xT} {rc rs : Nat} (h : V_X7_monthNow_0 K a0 t) : xX Γ k_X7_monthNow 0 [(0, .ref a0)] [] t rc rs := by
  unfold V_X7_monthNow_0 at h
  refine x_aload_n 0 dX7_monthNow_0 rfl rfl ?_
  obtain ⟨fs, hf, x_1, hv, h⟩ := h
  refine x_get dX7_monthNow_1 xf_X7_52 hf hv ?_
  refine x_bipush (v := (30 : Int32)) dX7_monthNow_4 (by decide) ?_
  obtain ⟨q, h⟩ := h
  refine x_idiv dX7_monthNow_6 q ?_
  exact x_zret dX7_monthNow_7 hr ht rfl ⟨_, rfl, h⟩
theorem M_X7_monthNow {l : Launch} {G : xG} (hl : l.stackTraces = false) {a0 : Nat} {t : xT} {K : Int32 → xT → Prop} (h : V_X7_monthNow_0 K a0 t) : xMet l G yX7_monthNow k_X7_monthNow (some .int) [.ref a0] t (xKi K) 0 0 := xMet.of (by decide +kernel) rfl hl (Nat.le_of_ble_eq_true rfl) (fun Γ e1 e2 ht hn hr => by subst e1; subst e2; exact S_X7_monthNow_0 hl ht hr h)
/-! RentStream.needMonth(I)V -/
def V_X7_needMonth_0 (KX : String → xT → Prop) (K : xT → Prop) (a0 : Nat) (x1 : Int32) (t : xT) (rc rs : Nat) : Prop :=
  ((x1 < 0 → (1 ≤ rc ∧ 6 ≤ rs ∧ KX "java/lang/IndexOutOfBoundsException" t)) ∧ (¬ x1 < 0 → (xis t a0 7 ∧ V_X7_monthNow_0 (fun x_2 t_1 => ((x1 ≤ x_2 → K t_1) ∧ (¬ x1 ≤ x_2 → (1 ≤ rc ∧ 6 ≤ rs ∧ KX "java/lang/IndexOutOfBoundsException" t_1)))) a0 t)))
set_option maxRecDepth 20000 in
theorem S_X7_needMonth_0 {Γ : xΓ} {KX : String → xT → Prop} {K : xT → Prop} (hl : (gl Γ).stackTraces = false) (ht : (gM Γ).sig.returnType = none) (hr : xRet Γ (xKv K)) (hx : xThr Γ KX) {a0 : Nat} {x1 : Int32} {t : xT} {rc rs : Nat} (h : V_X7_needMonth_0 KX K a0 x1 t rc rs) : xX Γ k_X7_needMonth 0 [(0, .ref a0), (1, .int x1)] [] t rc rs := by
  unfold V_X7_needMonth_0 at h
  refine x_iload_n 1 dX7_needMonth_0 rfl rfl ?_
  obtain ⟨h1, h2⟩ := h
  refine x_if_lt (tgt := 12) dX7_needMonth_1 (by decide) (fun q => ?_) (fun q => ?_)
  · have h := h1 q
    obtain ⟨q1, q2, h⟩ := h
    exact x_throwW dX7_needMonth_12 dX7_needMonth_15 dX7_needMonth_16 dX7_needMonth_19 dX7_needMonth_22 xtw_144 (List.mem_of_getElem? (i := 15) rfl) hx (Nat.le_of_ble_eq_true rfl) (Nat.le_of_ble_eq_true rfl) (Nat.le_of_ble_eq_true rfl) q1 q2 h
  · have h := h2 q
    refine x_iload_n 1 dX7_needMonth_4 rfl rfl ?_
    refine x_aload_n 0 dX7_needMonth_5 rfl rfl ?_
    obtain ⟨⟨fs, hf⟩, h⟩ := h
    refine x_invV (as := []) (rest := [.int x1]) dX7_needMonth_6 (q := (RX7, TX7, 10)) rfl xc_X7_needMonth_97 hf (M_X7_monthNow hl h) rfl rfl (Nat.le_of_ble_eq_true rfl) (Nat.zero_le _) (Nat.zero_le _) (xk_i fun x_2 t_1 h => ?_)
    obtain ⟨h1, h2⟩ := h
    refine x_icmp_le (tgt := 23) dX7_needMonth_9 (by decide) (fun q => ?_) (fun q => ?_)
    · have h := h1 q
      exact x_vret dX7_needMonth_23 hr ht ⟨rfl, h⟩
    · have h := h2 q
      obtain ⟨q1, q2, h⟩ := h
      exact x_throwW dX7_needMonth_12 dX7_needMonth_15 dX7_needMonth_16 dX7_needMonth_19 dX7_needMonth_22 xtw_144 (List.mem_of_getElem? (i := 15) rfl) hx (Nat.le_of_ble_eq_true rfl) (Nat.le_of_ble_eq_true rfl) (Nat.le_of_ble_eq_true rfl) q1 q2 h
theorem M_X7_needMonth {l : Launch} {G : xG} (hl : l.stackTraces = false) {a0 : Nat} {x1 : Int32} {t : xT} {KX : String → xT → Prop} {K : xT → Prop} {rc rs : Nat} (h : V_X7_needMonth_0 KX K a0 x1 t rc rs) : xMetX l G yX7_needMonth k_X7_needMonth none [.ref a0, .int x1] t (xKv K) KX rc rs := xMetX.of (by decide +kernel) rfl hl (Nat.le_of_ble_eq_true rfl) (fun Γ e1 e2 ht hn hr hx => by subst e1; subst e2; exact S_X7_needMonth_0 hl ht hr hx h)
/-! RentStream$Bill.amount(I)I -/
def V_X0_amount_0 (K : Int32 → xT → Prop) (a0 : Nat) (x1 : Int32) (t : xT) : Prop :=
  ((x1.toInt < 0 ∨ 2 < x1.toInt → xgI t a0 0 3 fun x_1 => K x_1 t) ∧ (x1.toInt = 0 → xgI t a0 0 0 fun x_2 => K x_2 t) ∧ (x1.toInt = 1 → xgI t a0 0 1 fun x_3 => K x_3 t) ∧ (x1.toInt = 2 → xgI t a0 0 2 fun x_4 => K x_4 t))
set_option maxRecDepth 20000 in
theorem S_X0_amount_0 {Γ : xΓ} {K : Int32 → xT → Prop} (hl : (gl Γ).stackTraces = false) (ht : (gM Γ).sig.returnType = (some .int)) (hr : xRet Γ (xKi K)) {a0 : Nat} {x1 : Int32} {t : xT} {rc rs : Nat} (h : V_X0_amount_0 K a0 x1 t) : xX Γ k_X0_amount 0 [(0, .ref a0), (1, .int x1)] [] t rc rs := by
  unfold V_X0_amount_0 at h
  refine x_iload_n 1 dX0_amount_0 rfl rfl ?_
  obtain ⟨h0, h1, h2, h3⟩ := h
  by_cases q : x1.toInt < 0 ∨ 2 < x1.toInt
  · have h := h0 q
    refine x_tableOut (tgt := 43) dX0_amount_1 q (by decide) ?_
    refine x_aload_n 0 dX0_amount_43 rfl rfl ?_
    obtain ⟨fs, hf, x_1, hv, h⟩ := h
    refine x_get dX0_amount_44 xf_X0_21 hf hv ?_
    exact x_zret dX0_amount_47 hr ht rfl ⟨_, rfl, h⟩
  · have e : x1.toInt = 0 ∨ x1.toInt = 1 ∨ x1.toInt = 2 := by omega
    rcases e with e | e | e
    · have h := h1 e
      refine x_tableIn (tgt := 28) dX0_amount_1 (by omega) (by omega) (by rw [e]; rfl) (by decide) ?_
      refine x_aload_n 0 dX0_amount_28 rfl rfl ?_
      obtain ⟨fs, hf, x_2, hv, h⟩ := h
      refine x_get dX0_amount_29 xf_X0_9 hf hv ?_
      exact x_zret dX0_amount_32 hr ht rfl ⟨_, rfl, h⟩
    · have h := h2 e
      refine x_tableIn (tgt := 33) dX0_amount_1 (by omega) (by omega) (by rw [e]; rfl) (by decide) ?_
      refine x_aload_n 0 dX0_amount_33 rfl rfl ?_
      obtain ⟨fs, hf, x_3, hv, h⟩ := h
      refine x_get dX0_amount_34 xf_X0_15 hf hv ?_
      exact x_zret dX0_amount_37 hr ht rfl ⟨_, rfl, h⟩
    · have h := h3 e
      refine x_tableIn (tgt := 38) dX0_amount_1 (by omega) (by omega) (by rw [e]; rfl) (by decide) ?_
      refine x_aload_n 0 dX0_amount_38 rfl rfl ?_
      obtain ⟨fs, hf, x_4, hv, h⟩ := h
      refine x_get dX0_amount_39 xf_X0_18 hf hv ?_
      exact x_zret dX0_amount_42 hr ht rfl ⟨_, rfl, h⟩
theorem M_X0_amount {l : Launch} {G : xG} (hl : l.stackTraces = false) {a0 : Nat} {x1 : Int32} {t : xT} {K : Int32 → xT → Prop} (h : V_X0_amount_0 K a0 x1 t) : xMet l G yX0_amount k_X0_amount (some .int) [.ref a0, .int x1] t (xKi K) 0 0 := xMet.of (by decide +kernel) rfl hl (Nat.le_of_ble_eq_true rfl) (fun Γ e1 e2 ht hn hr => by subst e1; subst e2; exact S_X0_amount_0 hl ht hr h)
/-! RentStream$Lease.billOf(I)LRentStream$Bill; -/
def V_X3_billOf_0 (K : Option Nat → xT → Prop) (a0 : Nat) (x1 : Int32) (t : xT) : Prop :=
  ((x1 < 0 → K none t) ∧ (¬ x1 < 0 → xgR t a0 3 10 fun a_1 => xal t a_1 fun x_2 => ((x_2 ≤ x1 → K none t) ∧ (¬ x_2 ≤ x1 → xgR t a0 3 10 fun a_3 => xaQ 5 t a_3 x1 fun o_4 => K o_4 t))))
set_option maxRecDepth 20000 in
theorem S_X3_billOf_0 {Γ : xΓ} {K : Option Nat → xT → Prop} (hl : (gl Γ).stackTraces = false) (ht : (gM Γ).sig.returnType = (some (.object "RentStream$Bill"))) (hr : xRet Γ (xKr K)) {a0 : Nat} {x1 : Int32} {t : xT} {rc rs : Nat} (h : V_X3_billOf_0 K a0 x1 t) : xX Γ k_X3_billOf 0 [(0, .ref a0), (1, .int x1)] [] t rc rs := by
  unfold V_X3_billOf_0 at h
  refine x_iload_n 1 dX3_billOf_0 rfl rfl ?_
  obtain ⟨h1, h2⟩ := h
  refine x_if_lt (tgt := 22) dX3_billOf_1 (by decide) (fun q => ?_) (fun q => ?_)
  · have h := h1 q
    refine x_null dX3_billOf_22 ?_
    exact x_aret (o := none) dX3_billOf_23 hr ht (Or.inl ⟨_, rfl⟩) ⟨_, rfl, h⟩
  · have h := h2 q
    refine x_iload_n 1 dX3_billOf_4 rfl rfl ?_
    refine x_aload_n 0 dX3_billOf_5 rfl rfl ?_
    obtain ⟨fs, hf, a_1, hv, h⟩ := h
    refine x_get dX3_billOf_6 xf_X3_50 hf hv ?_
    obtain ⟨k, z, hf, h⟩ := h
    refine x_alen dX3_billOf_9 hf ?_
    generalize Int32.ofNat z.1 = x_2 at h ⊢
    obtain ⟨h1, h2⟩ := h
    refine x_icmp_ge (tgt := 22) dX3_billOf_10 (by decide) (fun q => ?_) (fun q => ?_)
    · have h := h1 q
      refine x_null dX3_billOf_22 ?_
      exact x_aret (o := none) dX3_billOf_23 hr ht (Or.inl ⟨_, rfl⟩) ⟨_, rfl, h⟩
    · have h := h2 q
      refine x_aload_n 0 dX3_billOf_13 rfl rfl ?_
      obtain ⟨fs, hf, a_3, hv, h⟩ := h
      refine x_get dX3_billOf_14 xf_X3_50 hf hv ?_
      refine x_iload_n 1 dX3_billOf_17 rfl rfl ?_
      obtain ⟨n, f, hf, hi, h⟩ := h
      refine x_aald5 dX3_billOf_18 hf hi ?_
      generalize f _ = o_4 at h ⊢
      refine x_goto (tgt := 23) dX3_billOf_19 (by decide) ?_
      exact x_aret (o := o_4) dX3_billOf_23 hr ht (Or.inl ⟨_, rfl⟩) ⟨_, rfl, h⟩
theorem M_X3_billOf {l : Launch} {G : xG} (hl : l.stackTraces = false) {a0 : Nat} {x1 : Int32} {t : xT} {K : Option Nat → xT → Prop} (h : V_X3_billOf_0 K a0 x1 t) : xMet l G yX3_billOf k_X3_billOf (some (.object "RentStream$Bill")) [.ref a0, .int x1] t (xKr K) 0 0 := xMet.of (by decide +kernel) rfl hl (Nat.le_of_ble_eq_true rfl) (fun Γ e1 e2 ht hn hr => by subst e1; subst e2; exact S_X3_billOf_0 hl ht hr h)
/-! RentStream.bill(III)J -/
def V_X7_bill_0 (KX : String → xT → Prop) (K : Int64 → xT → Prop) (a0 : Nat) (x1 : Int32) (x2 : Int32) (x3 : Int32) (t : xT) (rc rs : Nat) : Prop :=
  (xis t a0 7 ∧ ∃ m_3 z_4 : Nat, m_3 ≤ rc ∧ z_4 ≤ rs ∧ V_X7_leaseAt_0 KX (fun o_2 t_1 => (xis t_1 a0 7 ∧ ∃ m_6 z_7 : Nat, m_6 ≤ (rc - m_3) ∧ z_7 ≤ (rs - z_4) ∧ V_X7_needMonth_0 KX (fun t_5 => ((x3 < 0 → (1 ≤ ((rc - m_3) - m_6) ∧ 6 ≤ ((rs - z_4) - z_7) ∧ KX "java/lang/IllegalArgumentException" t_5)) ∧ (¬ x3 < 0 → ((x3 ≤ (3 : Int32) → xnl o_2 fun a_8 => (xis t_5 a_8 3 ∧ V_X3_billOf_0 (fun o_10 t_9 => ((o_10 = none → K (-1 : Int64) t_9) ∧ (∀ a_11 : Nat, o_10 = some a_11 → (xis t_9 a_11 0 ∧ V_X0_amount_0 (fun x_13 t_12 => K x_13.toInt64 t_12) a_11 x3 t_9)))) a_8 x2 t_5)) ∧ (¬ x3 ≤ (3 : Int32) → (1 ≤ ((rc - m_3) - m_6) ∧ 6 ≤ ((rs - z_4) - z_7) ∧ KX "java/lang/IllegalArgumentException" t_5)))))) a0 x2 t_1 m_6 z_7)) a0 x1 t m_3 z_4)
set_option maxRecDepth 20000 in
theorem S_X7_bill_0 {Γ : xΓ} {KX : String → xT → Prop} {K : Int64 → xT → Prop} (hl : (gl Γ).stackTraces = false) (ht : (gM Γ).sig.returnType = (some .long)) (hr : xRet Γ (xKl K)) (hx : xThr Γ KX) {a0 : Nat} {x1 : Int32} {x2 : Int32} {x3 : Int32} {t : xT} {rc rs : Nat} (h : V_X7_bill_0 KX K a0 x1 x2 x3 t rc rs) : xX Γ k_X7_bill 0 [(0, .ref a0), (1, .int x1), (2, .int x2), (3, .int x3)] [] t rc rs := by
  unfold V_X7_bill_0 at h
  refine x_aload_n 0 dX7_bill_0 rfl rfl ?_
  refine x_iload_n 1 dX7_bill_1 rfl rfl ?_
  obtain ⟨⟨fs, hf⟩, h⟩ := h
  obtain ⟨m_3, z_4, hm, hs, h⟩ := h
  refine x_invVX (as := [.int x1]) (rest := []) dX7_bill_2 (q := (RX7, TX7, 10)) rfl xc_X7_bill_103 hf (M_X7_leaseAt hl h) rfl rfl (Nat.le_of_ble_eq_true rfl) hm hs (fun _ _ h => x_thrown hx h) (xk_r fun o_2 t_1 h => ?_)
  refine x_ostore (L' := [(4, va_rf o_2), (0, .ref a0), (1, .int x1), (2, .int x2), (3, .int x3)]) dX7_bill_5 (by decide) rfl ?_
  refine x_aload_n 1 dX7_bill_7 rfl rfl ?_
  refine x_iload_n 3 dX7_bill_8 rfl rfl ?_
  obtain ⟨⟨fs, hf⟩, h⟩ := h
  obtain ⟨m_6, z_7, hm, hs, h⟩ := h
  refine x_invVX (as := [.int x2]) (rest := []) dX7_bill_9 (q := (RX7, TX7, 10)) rfl xc_X7_bill_162 hf (M_X7_needMonth hl h) rfl rfl (Nat.le_of_ble_eq_true rfl) hm hs (fun _ _ h => x_thrown hx h) (xk_v fun t_5 h => ?_)
  refine x_iload_n 4 dX7_bill_12 rfl rfl ?_
  obtain ⟨h1, h2⟩ := h
  refine x_if_lt (tgt := 21) dX7_bill_13 (by decide) (fun q => ?_) (fun q => ?_)
  · have h := h1 q
    obtain ⟨q1, q2, h⟩ := h
    exact x_throw dX7_bill_21 dX7_bill_24 dX7_bill_25 dX7_bill_27 dX7_bill_30 xtw_59 (List.mem_of_getElem? (i := 20) rfl) hx (Nat.le_of_ble_eq_true rfl) (Nat.le_of_ble_eq_true rfl) (Nat.le_of_ble_eq_true rfl) q1 q2 h
  · have h := h2 q
    refine x_iload_n 4 dX7_bill_16 rfl rfl ?_
    refine x_iconst (v := (3 : Int32)) dX7_bill_17 (by decide) ?_
    obtain ⟨h1, h2⟩ := h
    refine x_icmp_le (tgt := 31) dX7_bill_18 (by decide) (fun q => ?_) (fun q => ?_)
    · have h := h1 q
      refine x_oload 0 dX7_bill_31 rfl ?_
      refine x_iload_n 3 dX7_bill_33 rfl rfl ?_
      obtain ⟨a_8, e, h⟩ := h
      revert h
      subst e
      intro h
      obtain ⟨⟨fs, hf⟩, h⟩ := h
      refine x_invV (as := [.int x2]) (rest := []) dX7_bill_34 (q := (RX3, TX3, 11)) rfl xc_X7_bill_228 hf (M_X3_billOf hl h) rfl rfl (Nat.le_of_ble_eq_true rfl) (Nat.zero_le _) (Nat.zero_le _) (xk_r fun o_10 t_9 h => ?_)
      refine x_ostore (L' := [(5, va_rf o_10), (4, .ref a_8), (0, .ref a0), (1, .int x1), (2, .int x2), (3, .int x3)]) dX7_bill_37 (by decide) rfl ?_
      refine x_oload 0 dX7_bill_39 rfl ?_
      obtain ⟨h1, h2⟩ := h
      refine x_ifnonnull (x := o_10) (tgt := 50) dX7_bill_41 (by decide) (fun a_11 q => ?_) (fun q => ?_)
      · have h := h2 _ q
        revert h
        subst q
        intro h
        refine x_aload 0 dX7_bill_50 rfl ?_
        refine x_iload_n 5 dX7_bill_52 rfl rfl ?_
        obtain ⟨⟨fs, hf⟩, h⟩ := h
        refine x_invV (as := [.int x3]) (rest := []) dX7_bill_53 (q := (RX0, TX0, 4)) rfl xc_X7_bill_234 hf (M_X0_amount hl h) rfl rfl (Nat.le_of_ble_eq_true rfl) (Nat.zero_le _) (Nat.zero_le _) (xk_i fun x_13 t_12 h => ?_)
        refine x_i2l dX7_bill_56 ?_
        exact x_lret dX7_bill_57 hr ht ⟨_, rfl, h⟩
      · have h := h1 q
        refine x_ldc2 dX7_bill_44 xw804 ?_
        refine x_goto (tgt := 57) dX7_bill_47 (by decide) ?_
        exact x_lret dX7_bill_57 hr ht ⟨_, rfl, h⟩
    · have h := h2 q
      obtain ⟨q1, q2, h⟩ := h
      exact x_throw dX7_bill_21 dX7_bill_24 dX7_bill_25 dX7_bill_27 dX7_bill_30 xtw_59 (List.mem_of_getElem? (i := 20) rfl) hx (Nat.le_of_ble_eq_true rfl) (Nat.le_of_ble_eq_true rfl) (Nat.le_of_ble_eq_true rfl) q1 q2 h
theorem M_X7_bill {l : Launch} {G : xG} (hl : l.stackTraces = false) {a0 : Nat} {x1 : Int32} {x2 : Int32} {x3 : Int32} {t : xT} {KX : String → xT → Prop} {K : Int64 → xT → Prop} {rc rs : Nat} (h : V_X7_bill_0 KX K a0 x1 x2 x3 t rc rs) : xMetX l G yX7_bill k_X7_bill (some .long) [.ref a0, .int x1, .int x2, .int x3] t (xKl K) KX rc rs := xMetX.of (by decide +kernel) rfl hl (Nat.le_of_ble_eq_true rfl) (fun Γ e1 e2 ht hn hr hx => by subst e1; subst e2; exact S_X7_bill_0 hl ht hr hx h)
/-! RentStream.desk(I)J -/
def V_X7_desk_0 (KX : String → xT → Prop) (K : Int64 → xT → Prop) (a0 : Nat) (x1 : Int32) (t : xT) (rc rs : Nat) : Prop :=
  (xis t a0 7 ∧ ∃ m_3 z_4 : Nat, m_3 ≤ rc ∧ z_4 ≤ rs ∧ V_X7_leaseAt_0 KX (fun o_2 t_1 => xnl o_2 fun a_5 => xgJ t_1 a_5 3 6 fun y_6 => K y_6 t_1) a0 x1 t m_3 z_4)
set_option maxRecDepth 20000 in
theorem S_X7_desk_0 {Γ : xΓ} {KX : String → xT → Prop} {K : Int64 → xT → Prop} (hl : (gl Γ).stackTraces = false) (ht : (gM Γ).sig.returnType = (some .long)) (hr : xRet Γ (xKl K)) (hx : xThr Γ KX) {a0 : Nat} {x1 : Int32} {t : xT} {rc rs : Nat} (h : V_X7_desk_0 KX K a0 x1 t rc rs) : xX Γ k_X7_desk 0 [(0, .ref a0), (1, .int x1)] [] t rc rs := by
  unfold V_X7_desk_0 at h
  refine x_aload_n 0 dX7_desk_0 rfl rfl ?_
  refine x_iload_n 1 dX7_desk_1 rfl rfl ?_
  obtain ⟨⟨fs, hf⟩, h⟩ := h
  obtain ⟨m_3, z_4, hm, hs, h⟩ := h
  refine x_invVX (as := [.int x1]) (rest := []) dX7_desk_2 (q := (RX7, TX7, 10)) rfl xc_X7_desk_103 hf (M_X7_leaseAt hl h) rfl rfl (Nat.le_of_ble_eq_true rfl) hm hs (fun _ _ h => x_thrown hx h) (xk_r fun o_2 t_1 h => ?_)
  obtain ⟨a_5, e, h⟩ := h
  revert h
  subst e
  intro h
  obtain ⟨fs, hf, y_6, hv, h⟩ := h
  refine x_get dX7_desk_5 xf_X7_223 hf hv ?_
  exact x_lret dX7_desk_8 hr ht ⟨_, rfl, h⟩
theorem M_X7_desk {l : Launch} {G : xG} (hl : l.stackTraces = false) {a0 : Nat} {x1 : Int32} {t : xT} {KX : String → xT → Prop} {K : Int64 → xT → Prop} {rc rs : Nat} (h : V_X7_desk_0 KX K a0 x1 t rc rs) : xMetX l G yX7_desk k_X7_desk (some .long) [.ref a0, .int x1] t (xKl K) KX rc rs := xMetX.of (by decide +kernel) rfl hl (Nat.le_of_ble_eq_true rfl) (fun Γ e1 e2 ht hn hr hx => by subst e1; subst e2; exact S_X7_desk_0 hl ht hr hx h)
/-! RentStream.end(I)I -/
def V_X7_end_0 (KX : String → xT → Prop) (K : Int32 → xT → Prop) (a0 : Nat) (x1 : Int32) (t : xT) (rc rs : Nat) : Prop :=
  (xis t a0 7 ∧ ∃ m_3 z_4 : Nat, m_3 ≤ rc ∧ z_4 ≤ rs ∧ V_X7_leaseAt_0 KX (fun o_2 t_1 => xnl o_2 fun a_5 => xgI t_1 a_5 3 1 fun x_6 => ((x_6 = (-1 : Int32) → (xis t_1 a0 7 ∧ V_X7_monthNow_0 (fun x_8 t_7 => (xpF t_7 a_5 3 1 (.int x_8) fun t_9 => xgI t_9 a_5 3 1 fun x_10 => K x_10 t_9)) a0 t_1)) ∧ (¬ x_6 = (-1 : Int32) → (1 ≤ (rc - m_3) ∧ 6 ≤ (rs - z_4) ∧ KX "java/lang/IllegalStateException" t_1)))) a0 x1 t m_3 z_4)
set_option maxRecDepth 20000 in
theorem S_X7_end_0 {Γ : xΓ} {KX : String → xT → Prop} {K : Int32 → xT → Prop} (hl : (gl Γ).stackTraces = false) (ht : (gM Γ).sig.returnType = (some .int)) (hr : xRet Γ (xKi K)) (hx : xThr Γ KX) {a0 : Nat} {x1 : Int32} {t : xT} {rc rs : Nat} (h : V_X7_end_0 KX K a0 x1 t rc rs) : xX Γ k_X7_end 0 [(0, .ref a0), (1, .int x1)] [] t rc rs := by
  unfold V_X7_end_0 at h
  refine x_aload_n 0 dX7_end_0 rfl rfl ?_
  refine x_iload_n 1 dX7_end_1 rfl rfl ?_
  obtain ⟨⟨fs, hf⟩, h⟩ := h
  obtain ⟨m_3, z_4, hm, hs, h⟩ := h
  refine x_invVX (as := [.int x1]) (rest := []) dX7_end_2 (q := (RX7, TX7, 10)) rfl xc_X7_end_103 hf (M_X7_leaseAt hl h) rfl rfl (Nat.le_of_ble_eq_true rfl) hm hs (fun _ _ h => x_thrown hx h) (xk_r fun o_2 t_1 h => ?_)
  refine x_ostore_n (L' := [(2, va_rf o_2), (0, .ref a0), (1, .int x1)]) dX7_end_5 rfl (by decide) rfl ?_
  refine x_oload_n 0 dX7_end_6 rfl rfl ?_
  obtain ⟨a_5, e, h⟩ := h
  revert h
  subst e
  intro h
  obtain ⟨fs, hf, x_6, hv, h⟩ := h
  refine x_get dX7_end_7 xf_X7_107 hf hv ?_
  refine x_iconst (v := (-1 : Int32)) dX7_end_10 (by decide) ?_
  obtain ⟨h1, h2⟩ := h
  refine x_icmp_eq (tgt := 24) dX7_end_11 (by decide) (fun q => ?_) (fun q => ?_)
  · have h := h1 q
    refine x_aload_n 0 dX7_end_24 rfl rfl ?_
    refine x_aload_n 1 dX7_end_25 rfl rfl ?_
    obtain ⟨⟨fs, hf⟩, h⟩ := h
    refine x_invV (as := []) (rest := [.ref a_5]) dX7_end_26 (q := (RX7, TX7, 10)) rfl xc_X7_end_97 hf (M_X7_monthNow hl h) rfl rfl (Nat.le_of_ble_eq_true rfl) (Nat.zero_le _) (Nat.zero_le _) (xk_i fun x_8 t_7 h => ?_)
    obtain ⟨fs, hf, hk, h⟩ := h
    refine x_put (v := .int x_8) dX7_end_29 xp_X7_107 hf rfl rfl hk ?_
    generalize hT : xup t_7 a_5 _ = t_9 at h ⊢
    clear hT
    refine x_aload_n 0 dX7_end_32 rfl rfl ?_
    obtain ⟨fs, hf, x_10, hv, h⟩ := h
    refine x_get dX7_end_33 xf_X7_107 hf hv ?_
    exact x_zret dX7_end_36 hr ht rfl ⟨_, rfl, h⟩
  · have h := h2 q
    obtain ⟨q1, q2, h⟩ := h
    exact x_throw dX7_end_14 dX7_end_17 dX7_end_18 dX7_end_20 dX7_end_23 xtw_70 (List.mem_of_getElem? (i := 6) rfl) hx (Nat.le_of_ble_eq_true rfl) (Nat.le_of_ble_eq_true rfl) (Nat.le_of_ble_eq_true rfl) q1 q2 h
theorem M_X7_end {l : Launch} {G : xG} (hl : l.stackTraces = false) {a0 : Nat} {x1 : Int32} {t : xT} {KX : String → xT → Prop} {K : Int32 → xT → Prop} {rc rs : Nat} (h : V_X7_end_0 KX K a0 x1 t rc rs) : xMetX l G yX7_end k_X7_end (some .int) [.ref a0, .int x1] t (xKi K) KX rc rs := xMetX.of (by decide +kernel) rfl hl (Nat.le_of_ble_eq_true rfl) (fun Γ e1 e2 ht hn hr hx => by subst e1; subst e2; exact S_X7_end_0 hl ht hr hx h)
/-! RentStream.postToTenant(LRentStream$Lease;J)V -/
def V_X7_postToTenant_0 (K : xT → Prop) (a0 : Nat) (a1 : Nat) (y2 : Int64) (t : xT) : Prop :=
  xgJ t a1 3 5 fun y_1 => (xpF t a1 3 5 (.long (y_1 + y2)) fun t_2 => xgJ t_2 a0 7 9 fun y_3 => (xpF t_2 a0 7 9 (.long (y_3 - y2)) fun t_4 => K t_4))
set_option maxRecDepth 20000 in
theorem S_X7_postToTenant_0 {Γ : xΓ} {K : xT → Prop} (hl : (gl Γ).stackTraces = false) (ht : (gM Γ).sig.returnType = none) (hr : xRet Γ (xKv K)) {a0 : Nat} {a1 : Nat} {y2 : Int64} {t : xT} {rc rs : Nat} (h : V_X7_postToTenant_0 K a0 a1 y2 t) : xX Γ k_X7_postToTenant 0 [(0, .ref a0), (1, .ref a1), (2, .long y2)] [] t rc rs := by
  unfold V_X7_postToTenant_0 at h
  refine x_aload_n 1 dX7_postToTenant_0 rfl rfl ?_
  refine x_dup dX7_postToTenant_1 rfl ?_
  obtain ⟨fs, hf, y_1, hv, h⟩ := h
  refine x_get dX7_postToTenant_2 xf_X7_182 hf hv ?_
  refine x_lload_n 2 dX7_postToTenant_5 rfl rfl ?_
  refine x_ladd dX7_postToTenant_6 ?_
  obtain ⟨fs, hf, hk, h⟩ := h
  refine x_put (v := .long (y_1 + y2)) dX7_postToTenant_7 xp_X7_182 hf rfl rfl hk ?_
  generalize hT : xup t a1 _ = t_2 at h ⊢
  clear hT
  refine x_aload_n 0 dX7_postToTenant_10 rfl rfl ?_
  refine x_dup dX7_postToTenant_11 rfl ?_
  obtain ⟨fs, hf, y_3, hv, h⟩ := h
  refine x_get dX7_postToTenant_12 xf_X7_55 hf hv ?_
  refine x_lload_n 2 dX7_postToTenant_15 rfl rfl ?_
  refine x_lsub dX7_postToTenant_16 ?_
  obtain ⟨fs, hf, hk, h⟩ := h
  refine x_put (v := .long (y_3 - y2)) dX7_postToTenant_17 xp_X7_55 hf rfl rfl hk ?_
  generalize hT : xup t_2 a0 _ = t_4 at h ⊢
  clear hT
  exact x_vret dX7_postToTenant_20 hr ht ⟨rfl, h⟩
theorem M_X7_postToTenant {l : Launch} {G : xG} (hl : l.stackTraces = false) {a0 : Nat} {a1 : Nat} {y2 : Int64} {t : xT} {K : xT → Prop} (h : V_X7_postToTenant_0 K a0 a1 y2 t) : xMet l G yX7_postToTenant k_X7_postToTenant none [.ref a0, .ref a1, .long y2] t (xKv K) 0 0 := xMet.of (by decide +kernel) rfl hl (Nat.le_of_ble_eq_true rfl) (fun Γ e1 e2 ht hn hr => by subst e1; subst e2; exact S_X7_postToTenant_0 hl ht hr h)
/-! RentStream.loweredBy(II)I -/
def V_X7_loweredBy_0 (K : Int32 → xT → Prop) (x0 : Int32) (x1 : Int32) (t : xT) : Prop :=
  (¬ (3000 : Int64) = 0 ∧ K ((if x0.toInt64 < ((x0.toInt64 * x1.toInt64) / (3000 : Int64)) then x0.toInt64 else ((x0.toInt64 * x1.toInt64) / (3000 : Int64))).toInt32) t)
set_option maxRecDepth 20000 in
theorem S_X7_loweredBy_0 {Γ : xΓ} {K : Int32 → xT → Prop} (hl : (gl Γ).stackTraces = false) (ht : (gM Γ).sig.returnType = (some .int)) (hr : xRet Γ (xKi K)) {x0 : Int32} {x1 : Int32} {t : xT} {rc rs : Nat} (h : V_X7_loweredBy_0 K x0 x1 t) : xX Γ k_X7_loweredBy 0 [(0, .int x0), (1, .int x1)] [] t rc rs := by
  unfold V_X7_loweredBy_0 at h
  refine x_iload_n 0 dX7_loweredBy_0 rfl rfl ?_
  refine x_i2l dX7_loweredBy_1 ?_
  refine x_iload_n 1 dX7_loweredBy_2 rfl rfl ?_
  refine x_i2l dX7_loweredBy_3 ?_
  refine x_lmul dX7_loweredBy_4 ?_
  refine x_ldc2 dX7_loweredBy_5 xw764 ?_
  obtain ⟨q, h⟩ := h
  refine x_ldiv dX7_loweredBy_8 q ?_
  refine x_lstore_n (L' := [(2, .long ((x0.toInt64 * x1.toInt64) / (3000 : Int64))), (0, .int x0), (1, .int x1)]) dX7_loweredBy_9 rfl (by decide) rfl ?_
  refine x_lload_n 0 dX7_loweredBy_10 rfl rfl ?_
  refine x_iload_n 1 dX7_loweredBy_11 rfl rfl ?_
  refine x_i2l dX7_loweredBy_12 ?_
  refine x_mmin_long dX7_loweredBy_13 xlm_X7_364 (by decide) (by decide) (Nat.le_of_ble_eq_true rfl) ?_
  refine x_l2i dX7_loweredBy_16 ?_
  exact x_zret dX7_loweredBy_17 hr ht rfl ⟨_, rfl, h⟩
theorem M_X7_loweredBy {l : Launch} {G : xG} (hl : l.stackTraces = false) {x0 : Int32} {x1 : Int32} {t : xT} {K : Int32 → xT → Prop} (h : V_X7_loweredBy_0 K x0 x1 t) : xMet l G yX7_loweredBy k_X7_loweredBy (some .int) [.int x0, .int x1] t (xKi K) 0 0 := xMet.of (by decide +kernel) rfl hl (Nat.le_of_ble_eq_true rfl) (fun Γ e1 e2 ht hn hr => by subst e1; subst e2; exact S_X7_loweredBy_0 hl ht hr h)
/-! RentStream.settle(LRentStream$Lease;ILRentStream$Bill;)V -/
def V_X7_settle_0 (K : xT → Prop) (a0 : Nat) (a1 : Nat) (x2 : Int32) (a3 : Nat) (t : xT) : Prop :=
  xgR t a0 7 3 fun a_1 => (xis t a_1 4 ∧ V_X4_in_0 (fun x_3 t_2 => (xis t_2 a1 3 ∧ V_X3_rentAt_0 (fun x_5 t_4 => (xpF t_4 a3 0 0 (.int x_5) fun t_6 => xgI t_6 a3 0 0 fun x_7 => xgR t_6 a1 3 0 fun a_8 => xgR t_6 a_8 1 2 fun a_9 => (xis t_6 a_9 4 ∧ V_X4_in_0 (fun x_11 t_10 => (V_X7_loweredBy_0 (fun x_13 t_12 => (xpF t_12 a3 0 1 (.int x_13) fun t_14 => xgI t_14 a3 0 0 fun x_15 => xgI t_14 a3 0 1 fun x_16 => (xis t_14 a1 3 ∧ V_X3_incomeIn_0 (fun x_18 t_17 => (V_X7_benefitFor_0 (fun x_20 t_19 => (xpF t_19 a3 0 2 (.int x_20) fun t_21 => xgR t_21 a1 3 4 fun a_22 => xgI t_21 a_22 2 0 fun x_23 => (xpF t_21 a3 0 3 (.int x_23) fun t_24 => K t_24))) (x_15 - x_16) x_18 t_17)) a1 x2 t_14))) x_7 x_11 t_10)) a_9 x2 t_6))) a1 x_3 t_2)) a_1 x2 t)
set_option maxRecDepth 20000 in
theorem S_X7_settle_0 {Γ : xΓ} {K : xT → Prop} (hl : (gl Γ).stackTraces = false) (ht : (gM Γ).sig.returnType = none) (hr : xRet Γ (xKv K)) {a0 : Nat} {a1 : Nat} {x2 : Int32} {a3 : Nat} {t : xT} {rc rs : Nat} (h : V_X7_settle_0 K a0 a1 x2 a3 t) : xX Γ k_X7_settle 0 [(0, .ref a0), (1, .ref a1), (2, .int x2), (3, .ref a3)] [] t rc rs := by
  unfold V_X7_settle_0 at h
  refine x_aload_n 3 dX7_settle_0 rfl rfl ?_
  refine x_aload_n 1 dX7_settle_1 rfl rfl ?_
  refine x_aload_n 0 dX7_settle_2 rfl rfl ?_
  obtain ⟨fs, hf, a_1, hv, h⟩ := h
  refine x_get dX7_settle_3 xf_X7_27 hf hv ?_
  refine x_iload_n 2 dX7_settle_6 rfl rfl ?_
  obtain ⟨⟨fs, hf⟩, h⟩ := h
  refine x_invV (as := [.int x2]) (rest := [.ref a1, .ref a3]) dX7_settle_7 (q := (RX4, TX4, 1)) rfl xc_X7_settle_114 hf (M_X4_in hl h) rfl rfl (Nat.le_of_ble_eq_true rfl) (Nat.zero_le _) (Nat.zero_le _) (xk_i fun x_3 t_2 h => ?_)
  obtain ⟨⟨fs, hf⟩, h⟩ := h
  refine x_invV (as := [.int x_3]) (rest := [.ref a3]) dX7_settle_10 (q := (RX3, TX3, 11)) rfl xc_X7_settle_298 hf (M_X3_rentAt hl h) rfl rfl (Nat.le_of_ble_eq_true rfl) (Nat.zero_le _) (Nat.zero_le _) (xk_i fun x_5 t_4 h => ?_)
  obtain ⟨fs, hf, hk, h⟩ := h
  refine x_put (v := .int x_5) dX7_settle_13 xp_X7_350 hf rfl rfl hk ?_
  generalize hT : xup t_4 a3 _ = t_6 at h ⊢
  clear hT
  refine x_aload_n 3 dX7_settle_16 rfl rfl ?_
  refine x_aload_n 3 dX7_settle_17 rfl rfl ?_
  obtain ⟨fs, hf, x_7, hv, h⟩ := h
  refine x_get dX7_settle_18 xf_X7_350 hf hv ?_
  refine x_aload_n 1 dX7_settle_21 rfl rfl ?_
  obtain ⟨fs, hf, a_8, hv, h⟩ := h
  refine x_get dX7_settle_22 xf_X7_265 hf hv ?_
  obtain ⟨fs, hf, a_9, hv, h⟩ := h
  refine x_get dX7_settle_25 xf_X7_256 hf hv ?_
  refine x_iload_n 2 dX7_settle_28 rfl rfl ?_
  obtain ⟨⟨fs, hf⟩, h⟩ := h
  refine x_invV (as := [.int x2]) (rest := [.int x_7, .ref a3]) dX7_settle_29 (q := (RX4, TX4, 1)) rfl xc_X7_settle_114 hf (M_X4_in hl h) rfl rfl (Nat.le_of_ble_eq_true rfl) (Nat.zero_le _) (Nat.zero_le _) (xk_i fun x_11 t_10 h => ?_)
  refine x_invS (as := [.int x_7, .int x_11]) (rest := [.ref a3]) dX7_settle_32 xc_X7_settle_353 (M_X7_loweredBy hl h) rfl rfl (Nat.le_of_ble_eq_true rfl) (Nat.zero_le _) (Nat.zero_le _) (xk_i fun x_13 t_12 h => ?_)
  obtain ⟨fs, hf, hk, h⟩ := h
  refine x_put (v := .int x_13) dX7_settle_35 xp_X7_356 hf rfl rfl hk ?_
  generalize hT : xup t_12 a3 _ = t_14 at h ⊢
  clear hT
  refine x_aload_n 3 dX7_settle_38 rfl rfl ?_
  refine x_aload_n 3 dX7_settle_39 rfl rfl ?_
  obtain ⟨fs, hf, x_15, hv, h⟩ := h
  refine x_get dX7_settle_40 xf_X7_350 hf hv ?_
  refine x_aload_n 3 dX7_settle_43 rfl rfl ?_
  obtain ⟨fs, hf, x_16, hv, h⟩ := h
  refine x_get dX7_settle_44 xf_X7_356 hf hv ?_
  refine x_isub dX7_settle_47 ?_
  refine x_aload_n 1 dX7_settle_48 rfl rfl ?_
  refine x_iload_n 2 dX7_settle_49 rfl rfl ?_
  obtain ⟨⟨fs, hf⟩, h⟩ := h
  refine x_invV (as := [.int x2]) (rest := [.int (x_15 - x_16), .ref a3]) dX7_settle_50 (q := (RX3, TX3, 11)) rfl xc_X7_settle_301 hf (M_X3_incomeIn hl h) rfl rfl (Nat.le_of_ble_eq_true rfl) (Nat.zero_le _) (Nat.zero_le _) (xk_i fun x_18 t_17 h => ?_)
  refine x_invS (as := [.int (x_15 - x_16), .int x_18]) (rest := [.ref a3]) dX7_settle_53 xc_X7_settle_304 (M_X7_benefitFor hl h) rfl rfl (Nat.le_of_ble_eq_true rfl) (Nat.zero_le _) (Nat.zero_le _) (xk_i fun x_20 t_19 h => ?_)
  obtain ⟨fs, hf, hk, h⟩ := h
  refine x_put (v := .int x_20) dX7_settle_56 xp_X7_292 hf rfl rfl hk ?_
  generalize hT : xup t_19 a3 _ = t_21 at h ⊢
  clear hT
  refine x_aload_n 3 dX7_settle_59 rfl rfl ?_
  refine x_aload_n 1 dX7_settle_60 rfl rfl ?_
  obtain ⟨fs, hf, a_22, hv, h⟩ := h
  refine x_get dX7_settle_61 xf_X7_311 hf hv ?_
  obtain ⟨fs, hf, x_23, hv, h⟩ := h
  refine x_get dX7_settle_64 xf_X7_315 hf hv ?_
  obtain ⟨fs, hf, hk, h⟩ := h
  refine x_put (v := .int x_23) dX7_settle_67 xp_X7_359 hf rfl rfl hk ?_
  generalize hT : xup t_21 a3 _ = t_24 at h ⊢
  clear hT
  exact x_vret dX7_settle_70 hr ht ⟨rfl, h⟩
theorem M_X7_settle {l : Launch} {G : xG} (hl : l.stackTraces = false) {a0 : Nat} {a1 : Nat} {x2 : Int32} {a3 : Nat} {t : xT} {K : xT → Prop} (h : V_X7_settle_0 K a0 a1 x2 a3 t) : xMet l G yX7_settle k_X7_settle none [.ref a0, .ref a1, .int x2, .ref a3] t (xKv K) 0 0 := xMet.of (by decide +kernel) rfl hl (Nat.le_of_ble_eq_true rfl) (fun Γ e1 e2 ht hn hr => by subst e1; subst e2; exact S_X7_settle_0 hl ht hr h)
/-! RentStream$Bill.ofTenant()I -/
def V_X0_ofTenant_0 (K : Int32 → xT → Prop) (a0 : Nat) (t : xT) : Prop :=
  xgI t a0 0 0 fun x_1 => xgI t a0 0 1 fun x_2 => xgI t a0 0 2 fun x_3 => xgI t a0 0 3 fun x_4 => K (((x_1 - x_2) - x_3) + x_4) t
set_option maxRecDepth 20000 in
theorem S_X0_ofTenant_0 {Γ : xΓ} {K : Int32 → xT → Prop} (hl : (gl Γ).stackTraces = false) (ht : (gM Γ).sig.returnType = (some .int)) (hr : xRet Γ (xKi K)) {a0 : Nat} {t : xT} {rc rs : Nat} (h : V_X0_ofTenant_0 K a0 t) : xX Γ k_X0_ofTenant 0 [(0, .ref a0)] [] t rc rs := by
  unfold V_X0_ofTenant_0 at h
  refine x_aload_n 0 dX0_ofTenant_0 rfl rfl ?_
  obtain ⟨fs, hf, x_1, hv, h⟩ := h
  refine x_get dX0_ofTenant_1 xf_X0_9 hf hv ?_
  refine x_aload_n 0 dX0_ofTenant_4 rfl rfl ?_
  obtain ⟨fs, hf, x_2, hv, h⟩ := h
  refine x_get dX0_ofTenant_5 xf_X0_15 hf hv ?_
  refine x_isub dX0_ofTenant_8 ?_
  refine x_aload_n 0 dX0_ofTenant_9 rfl rfl ?_
  obtain ⟨fs, hf, x_3, hv, h⟩ := h
  refine x_get dX0_ofTenant_10 xf_X0_18 hf hv ?_
  refine x_isub dX0_ofTenant_13 ?_
  refine x_aload_n 0 dX0_ofTenant_14 rfl rfl ?_
  obtain ⟨fs, hf, x_4, hv, h⟩ := h
  refine x_get dX0_ofTenant_15 xf_X0_21 hf hv ?_
  refine x_iadd dX0_ofTenant_18 ?_
  exact x_zret dX0_ofTenant_19 hr ht rfl ⟨_, rfl, h⟩
theorem M_X0_ofTenant {l : Launch} {G : xG} (hl : l.stackTraces = false) {a0 : Nat} {t : xT} {K : Int32 → xT → Prop} (h : V_X0_ofTenant_0 K a0 t) : xMet l G yX0_ofTenant k_X0_ofTenant (some .int) [.ref a0] t (xKi K) 0 0 := xMet.of (by decide +kernel) rfl hl (Nat.le_of_ble_eq_true rfl) (fun Γ e1 e2 ht hn hr => by subst e1; subst e2; exact S_X0_ofTenant_0 hl ht hr h)
/-! RentStream$Lease.putBill(ILRentStream$Bill;)V -/
def V_X3_putBill_0 (K : xT → Prop) (a0 : Nat) (x1 : Int32) (a2 : Nat) (t : xT) : Prop :=
  ((x1 < 0 → K t) ∧ (¬ x1 < 0 → xgR t a0 3 10 fun a_1 => xal t a_1 fun x_2 => ((x_2 ≤ x1 → K t) ∧ (¬ x_2 ≤ x1 → xgR t a0 3 10 fun a_3 => xsQ5 t a_3 x1 a2 fun t_4 => K t_4))))
set_option maxRecDepth 20000 in
theorem S_X3_putBill_0 {Γ : xΓ} {K : xT → Prop} (hl : (gl Γ).stackTraces = false) (ht : (gM Γ).sig.returnType = none) (hr : xRet Γ (xKv K)) {a0 : Nat} {x1 : Int32} {a2 : Nat} {t : xT} {rc rs : Nat} (h : V_X3_putBill_0 K a0 x1 a2 t) : xX Γ k_X3_putBill 0 [(0, .ref a0), (1, .int x1), (2, .ref a2)] [] t rc rs := by
  unfold V_X3_putBill_0 at h
  refine x_iload_n 1 dX3_putBill_0 rfl rfl ?_
  obtain ⟨h1, h2⟩ := h
  refine x_if_lt (tgt := 20) dX3_putBill_1 (by decide) (fun q => ?_) (fun q => ?_)
  · have h := h1 q
    exact x_vret dX3_putBill_20 hr ht ⟨rfl, h⟩
  · have h := h2 q
    refine x_iload_n 1 dX3_putBill_4 rfl rfl ?_
    refine x_aload_n 0 dX3_putBill_5 rfl rfl ?_
    obtain ⟨fs, hf, a_1, hv, h⟩ := h
    refine x_get dX3_putBill_6 xf_X3_50 hf hv ?_
    obtain ⟨k, z, hf, h⟩ := h
    refine x_alen dX3_putBill_9 hf ?_
    generalize Int32.ofNat z.1 = x_2 at h ⊢
    obtain ⟨h1, h2⟩ := h
    refine x_icmp_ge (tgt := 20) dX3_putBill_10 (by decide) (fun q => ?_) (fun q => ?_)
    · have h := h1 q
      exact x_vret dX3_putBill_20 hr ht ⟨rfl, h⟩
    · have h := h2 q
      refine x_aload_n 0 dX3_putBill_13 rfl rfl ?_
      obtain ⟨fs, hf, a_3, hv, h⟩ := h
      refine x_get dX3_putBill_14 xf_X3_50 hf hv ?_
      refine x_iload_n 1 dX3_putBill_17 rfl rfl ?_
      refine x_aload_n 2 dX3_putBill_18 rfl rfl ?_
      obtain ⟨n, f, hf, hi, vs, hv, h⟩ := h
      refine x_aast5 dX3_putBill_19 hf hv hi ?_
      generalize hT : xup t a_3 _ = t_4 at h ⊢
      clear hT
      exact x_vret dX3_putBill_20 hr ht ⟨rfl, h⟩
theorem M_X3_putBill {l : Launch} {G : xG} (hl : l.stackTraces = false) {a0 : Nat} {x1 : Int32} {a2 : Nat} {t : xT} {K : xT → Prop} (h : V_X3_putBill_0 K a0 x1 a2 t) : xMet l G yX3_putBill k_X3_putBill none [.ref a0, .int x1, .ref a2] t (xKv K) 0 0 := xMet.of (by decide +kernel) rfl hl (Nat.le_of_ble_eq_true rfl) (fun Γ e1 e2 ht hn hr => by subst e1; subst e2; exact S_X3_putBill_0 hl ht hr h)
/-! RentStream.makeBill(LRentStream$Lease;I)V -/
def V_X7_makeBill_0 (K : xT → Prop) (a0 : Nat) (a1 : Nat) (x2 : Int32) (t : xT) (rc rs : Nat) : Prop :=
  xnw (.inr (0, [.int 0, .int 0, .int 0, .int 0])) 4 t rc rs fun a_1 t_2 => (V_X0_init_0 (fun t_3 => (xis t_3 a0 7 ∧ V_X7_settle_0 (fun t_4 => (xis t_4 a1 3 ∧ V_X3_putBill_0 (fun t_5 => (xis t_5 a_1 0 ∧ V_X0_ofTenant_0 (fun x_7 t_6 => (xis t_6 a0 7 ∧ V_X7_postToTenant_0 (fun t_8 => xgI t_8 a_1 0 2 fun x_9 => (xis t_8 a0 7 ∧ V_X7_postToDesk_0 (fun t_10 => K t_10) a0 a1 x_9.toInt64 t_8)) a0 a1 x_7.toInt64 t_6)) a_1 t_5)) a1 x2 a_1 t_4)) a0 a1 x2 a_1 t_3)) a_1 t_2)
set_option maxRecDepth 20000 in
theorem S_X7_makeBill_0 {Γ : xΓ} {K : xT → Prop} (hl : (gl Γ).stackTraces = false) (ht : (gM Γ).sig.returnType = none) (hr : xRet Γ (xKv K)) {a0 : Nat} {a1 : Nat} {x2 : Int32} {t : xT} {rc rs : Nat} (h : V_X7_makeBill_0 K a0 a1 x2 t rc rs) : xX Γ k_X7_makeBill 0 [(0, .ref a0), (1, .ref a1), (2, .int x2)] [] t rc rs := by
  unfold V_X7_makeBill_0 at h
  obtain ⟨q1, q2, h⟩ := h
  refine x_new dX7_makeBill_0 xn_X7_41 q1 q2 (fun a_1 hq => ?_)
  replace h := h a_1 hq
  generalize hT : xup t a_1 _ = t_2 at h ⊢
  clear hT
  refine x_dup dX7_makeBill_3 rfl ?_
  refine x_invIN (as := []) (rest := [.ref a_1]) dX7_makeBill_4 xc_X7_makeBill_43 (M_X0_init hl h) rfl rfl (Nat.le_of_ble_eq_true rfl) (Nat.zero_le _) (Nat.zero_le _) (xk_v fun t_3 h => ?_)
  refine x_astore_n (L' := [(3, .ref a_1), (0, .ref a0), (1, .ref a1), (2, .int x2)]) dX7_makeBill_7 rfl (by decide) rfl ?_
  refine x_aload_n 1 dX7_makeBill_8 rfl rfl ?_
  refine x_aload_n 2 dX7_makeBill_9 rfl rfl ?_
  refine x_iload_n 3 dX7_makeBill_10 rfl rfl ?_
  refine x_aload_n 0 dX7_makeBill_11 rfl rfl ?_
  obtain ⟨⟨fs, hf⟩, h⟩ := h
  refine x_invV (as := [.ref a1, .int x2, .ref a_1]) (rest := []) dX7_makeBill_12 (q := (RX7, TX7, 10)) rfl xc_X7_makeBill_216 hf (M_X7_settle hl h) rfl rfl (Nat.le_of_ble_eq_true rfl) (Nat.zero_le _) (Nat.zero_le _) (xk_v fun t_4 h => ?_)
  refine x_aload_n 2 dX7_makeBill_15 rfl rfl ?_
  refine x_iload_n 3 dX7_makeBill_16 rfl rfl ?_
  refine x_aload_n 0 dX7_makeBill_17 rfl rfl ?_
  obtain ⟨⟨fs, hf⟩, h⟩ := h
  refine x_invV (as := [.int x2, .ref a_1]) (rest := []) dX7_makeBill_18 (q := (RX3, TX3, 11)) rfl xc_X7_makeBill_288 hf (M_X3_putBill hl h) rfl rfl (Nat.le_of_ble_eq_true rfl) (Nat.zero_le _) (Nat.zero_le _) (xk_v fun t_5 h => ?_)
  refine x_aload_n 1 dX7_makeBill_21 rfl rfl ?_
  refine x_aload_n 2 dX7_makeBill_22 rfl rfl ?_
  refine x_aload_n 0 dX7_makeBill_23 rfl rfl ?_
  obtain ⟨⟨fs, hf⟩, h⟩ := h
  refine x_invV (as := []) (rest := [.ref a1, .ref a0]) dX7_makeBill_24 (q := (RX0, TX0, 4)) rfl xc_X7_makeBill_220 hf (M_X0_ofTenant hl h) rfl rfl (Nat.le_of_ble_eq_true rfl) (Nat.zero_le _) (Nat.zero_le _) (xk_i fun x_7 t_6 h => ?_)
  refine x_i2l dX7_makeBill_27 ?_
  obtain ⟨⟨fs, hf⟩, h⟩ := h
  refine x_invV (as := [.ref a1, .long x_7.toInt64]) (rest := []) dX7_makeBill_28 (q := (RX7, TX7, 10)) rfl xc_X7_makeBill_172 hf (M_X7_postToTenant hl h) rfl rfl (Nat.le_of_ble_eq_true rfl) (Nat.zero_le _) (Nat.zero_le _) (xk_v fun t_8 h => ?_)
  refine x_aload_n 1 dX7_makeBill_31 rfl rfl ?_
  refine x_aload_n 2 dX7_makeBill_32 rfl rfl ?_
  refine x_aload_n 0 dX7_makeBill_33 rfl rfl ?_
  obtain ⟨fs, hf, x_9, hv, h⟩ := h
  refine x_get dX7_makeBill_34 xf_X7_292 hf hv ?_
  refine x_i2l dX7_makeBill_37 ?_
  obtain ⟨⟨fs, hf⟩, h⟩ := h
  refine x_invV (as := [.ref a1, .long x_9.toInt64]) (rest := []) dX7_makeBill_38 (q := (RX7, TX7, 10)) rfl xc_X7_makeBill_176 hf (M_X7_postToDesk hl h) rfl rfl (Nat.le_of_ble_eq_true rfl) (Nat.zero_le _) (Nat.zero_le _) (xk_v fun t_10 h => ?_)
  exact x_vret dX7_makeBill_41 hr ht ⟨rfl, h⟩
theorem M_X7_makeBill {l : Launch} {G : xG} (hl : l.stackTraces = false) {a0 : Nat} {a1 : Nat} {x2 : Int32} {t : xT} {K : xT → Prop} {rc rs : Nat} (h : V_X7_makeBill_0 K a0 a1 x2 t rc rs) : xMet l G yX7_makeBill k_X7_makeBill none [.ref a0, .ref a1, .int x2] t (xKv K) rc rs := xMet.of (by decide +kernel) rfl hl (Nat.le_of_ble_eq_true rfl) (fun Γ e1 e2 ht hn hr => by subst e1; subst e2; exact S_X7_makeBill_0 hl ht hr h)
/-! RentStream$HeatShare.isAheadOf(LRentStream$HeatShare;)Z -/
def V_X2_isAheadOf_0 (K : Int32 → xT → Prop) (a0 : Nat) (a1 : Nat) (t : xT) : Prop :=
  xgJ t a0 2 2 fun y_1 => xgJ t a1 2 2 fun y_2 => ((y_1 ≤ y_2 → K (0 : Int32) t) ∧ (¬ y_1 ≤ y_2 → K (1 : Int32) t))
set_option maxRecDepth 20000 in
theorem S_X2_isAheadOf_0 {Γ : xΓ} {K : Int32 → xT → Prop} (hl : (gl Γ).stackTraces = false) (ht : (gM Γ).sig.returnType = (some .boolean)) (hr : xRet Γ (xKi K)) {a0 : Nat} {a1 : Nat} {t : xT} {rc rs : Nat} (h : V_X2_isAheadOf_0 K a0 a1 t) : xX Γ k_X2_isAheadOf 0 [(0, .ref a0), (1, .ref a1)] [] t rc rs := by
  unfold V_X2_isAheadOf_0 at h
  refine x_aload_n 0 dX2_isAheadOf_0 rfl rfl ?_
  obtain ⟨fs, hf, y_1, hv, h⟩ := h
  refine x_get dX2_isAheadOf_1 xf_X2_16 hf hv ?_
  refine x_aload_n 1 dX2_isAheadOf_4 rfl rfl ?_
  obtain ⟨fs, hf, y_2, hv, h⟩ := h
  refine x_get dX2_isAheadOf_5 xf_X2_16 hf hv ?_
  obtain ⟨h1, h2⟩ := h
  refine x_lcmp_le (tgt := 16) dX2_isAheadOf_8 dX2_isAheadOf_9 (by decide) (fun q => ?_) (fun q => ?_)
  · have h := h1 q
    refine x_iconst (v := (0 : Int32)) dX2_isAheadOf_16 (by decide) ?_
    exact x_zret dX2_isAheadOf_17 hr ht (by decide) ⟨_, rfl, h⟩
  · have h := h2 q
    refine x_iconst (v := (1 : Int32)) dX2_isAheadOf_12 (by decide) ?_
    refine x_goto (tgt := 17) dX2_isAheadOf_13 (by decide) ?_
    exact x_zret dX2_isAheadOf_17 hr ht (by decide) ⟨_, rfl, h⟩
theorem M_X2_isAheadOf {l : Launch} {G : xG} (hl : l.stackTraces = false) {a0 : Nat} {a1 : Nat} {t : xT} {K : Int32 → xT → Prop} (h : V_X2_isAheadOf_0 K a0 a1 t) : xMet l G yX2_isAheadOf k_X2_isAheadOf (some .boolean) [.ref a0, .ref a1] t (xKi K) 0 0 := xMet.of (by decide +kernel) rfl hl (Nat.le_of_ble_eq_true rfl) (fun Γ e1 e2 ht hn hr => by subst e1; subst e2; exact S_X2_isAheadOf_0 hl ht hr h)
/-! RentStream$HeatShare.takeOneMore()V -/
def V_X2_takeOneMore_0 (K : xT → Prop) (a0 : Nat) (t : xT) : Prop :=
  xgI t a0 2 0 fun x_1 => (xpF t a0 2 0 (.int (x_1 + (1 : Int32))) fun t_2 => (xpF t_2 a0 2 2 (.long (0 : Int64)) fun t_3 => K t_3))
set_option maxRecDepth 20000 in
theorem S_X2_takeOneMore_0 {Γ : xΓ} {K : xT → Prop} (hl : (gl Γ).stackTraces = false) (ht : (gM Γ).sig.returnType = none) (hr : xRet Γ (xKv K)) {a0 : Nat} {t : xT} {rc rs : Nat} (h : V_X2_takeOneMore_0 K a0 t) : xX Γ k_X2_takeOneMore 0 [(0, .ref a0)] [] t rc rs := by
  unfold V_X2_takeOneMore_0 at h
  refine x_aload_n 0 dX2_takeOneMore_0 rfl rfl ?_
  refine x_dup dX2_takeOneMore_1 rfl ?_
  obtain ⟨fs, hf, x_1, hv, h⟩ := h
  refine x_get dX2_takeOneMore_2 xf_X2_7 hf hv ?_
  refine x_iconst (v := (1 : Int32)) dX2_takeOneMore_5 (by decide) ?_
  refine x_iadd dX2_takeOneMore_6 ?_
  obtain ⟨fs, hf, hk, h⟩ := h
  refine x_put (v := .int (x_1 + (1 : Int32))) dX2_takeOneMore_7 xp_X2_7 hf rfl rfl hk ?_
  generalize hT : xup t a0 _ = t_2 at h ⊢
  clear hT
  refine x_aload_n 0 dX2_takeOneMore_10 rfl rfl ?_
  refine x_lconst (v := (0 : Int64)) dX2_takeOneMore_11 (by decide) ?_
  obtain ⟨fs, hf, hk, h⟩ := h
  refine x_put (v := .long (0 : Int64)) dX2_takeOneMore_12 xp_X2_16 hf rfl rfl hk ?_
  generalize hT : xup t_2 a0 _ = t_3 at h ⊢
  clear hT
  exact x_vret dX2_takeOneMore_15 hr ht ⟨rfl, h⟩
theorem M_X2_takeOneMore {l : Launch} {G : xG} (hl : l.stackTraces = false) {a0 : Nat} {t : xT} {K : xT → Prop} (h : V_X2_takeOneMore_0 K a0 t) : xMet l G yX2_takeOneMore k_X2_takeOneMore none [.ref a0] t (xKv K) 0 0 := xMet.of (by decide +kernel) rfl hl (Nat.le_of_ble_eq_true rfl) (fun Γ e1 e2 ht hn hr => by subst e1; subst e2; exact S_X2_takeOneMore_0 hl ht hr h)
/-! java/util/ArrayList.isEmpty()Z -/
def V_Jx4a65c_isEmpty_aae02_0 (K : Int32 → xT → Prop) (a0 : Nat) (t : xT) : Prop :=
  xgI t a0 10 2 fun x_1 => ((¬ x_1 = 0 → K (0 : Int32) t) ∧ (x_1 = 0 → K (1 : Int32) t))
set_option maxRecDepth 20000 in
theorem S_Jx4a65c_isEmpty_aae02_0 {Γ : xΓ} {K : Int32 → xT → Prop} (hl : (gl Γ).stackTraces = false) (ht : (gM Γ).sig.returnType = (some .boolean)) (hr : xRet Γ (xKi K)) {a0 : Nat} {t : xT} {rc rs : Nat} (h : V_Jx4a65c_isEmpty_aae02_0 K a0 t) : xX Γ k_Jx4a65c_isEmpty_aae02 0 [(0, .ref a0)] [] t rc rs := by
  unfold V_Jx4a65c_isEmpty_aae02_0 at h
  refine x_aload_n 0 dJx4a65c_isEmpty_aae02_0 rfl rfl ?_
  obtain ⟨fs, hf, x_1, hv, h⟩ := h
  refine x_get dJx4a65c_isEmpty_aae02_1 xf_Jx4a65c_48 hf hv ?_
  obtain ⟨h1, h2⟩ := h
  refine x_if_ne (tgt := 11) dJx4a65c_isEmpty_aae02_4 (by decide) (fun q => ?_) (fun q => ?_)
  · have h := h1 q
    refine x_iconst (v := (0 : Int32)) dJx4a65c_isEmpty_aae02_11 (by decide) ?_
    exact x_zret dJx4a65c_isEmpty_aae02_12 hr ht (by decide) ⟨_, rfl, h⟩
  · have h := h2 q
    refine x_iconst (v := (1 : Int32)) dJx4a65c_isEmpty_aae02_7 (by decide) ?_
    refine x_goto (tgt := 12) dJx4a65c_isEmpty_aae02_8 (by decide) ?_
    exact x_zret dJx4a65c_isEmpty_aae02_12 hr ht (by decide) ⟨_, rfl, h⟩
theorem M_Jx4a65c_isEmpty_aae02 {l : Launch} {G : xG} (hl : l.stackTraces = false) {a0 : Nat} {t : xT} {K : Int32 → xT → Prop} (h : V_Jx4a65c_isEmpty_aae02_0 K a0 t) : xMet l G yJx4a65c_isEmpty_aae02 k_Jx4a65c_isEmpty_aae02 (some .boolean) [.ref a0] t (xKi K) 0 0 := xMet.of (by decide +kernel) rfl hl (Nat.le_of_ble_eq_true rfl) (fun Γ e1 e2 ht hn hr => by subst e1; subst e2; exact S_Jx4a65c_isEmpty_aae02_0 hl ht hr h)
/-! RentStream.giveOneMore()V -/
def VS_X7_giveOneMore_28 (R28 : Nat → Nat → Int32 → xT → Prop) (K : xT → Prop) (a0 : Nat) (a1 : Nat) (x2 : Int32) (t : xT) : Prop :=
  xgR t a0 7 1 fun a_1 => (xis t a_1 10 ∧ V_Jx4a65c_size_8abf5_0 (fun x_3 t_2 => ((x_3 ≤ x2 → (xis t_2 a1 2 ∧ V_X2_takeOneMore_0 (fun t_4 => K t_4) a1 t_2)) ∧ (¬ x_3 ≤ x2 → xgR t_2 a0 7 1 fun a_5 => (xis t_2 a_5 10 ∧ V_Jx4a65c_get_915e3_0 (fun o_7 t_6 => xnl o_7 fun a_8 => (xis t_6 a_8 3 ∧ xgR t_6 a_8 3 4 fun a_9 => (xis t_6 a_9 2 ∧ V_X2_isAheadOf_0 (fun x_11 t_10 => ((x_11 = 0 → R28 a0 a1 (x2 + 1) t_10) ∧ (¬ x_11 = 0 → R28 a0 a_9 (x2 + 1) t_10))) a_9 a1 t_6))) a_5 x2 t_2)))) a_1 t)
def V_X7_giveOneMore_28 (K : xT → Prop) (n : Nat) : Nat → Nat → Int32 → xT → Prop := Nat.rec (fun _ _ _ _ => False) (fun _ ih => VS_X7_giveOneMore_28 ih K) n
set_option maxRecDepth 20000 in
theorem S_X7_giveOneMore_28 {Γ : xΓ} {K : xT → Prop} (hl : (gl Γ).stackTraces = false) (ht : (gM Γ).sig.returnType = none) (hr : xRet Γ (xKv K)) : ∀ (n : Nat) (a0 : Nat) (a1 : Nat) (x2 : Int32) (t : xT) (rc rs : Nat), V_X7_giveOneMore_28 K n a0 a1 x2 t → xX Γ k_X7_giveOneMore 28 [(0, .ref a0), (1, .ref a1), (2, .int x2)] [] t rc rs := by
  intro n
  induction n with
  | zero =>
    intro a0 a1 x2 t rc rs h
    exact h.elim
  | succ n ih =>
    intro a0 a1 x2 t rc rs h
    replace h : VS_X7_giveOneMore_28 (V_X7_giveOneMore_28 K n) K a0 a1 x2 t := h
    unfold VS_X7_giveOneMore_28 at h
    refine x_iload_n 2 dX7_giveOneMore_28 rfl rfl ?_
    refine x_aload_n 0 dX7_giveOneMore_29 rfl rfl ?_
    obtain ⟨fs, hf, a_1, hv, h⟩ := h
    refine x_get dX7_giveOneMore_30 xf_X7_16 hf hv ?_
    obtain ⟨⟨fs, hf⟩, h⟩ := h
    refine x_invV (as := []) (rest := [.int x2]) dX7_giveOneMore_33 (q := (RJx4a65c, TJx4a65c, 3)) rfl xc_X7_giveOneMore_66 hf (M_Jx4a65c_size_8abf5 hl h) rfl rfl (Nat.le_of_ble_eq_true rfl) (Nat.zero_le _) (Nat.zero_le _) (xk_i fun x_3 t_2 h => ?_)
    obtain ⟨h1, h2⟩ := h
    refine x_icmp_ge (tgt := 70) dX7_giveOneMore_36 (by decide) (fun q => ?_) (fun q => ?_)
    · have h := h1 q
      refine x_aload_n 1 dX7_giveOneMore_70 rfl rfl ?_
      obtain ⟨⟨fs, hf⟩, h⟩ := h
      refine x_invV (as := []) (rest := []) dX7_giveOneMore_71 (q := (RX2, TX2, 3)) rfl xc_X7_giveOneMore_347 hf (M_X2_takeOneMore hl h) rfl rfl (Nat.le_of_ble_eq_true rfl) (Nat.zero_le _) (Nat.zero_le _) (xk_v fun t_4 h => ?_)
      exact x_vret dX7_giveOneMore_74 hr ht ⟨rfl, h⟩
    · have h := h2 q
      refine x_aload_n 0 dX7_giveOneMore_39 rfl rfl ?_
      obtain ⟨fs, hf, a_5, hv, h⟩ := h
      refine x_get dX7_giveOneMore_40 xf_X7_16 hf hv ?_
      refine x_iload_n 2 dX7_giveOneMore_43 rfl rfl ?_
      obtain ⟨⟨fs, hf⟩, h⟩ := h
      refine x_invV (as := [.int x2]) (rest := []) dX7_giveOneMore_44 (q := (RJx4a65c, TJx4a65c, 3)) rfl xc_X7_giveOneMore_149 hf (M_Jx4a65c_get_915e3 hl h) rfl rfl (Nat.le_of_ble_eq_true rfl) (Nat.zero_le _) (Nat.zero_le _) (xk_r fun o_7 t_6 h => ?_)
      obtain ⟨a_8, e, h⟩ := h
      revert h
      subst e
      intro h
      obtain ⟨⟨fs, hf⟩, h⟩ := h
      refine x_ccast dX7_giveOneMore_47 (q := (RX3, TX3, 11)) rfl xw429 hf ?_
      obtain ⟨fs, hf, a_9, hv, h⟩ := h
      refine x_get dX7_giveOneMore_50 xf_X7_311 hf hv ?_
      refine x_astore_n (L' := [(3, .ref a_9), (0, .ref a0), (1, .ref a1), (2, .int x2)]) dX7_giveOneMore_53 rfl (by decide) rfl ?_
      refine x_aload_n 0 dX7_giveOneMore_54 rfl rfl ?_
      refine x_aload_n 2 dX7_giveOneMore_55 rfl rfl ?_
      obtain ⟨⟨fs, hf⟩, h⟩ := h
      refine x_invV (as := [.ref a1]) (rest := []) dX7_giveOneMore_56 (q := (RX2, TX2, 3)) rfl xc_X7_giveOneMore_343 hf (M_X2_isAheadOf hl h) rfl rfl (Nat.le_of_ble_eq_true rfl) (Nat.zero_le _) (Nat.zero_le _) (xk_i fun x_11 t_10 h => ?_)
      obtain ⟨h1, h2⟩ := h
      refine x_if_eq (tgt := 64) dX7_giveOneMore_59 (by decide) (fun q => ?_) (fun q => ?_)
      · have h := h1 q
        refine x_iinc (v := (x2 + 1)) (L' := [(2, .int (x2 + 1)), (3, .ref a_9), (0, .ref a0), (1, .ref a1)]) (j := 3) dX7_giveOneMore_64 rfl rfl (by decide) rfl ?_
        refine x_goto (tgt := 28) dX7_giveOneMore_67 (by decide) ?_
        refine x_sub (L' := [(0, .ref a0), (1, .ref a1), (2, .int (x2 + 1))]) [2, 3, 0] rfl ?_
        exact ih a0 a1 (x2 + 1) t_10 _ _ h
      · have h := h2 q
        refine x_aload_n 0 dX7_giveOneMore_62 rfl rfl ?_
        refine x_astore_n (L' := [(1, .ref a_9), (3, .ref a_9), (0, .ref a0), (2, .int x2)]) dX7_giveOneMore_63 rfl (by decide) rfl ?_
        refine x_iinc (v := (x2 + 1)) (L' := [(2, .int (x2 + 1)), (1, .ref a_9), (3, .ref a_9), (0, .ref a0)]) (j := 3) dX7_giveOneMore_64 rfl rfl (by decide) rfl ?_
        refine x_goto (tgt := 28) dX7_giveOneMore_67 (by decide) ?_
        refine x_sub (L' := [(0, .ref a0), (1, .ref a_9), (2, .int (x2 + 1))]) [3, 1, 0] rfl ?_
        exact ih a0 a_9 (x2 + 1) t_10 _ _ h
def V_X7_giveOneMore_0 (K : xT → Prop) (a0 : Nat) (t : xT) : Prop :=
  xgR t a0 7 1 fun a_1 => (xis t a_1 10 ∧ V_Jx4a65c_isEmpty_aae02_0 (fun x_3 t_2 => ((x_3 = 0 → xgR t_2 a0 7 1 fun a_4 => (xis t_2 a_4 10 ∧ V_Jx4a65c_get_915e3_0 (fun o_6 t_5 => xnl o_6 fun a_7 => (xis t_5 a_7 3 ∧ xgR t_5 a_7 3 4 fun a_8 => ∃ f_9 : Nat, V_X7_giveOneMore_28 K f_9 a0 a_8 (1 : Int32) t_5)) a_4 (0 : Int32) t_2)) ∧ (¬ x_3 = 0 → K t_2))) a_1 t)
set_option maxRecDepth 20000 in
theorem S_X7_giveOneMore_0 {Γ : xΓ} {K : xT → Prop} (hl : (gl Γ).stackTraces = false) (ht : (gM Γ).sig.returnType = none) (hr : xRet Γ (xKv K)) {a0 : Nat} {t : xT} {rc rs : Nat} (h : V_X7_giveOneMore_0 K a0 t) : xX Γ k_X7_giveOneMore 0 [(0, .ref a0)] [] t rc rs := by
  unfold V_X7_giveOneMore_0 at h
  refine x_aload_n 0 dX7_giveOneMore_0 rfl rfl ?_
  obtain ⟨fs, hf, a_1, hv, h⟩ := h
  refine x_get dX7_giveOneMore_1 xf_X7_16 hf hv ?_
  obtain ⟨⟨fs, hf⟩, h⟩ := h
  refine x_invV (as := []) (rest := []) dX7_giveOneMore_4 (q := (RJx4a65c, TJx4a65c, 3)) rfl xc_X7_giveOneMore_339 hf (M_Jx4a65c_isEmpty_aae02 hl h) rfl rfl (Nat.le_of_ble_eq_true rfl) (Nat.zero_le _) (Nat.zero_le _) (xk_i fun x_3 t_2 h => ?_)
  obtain ⟨h1, h2⟩ := h
  refine x_if_eq (tgt := 11) dX7_giveOneMore_7 (by decide) (fun q => ?_) (fun q => ?_)
  · have h := h1 q
    refine x_aload_n 0 dX7_giveOneMore_11 rfl rfl ?_
    obtain ⟨fs, hf, a_4, hv, h⟩ := h
    refine x_get dX7_giveOneMore_12 xf_X7_16 hf hv ?_
    refine x_iconst (v := (0 : Int32)) dX7_giveOneMore_15 (by decide) ?_
    obtain ⟨⟨fs, hf⟩, h⟩ := h
    refine x_invV (as := [.int (0 : Int32)]) (rest := []) dX7_giveOneMore_16 (q := (RJx4a65c, TJx4a65c, 3)) rfl xc_X7_giveOneMore_149 hf (M_Jx4a65c_get_915e3 hl h) rfl rfl (Nat.le_of_ble_eq_true rfl) (Nat.zero_le _) (Nat.zero_le _) (xk_r fun o_6 t_5 h => ?_)
    obtain ⟨a_7, e, h⟩ := h
    revert h
    subst e
    intro h
    obtain ⟨⟨fs, hf⟩, h⟩ := h
    refine x_ccast dX7_giveOneMore_19 (q := (RX3, TX3, 11)) rfl xw429 hf ?_
    obtain ⟨fs, hf, a_8, hv, h⟩ := h
    refine x_get dX7_giveOneMore_22 xf_X7_311 hf hv ?_
    refine x_astore_n (L' := [(1, .ref a_8), (0, .ref a0)]) dX7_giveOneMore_25 rfl (by decide) rfl ?_
    refine x_iconst (v := (1 : Int32)) dX7_giveOneMore_26 (by decide) ?_
    refine x_istore_n (L' := [(2, .int (1 : Int32)), (1, .ref a_8), (0, .ref a0)]) dX7_giveOneMore_27 rfl (by decide) rfl ?_
    obtain ⟨f_9, h⟩ := h
    refine x_sub (L' := [(0, .ref a0), (1, .ref a_8), (2, .int (1 : Int32))]) [2, 1, 0] rfl ?_
    exact S_X7_giveOneMore_28 hl ht hr  f_9 a0 a_8 (1 : Int32) t_5 _ _ h
  · have h := h2 q
    exact x_vret dX7_giveOneMore_10 hr ht ⟨rfl, h⟩
theorem M_X7_giveOneMore {l : Launch} {G : xG} (hl : l.stackTraces = false) {a0 : Nat} {t : xT} {K : xT → Prop} (h : V_X7_giveOneMore_0 K a0 t) : xMet l G yX7_giveOneMore k_X7_giveOneMore none [.ref a0] t (xKv K) 0 0 := xMet.of (by decide +kernel) rfl hl (Nat.le_of_ble_eq_true rfl) (fun Γ e1 e2 ht hn hr => by subst e1; subst e2; exact S_X7_giveOneMore_0 hl ht hr h)
/-! RentStream$HeatShare.takeWhole(IJ)I -/
def V_X2_takeWhole_0 (K : Int32 → xT → Prop) (a0 : Nat) (x1 : Int32) (y2 : Int64) (t : xT) : Prop :=
  (((0 : Int64) < y2 → xgI t a0 2 1 fun x_1 => (¬ y2 = 0 ∧ (¬ y2 = 0 ∧ (xpF t a0 2 2 (.long (xlrem (x1.toInt64 * x_1.toInt64) y2)) fun t_2 => xgI t_2 a0 2 0 fun x_3 => (xpF t_2 a0 2 0 (.int (x_3 + ((x1.toInt64 * x_1.toInt64) / y2).toInt32)) fun t_4 => K (((x1.toInt64 * x_1.toInt64) / y2).toInt32) t_4))))) ∧ (¬ (0 : Int64) < y2 → K (0 : Int32) t))
set_option maxRecDepth 20000 in
theorem S_X2_takeWhole_0 {Γ : xΓ} {K : Int32 → xT → Prop} (hl : (gl Γ).stackTraces = false) (ht : (gM Γ).sig.returnType = (some .int)) (hr : xRet Γ (xKi K)) {a0 : Nat} {x1 : Int32} {y2 : Int64} {t : xT} {rc rs : Nat} (h : V_X2_takeWhole_0 K a0 x1 y2 t) : xX Γ k_X2_takeWhole 0 [(0, .ref a0), (1, .int x1), (2, .long y2)] [] t rc rs := by
  unfold V_X2_takeWhole_0 at h
  refine x_lload_n 2 dX2_takeWhole_0 rfl rfl ?_
  refine x_lconst (v := (0 : Int64)) dX2_takeWhole_1 (by decide) ?_
  obtain ⟨h1, h2⟩ := h
  refine x_lcmp_gt (tgt := 8) dX2_takeWhole_2 dX2_takeWhole_3 (by decide) (fun q => ?_) (fun q => ?_)
  · have h := h1 q
    refine x_iload_n 1 dX2_takeWhole_8 rfl rfl ?_
    refine x_i2l dX2_takeWhole_9 ?_
    refine x_aload_n 0 dX2_takeWhole_10 rfl rfl ?_
    obtain ⟨fs, hf, x_1, hv, h⟩ := h
    refine x_get dX2_takeWhole_11 xf_X2_13 hf hv ?_
    refine x_i2l dX2_takeWhole_14 ?_
    refine x_lmul dX2_takeWhole_15 ?_
    refine x_lstore (L' := [(4, .long (x1.toInt64 * x_1.toInt64)), (0, .ref a0), (1, .int x1), (2, .long y2)]) dX2_takeWhole_16 (by decide) rfl ?_
    refine x_lload 0 dX2_takeWhole_18 rfl ?_
    refine x_lload_n 3 dX2_takeWhole_20 rfl rfl ?_
    obtain ⟨q, h⟩ := h
    refine x_ldiv dX2_takeWhole_21 q ?_
    refine x_l2i dX2_takeWhole_22 ?_
    refine x_istore (L' := [(6, .int ((x1.toInt64 * x_1.toInt64) / y2).toInt32), (4, .long (x1.toInt64 * x_1.toInt64)), (0, .ref a0), (1, .int x1), (2, .long y2)]) dX2_takeWhole_23 (by decide) rfl ?_
    refine x_aload_n 2 dX2_takeWhole_25 rfl rfl ?_
    refine x_lload 1 dX2_takeWhole_26 rfl ?_
    refine x_lload_n 4 dX2_takeWhole_28 rfl rfl ?_
    obtain ⟨q, h⟩ := h
    refine x_lrem dX2_takeWhole_29 q ?_
    obtain ⟨fs, hf, hk, h⟩ := h
    refine x_put (v := .long (xlrem (x1.toInt64 * x_1.toInt64) y2)) dX2_takeWhole_30 xp_X2_16 hf rfl rfl hk ?_
    generalize hT : xup t a0 _ = t_2 at h ⊢
    clear hT
    refine x_aload_n 2 dX2_takeWhole_33 rfl rfl ?_
    refine x_dup dX2_takeWhole_34 rfl ?_
    obtain ⟨fs, hf, x_3, hv, h⟩ := h
    refine x_get dX2_takeWhole_35 xf_X2_7 hf hv ?_
    refine x_iload 0 dX2_takeWhole_38 rfl ?_
    refine x_iadd dX2_takeWhole_40 ?_
    obtain ⟨fs, hf, hk, h⟩ := h
    refine x_put (v := .int (x_3 + ((x1.toInt64 * x_1.toInt64) / y2).toInt32)) dX2_takeWhole_41 xp_X2_7 hf rfl rfl hk ?_
    generalize hT : xup t_2 a0 _ = t_4 at h ⊢
    clear hT
    refine x_iload 0 dX2_takeWhole_44 rfl ?_
    exact x_zret dX2_takeWhole_46 hr ht rfl ⟨_, rfl, h⟩
  · have h := h2 q
    refine x_iconst (v := (0 : Int32)) dX2_takeWhole_6 (by decide) ?_
    exact x_zret dX2_takeWhole_7 hr ht rfl ⟨_, rfl, h⟩
theorem M_X2_takeWhole {l : Launch} {G : xG} (hl : l.stackTraces = false) {a0 : Nat} {x1 : Int32} {y2 : Int64} {t : xT} {K : Int32 → xT → Prop} (h : V_X2_takeWhole_0 K a0 x1 y2 t) : xMet l G yX2_takeWhole k_X2_takeWhole (some .int) [.ref a0, .int x1, .long y2] t (xKi K) 0 0 := xMet.of (by decide +kernel) rfl hl (Nat.le_of_ble_eq_true rfl) (fun Γ e1 e2 ht hn hr => by subst e1; subst e2; exact S_X2_takeWhole_0 hl ht hr h)
/-! RentStream.shareByWeights(I)V -/
def VS_X7_shareByWeights_104 (R104 : Nat → Int32 → Int32 → xT → Prop) (K : xT → Prop) (a0 : Nat) (x4 : Int32) (x5 : Int32) (t : xT) : Prop :=
  ((x4 ≤ x5 → K t) ∧ (¬ x4 ≤ x5 → (xis t a0 7 ∧ V_X7_giveOneMore_0 (fun t_1 => R104 a0 x4 (x5 + 1) t_1) a0 t)))
def V_X7_shareByWeights_104 (K : xT → Prop) (n : Nat) : Nat → Int32 → Int32 → xT → Prop := Nat.rec (fun _ _ _ _ => False) (fun _ ih => VS_X7_shareByWeights_104 ih K) n
set_option maxRecDepth 20000 in
theorem S_X7_shareByWeights_104 {Γ : xΓ} {K : xT → Prop} (hl : (gl Γ).stackTraces = false) (ht : (gM Γ).sig.returnType = none) (hr : xRet Γ (xKv K)) : ∀ (n : Nat) (a0 : Nat) (x4 : Int32) (x5 : Int32) (t : xT) (rc rs : Nat), V_X7_shareByWeights_104 K n a0 x4 x5 t → xX Γ k_X7_shareByWeights 104 [(0, .ref a0), (4, .int x4), (5, .int x5)] [] t rc rs := by
  intro n
  induction n with
  | zero =>
    intro a0 x4 x5 t rc rs h
    exact h.elim
  | succ n ih =>
    intro a0 x4 x5 t rc rs h
    replace h : VS_X7_shareByWeights_104 (V_X7_shareByWeights_104 K n) K a0 x4 x5 t := h
    unfold VS_X7_shareByWeights_104 at h
    refine x_iload 2 dX7_shareByWeights_104 rfl ?_
    refine x_iload 1 dX7_shareByWeights_106 rfl ?_
    obtain ⟨h1, h2⟩ := h
    refine x_icmp_ge (tgt := 121) dX7_shareByWeights_108 (by decide) (fun q => ?_) (fun q => ?_)
    · have h := h1 q
      exact x_vret dX7_shareByWeights_121 hr ht ⟨rfl, h⟩
    · have h := h2 q
      refine x_aload_n 0 dX7_shareByWeights_111 rfl rfl ?_
      obtain ⟨⟨fs, hf⟩, h⟩ := h
      refine x_invV (as := []) (rest := []) dX7_shareByWeights_112 (q := (RX7, TX7, 10)) rfl xc_X7_shareByWeights_336 hf (M_X7_giveOneMore hl h) rfl rfl (Nat.le_of_ble_eq_true rfl) (Nat.zero_le _) (Nat.zero_le _) (xk_v fun t_1 h => ?_)
      refine x_iinc (v := (x5 + 1)) (L' := [(5, .int (x5 + 1)), (0, .ref a0), (4, .int x4)]) (j := 2) dX7_shareByWeights_115 rfl rfl (by decide) rfl ?_
      refine x_goto (tgt := 104) dX7_shareByWeights_118 (by decide) ?_
      refine x_sub (L' := [(0, .ref a0), (4, .int x4), (5, .int (x5 + 1))]) [1, 2, 0] rfl ?_
      exact ih a0 x4 (x5 + 1) t_1 _ _ h
def VS_X7_shareByWeights_58 (R58 : Nat → Int32 → Int64 → Int32 → Int32 → xT → Prop) (K : xT → Prop) (a0 : Nat) (x1 : Int32) (y2 : Int64) (x4 : Int32) (x5 : Int32) (t : xT) : Prop :=
  xgR t a0 7 1 fun a_1 => (xis t a_1 10 ∧ V_Jx4a65c_size_8abf5_0 (fun x_3 t_2 => ((x_3 ≤ x5 → ∃ f_4 : Nat, V_X7_shareByWeights_104 K f_4 a0 x4 (0 : Int32) t_2) ∧ (¬ x_3 ≤ x5 → xgR t_2 a0 7 1 fun a_5 => (xis t_2 a_5 10 ∧ V_Jx4a65c_get_915e3_0 (fun o_7 t_6 => xnl o_7 fun a_8 => (xis t_6 a_8 3 ∧ xgR t_6 a_8 3 4 fun a_9 => (xis t_6 a_9 2 ∧ V_X2_takeWhole_0 (fun x_11 t_10 => R58 a0 x1 y2 (x4 - x_11) (x5 + 1) t_10) a_9 x1 y2 t_6))) a_5 x5 t_2)))) a_1 t)
def V_X7_shareByWeights_58 (K : xT → Prop) (n : Nat) : Nat → Int32 → Int64 → Int32 → Int32 → xT → Prop := Nat.rec (fun _ _ _ _ _ _ => False) (fun _ ih => VS_X7_shareByWeights_58 ih K) n
set_option maxRecDepth 20000 in
theorem S_X7_shareByWeights_58 {Γ : xΓ} {K : xT → Prop} (hl : (gl Γ).stackTraces = false) (ht : (gM Γ).sig.returnType = none) (hr : xRet Γ (xKv K)) : ∀ (n : Nat) (a0 : Nat) (x1 : Int32) (y2 : Int64) (x4 : Int32) (x5 : Int32) (t : xT) (rc rs : Nat), V_X7_shareByWeights_58 K n a0 x1 y2 x4 x5 t → xX Γ k_X7_shareByWeights 58 [(0, .ref a0), (1, .int x1), (2, .long y2), (4, .int x4), (5, .int x5)] [] t rc rs := by
  intro n
  induction n with
  | zero =>
    intro a0 x1 y2 x4 x5 t rc rs h
    exact h.elim
  | succ n ih =>
    intro a0 x1 y2 x4 x5 t rc rs h
    replace h : VS_X7_shareByWeights_58 (V_X7_shareByWeights_58 K n) K a0 x1 y2 x4 x5 t := h
    unfold VS_X7_shareByWeights_58 at h
    refine x_iload 4 dX7_shareByWeights_58 rfl ?_
    refine x_aload_n 0 dX7_shareByWeights_60 rfl rfl ?_
    obtain ⟨fs, hf, a_1, hv, h⟩ := h
    refine x_get dX7_shareByWeights_61 xf_X7_16 hf hv ?_
    obtain ⟨⟨fs, hf⟩, h⟩ := h
    refine x_invV (as := []) (rest := [.int x5]) dX7_shareByWeights_64 (q := (RJx4a65c, TJx4a65c, 3)) rfl xc_X7_shareByWeights_66 hf (M_Jx4a65c_size_8abf5 hl h) rfl rfl (Nat.le_of_ble_eq_true rfl) (Nat.zero_le _) (Nat.zero_le _) (xk_i fun x_3 t_2 h => ?_)
    obtain ⟨h1, h2⟩ := h
    refine x_icmp_ge (tgt := 101) dX7_shareByWeights_67 (by decide) (fun q => ?_) (fun q => ?_)
    · have h := h1 q
      refine x_iconst (v := (0 : Int32)) dX7_shareByWeights_101 (by decide) ?_
      refine x_istore (L' := [(5, .int (0 : Int32)), (0, .ref a0), (1, .int x1), (2, .long y2), (4, .int x4)]) dX7_shareByWeights_102 (by decide) rfl ?_
      obtain ⟨f_4, h⟩ := h
      refine x_sub (L' := [(0, .ref a0), (4, .int x4), (5, .int (0 : Int32))]) [1, 4, 0] rfl ?_
      exact S_X7_shareByWeights_104 hl ht hr  f_4 a0 x4 (0 : Int32) t_2 _ _ h
    · have h := h2 q
      refine x_iload 3 dX7_shareByWeights_70 rfl ?_
      refine x_aload_n 0 dX7_shareByWeights_72 rfl rfl ?_
      obtain ⟨fs, hf, a_5, hv, h⟩ := h
      refine x_get dX7_shareByWeights_73 xf_X7_16 hf hv ?_
      refine x_iload 4 dX7_shareByWeights_76 rfl ?_
      obtain ⟨⟨fs, hf⟩, h⟩ := h
      refine x_invV (as := [.int x5]) (rest := [.int x4]) dX7_shareByWeights_78 (q := (RJx4a65c, TJx4a65c, 3)) rfl xc_X7_shareByWeights_149 hf (M_Jx4a65c_get_915e3 hl h) rfl rfl (Nat.le_of_ble_eq_true rfl) (Nat.zero_le _) (Nat.zero_le _) (xk_r fun o_7 t_6 h => ?_)
      obtain ⟨a_8, e, h⟩ := h
      revert h
      subst e
      intro h
      obtain ⟨⟨fs, hf⟩, h⟩ := h
      refine x_ccast dX7_shareByWeights_81 (q := (RX3, TX3, 11)) rfl xw429 hf ?_
      obtain ⟨fs, hf, a_9, hv, h⟩ := h
      refine x_get dX7_shareByWeights_84 xf_X7_311 hf hv ?_
      refine x_iload_n 1 dX7_shareByWeights_87 rfl rfl ?_
      refine x_lload_n 2 dX7_shareByWeights_88 rfl rfl ?_
      obtain ⟨⟨fs, hf⟩, h⟩ := h
      refine x_invV (as := [.int x1, .long y2]) (rest := [.int x4]) dX7_shareByWeights_89 (q := (RX2, TX2, 3)) rfl xc_X7_shareByWeights_332 hf (M_X2_takeWhole hl h) rfl rfl (Nat.le_of_ble_eq_true rfl) (Nat.zero_le _) (Nat.zero_le _) (xk_i fun x_11 t_10 h => ?_)
      refine x_isub dX7_shareByWeights_92 ?_
      refine x_istore (L' := [(4, .int (x4 - x_11)), (0, .ref a0), (1, .int x1), (2, .long y2), (5, .int x5)]) dX7_shareByWeights_93 (by decide) rfl ?_
      refine x_iinc (v := (x5 + 1)) (L' := [(5, .int (x5 + 1)), (4, .int (x4 - x_11)), (0, .ref a0), (1, .int x1), (2, .long y2)]) (j := 4) dX7_shareByWeights_95 rfl rfl (by decide) rfl ?_
      refine x_goto (tgt := 58) dX7_shareByWeights_98 (by decide) ?_
      refine x_sub (L' := [(0, .ref a0), (1, .int x1), (2, .long y2), (4, .int (x4 - x_11)), (5, .int (x5 + 1))]) [2, 3, 4, 1, 0] rfl ?_
      exact ih a0 x1 y2 (x4 - x_11) (x5 + 1) t_10 _ _ h
def VS_X7_shareByWeights_5 (R5 : Nat → Int32 → Int64 → Int32 → xT → Prop) (K : xT → Prop) (a0 : Nat) (x1 : Int32) (y2 : Int64) (x4 : Int32) (t : xT) : Prop :=
  xgR t a0 7 1 fun a_1 => (xis t a_1 10 ∧ V_Jx4a65c_size_8abf5_0 (fun x_3 t_2 => ((x_3 ≤ x4 → (((0 : Int64) < y2 → ∃ f_4 : Nat, V_X7_shareByWeights_58 K f_4 a0 x1 y2 x1 (0 : Int32) t_2) ∧ (¬ (0 : Int64) < y2 → K t_2))) ∧ (¬ x_3 ≤ x4 → xgR t_2 a0 7 1 fun a_5 => (xis t_2 a_5 10 ∧ V_Jx4a65c_get_915e3_0 (fun o_7 t_6 => xnl o_7 fun a_8 => (xis t_6 a_8 3 ∧ xgR t_6 a_8 3 4 fun a_9 => xgI t_6 a_9 2 1 fun x_10 => R5 a0 x1 (y2 + x_10.toInt64) (x4 + 1) t_6)) a_5 x4 t_2)))) a_1 t)
def V_X7_shareByWeights_5 (K : xT → Prop) (n : Nat) : Nat → Int32 → Int64 → Int32 → xT → Prop := Nat.rec (fun _ _ _ _ _ => False) (fun _ ih => VS_X7_shareByWeights_5 ih K) n
set_option maxRecDepth 20000 in
theorem S_X7_shareByWeights_5 {Γ : xΓ} {K : xT → Prop} (hl : (gl Γ).stackTraces = false) (ht : (gM Γ).sig.returnType = none) (hr : xRet Γ (xKv K)) : ∀ (n : Nat) (a0 : Nat) (x1 : Int32) (y2 : Int64) (x4 : Int32) (t : xT) (rc rs : Nat), V_X7_shareByWeights_5 K n a0 x1 y2 x4 t → xX Γ k_X7_shareByWeights 5 [(0, .ref a0), (1, .int x1), (2, .long y2), (4, .int x4)] [] t rc rs := by
  intro n
  induction n with
  | zero =>
    intro a0 x1 y2 x4 t rc rs h
    exact h.elim
  | succ n ih =>
    intro a0 x1 y2 x4 t rc rs h
    replace h : VS_X7_shareByWeights_5 (V_X7_shareByWeights_5 K n) K a0 x1 y2 x4 t := h
    unfold VS_X7_shareByWeights_5 at h
    refine x_iload 3 dX7_shareByWeights_5 rfl ?_
    refine x_aload_n 0 dX7_shareByWeights_7 rfl rfl ?_
    obtain ⟨fs, hf, a_1, hv, h⟩ := h
    refine x_get dX7_shareByWeights_8 xf_X7_16 hf hv ?_
    obtain ⟨⟨fs, hf⟩, h⟩ := h
    refine x_invV (as := []) (rest := [.int x4]) dX7_shareByWeights_11 (q := (RJx4a65c, TJx4a65c, 3)) rfl xc_X7_shareByWeights_66 hf (M_Jx4a65c_size_8abf5 hl h) rfl rfl (Nat.le_of_ble_eq_true rfl) (Nat.zero_le _) (Nat.zero_le _) (xk_i fun x_3 t_2 h => ?_)
    obtain ⟨h1, h2⟩ := h
    refine x_icmp_ge (tgt := 45) dX7_shareByWeights_14 (by decide) (fun q => ?_) (fun q => ?_)
    · have h := h1 q
      refine x_lload_n 2 dX7_shareByWeights_45 rfl rfl ?_
      refine x_lconst (v := (0 : Int64)) dX7_shareByWeights_46 (by decide) ?_
      obtain ⟨h1, h2⟩ := h
      refine x_lcmp_gt (tgt := 52) dX7_shareByWeights_47 dX7_shareByWeights_48 (by decide) (fun q => ?_) (fun q => ?_)
      · have h := h1 q
        refine x_iload_n 1 dX7_shareByWeights_52 rfl rfl ?_
        refine x_istore (L' := [(4, .int x1), (0, .ref a0), (1, .int x1), (2, .long y2)]) dX7_shareByWeights_53 (by decide) rfl ?_
        refine x_iconst (v := (0 : Int32)) dX7_shareByWeights_55 (by decide) ?_
        refine x_istore (L' := [(5, .int (0 : Int32)), (4, .int x1), (0, .ref a0), (1, .int x1), (2, .long y2)]) dX7_shareByWeights_56 (by decide) rfl ?_
        obtain ⟨f_4, h⟩ := h
        refine x_sub (L' := [(0, .ref a0), (1, .int x1), (2, .long y2), (4, .int x1), (5, .int (0 : Int32))]) [2, 3, 4, 1, 0] rfl ?_
        exact S_X7_shareByWeights_58 hl ht hr  f_4 a0 x1 y2 x1 (0 : Int32) t_2 _ _ h
      · have h := h2 q
        exact x_vret dX7_shareByWeights_51 hr ht ⟨rfl, h⟩
    · have h := h2 q
      refine x_lload_n 2 dX7_shareByWeights_17 rfl rfl ?_
      refine x_aload_n 0 dX7_shareByWeights_18 rfl rfl ?_
      obtain ⟨fs, hf, a_5, hv, h⟩ := h
      refine x_get dX7_shareByWeights_19 xf_X7_16 hf hv ?_
      refine x_iload 3 dX7_shareByWeights_22 rfl ?_
      obtain ⟨⟨fs, hf⟩, h⟩ := h
      refine x_invV (as := [.int x4]) (rest := [.long y2]) dX7_shareByWeights_24 (q := (RJx4a65c, TJx4a65c, 3)) rfl xc_X7_shareByWeights_149 hf (M_Jx4a65c_get_915e3 hl h) rfl rfl (Nat.le_of_ble_eq_true rfl) (Nat.zero_le _) (Nat.zero_le _) (xk_r fun o_7 t_6 h => ?_)
      obtain ⟨a_8, e, h⟩ := h
      revert h
      subst e
      intro h
      obtain ⟨⟨fs, hf⟩, h⟩ := h
      refine x_ccast dX7_shareByWeights_27 (q := (RX3, TX3, 11)) rfl xw429 hf ?_
      obtain ⟨fs, hf, a_9, hv, h⟩ := h
      refine x_get dX7_shareByWeights_30 xf_X7_311 hf hv ?_
      obtain ⟨fs, hf, x_10, hv, h⟩ := h
      refine x_get dX7_shareByWeights_33 xf_X7_323 hf hv ?_
      refine x_i2l dX7_shareByWeights_36 ?_
      refine x_ladd dX7_shareByWeights_37 ?_
      refine x_lstore_n (L' := [(2, .long (y2 + x_10.toInt64)), (0, .ref a0), (1, .int x1), (4, .int x4)]) dX7_shareByWeights_38 rfl (by decide) rfl ?_
      refine x_iinc (v := (x4 + 1)) (L' := [(4, .int (x4 + 1)), (2, .long (y2 + x_10.toInt64)), (0, .ref a0), (1, .int x1)]) (j := 3) dX7_shareByWeights_39 rfl rfl (by decide) rfl ?_
      refine x_goto (tgt := 5) dX7_shareByWeights_42 (by decide) ?_
      refine x_sub (L' := [(0, .ref a0), (1, .int x1), (2, .long (y2 + x_10.toInt64)), (4, .int (x4 + 1))]) [2, 3, 1, 0] rfl ?_
      exact ih a0 x1 (y2 + x_10.toInt64) (x4 + 1) t_6 _ _ h
def V_X7_shareByWeights_0 (K : xT → Prop) (a0 : Nat) (x1 : Int32) (t : xT) : Prop :=
  ∃ f_1 : Nat, V_X7_shareByWeights_5 K f_1 a0 x1 (0 : Int64) (0 : Int32) t
set_option maxRecDepth 20000 in
theorem S_X7_shareByWeights_0 {Γ : xΓ} {K : xT → Prop} (hl : (gl Γ).stackTraces = false) (ht : (gM Γ).sig.returnType = none) (hr : xRet Γ (xKv K)) {a0 : Nat} {x1 : Int32} {t : xT} {rc rs : Nat} (h : V_X7_shareByWeights_0 K a0 x1 t) : xX Γ k_X7_shareByWeights 0 [(0, .ref a0), (1, .int x1)] [] t rc rs := by
  unfold V_X7_shareByWeights_0 at h
  refine x_lconst (v := (0 : Int64)) dX7_shareByWeights_0 (by decide) ?_
  refine x_lstore_n (L' := [(2, .long (0 : Int64)), (0, .ref a0), (1, .int x1)]) dX7_shareByWeights_1 rfl (by decide) rfl ?_
  refine x_iconst (v := (0 : Int32)) dX7_shareByWeights_2 (by decide) ?_
  refine x_istore (L' := [(4, .int (0 : Int32)), (2, .long (0 : Int64)), (0, .ref a0), (1, .int x1)]) dX7_shareByWeights_3 (by decide) rfl ?_
  obtain ⟨f_1, h⟩ := h
  refine x_sub (L' := [(0, .ref a0), (1, .int x1), (2, .long (0 : Int64)), (4, .int (0 : Int32))]) [2, 3, 1, 0] rfl ?_
  exact S_X7_shareByWeights_5 hl ht hr  f_1 a0 x1 (0 : Int64) (0 : Int32) t _ _ h
theorem M_X7_shareByWeights {l : Launch} {G : xG} (hl : l.stackTraces = false) {a0 : Nat} {x1 : Int32} {t : xT} {K : xT → Prop} (h : V_X7_shareByWeights_0 K a0 x1 t) : xMet l G yX7_shareByWeights k_X7_shareByWeights none [.ref a0, .int x1] t (xKv K) 0 0 := xMet.of (by decide +kernel) rfl hl (Nat.le_of_ble_eq_true rfl) (fun Γ e1 e2 ht hn hr => by subst e1; subst e2; exact S_X7_shareByWeights_0 hl ht hr h)
/-! RentStream$Lease.useIn(I)I -/
def V_X3_useIn_0 (K : Int32 → xT → Prop) (a0 : Nat) (x1 : Int32) (t : xT) : Prop :=
  (xis t a0 3 ∧ V_X3_runsIn_0 (fun x_2 t_1 => ((x_2 = 0 → K (0 : Int32) t_1) ∧ (¬ x_2 = 0 → xgR t_1 a0 3 0 fun a_3 => xgR t_1 a_3 1 1 fun a_4 => (xis t_1 a_4 4 ∧ V_X4_in_0 (fun x_6 t_5 => K x_6 t_5) a_4 x1 t_1)))) a0 x1 t)
set_option maxRecDepth 20000 in
theorem S_X3_useIn_0 {Γ : xΓ} {K : Int32 → xT → Prop} (hl : (gl Γ).stackTraces = false) (ht : (gM Γ).sig.returnType = (some .int)) (hr : xRet Γ (xKi K)) {a0 : Nat} {x1 : Int32} {t : xT} {rc rs : Nat} (h : V_X3_useIn_0 K a0 x1 t) : xX Γ k_X3_useIn 0 [(0, .ref a0), (1, .int x1)] [] t rc rs := by
  unfold V_X3_useIn_0 at h
  refine x_aload_n 0 dX3_useIn_0 rfl rfl ?_
  refine x_iload_n 1 dX3_useIn_1 rfl rfl ?_
  obtain ⟨⟨fs, hf⟩, h⟩ := h
  refine x_invV (as := [.int x1]) (rest := []) dX3_useIn_2 (q := (RX3, TX3, 11)) rfl xc_X3_useIn_64 hf (M_X3_runsIn hl h) rfl rfl (Nat.le_of_ble_eq_true rfl) (Nat.zero_le _) (Nat.zero_le _) (xk_i fun x_2 t_1 h => ?_)
  obtain ⟨h1, h2⟩ := h
  refine x_if_eq (tgt := 22) dX3_useIn_5 (by decide) (fun q => ?_) (fun q => ?_)
  · have h := h1 q
    refine x_iconst (v := (0 : Int32)) dX3_useIn_22 (by decide) ?_
    exact x_zret dX3_useIn_23 hr ht rfl ⟨_, rfl, h⟩
  · have h := h2 q
    refine x_aload_n 0 dX3_useIn_8 rfl rfl ?_
    obtain ⟨fs, hf, a_3, hv, h⟩ := h
    refine x_get dX3_useIn_9 xf_X3_54 hf hv ?_
    obtain ⟨fs, hf, a_4, hv, h⟩ := h
    refine x_get dX3_useIn_12 xf_X3_68 hf hv ?_
    refine x_iload_n 1 dX3_useIn_15 rfl rfl ?_
    obtain ⟨⟨fs, hf⟩, h⟩ := h
    refine x_invV (as := [.int x1]) (rest := []) dX3_useIn_16 (q := (RX4, TX4, 1)) rfl xc_X3_useIn_73 hf (M_X4_in hl h) rfl rfl (Nat.le_of_ble_eq_true rfl) (Nat.zero_le _) (Nat.zero_le _) (xk_i fun x_6 t_5 h => ?_)
    refine x_goto (tgt := 23) dX3_useIn_19 (by decide) ?_
    exact x_zret dX3_useIn_23 hr ht rfl ⟨_, rfl, h⟩
theorem M_X3_useIn {l : Launch} {G : xG} (hl : l.stackTraces = false) {a0 : Nat} {x1 : Int32} {t : xT} {K : Int32 → xT → Prop} (h : V_X3_useIn_0 K a0 x1 t) : xMet l G yX3_useIn k_X3_useIn (some .int) [.ref a0, .int x1] t (xKi K) 0 0 := xMet.of (by decide +kernel) rfl hl (Nat.le_of_ble_eq_true rfl) (fun Γ e1 e2 ht hn hr => by subst e1; subst e2; exact S_X3_useIn_0 hl ht hr h)
/-! RentStream.usesOfAll(I)J -/
def VS_X7_usesOfAll_5 (R5 : Nat → Int32 → Int64 → Int32 → xT → Prop) (K : Int64 → xT → Prop) (a0 : Nat) (x1 : Int32) (y2 : Int64) (x4 : Int32) (t : xT) : Prop :=
  xgR t a0 7 1 fun a_1 => (xis t a_1 10 ∧ V_Jx4a65c_size_8abf5_0 (fun x_3 t_2 => ((x_3 ≤ x4 → K y2 t_2) ∧ (¬ x_3 ≤ x4 → xgR t_2 a0 7 1 fun a_4 => (xis t_2 a_4 10 ∧ V_Jx4a65c_get_915e3_0 (fun o_6 t_5 => xnl o_6 fun a_7 => (xis t_5 a_7 3 ∧ (xis t_5 a_7 3 ∧ V_X3_useIn_0 (fun x_9 t_8 => R5 a0 x1 (y2 + x_9.toInt64) (x4 + 1) t_8) a_7 x1 t_5))) a_4 x4 t_2)))) a_1 t)
def V_X7_usesOfAll_5 (K : Int64 → xT → Prop) (n : Nat) : Nat → Int32 → Int64 → Int32 → xT → Prop := Nat.rec (fun _ _ _ _ _ => False) (fun _ ih => VS_X7_usesOfAll_5 ih K) n
set_option maxRecDepth 20000 in
theorem S_X7_usesOfAll_5 {Γ : xΓ} {K : Int64 → xT → Prop} (hl : (gl Γ).stackTraces = false) (ht : (gM Γ).sig.returnType = (some .long)) (hr : xRet Γ (xKl K)) : ∀ (n : Nat) (a0 : Nat) (x1 : Int32) (y2 : Int64) (x4 : Int32) (t : xT) (rc rs : Nat), V_X7_usesOfAll_5 K n a0 x1 y2 x4 t → xX Γ k_X7_usesOfAll 5 [(0, .ref a0), (1, .int x1), (2, .long y2), (4, .int x4)] [] t rc rs := by
  intro n
  induction n with
  | zero =>
    intro a0 x1 y2 x4 t rc rs h
    exact h.elim
  | succ n ih =>
    intro a0 x1 y2 x4 t rc rs h
    replace h : VS_X7_usesOfAll_5 (V_X7_usesOfAll_5 K n) K a0 x1 y2 x4 t := h
    unfold VS_X7_usesOfAll_5 at h
    refine x_iload 3 dX7_usesOfAll_5 rfl ?_
    refine x_aload_n 0 dX7_usesOfAll_7 rfl rfl ?_
    obtain ⟨fs, hf, a_1, hv, h⟩ := h
    refine x_get dX7_usesOfAll_8 xf_X7_16 hf hv ?_
    obtain ⟨⟨fs, hf⟩, h⟩ := h
    refine x_invV (as := []) (rest := [.int x4]) dX7_usesOfAll_11 (q := (RJx4a65c, TJx4a65c, 3)) rfl xc_X7_usesOfAll_66 hf (M_Jx4a65c_size_8abf5 hl h) rfl rfl (Nat.le_of_ble_eq_true rfl) (Nat.zero_le _) (Nat.zero_le _) (xk_i fun x_3 t_2 h => ?_)
    obtain ⟨h1, h2⟩ := h
    refine x_icmp_ge (tgt := 43) dX7_usesOfAll_14 (by decide) (fun q => ?_) (fun q => ?_)
    · have h := h1 q
      refine x_lload_n 2 dX7_usesOfAll_43 rfl rfl ?_
      exact x_lret dX7_usesOfAll_44 hr ht ⟨_, rfl, h⟩
    · have h := h2 q
      refine x_lload_n 2 dX7_usesOfAll_17 rfl rfl ?_
      refine x_aload_n 0 dX7_usesOfAll_18 rfl rfl ?_
      obtain ⟨fs, hf, a_4, hv, h⟩ := h
      refine x_get dX7_usesOfAll_19 xf_X7_16 hf hv ?_
      refine x_iload 3 dX7_usesOfAll_22 rfl ?_
      obtain ⟨⟨fs, hf⟩, h⟩ := h
      refine x_invV (as := [.int x4]) (rest := [.long y2]) dX7_usesOfAll_24 (q := (RJx4a65c, TJx4a65c, 3)) rfl xc_X7_usesOfAll_149 hf (M_Jx4a65c_get_915e3 hl h) rfl rfl (Nat.le_of_ble_eq_true rfl) (Nat.zero_le _) (Nat.zero_le _) (xk_r fun o_6 t_5 h => ?_)
      obtain ⟨a_7, e, h⟩ := h
      revert h
      subst e
      intro h
      obtain ⟨⟨fs, hf⟩, h⟩ := h
      refine x_ccast dX7_usesOfAll_27 (q := (RX3, TX3, 11)) rfl xw429 hf ?_
      refine x_iload_n 1 dX7_usesOfAll_30 rfl rfl ?_
      obtain ⟨⟨fs, hf⟩, h⟩ := h
      refine x_invV (as := [.int x1]) (rest := [.long y2]) dX7_usesOfAll_31 (q := (RX3, TX3, 11)) rfl xc_X7_usesOfAll_329 hf (M_X3_useIn hl h) rfl rfl (Nat.le_of_ble_eq_true rfl) (Nat.zero_le _) (Nat.zero_le _) (xk_i fun x_9 t_8 h => ?_)
      refine x_i2l dX7_usesOfAll_34 ?_
      refine x_ladd dX7_usesOfAll_35 ?_
      refine x_lstore_n (L' := [(2, .long (y2 + x_9.toInt64)), (0, .ref a0), (1, .int x1), (4, .int x4)]) dX7_usesOfAll_36 rfl (by decide) rfl ?_
      refine x_iinc (v := (x4 + 1)) (L' := [(4, .int (x4 + 1)), (2, .long (y2 + x_9.toInt64)), (0, .ref a0), (1, .int x1)]) (j := 3) dX7_usesOfAll_37 rfl rfl (by decide) rfl ?_
      refine x_goto (tgt := 5) dX7_usesOfAll_40 (by decide) ?_
      refine x_sub (L' := [(0, .ref a0), (1, .int x1), (2, .long (y2 + x_9.toInt64)), (4, .int (x4 + 1))]) [2, 3, 1, 0] rfl ?_
      exact ih a0 x1 (y2 + x_9.toInt64) (x4 + 1) t_8 _ _ h
def V_X7_usesOfAll_0 (K : Int64 → xT → Prop) (a0 : Nat) (x1 : Int32) (t : xT) : Prop :=
  ∃ f_1 : Nat, V_X7_usesOfAll_5 K f_1 a0 x1 (0 : Int64) (0 : Int32) t
set_option maxRecDepth 20000 in
theorem S_X7_usesOfAll_0 {Γ : xΓ} {K : Int64 → xT → Prop} (hl : (gl Γ).stackTraces = false) (ht : (gM Γ).sig.returnType = (some .long)) (hr : xRet Γ (xKl K)) {a0 : Nat} {x1 : Int32} {t : xT} {rc rs : Nat} (h : V_X7_usesOfAll_0 K a0 x1 t) : xX Γ k_X7_usesOfAll 0 [(0, .ref a0), (1, .int x1)] [] t rc rs := by
  unfold V_X7_usesOfAll_0 at h
  refine x_lconst (v := (0 : Int64)) dX7_usesOfAll_0 (by decide) ?_
  refine x_lstore_n (L' := [(2, .long (0 : Int64)), (0, .ref a0), (1, .int x1)]) dX7_usesOfAll_1 rfl (by decide) rfl ?_
  refine x_iconst (v := (0 : Int32)) dX7_usesOfAll_2 (by decide) ?_
  refine x_istore (L' := [(4, .int (0 : Int32)), (2, .long (0 : Int64)), (0, .ref a0), (1, .int x1)]) dX7_usesOfAll_3 (by decide) rfl ?_
  obtain ⟨f_1, h⟩ := h
  refine x_sub (L' := [(0, .ref a0), (1, .int x1), (2, .long (0 : Int64)), (4, .int (0 : Int32))]) [2, 3, 1, 0] rfl ?_
  exact S_X7_usesOfAll_5 hl ht hr  f_1 a0 x1 (0 : Int64) (0 : Int32) t _ _ h
theorem M_X7_usesOfAll {l : Launch} {G : xG} (hl : l.stackTraces = false) {a0 : Nat} {x1 : Int32} {t : xT} {K : Int64 → xT → Prop} (h : V_X7_usesOfAll_0 K a0 x1 t) : xMet l G yX7_usesOfAll k_X7_usesOfAll (some .long) [.ref a0, .int x1] t (xKl K) 0 0 := xMet.of (by decide +kernel) rfl hl (Nat.le_of_ble_eq_true rfl) (fun Γ e1 e2 ht hn hr => by subst e1; subst e2; exact S_X7_usesOfAll_0 hl ht hr h)
/-! RentStream.shareHeat(I)V -/
def VS_X7_shareHeat_111 (R111 : Nat → Int32 → Int32 → Int32 → Int32 → xT → Prop) (K : xT → Prop) (a0 : Nat) (x1 : Int32) (x2 : Int32) (x3 : Int32) (x4 : Int32) (t : xT) : Prop :=
  xgR t a0 7 1 fun a_1 => (xis t a_1 10 ∧ V_Jx4a65c_size_8abf5_0 (fun x_3 t_2 => ((x_3 ≤ x4 → (xis t_2 a0 7 ∧ V_X7_shareByWeights_0 (fun t_4 => K t_4) a0 (x2 - x3) t_2)) ∧ (¬ x_3 ≤ x4 → xgR t_2 a0 7 1 fun a_5 => (xis t_2 a_5 10 ∧ V_Jx4a65c_get_915e3_0 (fun o_7 t_6 => xnl o_7 fun a_8 => (xis t_6 a_8 3 ∧ xgR t_6 a_8 3 4 fun a_9 => (xis t_6 a_8 3 ∧ V_X3_useIn_0 (fun x_11 t_10 => (xpF t_10 a_9 2 1 (.int x_11) fun t_12 => R111 a0 x1 x2 x3 (x4 + 1) t_12)) a_8 x1 t_6))) a_5 x4 t_2)))) a_1 t)
def V_X7_shareHeat_111 (K : xT → Prop) (n : Nat) : Nat → Int32 → Int32 → Int32 → Int32 → xT → Prop := Nat.rec (fun _ _ _ _ _ _ => False) (fun _ ih => VS_X7_shareHeat_111 ih K) n
set_option maxRecDepth 20000 in
theorem S_X7_shareHeat_111 {Γ : xΓ} {K : xT → Prop} (hl : (gl Γ).stackTraces = false) (ht : (gM Γ).sig.returnType = none) (hr : xRet Γ (xKv K)) : ∀ (n : Nat) (a0 : Nat) (x1 : Int32) (x2 : Int32) (x3 : Int32) (x4 : Int32) (t : xT) (rc rs : Nat), V_X7_shareHeat_111 K n a0 x1 x2 x3 x4 t → xX Γ k_X7_shareHeat 111 [(0, .ref a0), (1, .int x1), (2, .int x2), (3, .int x3), (4, .int x4)] [] t rc rs := by
  intro n
  induction n with
  | zero =>
    intro a0 x1 x2 x3 x4 t rc rs h
    exact h.elim
  | succ n ih =>
    intro a0 x1 x2 x3 x4 t rc rs h
    replace h : VS_X7_shareHeat_111 (V_X7_shareHeat_111 K n) K a0 x1 x2 x3 x4 t := h
    unfold VS_X7_shareHeat_111 at h
    refine x_iload 4 dX7_shareHeat_111 rfl ?_
    refine x_aload_n 0 dX7_shareHeat_113 rfl rfl ?_
    obtain ⟨fs, hf, a_1, hv, h⟩ := h
    refine x_get dX7_shareHeat_114 xf_X7_16 hf hv ?_
    obtain ⟨⟨fs, hf⟩, h⟩ := h
    refine x_invV (as := []) (rest := [.int x4]) dX7_shareHeat_117 (q := (RJx4a65c, TJx4a65c, 3)) rfl xc_X7_shareHeat_66 hf (M_Jx4a65c_size_8abf5 hl h) rfl rfl (Nat.le_of_ble_eq_true rfl) (Nat.zero_le _) (Nat.zero_le _) (xk_i fun x_3 t_2 h => ?_)
    obtain ⟨h1, h2⟩ := h
    refine x_icmp_ge (tgt := 157) dX7_shareHeat_120 (by decide) (fun q => ?_) (fun q => ?_)
    · have h := h1 q
      refine x_aload_n 0 dX7_shareHeat_157 rfl rfl ?_
      refine x_iload_n 2 dX7_shareHeat_158 rfl rfl ?_
      refine x_iload_n 3 dX7_shareHeat_159 rfl rfl ?_
      refine x_isub dX7_shareHeat_160 ?_
      obtain ⟨⟨fs, hf⟩, h⟩ := h
      refine x_invV (as := [.int (x2 - x3)]) (rest := []) dX7_shareHeat_161 (q := (RX7, TX7, 10)) rfl xc_X7_shareHeat_326 hf (M_X7_shareByWeights hl h) rfl rfl (Nat.le_of_ble_eq_true rfl) (Nat.zero_le _) (Nat.zero_le _) (xk_v fun t_4 h => ?_)
      exact x_vret dX7_shareHeat_164 hr ht ⟨rfl, h⟩
    · have h := h2 q
      refine x_aload_n 0 dX7_shareHeat_123 rfl rfl ?_
      obtain ⟨fs, hf, a_5, hv, h⟩ := h
      refine x_get dX7_shareHeat_124 xf_X7_16 hf hv ?_
      refine x_iload 4 dX7_shareHeat_127 rfl ?_
      obtain ⟨⟨fs, hf⟩, h⟩ := h
      refine x_invV (as := [.int x4]) (rest := []) dX7_shareHeat_129 (q := (RJx4a65c, TJx4a65c, 3)) rfl xc_X7_shareHeat_149 hf (M_Jx4a65c_get_915e3 hl h) rfl rfl (Nat.le_of_ble_eq_true rfl) (Nat.zero_le _) (Nat.zero_le _) (xk_r fun o_7 t_6 h => ?_)
      obtain ⟨a_8, e, h⟩ := h
      revert h
      subst e
      intro h
      obtain ⟨⟨fs, hf⟩, h⟩ := h
      refine x_ccast dX7_shareHeat_132 (q := (RX3, TX3, 11)) rfl xw429 hf ?_
      refine x_astore (L' := [(5, .ref a_8), (0, .ref a0), (1, .int x1), (2, .int x2), (3, .int x3), (4, .int x4)]) dX7_shareHeat_135 (by decide) rfl ?_
      refine x_aload 0 dX7_shareHeat_137 rfl ?_
      obtain ⟨fs, hf, a_9, hv, h⟩ := h
      refine x_get dX7_shareHeat_139 xf_X7_311 hf hv ?_
      refine x_aload 0 dX7_shareHeat_142 rfl ?_
      refine x_iload_n 2 dX7_shareHeat_144 rfl rfl ?_
      obtain ⟨⟨fs, hf⟩, h⟩ := h
      refine x_invV (as := [.int x1]) (rest := [.ref a_9]) dX7_shareHeat_145 (q := (RX3, TX3, 11)) rfl xc_X7_shareHeat_329 hf (M_X3_useIn hl h) rfl rfl (Nat.le_of_ble_eq_true rfl) (Nat.zero_le _) (Nat.zero_le _) (xk_i fun x_11 t_10 h => ?_)
      obtain ⟨fs, hf, hk, h⟩ := h
      refine x_put (v := .int x_11) dX7_shareHeat_148 xp_X7_323 hf rfl rfl hk ?_
      generalize hT : xup t_10 a_9 _ = t_12 at h ⊢
      clear hT
      refine x_iinc (v := (x4 + 1)) (L' := [(4, .int (x4 + 1)), (5, .ref a_8), (0, .ref a0), (1, .int x1), (2, .int x2), (3, .int x3)]) (j := 5) dX7_shareHeat_151 rfl rfl (by decide) rfl ?_
      refine x_goto (tgt := 111) dX7_shareHeat_154 (by decide) ?_
      refine x_sub (L' := [(0, .ref a0), (1, .int x1), (2, .int x2), (3, .int x3), (4, .int (x4 + 1))]) [2, 3, 4, 5, 0] rfl ?_
      exact ih a0 x1 x2 x3 (x4 + 1) t_12 _ _ h
def VS_X7_shareHeat_33 (R33 : Nat → Int32 → Int32 → Int32 → Int32 → xT → Prop) (K : xT → Prop) (a0 : Nat) (x1 : Int32) (x2 : Int32) (x3 : Int32) (x4 : Int32) (t : xT) : Prop :=
  xgR t a0 7 1 fun a_1 => (xis t a_1 10 ∧ V_Jx4a65c_size_8abf5_0 (fun x_3 t_2 => ((x_3 ≤ x4 → (xis t_2 a0 7 ∧ V_X7_shareByWeights_0 (fun t_4 => ∃ f_5 : Nat, V_X7_shareHeat_111 K f_5 a0 x1 x2 x3 (0 : Int32) t_4) a0 x3 t_2)) ∧ (¬ x_3 ≤ x4 → xgR t_2 a0 7 1 fun a_6 => (xis t_2 a_6 10 ∧ V_Jx4a65c_get_915e3_0 (fun o_8 t_7 => xnl o_8 fun a_9 => (xis t_7 a_9 3 ∧ xgR t_7 a_9 3 4 fun a_10 => (xpF t_7 a_10 2 0 (.int (0 : Int32)) fun t_11 => xgR t_11 a_9 3 4 fun a_12 => (xis t_11 a_9 3 ∧ V_X3_runsIn_0 (fun x_14 t_13 => ((x_14 = 0 → (xpF t_13 a_12 2 1 (.int (0 : Int32)) fun t_15 => R33 a0 x1 x2 x3 (x4 + 1) t_15)) ∧ (¬ x_14 = 0 → xgR t_13 a_9 3 0 fun a_16 => xgI t_13 a_16 1 0 fun x_17 => (xpF t_13 a_12 2 1 (.int x_17) fun t_18 => R33 a0 x1 x2 x3 (x4 + 1) t_18)))) a_9 x1 t_11)))) a_6 x4 t_2)))) a_1 t)
def V_X7_shareHeat_33 (K : xT → Prop) (n : Nat) : Nat → Int32 → Int32 → Int32 → Int32 → xT → Prop := Nat.rec (fun _ _ _ _ _ _ => False) (fun _ ih => VS_X7_shareHeat_33 ih K) n
set_option maxRecDepth 20000 in
theorem S_X7_shareHeat_33 {Γ : xΓ} {K : xT → Prop} (hl : (gl Γ).stackTraces = false) (ht : (gM Γ).sig.returnType = none) (hr : xRet Γ (xKv K)) : ∀ (n : Nat) (a0 : Nat) (x1 : Int32) (x2 : Int32) (x3 : Int32) (x4 : Int32) (t : xT) (rc rs : Nat), V_X7_shareHeat_33 K n a0 x1 x2 x3 x4 t → xX Γ k_X7_shareHeat 33 [(0, .ref a0), (1, .int x1), (2, .int x2), (3, .int x3), (4, .int x4)] [] t rc rs := by
  intro n
  induction n with
  | zero =>
    intro a0 x1 x2 x3 x4 t rc rs h
    exact h.elim
  | succ n ih =>
    intro a0 x1 x2 x3 x4 t rc rs h
    replace h : VS_X7_shareHeat_33 (V_X7_shareHeat_33 K n) K a0 x1 x2 x3 x4 t := h
    unfold VS_X7_shareHeat_33 at h
    refine x_iload 4 dX7_shareHeat_33 rfl ?_
    refine x_aload_n 0 dX7_shareHeat_35 rfl rfl ?_
    obtain ⟨fs, hf, a_1, hv, h⟩ := h
    refine x_get dX7_shareHeat_36 xf_X7_16 hf hv ?_
    obtain ⟨⟨fs, hf⟩, h⟩ := h
    refine x_invV (as := []) (rest := [.int x4]) dX7_shareHeat_39 (q := (RJx4a65c, TJx4a65c, 3)) rfl xc_X7_shareHeat_66 hf (M_Jx4a65c_size_8abf5 hl h) rfl rfl (Nat.le_of_ble_eq_true rfl) (Nat.zero_le _) (Nat.zero_le _) (xk_i fun x_3 t_2 h => ?_)
    obtain ⟨h1, h2⟩ := h
    refine x_icmp_ge (tgt := 103) dX7_shareHeat_42 (by decide) (fun q => ?_) (fun q => ?_)
    · have h := h1 q
      refine x_aload_n 0 dX7_shareHeat_103 rfl rfl ?_
      refine x_iload_n 3 dX7_shareHeat_104 rfl rfl ?_
      obtain ⟨⟨fs, hf⟩, h⟩ := h
      refine x_invV (as := [.int x3]) (rest := []) dX7_shareHeat_105 (q := (RX7, TX7, 10)) rfl xc_X7_shareHeat_326 hf (M_X7_shareByWeights hl h) rfl rfl (Nat.le_of_ble_eq_true rfl) (Nat.zero_le _) (Nat.zero_le _) (xk_v fun t_4 h => ?_)
      refine x_iconst (v := (0 : Int32)) dX7_shareHeat_108 (by decide) ?_
      refine x_istore (L' := [(4, .int (0 : Int32)), (0, .ref a0), (1, .int x1), (2, .int x2), (3, .int x3)]) dX7_shareHeat_109 (by decide) rfl ?_
      obtain ⟨f_5, h⟩ := h
      refine x_sub (L' := [(0, .ref a0), (1, .int x1), (2, .int x2), (3, .int x3), (4, .int (0 : Int32))]) [1, 2, 3, 4, 0] rfl ?_
      exact S_X7_shareHeat_111 hl ht hr  f_5 a0 x1 x2 x3 (0 : Int32) t_4 _ _ h
    · have h := h2 q
      refine x_aload_n 0 dX7_shareHeat_45 rfl rfl ?_
      obtain ⟨fs, hf, a_6, hv, h⟩ := h
      refine x_get dX7_shareHeat_46 xf_X7_16 hf hv ?_
      refine x_iload 4 dX7_shareHeat_49 rfl ?_
      obtain ⟨⟨fs, hf⟩, h⟩ := h
      refine x_invV (as := [.int x4]) (rest := []) dX7_shareHeat_51 (q := (RJx4a65c, TJx4a65c, 3)) rfl xc_X7_shareHeat_149 hf (M_Jx4a65c_get_915e3 hl h) rfl rfl (Nat.le_of_ble_eq_true rfl) (Nat.zero_le _) (Nat.zero_le _) (xk_r fun o_8 t_7 h => ?_)
      obtain ⟨a_9, e, h⟩ := h
      revert h
      subst e
      intro h
      obtain ⟨⟨fs, hf⟩, h⟩ := h
      refine x_ccast dX7_shareHeat_54 (q := (RX3, TX3, 11)) rfl xw429 hf ?_
      refine x_astore (L' := [(5, .ref a_9), (0, .ref a0), (1, .int x1), (2, .int x2), (3, .int x3), (4, .int x4)]) dX7_shareHeat_57 (by decide) rfl ?_
      refine x_aload 0 dX7_shareHeat_59 rfl ?_
      obtain ⟨fs, hf, a_10, hv, h⟩ := h
      refine x_get dX7_shareHeat_61 xf_X7_311 hf hv ?_
      refine x_iconst (v := (0 : Int32)) dX7_shareHeat_64 (by decide) ?_
      obtain ⟨fs, hf, hk, h⟩ := h
      refine x_put (v := .int (0 : Int32)) dX7_shareHeat_65 xp_X7_315 hf rfl rfl hk ?_
      generalize hT : xup t_7 a_10 _ = t_11 at h ⊢
      clear hT
      refine x_aload 0 dX7_shareHeat_68 rfl ?_
      obtain ⟨fs, hf, a_12, hv, h⟩ := h
      refine x_get dX7_shareHeat_70 xf_X7_311 hf hv ?_
      refine x_aload 0 dX7_shareHeat_73 rfl ?_
      refine x_iload_n 2 dX7_shareHeat_75 rfl rfl ?_
      obtain ⟨⟨fs, hf⟩, h⟩ := h
      refine x_invV (as := [.int x1]) (rest := [.ref a_12]) dX7_shareHeat_76 (q := (RX3, TX3, 11)) rfl xc_X7_shareHeat_209 hf (M_X3_runsIn hl h) rfl rfl (Nat.le_of_ble_eq_true rfl) (Nat.zero_le _) (Nat.zero_le _) (xk_i fun x_14 t_13 h => ?_)
      obtain ⟨h1, h2⟩ := h
      refine x_if_eq (tgt := 93) dX7_shareHeat_79 (by decide) (fun q => ?_) (fun q => ?_)
      · have h := h1 q
        refine x_iconst (v := (0 : Int32)) dX7_shareHeat_93 (by decide) ?_
        obtain ⟨fs, hf, hk, h⟩ := h
        refine x_put (v := .int (0 : Int32)) dX7_shareHeat_94 xp_X7_323 hf rfl rfl hk ?_
        generalize hT : xup t_13 a_12 _ = t_15 at h ⊢
        clear hT
        refine x_iinc (v := (x4 + 1)) (L' := [(4, .int (x4 + 1)), (5, .ref a_9), (0, .ref a0), (1, .int x1), (2, .int x2), (3, .int x3)]) (j := 5) dX7_shareHeat_97 rfl rfl (by decide) rfl ?_
        refine x_goto (tgt := 33) dX7_shareHeat_100 (by decide) ?_
        refine x_sub (L' := [(0, .ref a0), (1, .int x1), (2, .int x2), (3, .int x3), (4, .int (x4 + 1))]) [2, 3, 4, 5, 0] rfl ?_
        exact ih a0 x1 x2 x3 (x4 + 1) t_15 _ _ h
      · have h := h2 q
        refine x_aload 0 dX7_shareHeat_82 rfl ?_
        obtain ⟨fs, hf, a_16, hv, h⟩ := h
        refine x_get dX7_shareHeat_84 xf_X7_265 hf hv ?_
        obtain ⟨fs, hf, x_17, hv, h⟩ := h
        refine x_get dX7_shareHeat_87 xf_X7_320 hf hv ?_
        refine x_goto (tgt := 94) dX7_shareHeat_90 (by decide) ?_
        obtain ⟨fs, hf, hk, h⟩ := h
        refine x_put (v := .int x_17) dX7_shareHeat_94 xp_X7_323 hf rfl rfl hk ?_
        generalize hT : xup t_13 a_12 _ = t_18 at h ⊢
        clear hT
        refine x_iinc (v := (x4 + 1)) (L' := [(4, .int (x4 + 1)), (5, .ref a_9), (0, .ref a0), (1, .int x1), (2, .int x2), (3, .int x3)]) (j := 5) dX7_shareHeat_97 rfl rfl (by decide) rfl ?_
        refine x_goto (tgt := 33) dX7_shareHeat_100 (by decide) ?_
        refine x_sub (L' := [(0, .ref a0), (1, .int x1), (2, .int x2), (3, .int x3), (4, .int (x4 + 1))]) [2, 3, 4, 5, 0] rfl ?_
        exact ih a0 x1 x2 x3 (x4 + 1) t_18 _ _ h
def V_X7_shareHeat_0 (K : xT → Prop) (a0 : Nat) (x1 : Int32) (t : xT) : Prop :=
  xgR t a0 7 4 fun a_1 => (xis t a_1 4 ∧ V_X4_in_0 (fun x_3 t_2 => (xis t_2 a0 7 ∧ V_X7_usesOfAll_0 (fun y_5 t_4 => ((¬ y_5 = (0 : Int64) → (¬ (10 : Int32) = 0 ∧ ∃ f_6 : Nat, V_X7_shareHeat_33 K f_6 a0 x1 x_3 ((x_3 * (3 : Int32)) / (10 : Int32)) (0 : Int32) t_4)) ∧ (y_5 = (0 : Int64) → ∃ f_7 : Nat, V_X7_shareHeat_33 K f_7 a0 x1 x_3 x_3 (0 : Int32) t_4))) a0 x1 t_2)) a_1 x1 t)
set_option maxRecDepth 20000 in
theorem S_X7_shareHeat_0 {Γ : xΓ} {K : xT → Prop} (hl : (gl Γ).stackTraces = false) (ht : (gM Γ).sig.returnType = none) (hr : xRet Γ (xKv K)) {a0 : Nat} {x1 : Int32} {t : xT} {rc rs : Nat} (h : V_X7_shareHeat_0 K a0 x1 t) : xX Γ k_X7_shareHeat 0 [(0, .ref a0), (1, .int x1)] [] t rc rs := by
  unfold V_X7_shareHeat_0 at h
  refine x_aload_n 0 dX7_shareHeat_0 rfl rfl ?_
  obtain ⟨fs, hf, a_1, hv, h⟩ := h
  refine x_get dX7_shareHeat_1 xf_X7_31 hf hv ?_
  refine x_iload_n 1 dX7_shareHeat_4 rfl rfl ?_
  obtain ⟨⟨fs, hf⟩, h⟩ := h
  refine x_invV (as := [.int x1]) (rest := []) dX7_shareHeat_5 (q := (RX4, TX4, 1)) rfl xc_X7_shareHeat_114 hf (M_X4_in hl h) rfl rfl (Nat.le_of_ble_eq_true rfl) (Nat.zero_le _) (Nat.zero_le _) (xk_i fun x_3 t_2 h => ?_)
  refine x_istore_n (L' := [(2, .int x_3), (0, .ref a0), (1, .int x1)]) dX7_shareHeat_8 rfl (by decide) rfl ?_
  refine x_aload_n 1 dX7_shareHeat_9 rfl rfl ?_
  refine x_iload_n 2 dX7_shareHeat_10 rfl rfl ?_
  obtain ⟨⟨fs, hf⟩, h⟩ := h
  refine x_invV (as := [.int x1]) (rest := []) dX7_shareHeat_11 (q := (RX7, TX7, 10)) rfl xc_X7_shareHeat_307 hf (M_X7_usesOfAll hl h) rfl rfl (Nat.le_of_ble_eq_true rfl) (Nat.zero_le _) (Nat.zero_le _) (xk_l fun y_5 t_4 h => ?_)
  refine x_lconst (v := (0 : Int64)) dX7_shareHeat_14 (by decide) ?_
  obtain ⟨h1, h2⟩ := h
  refine x_lcmp_ne (tgt := 23) dX7_shareHeat_15 dX7_shareHeat_16 (by decide) (fun q => ?_) (fun q => ?_)
  · have h := h1 q
    refine x_iload_n 0 dX7_shareHeat_23 rfl rfl ?_
    refine x_iconst (v := (3 : Int32)) dX7_shareHeat_24 (by decide) ?_
    refine x_imul dX7_shareHeat_25 ?_
    refine x_bipush (v := (10 : Int32)) dX7_shareHeat_26 (by decide) ?_
    obtain ⟨q, h⟩ := h
    refine x_idiv dX7_shareHeat_28 q ?_
    refine x_istore_n (L' := [(3, .int ((x_3 * (3 : Int32)) / (10 : Int32))), (2, .int x_3), (0, .ref a0), (1, .int x1)]) dX7_shareHeat_29 rfl (by decide) rfl ?_
    refine x_iconst (v := (0 : Int32)) dX7_shareHeat_30 (by decide) ?_
    refine x_istore (L' := [(4, .int (0 : Int32)), (3, .int ((x_3 * (3 : Int32)) / (10 : Int32))), (2, .int x_3), (0, .ref a0), (1, .int x1)]) dX7_shareHeat_31 (by decide) rfl ?_
    obtain ⟨f_6, h⟩ := h
    refine x_sub (L' := [(0, .ref a0), (1, .int x1), (2, .int x_3), (3, .int ((x_3 * (3 : Int32)) / (10 : Int32))), (4, .int (0 : Int32))]) [3, 4, 2, 1, 0] rfl ?_
    exact S_X7_shareHeat_33 hl ht hr  f_6 a0 x1 x_3 ((x_3 * (3 : Int32)) / (10 : Int32)) (0 : Int32) t_4 _ _ h
  · have h := h2 q
    refine x_iload_n 0 dX7_shareHeat_19 rfl rfl ?_
    refine x_goto (tgt := 29) dX7_shareHeat_20 (by decide) ?_
    refine x_istore_n (L' := [(3, .int x_3), (2, .int x_3), (0, .ref a0), (1, .int x1)]) dX7_shareHeat_29 rfl (by decide) rfl ?_
    refine x_iconst (v := (0 : Int32)) dX7_shareHeat_30 (by decide) ?_
    refine x_istore (L' := [(4, .int (0 : Int32)), (3, .int x_3), (2, .int x_3), (0, .ref a0), (1, .int x1)]) dX7_shareHeat_31 (by decide) rfl ?_
    obtain ⟨f_7, h⟩ := h
    refine x_sub (L' := [(0, .ref a0), (1, .int x1), (2, .int x_3), (3, .int x_3), (4, .int (0 : Int32))]) [3, 4, 2, 1, 0] rfl ?_
    exact S_X7_shareHeat_33 hl ht hr  f_7 a0 x1 x_3 x_3 (0 : Int32) t_4 _ _ h
theorem M_X7_shareHeat {l : Launch} {G : xG} (hl : l.stackTraces = false) {a0 : Nat} {x1 : Int32} {t : xT} {K : xT → Prop} (h : V_X7_shareHeat_0 K a0 x1 t) : xMet l G yX7_shareHeat k_X7_shareHeat none [.ref a0, .int x1] t (xKv K) 0 0 := xMet.of (by decide +kernel) rfl hl (Nat.le_of_ble_eq_true rfl) (fun Γ e1 e2 ht hn hr => by subst e1; subst e2; exact S_X7_shareHeat_0 hl ht hr h)
/-! RentStream$Flat.guessedUse(I)I -/
def VS_X1_guessedUse_7 (R7 : Nat → Int32 → Int32 → Int32 → Int32 → xT → Prop) (K : Int32 → xT → Prop) (a0 : Nat) (x1 : Int32) (x2 : Int32) (x3 : Int32) (x4 : Int32) (t : xT) : Prop :=
  (((3 : Int32) < x4 → ((¬ x3 = 0 → (¬ x3 = 0 ∧ K (x2 / x3) t)) ∧ (x3 = 0 → K (0 : Int32) t))) ∧ (¬ (3 : Int32) < x4 → xgR t a0 1 1 fun a_1 => (xis t a_1 4 ∧ V_X4_in_0 (fun x_3 t_2 => ((x_3 = (-1 : Int32) → R7 a0 x1 x2 x3 (x4 + 1) t_2) ∧ (¬ x_3 = (-1 : Int32) → R7 a0 x1 (x2 + x_3) (x3 + 1) (x4 + 1) t_2))) a_1 (x1 - x4) t)))
def V_X1_guessedUse_7 (K : Int32 → xT → Prop) (n : Nat) : Nat → Int32 → Int32 → Int32 → Int32 → xT → Prop := Nat.rec (fun _ _ _ _ _ _ => False) (fun _ ih => VS_X1_guessedUse_7 ih K) n
set_option maxRecDepth 20000 in
theorem S_X1_guessedUse_7 {Γ : xΓ} {K : Int32 → xT → Prop} (hl : (gl Γ).stackTraces = false) (ht : (gM Γ).sig.returnType = (some .int)) (hr : xRet Γ (xKi K)) : ∀ (n : Nat) (a0 : Nat) (x1 : Int32) (x2 : Int32) (x3 : Int32) (x4 : Int32) (t : xT) (rc rs : Nat), V_X1_guessedUse_7 K n a0 x1 x2 x3 x4 t → xX Γ k_X1_guessedUse 7 [(0, .ref a0), (1, .int x1), (2, .int x2), (3, .int x3), (4, .int x4)] [] t rc rs := by
  intro n
  induction n with
  | zero =>
    intro a0 x1 x2 x3 x4 t rc rs h
    exact h.elim
  | succ n ih =>
    intro a0 x1 x2 x3 x4 t rc rs h
    replace h : VS_X1_guessedUse_7 (V_X1_guessedUse_7 K n) K a0 x1 x2 x3 x4 t := h
    unfold VS_X1_guessedUse_7 at h
    refine x_iload 4 dX1_guessedUse_7 rfl ?_
    refine x_iconst (v := (3 : Int32)) dX1_guessedUse_9 (by decide) ?_
    obtain ⟨h1, h2⟩ := h
    refine x_icmp_gt (tgt := 46) dX1_guessedUse_10 (by decide) (fun q => ?_) (fun q => ?_)
    · have h := h1 q
      refine x_iload_n 3 dX1_guessedUse_46 rfl rfl ?_
      obtain ⟨h1, h2⟩ := h
      refine x_if_ne (tgt := 54) dX1_guessedUse_47 (by decide) (fun q => ?_) (fun q => ?_)
      · have h := h1 q
        refine x_iload_n 2 dX1_guessedUse_54 rfl rfl ?_
        refine x_iload_n 3 dX1_guessedUse_55 rfl rfl ?_
        obtain ⟨q, h⟩ := h
        refine x_idiv dX1_guessedUse_56 q ?_
        exact x_zret dX1_guessedUse_57 hr ht rfl ⟨_, rfl, h⟩
      · have h := h2 q
        refine x_iconst (v := (0 : Int32)) dX1_guessedUse_50 (by decide) ?_
        refine x_goto (tgt := 57) dX1_guessedUse_51 (by decide) ?_
        exact x_zret dX1_guessedUse_57 hr ht rfl ⟨_, rfl, h⟩
    · have h := h2 q
      refine x_aload_n 0 dX1_guessedUse_13 rfl rfl ?_
      obtain ⟨fs, hf, a_1, hv, h⟩ := h
      refine x_get dX1_guessedUse_14 xf_X1_14 hf hv ?_
      refine x_iload_n 1 dX1_guessedUse_17 rfl rfl ?_
      refine x_iload 4 dX1_guessedUse_18 rfl ?_
      refine x_isub dX1_guessedUse_20 ?_
      obtain ⟨⟨fs, hf⟩, h⟩ := h
      refine x_invV (as := [.int (x1 - x4)]) (rest := []) dX1_guessedUse_21 (q := (RX4, TX4, 1)) rfl xc_X1_guessedUse_50 hf (M_X4_in hl h) rfl rfl (Nat.le_of_ble_eq_true rfl) (Nat.zero_le _) (Nat.zero_le _) (xk_i fun x_3 t_2 h => ?_)
      refine x_istore (L' := [(5, .int x_3), (0, .ref a0), (1, .int x1), (2, .int x2), (3, .int x3), (4, .int x4)]) dX1_guessedUse_24 (by decide) rfl ?_
      refine x_iload 0 dX1_guessedUse_26 rfl ?_
      refine x_iconst (v := (-1 : Int32)) dX1_guessedUse_28 (by decide) ?_
      obtain ⟨h1, h2⟩ := h
      refine x_icmp_eq (tgt := 40) dX1_guessedUse_29 (by decide) (fun q => ?_) (fun q => ?_)
      · have h := h1 q
        refine x_iinc (v := (x4 + 1)) (L' := [(4, .int (x4 + 1)), (5, .int x_3), (0, .ref a0), (1, .int x1), (2, .int x2), (3, .int x3)]) (j := 5) dX1_guessedUse_40 rfl rfl (by decide) rfl ?_
        refine x_goto (tgt := 7) dX1_guessedUse_43 (by decide) ?_
        refine x_sub (L' := [(0, .ref a0), (1, .int x1), (2, .int x2), (3, .int x3), (4, .int (x4 + 1))]) [2, 3, 4, 5, 0] rfl ?_
        exact ih a0 x1 x2 x3 (x4 + 1) t_2 _ _ h
      · have h := h2 q
        refine x_iload_n 3 dX1_guessedUse_32 rfl rfl ?_
        refine x_iload 0 dX1_guessedUse_33 rfl ?_
        refine x_iadd dX1_guessedUse_35 ?_
        refine x_istore_n (L' := [(2, .int (x2 + x_3)), (5, .int x_3), (0, .ref a0), (1, .int x1), (3, .int x3), (4, .int x4)]) dX1_guessedUse_36 rfl (by decide) rfl ?_
        refine x_iinc (v := (x3 + 1)) (L' := [(3, .int (x3 + 1)), (2, .int (x2 + x_3)), (5, .int x_3), (0, .ref a0), (1, .int x1), (4, .int x4)]) (j := 4) dX1_guessedUse_37 rfl rfl (by decide) rfl ?_
        refine x_iinc (v := (x4 + 1)) (L' := [(4, .int (x4 + 1)), (3, .int (x3 + 1)), (2, .int (x2 + x_3)), (5, .int x_3), (0, .ref a0), (1, .int x1)]) (j := 5) dX1_guessedUse_40 rfl rfl (by decide) rfl ?_
        refine x_goto (tgt := 7) dX1_guessedUse_43 (by decide) ?_
        refine x_sub (L' := [(0, .ref a0), (1, .int x1), (2, .int (x2 + x_3)), (3, .int (x3 + 1)), (4, .int (x4 + 1))]) [4, 5, 2, 1, 0] rfl ?_
        exact ih a0 x1 (x2 + x_3) (x3 + 1) (x4 + 1) t_2 _ _ h
def V_X1_guessedUse_0 (K : Int32 → xT → Prop) (a0 : Nat) (x1 : Int32) (t : xT) : Prop :=
  ∃ f_1 : Nat, V_X1_guessedUse_7 K f_1 a0 x1 (0 : Int32) (0 : Int32) (1 : Int32) t
set_option maxRecDepth 20000 in
theorem S_X1_guessedUse_0 {Γ : xΓ} {K : Int32 → xT → Prop} (hl : (gl Γ).stackTraces = false) (ht : (gM Γ).sig.returnType = (some .int)) (hr : xRet Γ (xKi K)) {a0 : Nat} {x1 : Int32} {t : xT} {rc rs : Nat} (h : V_X1_guessedUse_0 K a0 x1 t) : xX Γ k_X1_guessedUse 0 [(0, .ref a0), (1, .int x1)] [] t rc rs := by
  unfold V_X1_guessedUse_0 at h
  refine x_iconst (v := (0 : Int32)) dX1_guessedUse_0 (by decide) ?_
  refine x_istore_n (L' := [(2, .int (0 : Int32)), (0, .ref a0), (1, .int x1)]) dX1_guessedUse_1 rfl (by decide) rfl ?_
  refine x_iconst (v := (0 : Int32)) dX1_guessedUse_2 (by decide) ?_
  refine x_istore_n (L' := [(3, .int (0 : Int32)), (2, .int (0 : Int32)), (0, .ref a0), (1, .int x1)]) dX1_guessedUse_3 rfl (by decide) rfl ?_
  refine x_iconst (v := (1 : Int32)) dX1_guessedUse_4 (by decide) ?_
  refine x_istore (L' := [(4, .int (1 : Int32)), (3, .int (0 : Int32)), (2, .int (0 : Int32)), (0, .ref a0), (1, .int x1)]) dX1_guessedUse_5 (by decide) rfl ?_
  obtain ⟨f_1, h⟩ := h
  refine x_sub (L' := [(0, .ref a0), (1, .int x1), (2, .int (0 : Int32)), (3, .int (0 : Int32)), (4, .int (1 : Int32))]) [3, 4, 2, 1, 0] rfl ?_
  exact S_X1_guessedUse_7 hl ht hr  f_1 a0 x1 (0 : Int32) (0 : Int32) (1 : Int32) t _ _ h
theorem M_X1_guessedUse {l : Launch} {G : xG} (hl : l.stackTraces = false) {a0 : Nat} {x1 : Int32} {t : xT} {K : Int32 → xT → Prop} (h : V_X1_guessedUse_0 K a0 x1 t) : xMet l G yX1_guessedUse k_X1_guessedUse (some .int) [.ref a0, .int x1] t (xKi K) 0 0 := xMet.of (by decide +kernel) rfl hl (Nat.le_of_ble_eq_true rfl) (fun Γ e1 e2 ht hn hr => by subst e1; subst e2; exact S_X1_guessedUse_0 hl ht hr h)
/-! RentStream$Flat.findUse(I)V -/
def V_X1_findUse_0 (K : xT → Prop) (a0 : Nat) (x1 : Int32) (t : xT) : Prop :=
  xgI t a0 1 5 fun x_1 => ((¬ x_1 = x1 → (xis t a0 1 ∧ V_X1_guessedUse_0 (fun x_3 t_2 => xgR t_2 a0 1 1 fun a_4 => (xis t_2 a_4 4 ∧ V_X4_put_0 (fun t_5 => xgI t_5 a0 1 4 fun x_6 => (xpF t_5 a0 1 4 (.int (x_6 + x_3)) fun t_7 => K t_7)) a_4 x1 x_3 t_2)) a0 x1 t)) ∧ (x_1 = x1 → xgI t a0 1 3 fun x_8 => xgI t a0 1 4 fun x_9 => xgR t a0 1 1 fun a_10 => (xis t a_10 4 ∧ V_X4_put_0 (fun t_11 => xgI t_11 a0 1 4 fun x_12 => (xpF t_11 a0 1 4 (.int (x_12 + (if (0 : Int32) < (x_8 - x_9) then (x_8 - x_9) else (0 : Int32)))) fun t_13 => K t_13)) a_10 x1 (if (0 : Int32) < (x_8 - x_9) then (x_8 - x_9) else (0 : Int32)) t)))
set_option maxRecDepth 20000 in
theorem S_X1_findUse_0 {Γ : xΓ} {K : xT → Prop} (hl : (gl Γ).stackTraces = false) (ht : (gM Γ).sig.returnType = none) (hr : xRet Γ (xKv K)) {a0 : Nat} {x1 : Int32} {t : xT} {rc rs : Nat} (h : V_X1_findUse_0 K a0 x1 t) : xX Γ k_X1_findUse 0 [(0, .ref a0), (1, .int x1)] [] t rc rs := by
  unfold V_X1_findUse_0 at h
  refine x_aload_n 0 dX1_findUse_0 rfl rfl ?_
  obtain ⟨fs, hf, x_1, hv, h⟩ := h
  refine x_get dX1_findUse_1 xf_X1_30 hf hv ?_
  refine x_iload_n 1 dX1_findUse_4 rfl rfl ?_
  obtain ⟨h1, h2⟩ := h
  refine x_icmp_ne (tgt := 24) dX1_findUse_5 (by decide) (fun q => ?_) (fun q => ?_)
  · have h := h1 q
    refine x_aload_n 0 dX1_findUse_24 rfl rfl ?_
    refine x_iload_n 1 dX1_findUse_25 rfl rfl ?_
    obtain ⟨⟨fs, hf⟩, h⟩ := h
    refine x_invV (as := [.int x1]) (rest := []) dX1_findUse_26 (q := (RX1, TX1, 6)) rfl xc_X1_findUse_42 hf (M_X1_guessedUse hl h) rfl rfl (Nat.le_of_ble_eq_true rfl) (Nat.zero_le _) (Nat.zero_le _) (xk_i fun x_3 t_2 h => ?_)
    refine x_istore_n (L' := [(2, .int x_3), (0, .ref a0), (1, .int x1)]) dX1_findUse_29 rfl (by decide) rfl ?_
    refine x_aload_n 1 dX1_findUse_30 rfl rfl ?_
    obtain ⟨fs, hf, a_4, hv, h⟩ := h
    refine x_get dX1_findUse_31 xf_X1_14 hf hv ?_
    refine x_iload_n 2 dX1_findUse_34 rfl rfl ?_
    refine x_iload_n 0 dX1_findUse_35 rfl rfl ?_
    obtain ⟨⟨fs, hf⟩, h⟩ := h
    refine x_invV (as := [.int x1, .int x_3]) (rest := []) dX1_findUse_36 (q := (RX4, TX4, 1)) rfl xc_X1_findUse_46 hf (M_X4_put hl h) rfl rfl (Nat.le_of_ble_eq_true rfl) (Nat.zero_le _) (Nat.zero_le _) (xk_v fun t_5 h => ?_)
    refine x_aload_n 1 dX1_findUse_39 rfl rfl ?_
    refine x_dup dX1_findUse_40 rfl ?_
    obtain ⟨fs, hf, x_6, hv, h⟩ := h
    refine x_get dX1_findUse_41 xf_X1_27 hf hv ?_
    refine x_iload_n 0 dX1_findUse_44 rfl rfl ?_
    refine x_iadd dX1_findUse_45 ?_
    obtain ⟨fs, hf, hk, h⟩ := h
    refine x_put (v := .int (x_6 + x_3)) dX1_findUse_46 xp_X1_27 hf rfl rfl hk ?_
    generalize hT : xup t_5 a0 _ = t_7 at h ⊢
    clear hT
    exact x_vret dX1_findUse_49 hr ht ⟨rfl, h⟩
  · have h := h2 q
    refine x_iconst (v := (0 : Int32)) dX1_findUse_8 (by decide) ?_
    refine x_aload_n 0 dX1_findUse_9 rfl rfl ?_
    obtain ⟨fs, hf, x_8, hv, h⟩ := h
    refine x_get dX1_findUse_10 xf_X1_23 hf hv ?_
    refine x_aload_n 0 dX1_findUse_13 rfl rfl ?_
    obtain ⟨fs, hf, x_9, hv, h⟩ := h
    refine x_get dX1_findUse_14 xf_X1_27 hf hv ?_
    refine x_isub dX1_findUse_17 ?_
    refine x_mmax dX1_findUse_18 xlm_X1_36 (by decide) (by decide) (Nat.le_of_ble_eq_true rfl) ?_
    refine x_goto (tgt := 29) dX1_findUse_21 (by decide) ?_
    refine x_istore_n (L' := [(2, .int (if (0 : Int32) < (x_8 - x_9) then (x_8 - x_9) else (0 : Int32))), (0, .ref a0), (1, .int x1)]) dX1_findUse_29 rfl (by decide) rfl ?_
    refine x_aload_n 1 dX1_findUse_30 rfl rfl ?_
    obtain ⟨fs, hf, a_10, hv, h⟩ := h
    refine x_get dX1_findUse_31 xf_X1_14 hf hv ?_
    refine x_iload_n 2 dX1_findUse_34 rfl rfl ?_
    refine x_iload_n 0 dX1_findUse_35 rfl rfl ?_
    obtain ⟨⟨fs, hf⟩, h⟩ := h
    refine x_invV (as := [.int x1, .int (if (0 : Int32) < (x_8 - x_9) then (x_8 - x_9) else (0 : Int32))]) (rest := []) dX1_findUse_36 (q := (RX4, TX4, 1)) rfl xc_X1_findUse_46 hf (M_X4_put hl h) rfl rfl (Nat.le_of_ble_eq_true rfl) (Nat.zero_le _) (Nat.zero_le _) (xk_v fun t_11 h => ?_)
    refine x_aload_n 1 dX1_findUse_39 rfl rfl ?_
    refine x_dup dX1_findUse_40 rfl ?_
    obtain ⟨fs, hf, x_12, hv, h⟩ := h
    refine x_get dX1_findUse_41 xf_X1_27 hf hv ?_
    refine x_iload_n 0 dX1_findUse_44 rfl rfl ?_
    refine x_iadd dX1_findUse_45 ?_
    obtain ⟨fs, hf, hk, h⟩ := h
    refine x_put (v := .int (x_12 + (if (0 : Int32) < (x_8 - x_9) then (x_8 - x_9) else (0 : Int32)))) dX1_findUse_46 xp_X1_27 hf rfl rfl hk ?_
    generalize hT : xup t_11 a0 _ = t_13 at h ⊢
    clear hT
    exact x_vret dX1_findUse_49 hr ht ⟨rfl, h⟩
theorem M_X1_findUse {l : Launch} {G : xG} (hl : l.stackTraces = false) {a0 : Nat} {x1 : Int32} {t : xT} {K : xT → Prop} (h : V_X1_findUse_0 K a0 x1 t) : xMet l G yX1_findUse k_X1_findUse none [.ref a0, .int x1] t (xKv K) 0 0 := xMet.of (by decide +kernel) rfl hl (Nat.le_of_ble_eq_true rfl) (fun Γ e1 e2 ht hn hr => by subst e1; subst e2; exact S_X1_findUse_0 hl ht hr h)
/-! RentStream$Plan.endMonth(J)V -/
def V_X5_endMonth_0 (K : xT → Prop) (a0 : Nat) (y1 : Int64) (t : xT) : Prop :=
  xgI t a0 5 0 fun x_1 => ((x_1 = (1 : Int32) → xgI t a0 5 3 fun x_2 => (xpF t a0 5 3 (.int (x_2 + (1 : Int32))) fun t_3 => xgJ t_3 a0 5 1 fun y_4 => xgJ t_3 a0 5 2 fun y_5 => xgI t_3 a0 5 3 fun x_6 => ((y1 ≤ (if (y_4 - (y_5 * x_6.toInt64)) < (0 : Int64) then (0 : Int64) else (y_4 - (y_5 * x_6.toInt64))) → ((¬ (if (y_4 - (y_5 * x_6.toInt64)) < (0 : Int64) then (0 : Int64) else (y_4 - (y_5 * x_6.toInt64))) = (0 : Int64) → K t_3) ∧ ((if (y_4 - (y_5 * x_6.toInt64)) < (0 : Int64) then (0 : Int64) else (y_4 - (y_5 * x_6.toInt64))) = (0 : Int64) → (xpF t_3 a0 5 0 (.int (3 : Int32)) fun t_7 => K t_7)))) ∧ (¬ y1 ≤ (if (y_4 - (y_5 * x_6.toInt64)) < (0 : Int64) then (0 : Int64) else (y_4 - (y_5 * x_6.toInt64))) → (xpF t_3 a0 5 0 (.int (2 : Int32)) fun t_8 => K t_8))))) ∧ (¬ x_1 = (1 : Int32) → K t))
set_option maxRecDepth 20000 in
theorem S_X5_endMonth_0 {Γ : xΓ} {K : xT → Prop} (hl : (gl Γ).stackTraces = false) (ht : (gM Γ).sig.returnType = none) (hr : xRet Γ (xKv K)) {a0 : Nat} {y1 : Int64} {t : xT} {rc rs : Nat} (h : V_X5_endMonth_0 K a0 y1 t) : xX Γ k_X5_endMonth 0 [(0, .ref a0), (1, .long y1)] [] t rc rs := by
  unfold V_X5_endMonth_0 at h
  refine x_aload_n 0 dX5_endMonth_0 rfl rfl ?_
  obtain ⟨fs, hf, x_1, hv, h⟩ := h
  refine x_get dX5_endMonth_1 xf_X5_9 hf hv ?_
  refine x_iconst (v := (1 : Int32)) dX5_endMonth_4 (by decide) ?_
  obtain ⟨h1, h2⟩ := h
  refine x_icmp_eq (tgt := 9) dX5_endMonth_5 (by decide) (fun q => ?_) (fun q => ?_)
  · have h := h1 q
    refine x_aload_n 0 dX5_endMonth_9 rfl rfl ?_
    refine x_dup dX5_endMonth_10 rfl ?_
    obtain ⟨fs, hf, x_2, hv, h⟩ := h
    refine x_get dX5_endMonth_11 xf_X5_22 hf hv ?_
    refine x_iconst (v := (1 : Int32)) dX5_endMonth_14 (by decide) ?_
    refine x_iadd dX5_endMonth_15 ?_
    obtain ⟨fs, hf, hk, h⟩ := h
    refine x_put (v := .int (x_2 + (1 : Int32))) dX5_endMonth_16 xp_X5_22 hf rfl rfl hk ?_
    generalize hT : xup t a0 _ = t_3 at h ⊢
    clear hT
    refine x_lconst (v := (0 : Int64)) dX5_endMonth_19 (by decide) ?_
    refine x_aload_n 0 dX5_endMonth_20 rfl rfl ?_
    obtain ⟨fs, hf, y_4, hv, h⟩ := h
    refine x_get dX5_endMonth_21 xf_X5_15 hf hv ?_
    refine x_aload_n 0 dX5_endMonth_24 rfl rfl ?_
    obtain ⟨fs, hf, y_5, hv, h⟩ := h
    refine x_get dX5_endMonth_25 xf_X5_19 hf hv ?_
    refine x_aload_n 0 dX5_endMonth_28 rfl rfl ?_
    obtain ⟨fs, hf, x_6, hv, h⟩ := h
    refine x_get dX5_endMonth_29 xf_X5_22 hf hv ?_
    refine x_i2l dX5_endMonth_32 ?_
    refine x_lmul dX5_endMonth_33 ?_
    refine x_lsub dX5_endMonth_34 ?_
    refine x_mmax_long dX5_endMonth_35 xlm_X5_25 (by decide) (by decide) (Nat.le_of_ble_eq_true rfl) ?_
    refine x_lstore_n (L' := [(3, .long (if (y_4 - (y_5 * x_6.toInt64)) < (0 : Int64) then (0 : Int64) else (y_4 - (y_5 * x_6.toInt64)))), (0, .ref a0), (1, .long y1)]) dX5_endMonth_38 rfl (by decide) rfl ?_
    refine x_lload_n 2 dX5_endMonth_39 rfl rfl ?_
    refine x_lload_n 0 dX5_endMonth_40 rfl rfl ?_
    obtain ⟨h1, h2⟩ := h
    refine x_lcmp_le (tgt := 53) dX5_endMonth_41 dX5_endMonth_42 (by decide) (fun q => ?_) (fun q => ?_)
    · have h := h1 q
      refine x_lload_n 0 dX5_endMonth_53 rfl rfl ?_
      refine x_lconst (v := (0 : Int64)) dX5_endMonth_54 (by decide) ?_
      obtain ⟨h1, h2⟩ := h
      refine x_lcmp_ne (tgt := 64) dX5_endMonth_55 dX5_endMonth_56 (by decide) (fun q => ?_) (fun q => ?_)
      · have h := h1 q
        exact x_vret dX5_endMonth_64 hr ht ⟨rfl, h⟩
      · have h := h2 q
        refine x_aload_n 1 dX5_endMonth_59 rfl rfl ?_
        refine x_iconst (v := (3 : Int32)) dX5_endMonth_60 (by decide) ?_
        obtain ⟨fs, hf, hk, h⟩ := h
        refine x_put (v := .int (3 : Int32)) dX5_endMonth_61 xp_X5_9 hf rfl rfl hk ?_
        generalize hT : xup t_3 a0 _ = t_7 at h ⊢
        clear hT
        exact x_vret dX5_endMonth_64 hr ht ⟨rfl, h⟩
    · have h := h2 q
      refine x_aload_n 1 dX5_endMonth_45 rfl rfl ?_
      refine x_iconst (v := (2 : Int32)) dX5_endMonth_46 (by decide) ?_
      obtain ⟨fs, hf, hk, h⟩ := h
      refine x_put (v := .int (2 : Int32)) dX5_endMonth_47 xp_X5_9 hf rfl rfl hk ?_
      generalize hT : xup t_3 a0 _ = t_8 at h ⊢
      clear hT
      refine x_goto (tgt := 64) dX5_endMonth_50 (by decide) ?_
      exact x_vret dX5_endMonth_64 hr ht ⟨rfl, h⟩
  · have h := h2 q
    exact x_vret dX5_endMonth_8 hr ht ⟨rfl, h⟩
theorem M_X5_endMonth {l : Launch} {G : xG} (hl : l.stackTraces = false) {a0 : Nat} {y1 : Int64} {t : xT} {K : xT → Prop} (h : V_X5_endMonth_0 K a0 y1 t) : xMet l G yX5_endMonth k_X5_endMonth none [.ref a0, .long y1] t (xKv K) 0 0 := xMet.of (by decide +kernel) rfl hl (Nat.le_of_ble_eq_true rfl) (fun Γ e1 e2 ht hn hr => by subst e1; subst e2; exact S_X5_endMonth_0 hl ht hr h)
/-! RentStream.endMonth(I)V -/
def VS_X7_endMonth_41 (R41 : Nat → Int32 → Int32 → xT → Nat → Nat → Prop) (K : xT → Prop) (a0 : Nat) (x1 : Int32) (x2 : Int32) (t : xT) (rc rs : Nat) : Prop :=
  xgR t a0 7 1 fun a_1 => (xis t a_1 10 ∧ V_Jx4a65c_size_8abf5_0 (fun x_3 t_2 => ((x_3 ≤ x2 → K t_2) ∧ (¬ x_3 ≤ x2 → xgR t_2 a0 7 1 fun a_4 => (xis t_2 a_4 10 ∧ V_Jx4a65c_get_915e3_0 (fun o_6 t_5 => xnl o_6 fun a_7 => (xis t_5 a_7 3 ∧ xgR t_5 a_7 3 3 fun a_8 => xgJ t_5 a_7 3 5 fun y_9 => (xis t_5 a_8 5 ∧ V_X5_endMonth_0 (fun t_10 => (xis t_10 a_7 3 ∧ V_X3_runsIn_0 (fun x_12 t_11 => ((x_12 = 0 → R41 a0 x1 (x2 + 1) t_11 rc rs) ∧ (¬ x_12 = 0 → (xis t_11 a0 7 ∧ ∃ m_14 z_15 : Nat, m_14 ≤ rc ∧ z_15 ≤ rs ∧ V_X7_makeBill_0 (fun t_13 => R41 a0 x1 (x2 + 1) t_13 (rc - m_14) (rs - z_15)) a0 a_7 x1 t_11 m_14 z_15)))) a_7 x1 t_10)) a_8 y_9 t_5))) a_4 x2 t_2)))) a_1 t)
def V_X7_endMonth_41 (K : xT → Prop) (n : Nat) : Nat → Int32 → Int32 → xT → Nat → Nat → Prop := Nat.rec (fun _ _ _ _ _ _ => False) (fun _ ih => VS_X7_endMonth_41 ih K) n
set_option maxRecDepth 20000 in
theorem S_X7_endMonth_41 {Γ : xΓ} {K : xT → Prop} (hl : (gl Γ).stackTraces = false) (ht : (gM Γ).sig.returnType = none) (hr : xRet Γ (xKv K)) : ∀ (n : Nat) (a0 : Nat) (x1 : Int32) (x2 : Int32) (t : xT) (rc rs : Nat), V_X7_endMonth_41 K n a0 x1 x2 t rc rs → xX Γ k_X7_endMonth 41 [(0, .ref a0), (1, .int x1), (2, .int x2)] [] t rc rs := by
  intro n
  induction n with
  | zero =>
    intro a0 x1 x2 t rc rs h
    exact h.elim
  | succ n ih =>
    intro a0 x1 x2 t rc rs h
    replace h : VS_X7_endMonth_41 (V_X7_endMonth_41 K n) K a0 x1 x2 t rc rs := h
    unfold VS_X7_endMonth_41 at h
    refine x_iload_n 2 dX7_endMonth_41 rfl rfl ?_
    refine x_aload_n 0 dX7_endMonth_42 rfl rfl ?_
    obtain ⟨fs, hf, a_1, hv, h⟩ := h
    refine x_get dX7_endMonth_43 xf_X7_16 hf hv ?_
    obtain ⟨⟨fs, hf⟩, h⟩ := h
    refine x_invV (as := []) (rest := [.int x2]) dX7_endMonth_46 (q := (RJx4a65c, TJx4a65c, 3)) rfl xc_X7_endMonth_66 hf (M_Jx4a65c_size_8abf5 hl h) rfl rfl (Nat.le_of_ble_eq_true rfl) (Nat.zero_le _) (Nat.zero_le _) (xk_i fun x_3 t_2 h => ?_)
    obtain ⟨h1, h2⟩ := h
    refine x_icmp_ge (tgt := 95) dX7_endMonth_49 (by decide) (fun q => ?_) (fun q => ?_)
    · have h := h1 q
      exact x_vret dX7_endMonth_95 hr ht ⟨rfl, h⟩
    · have h := h2 q
      refine x_aload_n 0 dX7_endMonth_52 rfl rfl ?_
      obtain ⟨fs, hf, a_4, hv, h⟩ := h
      refine x_get dX7_endMonth_53 xf_X7_16 hf hv ?_
      refine x_iload_n 2 dX7_endMonth_56 rfl rfl ?_
      obtain ⟨⟨fs, hf⟩, h⟩ := h
      refine x_invV (as := [.int x2]) (rest := []) dX7_endMonth_57 (q := (RJx4a65c, TJx4a65c, 3)) rfl xc_X7_endMonth_149 hf (M_Jx4a65c_get_915e3 hl h) rfl rfl (Nat.le_of_ble_eq_true rfl) (Nat.zero_le _) (Nat.zero_le _) (xk_r fun o_6 t_5 h => ?_)
      obtain ⟨a_7, e, h⟩ := h
      revert h
      subst e
      intro h
      obtain ⟨⟨fs, hf⟩, h⟩ := h
      refine x_ccast dX7_endMonth_60 (q := (RX3, TX3, 11)) rfl xw429 hf ?_
      refine x_astore_n (L' := [(3, .ref a_7), (0, .ref a0), (1, .int x1), (2, .int x2)]) dX7_endMonth_63 rfl (by decide) rfl ?_
      refine x_aload_n 0 dX7_endMonth_64 rfl rfl ?_
      obtain ⟨fs, hf, a_8, hv, h⟩ := h
      refine x_get dX7_endMonth_65 xf_X7_187 hf hv ?_
      refine x_aload_n 0 dX7_endMonth_68 rfl rfl ?_
      obtain ⟨fs, hf, y_9, hv, h⟩ := h
      refine x_get dX7_endMonth_69 xf_X7_182 hf hv ?_
      obtain ⟨⟨fs, hf⟩, h⟩ := h
      refine x_invV (as := [.long y_9]) (rest := []) dX7_endMonth_72 (q := (RX5, TX5, 4)) rfl xc_X7_endMonth_281 hf (M_X5_endMonth hl h) rfl rfl (Nat.le_of_ble_eq_true rfl) (Nat.zero_le _) (Nat.zero_le _) (xk_v fun t_10 h => ?_)
      refine x_aload_n 0 dX7_endMonth_75 rfl rfl ?_
      refine x_iload_n 2 dX7_endMonth_76 rfl rfl ?_
      obtain ⟨⟨fs, hf⟩, h⟩ := h
      refine x_invV (as := [.int x1]) (rest := []) dX7_endMonth_77 (q := (RX3, TX3, 11)) rfl xc_X7_endMonth_209 hf (M_X3_runsIn hl h) rfl rfl (Nat.le_of_ble_eq_true rfl) (Nat.zero_le _) (Nat.zero_le _) (xk_i fun x_12 t_11 h => ?_)
      obtain ⟨h1, h2⟩ := h
      refine x_if_eq (tgt := 89) dX7_endMonth_80 (by decide) (fun q => ?_) (fun q => ?_)
      · have h := h1 q
        refine x_iinc (v := (x2 + 1)) (L' := [(2, .int (x2 + 1)), (3, .ref a_7), (0, .ref a0), (1, .int x1)]) (j := 3) dX7_endMonth_89 rfl rfl (by decide) rfl ?_
        refine x_goto (tgt := 41) dX7_endMonth_92 (by decide) ?_
        refine x_sub (L' := [(0, .ref a0), (1, .int x1), (2, .int (x2 + 1))]) [2, 3, 0] rfl ?_
        exact ih a0 x1 (x2 + 1) t_11 rc rs h
      · have h := h2 q
        refine x_aload_n 1 dX7_endMonth_83 rfl rfl ?_
        refine x_aload_n 0 dX7_endMonth_84 rfl rfl ?_
        refine x_iload_n 2 dX7_endMonth_85 rfl rfl ?_
        obtain ⟨⟨fs, hf⟩, h⟩ := h
        obtain ⟨m_14, z_15, hm, hs, h⟩ := h
        refine x_invV (as := [.ref a_7, .int x1]) (rest := []) dX7_endMonth_86 (q := (RX7, TX7, 10)) rfl xc_X7_endMonth_284 hf (M_X7_makeBill hl h) rfl rfl (Nat.le_of_ble_eq_true rfl) hm hs (xk_v fun t_13 h => ?_)
        refine x_iinc (v := (x2 + 1)) (L' := [(2, .int (x2 + 1)), (3, .ref a_7), (0, .ref a0), (1, .int x1)]) (j := 3) dX7_endMonth_89 rfl rfl (by decide) rfl ?_
        refine x_goto (tgt := 41) dX7_endMonth_92 (by decide) ?_
        refine x_sub (L' := [(0, .ref a0), (1, .int x1), (2, .int (x2 + 1))]) [2, 3, 0] rfl ?_
        exact ih a0 x1 (x2 + 1) t_13 (rc - m_14) (rs - z_15) h
def VS_X7_endMonth_2 (R2 : Nat → Int32 → Int32 → xT → Nat → Nat → Prop) (K : xT → Prop) (a0 : Nat) (x1 : Int32) (x2 : Int32) (t : xT) (rc rs : Nat) : Prop :=
  xgR t a0 7 0 fun a_1 => (xis t a_1 10 ∧ V_Jx4a65c_size_8abf5_0 (fun x_3 t_2 => ((x_3 ≤ x2 → (xis t_2 a0 7 ∧ V_X7_shareHeat_0 (fun t_4 => ∃ f_5 : Nat, V_X7_endMonth_41 K f_5 a0 x1 (0 : Int32) t_4 rc rs) a0 x1 t_2)) ∧ (¬ x_3 ≤ x2 → xgR t_2 a0 7 0 fun a_6 => (xis t_2 a_6 10 ∧ V_Jx4a65c_get_915e3_0 (fun o_8 t_7 => xnl o_8 fun a_9 => (xis t_7 a_9 1 ∧ (xis t_7 a_9 1 ∧ V_X1_findUse_0 (fun t_10 => R2 a0 x1 (x2 + 1) t_10 rc rs) a_9 x1 t_7))) a_6 x2 t_2)))) a_1 t)
def V_X7_endMonth_2 (K : xT → Prop) (n : Nat) : Nat → Int32 → Int32 → xT → Nat → Nat → Prop := Nat.rec (fun _ _ _ _ _ _ => False) (fun _ ih => VS_X7_endMonth_2 ih K) n
set_option maxRecDepth 20000 in
theorem S_X7_endMonth_2 {Γ : xΓ} {K : xT → Prop} (hl : (gl Γ).stackTraces = false) (ht : (gM Γ).sig.returnType = none) (hr : xRet Γ (xKv K)) : ∀ (n : Nat) (a0 : Nat) (x1 : Int32) (x2 : Int32) (t : xT) (rc rs : Nat), V_X7_endMonth_2 K n a0 x1 x2 t rc rs → xX Γ k_X7_endMonth 2 [(0, .ref a0), (1, .int x1), (2, .int x2)] [] t rc rs := by
  intro n
  induction n with
  | zero =>
    intro a0 x1 x2 t rc rs h
    exact h.elim
  | succ n ih =>
    intro a0 x1 x2 t rc rs h
    replace h : VS_X7_endMonth_2 (V_X7_endMonth_2 K n) K a0 x1 x2 t rc rs := h
    unfold VS_X7_endMonth_2 at h
    refine x_iload_n 2 dX7_endMonth_2 rfl rfl ?_
    refine x_aload_n 0 dX7_endMonth_3 rfl rfl ?_
    obtain ⟨fs, hf, a_1, hv, h⟩ := h
    refine x_get dX7_endMonth_4 xf_X7_10 hf hv ?_
    obtain ⟨⟨fs, hf⟩, h⟩ := h
    refine x_invV (as := []) (rest := [.int x2]) dX7_endMonth_7 (q := (RJx4a65c, TJx4a65c, 3)) rfl xc_X7_endMonth_66 hf (M_Jx4a65c_size_8abf5 hl h) rfl rfl (Nat.le_of_ble_eq_true rfl) (Nat.zero_le _) (Nat.zero_le _) (xk_i fun x_3 t_2 h => ?_)
    obtain ⟨h1, h2⟩ := h
    refine x_icmp_ge (tgt := 34) dX7_endMonth_10 (by decide) (fun q => ?_) (fun q => ?_)
    · have h := h1 q
      refine x_aload_n 0 dX7_endMonth_34 rfl rfl ?_
      refine x_iload_n 1 dX7_endMonth_35 rfl rfl ?_
      obtain ⟨⟨fs, hf⟩, h⟩ := h
      refine x_invV (as := [.int x1]) (rest := []) dX7_endMonth_36 (q := (RX7, TX7, 10)) rfl xc_X7_endMonth_213 hf (M_X7_shareHeat hl h) rfl rfl (Nat.le_of_ble_eq_true rfl) (Nat.zero_le _) (Nat.zero_le _) (xk_v fun t_4 h => ?_)
      refine x_iconst (v := (0 : Int32)) dX7_endMonth_39 (by decide) ?_
      refine x_istore_n (L' := [(2, .int (0 : Int32)), (0, .ref a0), (1, .int x1)]) dX7_endMonth_40 rfl (by decide) rfl ?_
      obtain ⟨f_5, h⟩ := h
      refine x_sub (L' := [(0, .ref a0), (1, .int x1), (2, .int (0 : Int32))]) [1, 2, 0] rfl ?_
      exact S_X7_endMonth_41 hl ht hr  f_5 a0 x1 (0 : Int32) t_4 rc rs h
    · have h := h2 q
      refine x_aload_n 0 dX7_endMonth_13 rfl rfl ?_
      obtain ⟨fs, hf, a_6, hv, h⟩ := h
      refine x_get dX7_endMonth_14 xf_X7_10 hf hv ?_
      refine x_iload_n 2 dX7_endMonth_17 rfl rfl ?_
      obtain ⟨⟨fs, hf⟩, h⟩ := h
      refine x_invV (as := [.int x2]) (rest := []) dX7_endMonth_18 (q := (RJx4a65c, TJx4a65c, 3)) rfl xc_X7_endMonth_149 hf (M_Jx4a65c_get_915e3 hl h) rfl rfl (Nat.le_of_ble_eq_true rfl) (Nat.zero_le _) (Nat.zero_le _) (xk_r fun o_8 t_7 h => ?_)
      obtain ⟨a_9, e, h⟩ := h
      revert h
      subst e
      intro h
      obtain ⟨⟨fs, hf⟩, h⟩ := h
      refine x_ccast dX7_endMonth_21 (q := (RX1, TX1, 6)) rfl xw289 hf ?_
      refine x_iload_n 1 dX7_endMonth_24 rfl rfl ?_
      obtain ⟨⟨fs, hf⟩, h⟩ := h
      refine x_invV (as := [.int x1]) (rest := []) dX7_endMonth_25 (q := (RX1, TX1, 6)) rfl xc_X7_endMonth_278 hf (M_X1_findUse hl h) rfl rfl (Nat.le_of_ble_eq_true rfl) (Nat.zero_le _) (Nat.zero_le _) (xk_v fun t_10 h => ?_)
      refine x_iinc (v := (x2 + 1)) (L' := [(2, .int (x2 + 1)), (0, .ref a0), (1, .int x1)]) (j := 2) dX7_endMonth_28 rfl rfl (by decide) rfl ?_
      refine x_goto (tgt := 2) dX7_endMonth_31 (by decide) ?_
      refine x_sub (L' := [(0, .ref a0), (1, .int x1), (2, .int (x2 + 1))]) [1, 2, 0] rfl ?_
      exact ih a0 x1 (x2 + 1) t_10 rc rs h
def V_X7_endMonth_0 (K : xT → Prop) (a0 : Nat) (x1 : Int32) (t : xT) (rc rs : Nat) : Prop :=
  ∃ f_1 : Nat, V_X7_endMonth_2 K f_1 a0 x1 (0 : Int32) t rc rs
set_option maxRecDepth 20000 in
theorem S_X7_endMonth_0 {Γ : xΓ} {K : xT → Prop} (hl : (gl Γ).stackTraces = false) (ht : (gM Γ).sig.returnType = none) (hr : xRet Γ (xKv K)) {a0 : Nat} {x1 : Int32} {t : xT} {rc rs : Nat} (h : V_X7_endMonth_0 K a0 x1 t rc rs) : xX Γ k_X7_endMonth 0 [(0, .ref a0), (1, .int x1)] [] t rc rs := by
  unfold V_X7_endMonth_0 at h
  refine x_iconst (v := (0 : Int32)) dX7_endMonth_0 (by decide) ?_
  refine x_istore_n (L' := [(2, .int (0 : Int32)), (0, .ref a0), (1, .int x1)]) dX7_endMonth_1 rfl (by decide) rfl ?_
  obtain ⟨f_1, h⟩ := h
  refine x_sub (L' := [(0, .ref a0), (1, .int x1), (2, .int (0 : Int32))]) [1, 2, 0] rfl ?_
  exact S_X7_endMonth_2 hl ht hr  f_1 a0 x1 (0 : Int32) t rc rs h
theorem M_X7_endMonth {l : Launch} {G : xG} (hl : l.stackTraces = false) {a0 : Nat} {x1 : Int32} {t : xT} {K : xT → Prop} {rc rs : Nat} (h : V_X7_endMonth_0 K a0 x1 t rc rs) : xMet l G yX7_endMonth k_X7_endMonth none [.ref a0, .int x1] t (xKv K) rc rs := xMet.of (by decide +kernel) rfl hl (Nat.le_of_ble_eq_true rfl) (fun Γ e1 e2 ht hn hr => by subst e1; subst e2; exact S_X7_endMonth_0 hl ht hr h)
/-! RentStream$Repair.clock()I -/
def V_X6_clock_0 (K : Int32 → xT → Prop) (a0 : Nat) (t : xT) : Prop :=
  xgI t a0 6 3 fun x_1 => ((¬ x_1 = 0 → xgI t a0 6 3 fun x_2 => ((¬ x_2 = (1 : Int32) → K (30 : Int32) t) ∧ (x_2 = (1 : Int32) → K (7 : Int32) t))) ∧ (x_1 = 0 → K (2 : Int32) t))
set_option maxRecDepth 20000 in
theorem S_X6_clock_0 {Γ : xΓ} {K : Int32 → xT → Prop} (hl : (gl Γ).stackTraces = false) (ht : (gM Γ).sig.returnType = (some .int)) (hr : xRet Γ (xKi K)) {a0 : Nat} {t : xT} {rc rs : Nat} (h : V_X6_clock_0 K a0 t) : xX Γ k_X6_clock 0 [(0, .ref a0)] [] t rc rs := by
  unfold V_X6_clock_0 at h
  refine x_aload_n 0 dX6_clock_0 rfl rfl ?_
  obtain ⟨fs, hf, x_1, hv, h⟩ := h
  refine x_get dX6_clock_1 xf_X6_23 hf hv ?_
  obtain ⟨h1, h2⟩ := h
  refine x_if_ne (tgt := 11) dX6_clock_4 (by decide) (fun q => ?_) (fun q => ?_)
  · have h := h1 q
    refine x_aload_n 0 dX6_clock_11 rfl rfl ?_
    obtain ⟨fs, hf, x_2, hv, h⟩ := h
    refine x_get dX6_clock_12 xf_X6_23 hf hv ?_
    refine x_iconst (v := (1 : Int32)) dX6_clock_15 (by decide) ?_
    obtain ⟨h1, h2⟩ := h
    refine x_icmp_ne (tgt := 24) dX6_clock_16 (by decide) (fun q => ?_) (fun q => ?_)
    · have h := h1 q
      refine x_bipush (v := (30 : Int32)) dX6_clock_24 (by decide) ?_
      exact x_zret dX6_clock_26 hr ht rfl ⟨_, rfl, h⟩
    · have h := h2 q
      refine x_bipush (v := (7 : Int32)) dX6_clock_19 (by decide) ?_
      refine x_goto (tgt := 26) dX6_clock_21 (by decide) ?_
      exact x_zret dX6_clock_26 hr ht rfl ⟨_, rfl, h⟩
  · have h := h2 q
    refine x_iconst (v := (2 : Int32)) dX6_clock_7 (by decide) ?_
    refine x_goto (tgt := 26) dX6_clock_8 (by decide) ?_
    exact x_zret dX6_clock_26 hr ht rfl ⟨_, rfl, h⟩
theorem M_X6_clock {l : Launch} {G : xG} (hl : l.stackTraces = false) {a0 : Nat} {t : xT} {K : Int32 → xT → Prop} (h : V_X6_clock_0 K a0 t) : xMet l G yX6_clock k_X6_clock (some .int) [.ref a0] t (xKi K) 0 0 := xMet.of (by decide +kernel) rfl hl (Nat.le_of_ble_eq_true rfl) (fun Γ e1 e2 ht hn hr => by subst e1; subst e2; exact S_X6_clock_0 hl ht hr h)
/-! RentStream$Repair.pointsADay()I -/
def V_X6_pointsADay_0 (K : Int32 → xT → Prop) (a0 : Nat) (t : xT) : Prop :=
  xgI t a0 6 3 fun x_1 => ((¬ x_1 = 0 → xgI t a0 6 3 fun x_2 => ((¬ x_2 = (1 : Int32) → K (5 : Int32) t) ∧ (x_2 = (1 : Int32) → K (10 : Int32) t))) ∧ (x_1 = 0 → K (30 : Int32) t))
set_option maxRecDepth 20000 in
theorem S_X6_pointsADay_0 {Γ : xΓ} {K : Int32 → xT → Prop} (hl : (gl Γ).stackTraces = false) (ht : (gM Γ).sig.returnType = (some .int)) (hr : xRet Γ (xKi K)) {a0 : Nat} {t : xT} {rc rs : Nat} (h : V_X6_pointsADay_0 K a0 t) : xX Γ k_X6_pointsADay 0 [(0, .ref a0)] [] t rc rs := by
  unfold V_X6_pointsADay_0 at h
  refine x_aload_n 0 dX6_pointsADay_0 rfl rfl ?_
  obtain ⟨fs, hf, x_1, hv, h⟩ := h
  refine x_get dX6_pointsADay_1 xf_X6_23 hf hv ?_
  obtain ⟨h1, h2⟩ := h
  refine x_if_ne (tgt := 12) dX6_pointsADay_4 (by decide) (fun q => ?_) (fun q => ?_)
  · have h := h1 q
    refine x_aload_n 0 dX6_pointsADay_12 rfl rfl ?_
    obtain ⟨fs, hf, x_2, hv, h⟩ := h
    refine x_get dX6_pointsADay_13 xf_X6_23 hf hv ?_
    refine x_iconst (v := (1 : Int32)) dX6_pointsADay_16 (by decide) ?_
    obtain ⟨h1, h2⟩ := h
    refine x_icmp_ne (tgt := 25) dX6_pointsADay_17 (by decide) (fun q => ?_) (fun q => ?_)
    · have h := h1 q
      refine x_iconst (v := (5 : Int32)) dX6_pointsADay_25 (by decide) ?_
      exact x_zret dX6_pointsADay_26 hr ht rfl ⟨_, rfl, h⟩
    · have h := h2 q
      refine x_bipush (v := (10 : Int32)) dX6_pointsADay_20 (by decide) ?_
      refine x_goto (tgt := 26) dX6_pointsADay_22 (by decide) ?_
      exact x_zret dX6_pointsADay_26 hr ht rfl ⟨_, rfl, h⟩
  · have h := h2 q
    refine x_bipush (v := (30 : Int32)) dX6_pointsADay_7 (by decide) ?_
    refine x_goto (tgt := 26) dX6_pointsADay_9 (by decide) ?_
    exact x_zret dX6_pointsADay_26 hr ht rfl ⟨_, rfl, h⟩
theorem M_X6_pointsADay {l : Launch} {G : xG} (hl : l.stackTraces = false) {a0 : Nat} {t : xT} {K : Int32 → xT → Prop} (h : V_X6_pointsADay_0 K a0 t) : xMet l G yX6_pointsADay k_X6_pointsADay (some .int) [.ref a0] t (xKi K) 0 0 := xMet.of (by decide +kernel) rfl hl (Nat.le_of_ble_eq_true rfl) (fun Γ e1 e2 ht hn hr => by subst e1; subst e2; exact S_X6_pointsADay_0 hl ht hr h)
/-! RentStream$Repair.takePoints(II)V -/
def V_X6_takePoints_0 (K : xT → Prop) (a0 : Nat) (x1 : Int32) (x2 : Int32) (t : xT) : Prop :=
  xgI t a0 6 0 fun x_1 => ((¬ x_1 = 0 → K t) ∧ (x_1 = 0 → xgI t a0 6 4 fun x_2 => (xis t a0 6 ∧ V_X6_clock_0 (fun x_4 t_3 => (((x1 - x_2) ≤ x_4 → K t_3) ∧ (¬ (x1 - x_2) ≤ x_4 → xgR t_3 a0 6 2 fun a_5 => xgR t_3 a_5 1 2 fun a_6 => xgR t_3 a0 6 2 fun a_7 => xgR t_3 a_7 1 2 fun a_8 => (xis t_3 a_8 4 ∧ V_X4_in_0 (fun x_10 t_9 => (xis t_9 a0 6 ∧ V_X6_pointsADay_0 (fun x_12 t_11 => (xis t_11 a_6 4 ∧ V_X4_put_0 (fun t_13 => xgI t_13 a0 6 1 fun x_14 => (xpF t_13 a0 6 1 (.int (x_14 + (1 : Int32))) fun t_15 => K t_15)) a_6 x2 (x_10 + x_12) t_11)) a0 t_9)) a_8 x2 t_3)))) a0 t)))
set_option maxRecDepth 20000 in
theorem S_X6_takePoints_0 {Γ : xΓ} {K : xT → Prop} (hl : (gl Γ).stackTraces = false) (ht : (gM Γ).sig.returnType = none) (hr : xRet Γ (xKv K)) {a0 : Nat} {x1 : Int32} {x2 : Int32} {t : xT} {rc rs : Nat} (h : V_X6_takePoints_0 K a0 x1 x2 t) : xX Γ k_X6_takePoints 0 [(0, .ref a0), (1, .int x1), (2, .int x2)] [] t rc rs := by
  unfold V_X6_takePoints_0 at h
  refine x_aload_n 0 dX6_takePoints_0 rfl rfl ?_
  obtain ⟨fs, hf, x_1, hv, h⟩ := h
  refine x_get dX6_takePoints_1 xf_X6_9 hf hv ?_
  obtain ⟨h1, h2⟩ := h
  refine x_if_ne (tgt := 57) dX6_takePoints_4 (by decide) (fun q => ?_) (fun q => ?_)
  · have h := h1 q
    exact x_vret dX6_takePoints_57 hr ht ⟨rfl, h⟩
  · have h := h2 q
    refine x_iload_n 1 dX6_takePoints_7 rfl rfl ?_
    refine x_aload_n 0 dX6_takePoints_8 rfl rfl ?_
    obtain ⟨fs, hf, x_2, hv, h⟩ := h
    refine x_get dX6_takePoints_9 xf_X6_26 hf hv ?_
    refine x_isub dX6_takePoints_12 ?_
    refine x_aload_n 0 dX6_takePoints_13 rfl rfl ?_
    obtain ⟨⟨fs, hf⟩, h⟩ := h
    refine x_invV (as := []) (rest := [.int (x1 - x_2)]) dX6_takePoints_14 (q := (RX6, TX6, 5)) rfl xc_X6_takePoints_29 hf (M_X6_clock hl h) rfl rfl (Nat.le_of_ble_eq_true rfl) (Nat.zero_le _) (Nat.zero_le _) (xk_i fun x_4 t_3 h => ?_)
    obtain ⟨h1, h2⟩ := h
    refine x_icmp_le (tgt := 57) dX6_takePoints_17 (by decide) (fun q => ?_) (fun q => ?_)
    · have h := h1 q
      exact x_vret dX6_takePoints_57 hr ht ⟨rfl, h⟩
    · have h := h2 q
      refine x_aload_n 0 dX6_takePoints_20 rfl rfl ?_
      obtain ⟨fs, hf, a_5, hv, h⟩ := h
      refine x_get dX6_takePoints_21 xf_X6_19 hf hv ?_
      obtain ⟨fs, hf, a_6, hv, h⟩ := h
      refine x_get dX6_takePoints_24 xf_X6_33 hf hv ?_
      refine x_iload_n 2 dX6_takePoints_27 rfl rfl ?_
      refine x_aload_n 0 dX6_takePoints_28 rfl rfl ?_
      obtain ⟨fs, hf, a_7, hv, h⟩ := h
      refine x_get dX6_takePoints_29 xf_X6_19 hf hv ?_
      obtain ⟨fs, hf, a_8, hv, h⟩ := h
      refine x_get dX6_takePoints_32 xf_X6_33 hf hv ?_
      refine x_iload_n 2 dX6_takePoints_35 rfl rfl ?_
      obtain ⟨⟨fs, hf⟩, h⟩ := h
      refine x_invV (as := [.int x2]) (rest := [.int x2, .ref a_6]) dX6_takePoints_36 (q := (RX4, TX4, 1)) rfl xc_X6_takePoints_39 hf (M_X4_in hl h) rfl rfl (Nat.le_of_ble_eq_true rfl) (Nat.zero_le _) (Nat.zero_le _) (xk_i fun x_10 t_9 h => ?_)
      refine x_aload_n 0 dX6_takePoints_39 rfl rfl ?_
      obtain ⟨⟨fs, hf⟩, h⟩ := h
      refine x_invV (as := []) (rest := [.int x_10, .int x2, .ref a_6]) dX6_takePoints_40 (q := (RX6, TX6, 5)) rfl xc_X6_takePoints_45 hf (M_X6_pointsADay hl h) rfl rfl (Nat.le_of_ble_eq_true rfl) (Nat.zero_le _) (Nat.zero_le _) (xk_i fun x_12 t_11 h => ?_)
      refine x_iadd dX6_takePoints_43 ?_
      obtain ⟨⟨fs, hf⟩, h⟩ := h
      refine x_invV (as := [.int x2, .int (x_10 + x_12)]) (rest := []) dX6_takePoints_44 (q := (RX4, TX4, 1)) rfl xc_X6_takePoints_48 hf (M_X4_put hl h) rfl rfl (Nat.le_of_ble_eq_true rfl) (Nat.zero_le _) (Nat.zero_le _) (xk_v fun t_13 h => ?_)
      refine x_aload_n 0 dX6_takePoints_47 rfl rfl ?_
      refine x_dup dX6_takePoints_48 rfl ?_
      obtain ⟨fs, hf, x_14, hv, h⟩ := h
      refine x_get dX6_takePoints_49 xf_X6_15 hf hv ?_
      refine x_iconst (v := (1 : Int32)) dX6_takePoints_52 (by decide) ?_
      refine x_iadd dX6_takePoints_53 ?_
      obtain ⟨fs, hf, hk, h⟩ := h
      refine x_put (v := .int (x_14 + (1 : Int32))) dX6_takePoints_54 xp_X6_15 hf rfl rfl hk ?_
      generalize hT : xup t_13 a0 _ = t_15 at h ⊢
      clear hT
      exact x_vret dX6_takePoints_57 hr ht ⟨rfl, h⟩
theorem M_X6_takePoints {l : Launch} {G : xG} (hl : l.stackTraces = false) {a0 : Nat} {x1 : Int32} {x2 : Int32} {t : xT} {K : xT → Prop} (h : V_X6_takePoints_0 K a0 x1 x2 t) : xMet l G yX6_takePoints k_X6_takePoints none [.ref a0, .int x1, .int x2] t (xKv K) 0 0 := xMet.of (by decide +kernel) rfl hl (Nat.le_of_ble_eq_true rfl) (fun Γ e1 e2 ht hn hr => by subst e1; subst e2; exact S_X6_takePoints_0 hl ht hr h)
/-! RentStream.endDay()V -/
def VS_X7_endDay_7 (R7 : Nat → Int32 → Int32 → xT → Nat → Nat → Prop) (K : xT → Prop) (a0 : Nat) (x1 : Int32) (x2 : Int32) (t : xT) (rc rs : Nat) : Prop :=
  xgR t a0 7 2 fun a_1 => (xis t a_1 10 ∧ V_Jx4a65c_size_8abf5_0 (fun x_3 t_2 => ((x_3 ≤ x2 → xgI t_2 a0 7 8 fun x_4 => (xpF t_2 a0 7 8 (.int (x_4 + (1 : Int32))) fun t_5 => (xis t_5 a0 7 ∧ V_X7_monthNow_0 (fun x_7 t_6 => ((x_7 ≤ x1 → K t_6) ∧ (¬ x_7 ≤ x1 → (xis t_6 a0 7 ∧ ∃ m_9 z_10 : Nat, m_9 ≤ rc ∧ z_10 ≤ rs ∧ V_X7_endMonth_0 (fun t_8 => (xis t_8 a0 7 ∧ V_X7_beginMonth_0 (fun t_11 => K t_11) a0 (x1 + (1 : Int32)) t_8)) a0 x1 t_6 m_9 z_10)))) a0 t_5))) ∧ (¬ x_3 ≤ x2 → xgR t_2 a0 7 2 fun a_12 => (xis t_2 a_12 10 ∧ V_Jx4a65c_get_915e3_0 (fun o_14 t_13 => xnl o_14 fun a_15 => (xis t_13 a_15 6 ∧ xgI t_13 a0 7 8 fun x_16 => (xis t_13 a_15 6 ∧ V_X6_takePoints_0 (fun t_17 => R7 a0 x1 (x2 + 1) t_17 rc rs) a_15 x_16 x1 t_13))) a_12 x2 t_2)))) a_1 t)
def V_X7_endDay_7 (K : xT → Prop) (n : Nat) : Nat → Int32 → Int32 → xT → Nat → Nat → Prop := Nat.rec (fun _ _ _ _ _ _ => False) (fun _ ih => VS_X7_endDay_7 ih K) n
set_option maxRecDepth 20000 in
theorem S_X7_endDay_7 {Γ : xΓ} {K : xT → Prop} (hl : (gl Γ).stackTraces = false) (ht : (gM Γ).sig.returnType = none) (hr : xRet Γ (xKv K)) : ∀ (n : Nat) (a0 : Nat) (x1 : Int32) (x2 : Int32) (t : xT) (rc rs : Nat), V_X7_endDay_7 K n a0 x1 x2 t rc rs → xX Γ k_X7_endDay 7 [(0, .ref a0), (1, .int x1), (2, .int x2)] [] t rc rs := by
  intro n
  induction n with
  | zero =>
    intro a0 x1 x2 t rc rs h
    exact h.elim
  | succ n ih =>
    intro a0 x1 x2 t rc rs h
    replace h : VS_X7_endDay_7 (V_X7_endDay_7 K n) K a0 x1 x2 t rc rs := h
    unfold VS_X7_endDay_7 at h
    refine x_iload_n 2 dX7_endDay_7 rfl rfl ?_
    refine x_aload_n 0 dX7_endDay_8 rfl rfl ?_
    obtain ⟨fs, hf, a_1, hv, h⟩ := h
    refine x_get dX7_endDay_9 xf_X7_19 hf hv ?_
    obtain ⟨⟨fs, hf⟩, h⟩ := h
    refine x_invV (as := []) (rest := [.int x2]) dX7_endDay_12 (q := (RJx4a65c, TJx4a65c, 3)) rfl xc_X7_endDay_66 hf (M_Jx4a65c_size_8abf5 hl h) rfl rfl (Nat.le_of_ble_eq_true rfl) (Nat.zero_le _) (Nat.zero_le _) (xk_i fun x_3 t_2 h => ?_)
    obtain ⟨h1, h2⟩ := h
    refine x_icmp_ge (tgt := 43) dX7_endDay_15 (by decide) (fun q => ?_) (fun q => ?_)
    · have h := h1 q
      refine x_aload_n 0 dX7_endDay_43 rfl rfl ?_
      refine x_dup dX7_endDay_44 rfl ?_
      obtain ⟨fs, hf, x_4, hv, h⟩ := h
      refine x_get dX7_endDay_45 xf_X7_52 hf hv ?_
      refine x_iconst (v := (1 : Int32)) dX7_endDay_48 (by decide) ?_
      refine x_iadd dX7_endDay_49 ?_
      obtain ⟨fs, hf, hk, h⟩ := h
      refine x_put (v := .int (x_4 + (1 : Int32))) dX7_endDay_50 xp_X7_52 hf rfl rfl hk ?_
      generalize hT : xup t_2 a0 _ = t_5 at h ⊢
      clear hT
      refine x_aload_n 0 dX7_endDay_53 rfl rfl ?_
      obtain ⟨⟨fs, hf⟩, h⟩ := h
      refine x_invV (as := []) (rest := []) dX7_endDay_54 (q := (RX7, TX7, 10)) rfl xc_X7_endDay_97 hf (M_X7_monthNow hl h) rfl rfl (Nat.le_of_ble_eq_true rfl) (Nat.zero_le _) (Nat.zero_le _) (xk_i fun x_7 t_6 h => ?_)
      refine x_iload_n 1 dX7_endDay_57 rfl rfl ?_
      obtain ⟨h1, h2⟩ := h
      refine x_icmp_le (tgt := 73) dX7_endDay_58 (by decide) (fun q => ?_) (fun q => ?_)
      · have h := h1 q
        exact x_vret dX7_endDay_73 hr ht ⟨rfl, h⟩
      · have h := h2 q
        refine x_aload_n 0 dX7_endDay_61 rfl rfl ?_
        refine x_iload_n 1 dX7_endDay_62 rfl rfl ?_
        obtain ⟨⟨fs, hf⟩, h⟩ := h
        obtain ⟨m_9, z_10, hm, hs, h⟩ := h
        refine x_invV (as := [.int x1]) (rest := []) dX7_endDay_63 (q := (RX7, TX7, 10)) rfl xc_X7_endDay_272 hf (M_X7_endMonth hl h) rfl rfl (Nat.le_of_ble_eq_true rfl) hm hs (xk_v fun t_8 h => ?_)
        refine x_aload_n 0 dX7_endDay_66 rfl rfl ?_
        refine x_iload_n 1 dX7_endDay_67 rfl rfl ?_
        refine x_iconst (v := (1 : Int32)) dX7_endDay_68 (by decide) ?_
        refine x_iadd dX7_endDay_69 ?_
        obtain ⟨⟨fs, hf⟩, h⟩ := h
        refine x_invV (as := [.int (x1 + (1 : Int32))]) (rest := []) dX7_endDay_70 (q := (RX7, TX7, 10)) rfl xc_X7_endDay_275 hf (M_X7_beginMonth hl h) rfl rfl (Nat.le_of_ble_eq_true rfl) (Nat.zero_le _) (Nat.zero_le _) (xk_v fun t_11 h => ?_)
        exact x_vret dX7_endDay_73 hr ht ⟨rfl, h⟩
    · have h := h2 q
      refine x_aload_n 0 dX7_endDay_18 rfl rfl ?_
      obtain ⟨fs, hf, a_12, hv, h⟩ := h
      refine x_get dX7_endDay_19 xf_X7_19 hf hv ?_
      refine x_iload_n 2 dX7_endDay_22 rfl rfl ?_
      obtain ⟨⟨fs, hf⟩, h⟩ := h
      refine x_invV (as := [.int x2]) (rest := []) dX7_endDay_23 (q := (RJx4a65c, TJx4a65c, 3)) rfl xc_X7_endDay_149 hf (M_Jx4a65c_get_915e3 hl h) rfl rfl (Nat.le_of_ble_eq_true rfl) (Nat.zero_le _) (Nat.zero_le _) (xk_r fun o_14 t_13 h => ?_)
      obtain ⟨a_15, e, h⟩ := h
      revert h
      subst e
      intro h
      obtain ⟨⟨fs, hf⟩, h⟩ := h
      refine x_ccast dX7_endDay_26 (q := (RX6, TX6, 5)) rfl xw583 hf ?_
      refine x_aload_n 0 dX7_endDay_29 rfl rfl ?_
      obtain ⟨fs, hf, x_16, hv, h⟩ := h
      refine x_get dX7_endDay_30 xf_X7_52 hf hv ?_
      refine x_iload_n 1 dX7_endDay_33 rfl rfl ?_
      obtain ⟨⟨fs, hf⟩, h⟩ := h
      refine x_invV (as := [.int x_16, .int x1]) (rest := []) dX7_endDay_34 (q := (RX6, TX6, 5)) rfl xc_X7_endDay_269 hf (M_X6_takePoints hl h) rfl rfl (Nat.le_of_ble_eq_true rfl) (Nat.zero_le _) (Nat.zero_le _) (xk_v fun t_17 h => ?_)
      refine x_iinc (v := (x2 + 1)) (L' := [(2, .int (x2 + 1)), (0, .ref a0), (1, .int x1)]) (j := 2) dX7_endDay_37 rfl rfl (by decide) rfl ?_
      refine x_goto (tgt := 7) dX7_endDay_40 (by decide) ?_
      refine x_sub (L' := [(0, .ref a0), (1, .int x1), (2, .int (x2 + 1))]) [1, 2, 0] rfl ?_
      exact ih a0 x1 (x2 + 1) t_17 rc rs h
def V_X7_endDay_0 (K : xT → Prop) (a0 : Nat) (t : xT) (rc rs : Nat) : Prop :=
  (xis t a0 7 ∧ V_X7_monthNow_0 (fun x_2 t_1 => ∃ f_3 : Nat, V_X7_endDay_7 K f_3 a0 x_2 (0 : Int32) t_1 rc rs) a0 t)
set_option maxRecDepth 20000 in
theorem S_X7_endDay_0 {Γ : xΓ} {K : xT → Prop} (hl : (gl Γ).stackTraces = false) (ht : (gM Γ).sig.returnType = none) (hr : xRet Γ (xKv K)) {a0 : Nat} {t : xT} {rc rs : Nat} (h : V_X7_endDay_0 K a0 t rc rs) : xX Γ k_X7_endDay 0 [(0, .ref a0)] [] t rc rs := by
  unfold V_X7_endDay_0 at h
  refine x_aload_n 0 dX7_endDay_0 rfl rfl ?_
  obtain ⟨⟨fs, hf⟩, h⟩ := h
  refine x_invV (as := []) (rest := []) dX7_endDay_1 (q := (RX7, TX7, 10)) rfl xc_X7_endDay_97 hf (M_X7_monthNow hl h) rfl rfl (Nat.le_of_ble_eq_true rfl) (Nat.zero_le _) (Nat.zero_le _) (xk_i fun x_2 t_1 h => ?_)
  refine x_istore_n (L' := [(1, .int x_2), (0, .ref a0)]) dX7_endDay_4 rfl (by decide) rfl ?_
  refine x_iconst (v := (0 : Int32)) dX7_endDay_5 (by decide) ?_
  refine x_istore_n (L' := [(2, .int (0 : Int32)), (1, .int x_2), (0, .ref a0)]) dX7_endDay_6 rfl (by decide) rfl ?_
  obtain ⟨f_3, h⟩ := h
  refine x_sub (L' := [(0, .ref a0), (1, .int x_2), (2, .int (0 : Int32))]) [2, 1, 0] rfl ?_
  exact S_X7_endDay_7 hl ht hr  f_3 a0 x_2 (0 : Int32) t_1 rc rs h
theorem M_X7_endDay {l : Launch} {G : xG} (hl : l.stackTraces = false) {a0 : Nat} {t : xT} {K : xT → Prop} {rc rs : Nat} (h : V_X7_endDay_0 K a0 t rc rs) : xMet l G yX7_endDay k_X7_endDay none [.ref a0] t (xKv K) rc rs := xMet.of (by decide +kernel) rfl hl (Nat.le_of_ble_eq_true rfl) (fun Γ e1 e2 ht hn hr => by subst e1; subst e2; exact S_X7_endDay_0 hl ht hr h)
/-! RentStream$Flat.<init>(I)V -/
def V_X1_init_0 (K : xT → Prop) (a0 : Nat) (x1 : Int32) (t : xT) (rc rs : Nat) : Prop :=
  xnw (.inr (4, [.null])) 1 t rc rs fun a_1 t_2 => (∃ m_4 z_5 : Nat, m_4 ≤ (rc - 1) ∧ z_5 ≤ (rs - 1) ∧ V_X4_init_0 (fun t_3 => (xpF t_3 a0 1 1 (.ref a_1) fun t_6 => xnw (.inr (4, [.null])) 1 t_6 ((rc - 1) - m_4) ((rs - 1) - z_5) fun a_7 t_8 => (∃ m_10 z_11 : Nat, m_10 ≤ (((rc - 1) - m_4) - 1) ∧ z_11 ≤ (((rs - 1) - z_5) - 1) ∧ V_X4_init_0 (fun t_9 => (xpF t_9 a0 1 2 (.ref a_7) fun t_12 => (xpF t_12 a0 1 3 (.int (0 : Int32)) fun t_13 => (xpF t_13 a0 1 4 (.int (0 : Int32)) fun t_14 => (xpF t_14 a0 1 5 (.int (-1 : Int32)) fun t_15 => (xpF t_15 a0 1 0 (.int x1) fun t_16 => K t_16)))))) a_7 (0 : Int32) t_8 m_10 z_11))) a_1 (-1 : Int32) t_2 m_4 z_5)
set_option maxRecDepth 20000 in
theorem S_X1_init_0 {Γ : xΓ} {K : xT → Prop} (hl : (gl Γ).stackTraces = false) (ht : (gM Γ).sig.returnType = none) (hr : xRet Γ (xKv K)) (hnm : (gM Γ).name = "<init>") {a0 : Nat} {x1 : Int32} {t : xT} {rc rs : Nat} (h : V_X1_init_0 K a0 x1 t rc rs) : xX Γ k_X1_init 0 [(0, .ref a0), (1, .int x1)] [] t rc rs := by
  unfold V_X1_init_0 at h
  refine x_aload_n 0 dX1_init_0 rfl rfl ?_
  refine x_objInit dX1_init_1 (List.forall_mem_cons.mpr ⟨xw294, List.forall_mem_cons.mpr ⟨xw67, List.forall_mem_cons.mpr ⟨xw68, fun _ h => absurd h List.not_mem_nil⟩⟩⟩) (by decide) (by decide) (Nat.le_of_ble_eq_true rfl) ?_
  refine x_aload_n 0 dX1_init_4 rfl rfl ?_
  obtain ⟨q1, q2, h⟩ := h
  refine x_new dX1_init_5 xn_X1_9 q1 q2 (fun a_1 hq => ?_)
  replace h := h a_1 hq
  generalize hT : xup t a_1 _ = t_2 at h ⊢
  clear hT
  refine x_dup dX1_init_8 rfl ?_
  refine x_iconst (v := (-1 : Int32)) dX1_init_9 (by decide) ?_
  obtain ⟨m_4, z_5, hm, hs, h⟩ := h
  refine x_invI (as := [.int (-1 : Int32)]) (rest := [.ref a_1, .ref a0]) dX1_init_10 xc_X1_init_11 (M_X4_init hl h) rfl rfl (Nat.le_of_ble_eq_true rfl) hm hs (xk_v fun t_3 h => ?_)
  obtain ⟨fs, hf, hk, h⟩ := h
  refine x_putF (v := .ref a_1) dX1_init_13 xp_X1_14 hnm hf rfl rfl hk ?_
  generalize hT : xup t_3 a0 _ = t_6 at h ⊢
  clear hT
  refine x_aload_n 0 dX1_init_16 rfl rfl ?_
  obtain ⟨q1, q2, h⟩ := h
  refine x_new dX1_init_17 xn_X1_9 q1 q2 (fun a_7 hq => ?_)
  replace h := h a_7 hq
  generalize hT : xup t_6 a_7 _ = t_8 at h ⊢
  clear hT
  refine x_dup dX1_init_20 rfl ?_
  refine x_iconst (v := (0 : Int32)) dX1_init_21 (by decide) ?_
  obtain ⟨m_10, z_11, hm, hs, h⟩ := h
  refine x_invI (as := [.int (0 : Int32)]) (rest := [.ref a_7, .ref a0]) dX1_init_22 xc_X1_init_11 (M_X4_init hl h) rfl rfl (Nat.le_of_ble_eq_true rfl) hm hs (xk_v fun t_9 h => ?_)
  obtain ⟨fs, hf, hk, h⟩ := h
  refine x_putF (v := .ref a_7) dX1_init_25 xp_X1_20 hnm hf rfl rfl hk ?_
  generalize hT : xup t_9 a0 _ = t_12 at h ⊢
  clear hT
  refine x_aload_n 0 dX1_init_28 rfl rfl ?_
  refine x_iconst (v := (0 : Int32)) dX1_init_29 (by decide) ?_
  obtain ⟨fs, hf, hk, h⟩ := h
  refine x_put (v := .int (0 : Int32)) dX1_init_30 xp_X1_23 hf rfl rfl hk ?_
  generalize hT : xup t_12 a0 _ = t_13 at h ⊢
  clear hT
  refine x_aload_n 0 dX1_init_33 rfl rfl ?_
  refine x_iconst (v := (0 : Int32)) dX1_init_34 (by decide) ?_
  obtain ⟨fs, hf, hk, h⟩ := h
  refine x_put (v := .int (0 : Int32)) dX1_init_35 xp_X1_27 hf rfl rfl hk ?_
  generalize hT : xup t_13 a0 _ = t_14 at h ⊢
  clear hT
  refine x_aload_n 0 dX1_init_38 rfl rfl ?_
  refine x_iconst (v := (-1 : Int32)) dX1_init_39 (by decide) ?_
  obtain ⟨fs, hf, hk, h⟩ := h
  refine x_put (v := .int (-1 : Int32)) dX1_init_40 xp_X1_30 hf rfl rfl hk ?_
  generalize hT : xup t_14 a0 _ = t_15 at h ⊢
  clear hT
  refine x_aload_n 0 dX1_init_43 rfl rfl ?_
  refine x_iload_n 1 dX1_init_44 rfl rfl ?_
  obtain ⟨fs, hf, hk, h⟩ := h
  refine x_putF (v := .int x1) dX1_init_45 xp_X1_33 hnm hf rfl rfl hk ?_
  generalize hT : xup t_15 a0 _ = t_16 at h ⊢
  clear hT
  exact x_vret dX1_init_48 hr ht ⟨rfl, h⟩
theorem M_X1_init {l : Launch} {G : xG} (hl : l.stackTraces = false) {a0 : Nat} {x1 : Int32} {t : xT} {K : xT → Prop} {rc rs : Nat} (h : V_X1_init_0 K a0 x1 t rc rs) : xMet l G yX1_init k_X1_init none [.ref a0, .int x1] t (xKv K) rc rs := xMet.of (by decide +kernel) rfl hl (Nat.le_of_ble_eq_true rfl) (fun Γ e1 e2 ht hn hr => by subst e1; subst e2; exact S_X1_init_0 hl ht hr hn h)
/-! java/util/Arrays.copyOf([Ljava/lang/Object;ILjava/lang/Class;)[Ljava/lang/Object; -/
def V_J7_copyOf_6403c_0 (E : Nat → Nat) (K : Option Nat → xT → Prop) (a0 : Nat) (x1 : Int32) (a2 : Nat) (t : xT) (rc rs : Nat) : Prop :=
  ((¬ (some a2) = (some (E 5)) → False) ∧ ((some a2) = (some (E 5)) → xnA 6 (.inr (.inr (.inr (.inr (fun _ => none))))) x1 t rc rs fun a_1 t_2 => xal t_2 a0 fun x_3 => xcQ t_2 a0 (0 : Int32) a_1 (0 : Int32) (if x1 < x_3 then x1 else x_3) fun t_4 => K (some a_1) t_4))
set_option maxRecDepth 20000 in
theorem S_J7_copyOf_6403c_0 {Γ : xΓ} {K : Option Nat → xT → Prop} (hl : (gl Γ).stackTraces = false) (ht : (gM Γ).sig.returnType = (some (.array (.object "java/lang/Object")))) (hr : xRet Γ (xKr K)) {a0 : Nat} {x1 : Int32} {a2 : Nat} {t : xT} {rc rs : Nat} (h : V_J7_copyOf_6403c_0 (gG Γ).2.2.2 K a0 x1 a2 t rc rs) : xX Γ k_J7_copyOf_6403c 0 [(0, .ref a0), (1, .int x1), (2, .ref a2)] [] t rc rs := by
  unfold V_J7_copyOf_6403c_0 at h
  refine x_aload_n 2 dJ7_copyOf_6403c_0 rfl rfl ?_
  refine x_ldcM dJ7_copyOf_6403c_1 xw374 ?_
  obtain ⟨h1, h2⟩ := h
  refine x_acmp_ne (rx := (some a2)) (ry := (some ((gG Γ).2.2.2 5))) (tgt := 13) dJ7_copyOf_6403c_3 (by decide) (fun q => ?_) (fun q => ?_)
  · have h := h1 q
    refine x_aload_n 2 dJ7_copyOf_6403c_13 rfl rfl ?_
    exact h.elim
  · have h := h2 q
    refine x_iload_n 1 dJ7_copyOf_6403c_6 rfl rfl ?_
    obtain ⟨q0, qb, q1, q2, h⟩ := h
    refine x_anew6 dJ7_copyOf_6403c_7 xw376 q0 qb q1 q2 (fun a_1 hq => ?_)
    replace h := h a_1 hq
    generalize hT : xup t a_1 _ = t_2 at h ⊢
    clear hT
    refine x_goto (tgt := 24) dJ7_copyOf_6403c_10 (by decide) ?_
    refine x_astore_n (L' := [(3, .ref a_1), (0, .ref a0), (1, .int x1), (2, .ref a2)]) dJ7_copyOf_6403c_24 rfl (by decide) rfl ?_
    refine x_aload_n 1 dJ7_copyOf_6403c_25 rfl rfl ?_
    refine x_iconst (v := (0 : Int32)) dJ7_copyOf_6403c_26 (by decide) ?_
    refine x_aload_n 0 dJ7_copyOf_6403c_27 rfl rfl ?_
    refine x_iconst (v := (0 : Int32)) dJ7_copyOf_6403c_28 (by decide) ?_
    refine x_aload_n 1 dJ7_copyOf_6403c_29 rfl rfl ?_
    obtain ⟨k, z, hf, h⟩ := h
    refine x_alen dJ7_copyOf_6403c_30 hf ?_
    generalize Int32.ofNat z.1 = x_3 at h ⊢
    refine x_iload_n 2 dJ7_copyOf_6403c_31 rfl rfl ?_
    refine x_mmin dJ7_copyOf_6403c_32 xlm_J7_304 (by decide) (by decide) (Nat.le_of_ble_eq_true rfl) ?_
    obtain ⟨n0, n1, f, g, e1, e3, e4, e5, e6, e7, e8, e9, h⟩ := h
    refine x_copyQ dJ7_copyOf_6403c_35 xlc_J7_150 (by decide) (by decide) (Nat.le_of_ble_eq_true rfl) e1 e3 e4 e5 e6 e7 e8 e9 ?_
    generalize hT : xup t_2 a_1 _ = t_4 at h ⊢
    clear hT
    refine x_aload_n 0 dJ7_copyOf_6403c_38 rfl rfl ?_
    exact x_aret (o := (some a_1)) dJ7_copyOf_6403c_39 hr ht (Or.inr ⟨_, rfl⟩) ⟨_, rfl, h⟩
theorem M_J7_copyOf_6403c {l : Launch} {G : xG} (hl : l.stackTraces = false) {a0 : Nat} {x1 : Int32} {a2 : Nat} {t : xT} {K : Option Nat → xT → Prop} {rc rs : Nat} (h : V_J7_copyOf_6403c_0 G.2.2.2 K a0 x1 a2 t rc rs) : xMet l G yJ7_copyOf_6403c k_J7_copyOf_6403c (some (.array (.object "java/lang/Object"))) [.ref a0, .int x1, .ref a2] t (xKr K) rc rs := xMet.of (by decide +kernel) rfl hl (Nat.le_of_ble_eq_true rfl) (fun Γ e1 e2 ht hn hr => by subst e1; subst e2; exact S_J7_copyOf_6403c_0 hl ht hr h)
/-! java/util/Arrays.copyOf([Ljava/lang/Object;I)[Ljava/lang/Object; -/
def V_J7_copyOf_1904c_0 (E : Nat → Nat) (K : Option Nat → xT → Prop) (a0 : Nat) (x1 : Int32) (t : xT) (rc rs : Nat) : Prop :=
  ((∃ n f, t a0 = some (.inl (6, n, .inr (.inr (.inr (.inr f)))))) ∧ (∃ m_3 z_4 : Nat, m_3 ≤ rc ∧ z_4 ≤ rs ∧ V_J7_copyOf_6403c_0 E (fun o_2 t_1 => K o_2 t_1) a0 x1 (E 5) t m_3 z_4))
set_option maxRecDepth 20000 in
theorem S_J7_copyOf_1904c_0 {Γ : xΓ} {K : Option Nat → xT → Prop} (hl : (gl Γ).stackTraces = false) (ht : (gM Γ).sig.returnType = (some (.array (.object "java/lang/Object")))) (hr : xRet Γ (xKr K)) {a0 : Nat} {x1 : Int32} {t : xT} {rc rs : Nat} (h : V_J7_copyOf_1904c_0 (gG Γ).2.2.2 K a0 x1 t rc rs) : xX Γ k_J7_copyOf_1904c 0 [(0, .ref a0), (1, .int x1)] [] t rc rs := by
  unfold V_J7_copyOf_1904c_0 at h
  refine x_aload_n 0 dJ7_copyOf_1904c_0 rfl rfl ?_
  refine x_iload_n 1 dJ7_copyOf_1904c_1 rfl rfl ?_
  refine x_aload_n 0 dJ7_copyOf_1904c_2 rfl rfl ?_
  obtain ⟨⟨n, f, hf⟩, h⟩ := h
  refine x_getC dJ7_copyOf_1904c_3 (List.forall_mem_cons.mpr ⟨xw351, List.forall_mem_cons.mpr ⟨xw1194, List.forall_mem_cons.mpr ⟨xw352, List.forall_mem_cons.mpr ⟨xw370, fun _ h => absurd h List.not_mem_nil⟩⟩⟩⟩) (by decide) (by decide) (Nat.le_of_ble_eq_true rfl) hf ?_
  obtain ⟨m_3, z_4, hm, hs, h⟩ := h
  refine x_invS (as := [.ref a0, .int x1, .ref ((gG Γ).2.2.2 5)]) (rest := []) dJ7_copyOf_1904c_6 xc_J7_copyOf_1904c_300 (M_J7_copyOf_6403c hl h) rfl rfl (Nat.le_of_ble_eq_true rfl) hm hs (xk_r fun o_2 t_1 h => ?_)
  exact x_aret (o := o_2) dJ7_copyOf_1904c_9 hr ht (Or.inr ⟨_, rfl⟩) ⟨_, rfl, h⟩
theorem M_J7_copyOf_1904c {l : Launch} {G : xG} (hl : l.stackTraces = false) {a0 : Nat} {x1 : Int32} {t : xT} {K : Option Nat → xT → Prop} {rc rs : Nat} (h : V_J7_copyOf_1904c_0 G.2.2.2 K a0 x1 t rc rs) : xMet l G yJ7_copyOf_1904c k_J7_copyOf_1904c (some (.array (.object "java/lang/Object"))) [.ref a0, .int x1] t (xKr K) rc rs := xMet.of (by decide +kernel) rfl hl (Nat.le_of_ble_eq_true rfl) (fun Γ e1 e2 ht hn hr => by subst e1; subst e2; exact S_J7_copyOf_1904c_0 hl ht hr h)
/-! jdk/internal/util/ArraysSupport.newLength(III)I -/
def V_J8_newLength_cabcc_0 (K : Int32 → xT → Prop) (x0 : Int32) (x1 : Int32) (x2 : Int32) (t : xT) : Prop :=
  (((x0 + (if x1 < x2 then x2 else x1)) ≤ (0 : Int32) → False) ∧ (¬ (x0 + (if x1 < x2 then x2 else x1)) ≤ (0 : Int32) → (((2147483639 : Int32) < (x0 + (if x1 < x2 then x2 else x1)) → False) ∧ (¬ (2147483639 : Int32) < (x0 + (if x1 < x2 then x2 else x1)) → K (x0 + (if x1 < x2 then x2 else x1)) t))))
set_option maxRecDepth 20000 in
theorem S_J8_newLength_cabcc_0 {Γ : xΓ} {K : Int32 → xT → Prop} (hl : (gl Γ).stackTraces = false) (ht : (gM Γ).sig.returnType = (some .int)) (hr : xRet Γ (xKi K)) {x0 : Int32} {x1 : Int32} {x2 : Int32} {t : xT} {rc rs : Nat} (h : V_J8_newLength_cabcc_0 K x0 x1 x2 t) : xX Γ k_J8_newLength_cabcc 0 [(0, .int x0), (1, .int x1), (2, .int x2)] [] t rc rs := by
  unfold V_J8_newLength_cabcc_0 at h
  refine x_iload_n 0 dJ8_newLength_cabcc_0 rfl rfl ?_
  refine x_iload_n 1 dJ8_newLength_cabcc_1 rfl rfl ?_
  refine x_iload_n 2 dJ8_newLength_cabcc_2 rfl rfl ?_
  refine x_mmax dJ8_newLength_cabcc_3 xlm_J8_194 (by decide) (by decide) (Nat.le_of_ble_eq_true rfl) ?_
  refine x_iadd dJ8_newLength_cabcc_6 ?_
  refine x_istore_n (L' := [(3, .int (x0 + (if x1 < x2 then x2 else x1))), (0, .int x0), (1, .int x1), (2, .int x2)]) dJ8_newLength_cabcc_7 rfl (by decide) rfl ?_
  refine x_iconst (v := (0 : Int32)) dJ8_newLength_cabcc_8 (by decide) ?_
  refine x_iload_n 0 dJ8_newLength_cabcc_9 rfl rfl ?_
  obtain ⟨h1, h2⟩ := h
  refine x_icmp_ge (tgt := 21) dJ8_newLength_cabcc_10 (by decide) (fun q => ?_) (fun q => ?_)
  · have h := h1 q
    refine x_iload_n 1 dJ8_newLength_cabcc_21 rfl rfl ?_
    refine x_iload_n 2 dJ8_newLength_cabcc_22 rfl rfl ?_
    exact h.elim
  · have h := h2 q
    refine x_iload_n 0 dJ8_newLength_cabcc_13 rfl rfl ?_
    refine x_ldc dJ8_newLength_cabcc_14 xw344 ?_
    obtain ⟨h1, h2⟩ := h
    refine x_icmp_gt (tgt := 21) dJ8_newLength_cabcc_16 (by decide) (fun q => ?_) (fun q => ?_)
    · have h := h1 q
      refine x_iload_n 1 dJ8_newLength_cabcc_21 rfl rfl ?_
      refine x_iload_n 2 dJ8_newLength_cabcc_22 rfl rfl ?_
      exact h.elim
    · have h := h2 q
      refine x_iload_n 0 dJ8_newLength_cabcc_19 rfl rfl ?_
      exact x_zret dJ8_newLength_cabcc_20 hr ht rfl ⟨_, rfl, h⟩
theorem M_J8_newLength_cabcc {l : Launch} {G : xG} (hl : l.stackTraces = false) {x0 : Int32} {x1 : Int32} {x2 : Int32} {t : xT} {K : Int32 → xT → Prop} (h : V_J8_newLength_cabcc_0 K x0 x1 x2 t) : xMet l G yJ8_newLength_cabcc k_J8_newLength_cabcc (some .int) [.int x0, .int x1, .int x2] t (xKi K) 0 0 := xMet.of (by decide +kernel) rfl hl (Nat.le_of_ble_eq_true rfl) (fun Γ e1 e2 ht hn hr => by subst e1; subst e2; exact S_J8_newLength_cabcc_0 hl ht hr h)
/-! java/util/ArrayList.grow(I)[Ljava/lang/Object; -/
def V_Jx4a65c_grow_92f84_20 (E : Nat → Nat) (K : Option Nat → xT → Prop) (a0 : Nat) (x1 : Int32) (x2 : Int32) (t : xT) (rc rs : Nat) : Prop :=
  (V_J8_newLength_cabcc_0 (fun x_2 t_1 => xgR t_1 a0 10 1 fun a_3 => (∃ m_6 z_7 : Nat, m_6 ≤ rc ∧ z_7 ≤ rs ∧ V_J7_copyOf_1904c_0 E (fun o_5 t_4 => xnl o_5 fun a_8 => (xpF t_4 a0 10 1 (.ref a_8) fun t_9 => K (some a_8) t_9)) a_3 x_2 t_1 m_6 z_7)) x2 (x1 - x2) (x2 >>> ((1 : Int32) &&& 31)) t)
set_option maxRecDepth 20000 in
theorem S_Jx4a65c_grow_92f84_20 {Γ : xΓ} {K : Option Nat → xT → Prop} (hl : (gl Γ).stackTraces = false) (ht : (gM Γ).sig.returnType = (some (.array (.object "java/lang/Object")))) (hr : xRet Γ (xKr K)) {a0 : Nat} {x1 : Int32} {x2 : Int32} {t : xT} {rc rs : Nat} (h : V_Jx4a65c_grow_92f84_20 (gG Γ).2.2.2 K a0 x1 x2 t rc rs) : xX Γ k_Jx4a65c_grow_92f84 20 [(0, .ref a0), (1, .int x1), (2, .int x2)] [] t rc rs := by
  unfold V_Jx4a65c_grow_92f84_20 at h
  refine x_iload_n 2 dJx4a65c_grow_92f84_20 rfl rfl ?_
  refine x_iload_n 1 dJx4a65c_grow_92f84_21 rfl rfl ?_
  refine x_iload_n 2 dJx4a65c_grow_92f84_22 rfl rfl ?_
  refine x_isub dJx4a65c_grow_92f84_23 ?_
  refine x_iload_n 2 dJx4a65c_grow_92f84_24 rfl rfl ?_
  refine x_iconst (v := (1 : Int32)) dJx4a65c_grow_92f84_25 (by decide) ?_
  refine x_ishr dJx4a65c_grow_92f84_26 ?_
  refine x_invS (as := [.int x2, .int (x1 - x2), .int (x2 >>> ((1 : Int32) &&& 31))]) (rest := []) dJx4a65c_grow_92f84_27 xc_Jx4a65c_grow_92f84_73 (M_J8_newLength_cabcc hl h) rfl rfl (Nat.le_of_ble_eq_true rfl) (Nat.zero_le _) (Nat.zero_le _) (xk_i fun x_2 t_1 h => ?_)
  refine x_istore_n (L' := [(3, .int x_2), (0, .ref a0), (1, .int x1), (2, .int x2)]) dJx4a65c_grow_92f84_30 rfl (by decide) rfl ?_
  refine x_aload_n 1 dJx4a65c_grow_92f84_31 rfl rfl ?_
  refine x_aload_n 1 dJx4a65c_grow_92f84_32 rfl rfl ?_
  obtain ⟨fs, hf, a_3, hv, h⟩ := h
  refine x_get dJx4a65c_grow_92f84_33 xf_Jx4a65c_9 hf hv ?_
  refine x_iload_n 0 dJx4a65c_grow_92f84_36 rfl rfl ?_
  obtain ⟨m_6, z_7, hm, hs, h⟩ := h
  refine x_invS (as := [.ref a_3, .int x_2]) (rest := [.ref a0]) dJx4a65c_grow_92f84_37 xc_Jx4a65c_grow_92f84_66 (M_J7_copyOf_1904c hl h) rfl rfl (Nat.le_of_ble_eq_true rfl) hm hs (xk_r fun o_5 t_4 h => ?_)
  refine x_dup_x1 dJx4a65c_grow_92f84_40 xcat_rf rfl ?_
  obtain ⟨a_8, e, h⟩ := h
  revert h
  subst e
  intro h
  obtain ⟨fs, hf, hk, h⟩ := h
  refine x_put (v := .ref a_8) dJx4a65c_grow_92f84_41 xp_Jx4a65c_9 hf rfl rfl hk ?_
  generalize hT : xup t_4 a0 _ = t_9 at h ⊢
  clear hT
  exact x_aret (o := (some a_8)) dJx4a65c_grow_92f84_44 hr ht (Or.inr ⟨_, rfl⟩) ⟨_, rfl, h⟩
def V_Jx4a65c_grow_92f84_0 (E : Nat → Nat) (K : Option Nat → xT → Prop) (a0 : Nat) (x1 : Int32) (t : xT) (rc rs : Nat) : Prop :=
  xgR t a0 10 1 fun a_1 => xal t a_1 fun x_2 => ((0 < x_2 → V_Jx4a65c_grow_92f84_20 E K a0 x1 x_2 t rc rs) ∧ (¬ 0 < x_2 → xgR t a0 10 1 fun a_3 => (((some a_3) = (some (E 0)) → xnA 6 (.inr (.inr (.inr (.inr (fun _ => none))))) (if (10 : Int32) < x1 then x1 else (10 : Int32)) t rc rs fun a_4 t_5 => (xpF t_5 a0 10 1 (.ref a_4) fun t_6 => K (some a_4) t_6)) ∧ (¬ (some a_3) = (some (E 0)) → V_Jx4a65c_grow_92f84_20 E K a0 x1 x_2 t rc rs))))
set_option maxRecDepth 20000 in
theorem S_Jx4a65c_grow_92f84_0 {Γ : xΓ} {K : Option Nat → xT → Prop} (hl : (gl Γ).stackTraces = false) (ht : (gM Γ).sig.returnType = (some (.array (.object "java/lang/Object")))) (hr : xRet Γ (xKr K)) {a0 : Nat} {x1 : Int32} {t : xT} {rc rs : Nat} (h : V_Jx4a65c_grow_92f84_0 (gG Γ).2.2.2 K a0 x1 t rc rs) : xX Γ k_Jx4a65c_grow_92f84 0 [(0, .ref a0), (1, .int x1)] [] t rc rs := by
  unfold V_Jx4a65c_grow_92f84_0 at h
  refine x_aload_n 0 dJx4a65c_grow_92f84_0 rfl rfl ?_
  obtain ⟨fs, hf, a_1, hv, h⟩ := h
  refine x_get dJx4a65c_grow_92f84_1 xf_Jx4a65c_9 hf hv ?_
  obtain ⟨k, z, hf, h⟩ := h
  refine x_alen dJx4a65c_grow_92f84_4 hf ?_
  generalize Int32.ofNat z.1 = x_2 at h ⊢
  refine x_istore_n (L' := [(2, .int x_2), (0, .ref a0), (1, .int x1)]) dJx4a65c_grow_92f84_5 rfl (by decide) rfl ?_
  refine x_iload_n 0 dJx4a65c_grow_92f84_6 rfl rfl ?_
  obtain ⟨h1, h2⟩ := h
  refine x_if_gt (tgt := 20) dJx4a65c_grow_92f84_7 (by decide) (fun q => ?_) (fun q => ?_)
  · have h := h1 q
    refine x_sub (L' := [(0, .ref a0), (1, .int x1), (2, .int x_2)]) [1, 2, 0] rfl ?_
    exact S_Jx4a65c_grow_92f84_20 hl ht hr  h
  · have h := h2 q
    refine x_aload_n 1 dJx4a65c_grow_92f84_10 rfl rfl ?_
    obtain ⟨fs, hf, a_3, hv, h⟩ := h
    refine x_get dJx4a65c_grow_92f84_11 xf_Jx4a65c_9 hf hv ?_
    refine x_gets (v := .ref ((gG Γ).2.2.2 0)) dJx4a65c_grow_92f84_14 (List.mem_of_getElem? (i := 1) rfl) xw81 ?_
    obtain ⟨h1, h2⟩ := h
    refine x_acmp_eq (rx := (some a_3)) (ry := (some ((gG Γ).2.2.2 0))) (tgt := 45) dJx4a65c_grow_92f84_17 (by decide) (fun q => ?_) (fun q => ?_)
    · have h := h1 q
      refine x_aload_n 1 dJx4a65c_grow_92f84_45 rfl rfl ?_
      refine x_bipush (v := (10 : Int32)) dJx4a65c_grow_92f84_46 (by decide) ?_
      refine x_iload_n 2 dJx4a65c_grow_92f84_48 rfl rfl ?_
      refine x_mmax dJx4a65c_grow_92f84_49 xlm_Jx4a65c_79 (by decide) (by decide) (Nat.le_of_ble_eq_true rfl) ?_
      obtain ⟨q0, qb, q1, q2, h⟩ := h
      refine x_anew6 dJx4a65c_grow_92f84_52 xw384 q0 qb q1 q2 (fun a_4 hq => ?_)
      replace h := h a_4 hq
      generalize hT : xup t a_4 _ = t_5 at h ⊢
      clear hT
      refine x_dup_x1 dJx4a65c_grow_92f84_55 rfl rfl ?_
      obtain ⟨fs, hf, hk, h⟩ := h
      refine x_put (v := .ref a_4) dJx4a65c_grow_92f84_56 xp_Jx4a65c_9 hf rfl rfl hk ?_
      generalize hT : xup t_5 a0 _ = t_6 at h ⊢
      clear hT
      exact x_aret (o := (some a_4)) dJx4a65c_grow_92f84_59 hr ht (Or.inr ⟨_, rfl⟩) ⟨_, rfl, h⟩
    · have h := h2 q
      refine x_sub (L' := [(0, .ref a0), (1, .int x1), (2, .int x_2)]) [1, 2, 0] rfl ?_
      exact S_Jx4a65c_grow_92f84_20 hl ht hr  h
theorem M_Jx4a65c_grow_92f84 {l : Launch} {G : xG} (hl : l.stackTraces = false) {a0 : Nat} {x1 : Int32} {t : xT} {K : Option Nat → xT → Prop} {rc rs : Nat} (h : V_Jx4a65c_grow_92f84_0 G.2.2.2 K a0 x1 t rc rs) : xMet l G yJx4a65c_grow_92f84 k_Jx4a65c_grow_92f84 (some (.array (.object "java/lang/Object"))) [.ref a0, .int x1] t (xKr K) rc rs := xMet.of (by decide +kernel) rfl hl (Nat.le_of_ble_eq_true rfl) (fun Γ e1 e2 ht hn hr => by subst e1; subst e2; exact S_Jx4a65c_grow_92f84_0 hl ht hr h)
/-! java/util/ArrayList.grow()[Ljava/lang/Object; -/
def V_Jx4a65c_grow_d5877_0 (E : Nat → Nat) (K : Option Nat → xT → Prop) (a0 : Nat) (t : xT) (rc rs : Nat) : Prop :=
  xgI t a0 10 2 fun x_1 => (xis t a0 10 ∧ ∃ m_4 z_5 : Nat, m_4 ≤ rc ∧ z_5 ≤ rs ∧ V_Jx4a65c_grow_92f84_0 E (fun o_3 t_2 => K o_3 t_2) a0 (x_1 + (1 : Int32)) t m_4 z_5)
set_option maxRecDepth 20000 in
theorem S_Jx4a65c_grow_d5877_0 {Γ : xΓ} {K : Option Nat → xT → Prop} (hl : (gl Γ).stackTraces = false) (ht : (gM Γ).sig.returnType = (some (.array (.object "java/lang/Object")))) (hr : xRet Γ (xKr K)) {a0 : Nat} {t : xT} {rc rs : Nat} (h : V_Jx4a65c_grow_d5877_0 (gG Γ).2.2.2 K a0 t rc rs) : xX Γ k_Jx4a65c_grow_d5877 0 [(0, .ref a0)] [] t rc rs := by
  unfold V_Jx4a65c_grow_d5877_0 at h
  refine x_aload_n 0 dJx4a65c_grow_d5877_0 rfl rfl ?_
  refine x_aload_n 0 dJx4a65c_grow_d5877_1 rfl rfl ?_
  obtain ⟨fs, hf, x_1, hv, h⟩ := h
  refine x_get dJx4a65c_grow_d5877_2 xf_Jx4a65c_48 hf hv ?_
  refine x_iconst (v := (1 : Int32)) dJx4a65c_grow_d5877_5 (by decide) ?_
  refine x_iadd dJx4a65c_grow_d5877_6 ?_
  obtain ⟨⟨fs, hf⟩, h⟩ := h
  obtain ⟨m_4, z_5, hm, hs, h⟩ := h
  refine x_invV (as := [.int (x_1 + (1 : Int32))]) (rest := []) dJx4a65c_grow_d5877_7 (q := (RJx4a65c, TJx4a65c, 3)) rfl xc_Jx4a65c_grow_d5877_69 hf (M_Jx4a65c_grow_92f84 hl h) rfl rfl (Nat.le_of_ble_eq_true rfl) hm hs (xk_r fun o_3 t_2 h => ?_)
  exact x_aret (o := o_3) dJx4a65c_grow_d5877_10 hr ht (Or.inr ⟨_, rfl⟩) ⟨_, rfl, h⟩
theorem M_Jx4a65c_grow_d5877 {l : Launch} {G : xG} (hl : l.stackTraces = false) {a0 : Nat} {t : xT} {K : Option Nat → xT → Prop} {rc rs : Nat} (h : V_Jx4a65c_grow_d5877_0 G.2.2.2 K a0 t rc rs) : xMet l G yJx4a65c_grow_d5877 k_Jx4a65c_grow_d5877 (some (.array (.object "java/lang/Object"))) [.ref a0] t (xKr K) rc rs := xMet.of (by decide +kernel) rfl hl (Nat.le_of_ble_eq_true rfl) (fun Γ e1 e2 ht hn hr => by subst e1; subst e2; exact S_Jx4a65c_grow_d5877_0 hl ht hr h)
/-! java/util/ArrayList.add(Ljava/lang/Object;[Ljava/lang/Object;I)V -/
def V_Jx4a65c_add_72be8_0 (E : Nat → Nat) (K : xT → Prop) (a0 : Nat) (a1 : Nat) (a2 : Nat) (x3 : Int32) (t : xT) (rc rs : Nat) : Prop :=
  xal t a2 fun x_1 => ((¬ x3 = x_1 → xsQ6 t a2 x3 a1 fun t_2 => (xpF t_2 a0 10 2 (.int (x3 + (1 : Int32))) fun t_3 => K t_3)) ∧ (x3 = x_1 → (xis t a0 10 ∧ ∃ m_6 z_7 : Nat, m_6 ≤ rc ∧ z_7 ≤ rs ∧ V_Jx4a65c_grow_d5877_0 E (fun o_5 t_4 => xnl o_5 fun a_8 => xsQ6 t_4 a_8 x3 a1 fun t_9 => (xpF t_9 a0 10 2 (.int (x3 + (1 : Int32))) fun t_10 => K t_10)) a0 t m_6 z_7)))
set_option maxRecDepth 20000 in
theorem S_Jx4a65c_add_72be8_0 {Γ : xΓ} {K : xT → Prop} (hl : (gl Γ).stackTraces = false) (ht : (gM Γ).sig.returnType = none) (hr : xRet Γ (xKv K)) {a0 : Nat} {a1 : Nat} {a2 : Nat} {x3 : Int32} {t : xT} {rc rs : Nat} (h : V_Jx4a65c_add_72be8_0 (gG Γ).2.2.2 K a0 a1 a2 x3 t rc rs) : xX Γ k_Jx4a65c_add_72be8 0 [(0, .ref a0), (1, .ref a1), (2, .ref a2), (3, .int x3)] [] t rc rs := by
  unfold V_Jx4a65c_add_72be8_0 at h
  refine x_iload_n 3 dJx4a65c_add_72be8_0 rfl rfl ?_
  refine x_aload_n 2 dJx4a65c_add_72be8_1 rfl rfl ?_
  obtain ⟨k, z, hf, h⟩ := h
  refine x_alen dJx4a65c_add_72be8_2 hf ?_
  generalize Int32.ofNat z.1 = x_1 at h ⊢
  obtain ⟨h1, h2⟩ := h
  refine x_icmp_ne (tgt := 11) dJx4a65c_add_72be8_3 (by decide) (fun q => ?_) (fun q => ?_)
  · have h := h1 q
    refine x_aload_n 2 dJx4a65c_add_72be8_11 rfl rfl ?_
    refine x_iload_n 3 dJx4a65c_add_72be8_12 rfl rfl ?_
    refine x_aload_n 1 dJx4a65c_add_72be8_13 rfl rfl ?_
    obtain ⟨n, f, hf, hi, ci, vs, hv, ho, h⟩ := h
    refine x_aast6 dJx4a65c_add_72be8_14 hf hv ho hi ?_
    generalize hT : xup t a2 _ = t_2 at h ⊢
    clear hT
    refine x_aload_n 0 dJx4a65c_add_72be8_15 rfl rfl ?_
    refine x_iload_n 3 dJx4a65c_add_72be8_16 rfl rfl ?_
    refine x_iconst (v := (1 : Int32)) dJx4a65c_add_72be8_17 (by decide) ?_
    refine x_iadd dJx4a65c_add_72be8_18 ?_
    obtain ⟨fs, hf, hk, h⟩ := h
    refine x_put (v := .int (x3 + (1 : Int32))) dJx4a65c_add_72be8_19 xp_Jx4a65c_48 hf rfl rfl hk ?_
    generalize hT : xup t_2 a0 _ = t_3 at h ⊢
    clear hT
    exact x_vret dJx4a65c_add_72be8_22 hr ht ⟨rfl, h⟩
  · have h := h2 q
    refine x_aload_n 0 dJx4a65c_add_72be8_6 rfl rfl ?_
    obtain ⟨⟨fs, hf⟩, h⟩ := h
    obtain ⟨m_6, z_7, hm, hs, h⟩ := h
    refine x_invV (as := []) (rest := []) dJx4a65c_add_72be8_7 (q := (RJx4a65c, TJx4a65c, 3)) rfl xc_Jx4a65c_add_72be8_129 hf (M_Jx4a65c_grow_d5877 hl h) rfl rfl (Nat.le_of_ble_eq_true rfl) hm hs (xk_r fun o_5 t_4 h => ?_)
    refine x_ostore_n (L' := [(2, va_rf o_5), (0, .ref a0), (1, .ref a1), (3, .int x3)]) dJx4a65c_add_72be8_10 rfl (by decide) rfl ?_
    refine x_oload_n 0 dJx4a65c_add_72be8_11 rfl rfl ?_
    refine x_iload_n 3 dJx4a65c_add_72be8_12 rfl rfl ?_
    refine x_aload_n 2 dJx4a65c_add_72be8_13 rfl rfl ?_
    obtain ⟨a_8, e, h⟩ := h
    revert h
    subst e
    intro h
    obtain ⟨n, f, hf, hi, ci, vs, hv, ho, h⟩ := h
    refine x_aast6 dJx4a65c_add_72be8_14 hf hv ho hi ?_
    generalize hT : xup t_4 a_8 _ = t_9 at h ⊢
    clear hT
    refine x_aload_n 1 dJx4a65c_add_72be8_15 rfl rfl ?_
    refine x_iload_n 3 dJx4a65c_add_72be8_16 rfl rfl ?_
    refine x_iconst (v := (1 : Int32)) dJx4a65c_add_72be8_17 (by decide) ?_
    refine x_iadd dJx4a65c_add_72be8_18 ?_
    obtain ⟨fs, hf, hk, h⟩ := h
    refine x_put (v := .int (x3 + (1 : Int32))) dJx4a65c_add_72be8_19 xp_Jx4a65c_48 hf rfl rfl hk ?_
    generalize hT : xup t_9 a0 _ = t_10 at h ⊢
    clear hT
    exact x_vret dJx4a65c_add_72be8_22 hr ht ⟨rfl, h⟩
theorem M_Jx4a65c_add_72be8 {l : Launch} {G : xG} (hl : l.stackTraces = false) {a0 : Nat} {a1 : Nat} {a2 : Nat} {x3 : Int32} {t : xT} {K : xT → Prop} {rc rs : Nat} (h : V_Jx4a65c_add_72be8_0 G.2.2.2 K a0 a1 a2 x3 t rc rs) : xMet l G yJx4a65c_add_72be8 k_Jx4a65c_add_72be8 none [.ref a0, .ref a1, .ref a2, .int x3] t (xKv K) rc rs := xMet.of (by decide +kernel) rfl hl (Nat.le_of_ble_eq_true rfl) (fun Γ e1 e2 ht hn hr => by subst e1; subst e2; exact S_Jx4a65c_add_72be8_0 hl ht hr h)
