section LAWQ
variable {E : Nat → Nat} {ad ad' : xAd} {q q' : xL} {lo : Nat → Nat → Prop} {s s' u u' : xS} {co : Nat → Nat → xE} {t : xT} {a1 a2 a3 : Nat} {D P D' P' : Int} {R : xT → Prop} {m z : Nat}
theorem LB.ok (hL : LB E lo a1 a2 a3 D P ad q s u co) : LB E lo a1 a2 a3 (D + 200000000) (P + 1000000) ad q s (su u 20 0 0 0) co := hL.thr
theorem lw_owes {K : Int32 → xT → Prop} {x : Int} (hI : LInv E lo a1 a2 a3 D P t) (h1 : 720 ≤ m) (h2 : 3200 ≤ z) (hx : i32 x) (kk : ∀ t, LInv E lo a1 a2 a3 (D + 200000000) (P + 1000000) t → R t) (hK : ∀ x2 t1, (xis t1 a2 8 ∧ V_X8_owes_0 (fun y_6 t_5 => LK R a2 a3 x2 y_6 t_5) a2 (I x) t1) → K x2 t1) : V_L_owes_0 K a1 (I x) a3 t m z := by
  obtain ⟨ad, q, s, u, co, hR, hL⟩ := hI
  obtain ⟨rfl, rfl, rfl⟩ := hL.2.2.1
  have hD := hL.2.2.2.2
  have hS := hD.1.2.1
  have hq := hL.2.2.2.1.2.2.2.2.2.1
  refine ⟨hL.x7 hR, m, z, Nat.le_refl _, Nat.le_refl _, ?_⟩
  refine sp_owes hR hL.2.2.2.1.n1 (Nat.le_refl _) hx (by omega) (by omega) (fun hc => ⟨rfl, fun _ => hK 1 t ⟨hL.x8 hR, ?_⟩⟩) (fun hc => ?_)
  · exact mm_owes hR hL.u0.2.1 hq.2.1 hx (fun h => absurd h hc) (fun _ t hR => lk_thr hR (by decide) (kk t ⟨_, _, _, _, _, hR, hL.thr⟩))
  · refine out_put hL.2.1 hR (fun t hR => hK 0 t ⟨hL.x8 hR, ?_⟩)
    exact mm_owes hR hL.u0.2.1 hq.2.1 hx (fun _ t hR => lk_ok hL.2.1.1 hR su_thr (by rw [hS.r6 _ 5 (by decide)]) (kk t ⟨_, _, _, _, _, hR, hL.ok.out⟩)) (fun h => absurd hc h)
theorem lw_desk {K : Int32 → xT → Prop} {x : Int} (hI : LInv E lo a1 a2 a3 D P t) (h1 : 720 ≤ m) (h2 : 3200 ≤ z) (hx : i32 x) (kk : ∀ t, LInv E lo a1 a2 a3 (D + 200000000) (P + 1000000) t → R t) (hK : ∀ x2 t1, (xis t1 a2 8 ∧ V_X8_desk_0 (fun y_6 t_5 => LK R a2 a3 x2 y_6 t_5) a2 (I x) t1) → K x2 t1) : V_L_desk_0 K a1 (I x) a3 t m z := by
  obtain ⟨ad, q, s, u, co, hR, hL⟩ := hI
  obtain ⟨rfl, rfl, rfl⟩ := hL.2.2.1
  have hD := hL.2.2.2.2
  have hS := hD.1.2.1
  have hq := hL.2.2.2.1.2.2.2.2.2.1
  refine ⟨hL.x7 hR, m, z, Nat.le_refl _, Nat.le_refl _, ?_⟩
  refine sp_desk hR hL.2.2.2.1.n1 (Nat.le_refl _) hx (by omega) (by omega) (fun hc => ⟨rfl, fun _ => hK 1 t ⟨hL.x8 hR, ?_⟩⟩) (fun hc => ?_)
  · exact mm_desk hR hL.u0.2.1 hq.2.1 hx (fun h => absurd h hc) (fun _ t hR => lk_thr hR (by decide) (kk t ⟨_, _, _, _, _, hR, hL.thr⟩))
  · refine out_put hL.2.1 hR (fun t hR => hK 0 t ⟨hL.x8 hR, ?_⟩)
    exact mm_desk hR hL.u0.2.1 hq.2.1 hx (fun _ t hR => lk_ok hL.2.1.1 hR su_thr (by rw [hS.r6 _ 6 (by decide)]) (kk t ⟨_, _, _, _, _, hR, hL.ok.out⟩)) (fun h => absurd hc h)
theorem lw_planOf {K : Int32 → xT → Prop} {x : Int} (hI : LInv E lo a1 a2 a3 D P t) (h1 : 720 ≤ m) (h2 : 3200 ≤ z) (hx : i32 x) (kk : ∀ t, LInv E lo a1 a2 a3 (D + 200000000) (P + 1000000) t → R t) (hK : ∀ x2 t1, (xis t1 a2 8 ∧ V_X8_planOf_0 (fun x_6 t_5 => LK R a2 a3 x2 x_6.toInt64 t_5) a2 (I x) t1) → K x2 t1) : V_L_planOf_0 K a1 (I x) a3 t m z := by
  obtain ⟨ad, q, s, u, co, hR, hL⟩ := hI
  obtain ⟨rfl, rfl, rfl⟩ := hL.2.2.1
  have hD := hL.2.2.2.2
  have hS := hD.1.2.1
  have hq := hL.2.2.2.1.2.2.2.2.2.1
  refine ⟨hL.x7 hR, m, z, Nat.le_refl _, Nat.le_refl _, ?_⟩
  refine sp_planOf hR hL.2.2.2.1.n1 (Nat.le_refl _) hx (by omega) (by omega) (fun hc => ⟨rfl, fun _ => hK 1 t ⟨hL.x8 hR, ?_⟩⟩) (fun hc => ?_)
  · exact mm_planOf hR hL.u0.2.1 hq.2.1 hx (fun h => absurd h hc) (fun _ t hR => lk_thr hR (by decide) (kk t ⟨_, _, _, _, _, hR, hL.thr⟩))
  · refine out_put hL.2.1 hR (fun t hR => hK 0 t ⟨hL.x8 hR, ?_⟩)
    exact mm_planOf hR hL.u0.2.1 hq.2.1 hx (fun _ t hR => lk_ok hL.2.1.1 hR su_thr (by rw [hS.r7 _ 0 (by decide)]) (kk t ⟨_, _, _, _, _, hR, hL.ok.out⟩)) (fun h => absurd hc h)
theorem lw_points {K : Int32 → xT → Prop} {x : Int} (hI : LInv E lo a1 a2 a3 D P t) (h1 : 720 ≤ m) (h2 : 3200 ≤ z) (hx : i32 x) (kk : ∀ t, LInv E lo a1 a2 a3 (D + 200000000) (P + 1000000) t → R t) (hK : ∀ x2 t1, (xis t1 a2 8 ∧ V_X8_points_0 (fun x_6 t_5 => LK R a2 a3 x2 x_6.toInt64 t_5) a2 (I x) t1) → K x2 t1) : V_L_points_0 K a1 (I x) a3 t m z := by
  obtain ⟨ad, q, s, u, co, hR, hL⟩ := hI
  obtain ⟨rfl, rfl, rfl⟩ := hL.2.2.1
  have hD := hL.2.2.2.2
  have hq := hL.2.2.2.1.2.2.2.2.2.1
  refine ⟨hL.x7 hR, m, z, Nat.le_refl _, Nat.le_refl _, ?_⟩
  refine sp_points hR hD.2 hL.2.2.2.1.n0 (Nat.le_refl _) hx (by omega) (by omega) (fun hc => ⟨rfl, fun _ => hK 1 t ⟨hL.x8 hR, ?_⟩⟩) (fun hc => ?_)
  · exact mm_points hR hL.u0.1 hq.1 hx (fun h => absurd h hc) (fun _ t hR => lk_thr hR (by decide) (kk t ⟨_, _, _, _, _, hR, hL.thr⟩))
  · refine out_put hL.2.1 hR (fun t hR => hK 0 t ⟨hL.x8 hR, ?_⟩)
    exact mm_points hR hL.u0.1 hq.1 hx (fun _ t hR => lk_ok hL.2.1.1 hR su_thr (by rw [hD.1.2.2.1.2.2.2.1 _ (by omega)]) (kk t ⟨_, _, _, _, _, hR, hL.ok.out⟩)) (fun h => absurd hc h)
theorem lw_use {K : Int32 → xT → Prop} {x y : Int} (hI : LInv E lo a1 a2 a3 D P t) (h1 : 720 ≤ m) (h2 : 3200 ≤ z) (hx : i32 x) (hy : i32 y) (kk : ∀ t, LInv E lo a1 a2 a3 (D + 200000000) (P + 1000000) t → R t) (hK : ∀ x2 t1, (xis t1 a2 8 ∧ V_X8_use_0 (fun x_6 t_5 => LK R a2 a3 x2 x_6.toInt64 t_5) a2 (I x) (I y) t1) → K x2 t1) : V_L_use_0 K a1 (I x) (I y) a3 t m z := by
  obtain ⟨ad, q, s, u, co, hR, hL⟩ := hI
  obtain ⟨rfl, rfl, rfl⟩ := hL.2.2.1
  have hD := hL.2.2.2.2
  have hS := hD.1.2.1
  have hq := hL.2.2.2.1.2.2.2.2.2.1
  have e8 := hS.rd
  refine ⟨hL.x7 hR, m, z, Nat.le_refl _, Nat.le_refl _, ?_⟩
  refine sp_use hR hD.2 hL.2.2.2.1.n0 (Nat.le_refl _) hx hy (by omega) (by omega) (fun hc => ⟨rfl, fun _ => hK 1 t ⟨hL.x8 hR, ?_⟩⟩) (fun hc => ?_)
  · exact mm_use hR hL.tu hL.u0.1 hq.1 hx hy (fun _ t hR => lk_thr hR (by decide) (kk t ⟨_, _, _, _, _, hR, hL.thr⟩)) (fun h => absurd (by rw [e8] at h; exact h) hc)
  · refine out_put hL.2.1 hR (fun t hR => hK 0 t ⟨hL.x8 hR, ?_⟩)
    exact mm_use hR hL.tu hL.u0.1 hq.1 hx hy (fun h => absurd (by rw [e8]; exact hc) h) (fun _ t hR => lk_ok hL.2.1.1 hR su_thr (by rw [hS.ru (by omega)]) (kk t ⟨_, _, _, _, _, hR, hL.ok.out⟩))
theorem LB.sbl (hL : LB E lo a1 a2 a3 D P ad q s u co) : ∀ l m, l < q.2.1 → m < 121 → okBl s l m := fun l m hl hm => hL.2.2.2.2.1.1.okBl (by have := hL.M; omega) hL.M.2.2 hl hm
theorem LB.ubl (hL : LB E lo a1 a2 a3 D P ad q s u co) : ∀ l m, l < q.2.1 → m < 121 → okBl u l m ∧ (u 9 l m = 0 ∨ u 9 l m = 1) := fun l m hl hm => by
  have hS := hL.2.2.2.2.1.2.1
  have hq := hL.2.2.2.1.2.2.2.2.2.1
  have h1 := hL.sbl l m hl hm
  have h2 := (hL.2.2.2.2.1.1.bill (by have := hL.M; omega) hL.M.2.2 hl hm).1
  unfold okBl at h1 ⊢
  rw [hS.r9, hS.r10 (by omega) (by decide), hS.r10 (by omega) (by decide), hS.r10 (by omega) (by decide), hS.r10 (by omega) (by decide)]
  exact ⟨h1, h2⟩
theorem lw_bill {K : Int32 → xT → Prop} {x y w : Int} (hI : LInv E lo a1 a2 a3 D P t) (h1 : 720 ≤ m) (h2 : 3200 ≤ z) (hx : i32 x) (hy : i32 y) (hw : i32 w) (kk : ∀ t, LInv E lo a1 a2 a3 (D + 200000000) (P + 1000000) t → R t) (hK : ∀ x2 t1, (xis t1 a2 8 ∧ V_X8_bill_0 (fun y_6 t_5 => LK R a2 a3 x2 y_6 t_5) a2 (I x) (I y) (I w) t1) → K x2 t1) : V_L_bill_0 K a1 (I x) (I y) (I w) a3 t m z := by
  obtain ⟨ad, q, s, u, co, hR, hL⟩ := hI
  obtain ⟨rfl, rfl, rfl⟩ := hL.2.2.1
  have hD := hL.2.2.2.2
  have hS := hD.1.2.1
  have hq := hL.2.2.2.1.2.2.2.2.2.1
  have e8 := hS.rd
  have hT := hD.2
  unfold okT at hT
  refine ⟨hL.x7 hR, m, z, Nat.le_refl _, Nat.le_refl _, ?_⟩
  refine sp_bill hR hL.2.2.2.1.2.2.2.1 hD.2 hL.2.2.2.1.n1 (Nat.le_refl _) hx hy hw hL.sbl (by omega) (by omega) (fun hc => kx2a (by decide) (hK 1 t ⟨hL.x8 hR, ?_⟩)) (fun hc hd => kx2b (by decide) (hK 2 t ⟨hL.x8 hR, ?_⟩)) (fun hc hd => ?_)
  · exact mm_bill hR hL.tu hL.u0.2.1 hq.2.1 hx hy hw (fun l m hl hm => (hL.ubl l m hl hm).symm) (fun _ t hR => lk_thr hR (by decide) (kk t ⟨_, _, _, _, _, hR, hL.thr⟩)) (fun h => absurd (by rw [e8] at h; exact h) hc) (fun h => absurd (by rw [e8] at h; exact h) hc)
  · exact mm_bill hR hL.tu hL.u0.2.1 hq.2.1 hx hy hw (fun l m hl hm => (hL.ubl l m hl hm).symm) (fun h => absurd (by rw [e8]; exact hc) h) (fun _ _ t hR => lk_thr hR (by decide) (kk t ⟨_, _, _, _, _, hR, hL.thr⟩)) (fun _ h => absurd h hd)
  · refine out_put hL.2.1 hR (fun t hR => hK 0 t ⟨hL.x8 hR, ?_⟩)
    exact mm_bill hR hL.tu hL.u0.2.1 hq.2.1 hx hy hw (fun l m hl hm => (hL.ubl l m hl hm).symm) (fun h => absurd (by rw [e8]; exact hc) h) (fun _ h => absurd hd h) (fun _ _ t hR => lk_ok hL.2.1.1 hR su_thr (by rw [hS.r9, hS.r10 (by omega) (by omega)]) (kk t ⟨_, _, _, _, _, hR, hL.ok.out⟩))
theorem LB.irr (hL : LB E lo a1 a2 a3 D P ad q s u co) (hQ : GQ E ad q s') (e : ∀ p i, p = 4 ∨ p = 5 ∨ p = 6 ∨ p = 7 ∨ p = 9 ∨ p = 11 ∨ (p = 10 ∧ i ≠ 9999) → s' p i = s p i) (e0 : ∀ k, s' 0 0 k = s 0 0 k) (e1 : ∀ k, s' 1 k 2 = s 1 k 2) : LB E lo a1 a2 a3 D P ad q s' u co := hL.dd hQ (hL.2.2.2.2.irr e e0 e1 hL.2.2.2.1.2.2.2.2.2.1.2.1)
theorem lw_owesAnew {K : Int32 → xT → Prop} {x : Int} (hI : LInv E lo a1 a2 a3 D P t) (h1 : 720 ≤ m) (h2 : 3200 ≤ z) (hx : i32 x) (kk : ∀ t, LInv E lo a1 a2 a3 (D + 200000000) (P + 1000000) t → R t) (hK : ∀ x2 t1, (xis t1 a2 8 ∧ V_X8_owesAnew_0 (fun y_6 t_5 => LK R a2 a3 x2 y_6 t_5) a2 (I x) t1) → K x2 t1) : V_L_owesAnew_0 K a1 (I x) a3 t m z := by
  obtain ⟨ad, q, s, u, co, hR, hL⟩ := hI
  obtain ⟨rfl, rfl, rfl⟩ := hL.2.2.1
  have hD := hL.2.2.2.2
  have hS := hD.1.2.1
  have hq := hL.2.2.2.1.2.2.2.2.2.1
  have hG := hD.1.1
  have hM := hL.M
  refine ⟨hL.x7 hR, m, z, Nat.le_refl _, Nat.le_refl _, ?_⟩
  refine sp_owesAnew hR hD.2 hL.2.2.2.1.n1 (Nat.le_refl _) hq.2.1 hx (fun k hk => ⟨okW_of_G hG.1 hG.2.1 hG.2.2.2.2.1 (by omega) hG.2.2.1 rfl rfl (by omega) hk, okM_of_G hG.1 hG.2.2.2.2.1 hM.2.2 rfl (by omega)⟩) (by omega) (by omega) (fun hc => ⟨rfl, fun _ => hK 1 t ⟨hL.x8 hR, ?_⟩⟩) (fun hc t hR => ?_)
  · exact mm_owesAnew hR hL.u0.2.1 hq.2.1 hx (fun h => absurd h hc) (fun _ t hR => lk_thr hR (by decide) (kk t ⟨_, _, _, _, _, hR, hL.thr⟩))
  · have hF : Fx s (lp (oaS q.2.1 x.toNat) 0 (nowN s) s) := Fx.lps _ _ _
    have hL' := hL.irr (hL.2.2.2.1.of (fun k => hF 1 k (by decide) (by omega)) (fun k => hF 2 k (by decide) (by omega)) (fun l _ => hF 9 l (by decide) (by omega)) (hF 12 0 (by decide) (by omega)) (hF 13 0 (by decide) (by omega))) (fun p i h => hF p i (by omega) (by omega)) (fun k => by rw [hF 0 0 (by decide) (by omega)]) (fun k => by rw [hF 1 k (by decide) (by omega)])
    refine out_put hL.2.1 hR (fun t hR => hK 0 t ⟨hL.x8 hR, ?_⟩)
    exact mm_owesAnew hR hL.u0.2.1 hq.2.1 hx (fun _ t hR => lk_ok hL.2.1.1 hR su_thr (by rw [anew_eq hD (by omega), hS.r6 _ 5 (by decide)]) (kk t ⟨_, _, _, _, _, hR, hL'.ok.out⟩)) (fun h => absurd hc h)
theorem lw_line {K : Int32 → xT → Prop} {x y w : Int} (hI : LInv E lo a1 a2 a3 D P t) (h1 : 720 ≤ m) (h2 : 3200 ≤ z) (hx : i32 x) (hy : i32 y) (hw : i32 w) (kk : ∀ t, LInv E lo a1 a2 a3 (D + 200000000) (P + 1000000) t → R t) (hK : ∀ x2 t1, (xis t1 a2 8 ∧ V_X8_line_0 (fun x_6 t_5 => LK R a2 a3 x2 x_6.toInt64 t_5) a2 (I x) (I y) (I w) t1) → K x2 t1) : V_L_line_0 E K a1 (I x) (I y) (I w) a3 t m z := by
  obtain ⟨ad, q, s, u, co, hR, hL⟩ := hI
  obtain ⟨ha1, ha2, ha3⟩ := hL.2.2.1
  subst ha1
  have hD := hL.2.2.2.2
  have hS := hD.1.2.1
  have hq := hL.2.2.2.1.2.2.2.2.2.1
  have e8 := hS.rd
  have hT := hD.2
  unfold okT at hT
  have hM := hL.M
  have hb4 : ∀ l m, l < q.2.1 → m < 121 → s 9 l m ≠ 0 → 0 ≤ bT s (200 * l + m) ∧ bT s (200 * l + m) < 100000000 := fun l m hl hm h9 => hD.1.1.bT (by omega) hM.2.2 hl hm h9
  have hb3 : ∀ l m, l < q.2.1 → m < 121 → s 9 l m ≠ 0 → s 10 (200 * l + m) 3 < 100000000 := fun l m hl hm h9 => by
    have := (hD.1.1.bill (by omega) hM.2.2 hl hm).2 h9
    omega
  have ub4 : ∀ l m, l < q.2.1 → m < 121 → u 9 l m ≠ 0 → 0 ≤ bT u (200 * l + m) ∧ bT u (200 * l + m) < 100000000 := fun l m hl hm h9 => by
    rw [hS.r9] at h9
    have := hb4 l m hl hm h9
    unfold bT at this ⊢
    rw [hS.r10 (by omega) (by decide), hS.r10 (by omega) (by decide), hS.r10 (by omega) (by decide), hS.r10 (by omega) (by decide)]
    exact this
  have ub3 : ∀ l m, l < q.2.1 → m < 121 → u 9 l m ≠ 0 → u 10 (200 * l + m) 3 < 100000000 := fun l m hl hm h9 => by
    rw [hS.r9] at h9
    rw [hS.r10 (by omega) (by decide)]
    exact hb3 l m hl hm h9
  refine ⟨hL.x7 hR, m, z, Nat.le_refl _, Nat.le_refl _, ?_⟩
  refine sp_line hL.1 hR hL.2.2.2.1.2.2.2.1 hL.2.2.2.1.2.2.2.2.1 hD.2 hL.2.2.2.1.n1 (Nat.le_refl _) hq.2.1 hx hy hw hL.sbl hb4 hb3 (by omega) (by omega) (fun hc => ⟨rfl, fun _ => hK 1 t ?_⟩) (fun hc hd => ?_) (fun hc hd ad' s' t hB hR hS' => ?_)
  · subst ha2 ha3
    exact ⟨hL.x8 hR, mm_line hR hL.tu hL.u0.2.1 hq.2.1 hx hy hw hL.ubl ub4 ub3 (fun _ t hR => lk_thr hR (by decide) (kk t ⟨_, _, _, _, _, hR, hL.thr⟩)) (fun h => absurd (by rw [e8] at h; exact h) hc) (fun h => absurd (by rw [e8] at h; exact h) hc)⟩
  · subst ha2 ha3
    refine out_put hL.2.1 hR (fun t hR => hK 0 t ⟨hL.x8 hR, ?_⟩)
    exact mm_line hR hL.tu hL.u0.2.1 hq.2.1 hx hy hw hL.ubl ub4 ub3 (fun h => absurd (by rw [e8]; exact hc) h) (fun _ _ u' t hR hE => lk_ok hL.2.1.1 hR (by rw [hE 20 0 0 (by omega) (by omega)]; exact su_thr) rfl (kk t ⟨_, _, _, _, _, hR, (hL.dd hL.2.2.2.1 ((hL.2.2.2.2.mdl (fun p i k g1 g2 => by rw [hE p i k g1 (by omega), su_r, if_neg (by omega)])).up (by omega) (by omega))).out⟩)) (fun _ h => absurd (by rw [hS.r9]; exact hd) h)
  · obtain ⟨hA, hEs, -⟩ := hB
    have hA2 : ad' 20 0 = a2 := (hA 20 0 (by decide)).trans ha2
    have hA3 : ad' 35 0 = a3 := (hA 35 0 (by decide)).trans ha3
    subst hA2 hA3
    have hQ := hL.2.2.2.1
    have hQ' : GQ E ad' q s' := ⟨hQ.1.of (hEs 1 0 (by decide) (by decide)) (hEs 2 0 (by decide) (by decide)) (hA 2 0 (by decide)) id, hQ.2.1.of (hEs 1 1 (by decide) (by decide)) (hEs 2 1 (by decide) (by decide)) (hA 2 1 (by decide)) id, hQ.2.2.1.of (hEs 1 2 (by decide) (by decide)) (hEs 2 2 (by decide) (by decide)) (hA 2 2 (by decide)) id, fun l m hl hm => by rw [hEs 9 l (by decide) (by decide)]; exact hQ.2.2.2.1 l m hl hm, hS', hQ.2.2.2.2.2⟩
    have hD' : DRel q.1 q.2.1 q.2.2.1 D P s' u := hD.irr (fun p i h => hEs p i (by omega) (by omega)) (fun k => by rw [hEs 0 0 (by decide) (by decide)]) (fun k => by rw [hEs 1 k (by decide) (by decide)]) hq.2.1
    have hL' : LB E lo (ad 0 0) (ad' 20 0) (ad' 35 0) D P ad' q s' u co := ⟨hL.1.of (fun p i hp => hA p i (by omega)), hL.2.1, ⟨hA 0 0 (by decide), rfl, rfl⟩, hQ', hD'⟩
    refine out_put hL.2.1 hR (fun t hR => hK 0 t ⟨hL'.x8 hR, ?_⟩)
    refine mm_line hR hL.tu hL.u0.2.1 hq.2.1 hx hy hw hL.ubl ub4 ub3 (fun h => absurd (by rw [e8]; exact hc) h) (fun _ h => absurd (by rw [hS.r9] at h; exact h) hd) (fun _ _ u' t hR hE => lk_ok hL.2.1.1 hR (by rw [hE 20 0 0 (by omega) (by omega)]; exact su_thr) ?_ (kk t ⟨_, _, _, _, _, hR, (hL'.dd hQ' ((hD'.mdl (fun p i k g1 g2 => by rw [hE p i k g1 (by omega), su_r, if_neg (by omega)])).up (by omega) (by omega))).out⟩))
    rw [lnT_congr (fun k hk => hS.r10 (by omega) hk)]
end LAWQ
