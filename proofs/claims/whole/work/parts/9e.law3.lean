section LAWS
variable {E : Nat → Nat} {ad ad' : xAd} {q q' : xL} {lo : Nat → Nat → Prop} {s s' u u' : xS} {co : Nat → Nat → xE} {t : xT} {a1 a2 a3 : Nat} {D P D' P' : Int} {R : xT → Prop} {m z : Nat}
theorem LB.okl (hL : LB E lo a1 a2 a3 D P ad q s u co) : ∀ l, l < q.2.1 → okL q s l := fun l hl => hL.2.2.2.2.1.1.2.1.okL (by have := hL.M; omega) rfl rfl hl
theorem lw_end {K : Int32 → xT → Prop} {x : Int} (hI : LInv E lo a1 a2 a3 D P t) (h1 : 720 ≤ m) (h2 : 3200 ≤ z) (hx : i32 x) (kk : ∀ t, LInv E lo a1 a2 a3 (D + 200000000) (P + 1000000) t → R t) (hK : ∀ x2 t1, (xis t1 a2 8 ∧ V_X8_end_0 (fun x_6 t_5 => LK R a2 a3 x2 x_6.toInt64 t_5) a2 (I x) t1) → K x2 t1) : V_L_end_0 K a1 (I x) a3 t m z := by
  obtain ⟨ad, q, s, u, co, hR, hL⟩ := hI
  obtain ⟨rfl, rfl, rfl⟩ := hL.2.2.1
  have hD := hL.2.2.2.2
  have hS := hD.1.2.1
  have hq := hL.2.2.2.1.2.2.2.2.2.1
  have e8 := hS.rd
  have hM := hL.M
  have hlast : ∀ l, l < q.2.1 → (s 6 l 1 = -1 ↔ u 21 22 l = 1000) ∧ i32 (u 21 22 l) := fun l hl => by
    have h := hD.1.2.2.1.2.2.2.2 l hl
    have h3 := (hD.1.1.2.1 l hl).2.2.1
    rw [h]
    by_cases c : s 6 l 1 = -1
    · rw [if_pos c]
      exact ⟨⟨fun _ => rfl, fun _ => c⟩, ⟨by decide, by decide⟩⟩
    · rw [if_neg c]
      exact ⟨⟨fun h => absurd h c, fun h => by omega⟩, ⟨by omega, by omega⟩⟩
  refine ⟨hL.x7 hR, m, z, Nat.le_refl _, Nat.le_refl _, ?_⟩
  refine sp_end hR hD.2 hL.2.2.2.1.n1 (Nat.le_refl _) hx hL.okl (by omega) (by omega) (fun hc => kx2a (by decide) (hK 1 t ⟨hL.x8 hR, ?_⟩)) (fun hc hd => kx2b (by decide) (hK 2 t ⟨hL.x8 hR, ?_⟩)) (fun hc hd t hR => ?_)
  · exact mm_end hR hL.tu hL.u0.2.1 hq.2.1 hx (fun l hl => (hlast l hl).2) (fun _ t hR => lk_thr hR (by decide) (kk t ⟨_, _, _, _, _, hR, hL.thr⟩)) (fun h => absurd h hc) (fun h => absurd h hc)
  · exact mm_end hR hL.tu hL.u0.2.1 hq.2.1 hx (fun l hl => (hlast l hl).2) (fun h => absurd hc h) (fun _ _ t hR => lk_thr hR (by decide) (kk t ⟨_, _, _, _, _, hR, hL.thr⟩)) (fun _ h => absurd ((hlast _ (by omega)).1.mpr h) hd)
  · refine out_put hL.2.1 hR (fun t hR => hK 0 t ⟨hL.x8 hR, ?_⟩)
    exact mm_end hR hL.tu hL.u0.2.1 hq.2.1 hx (fun l hl => (hlast l hl).2) (fun h => absurd hc h) (fun _ h => absurd ((hlast _ (by omega)).1.mp hd) h) (fun _ _ t hR => lk_ok hL.2.1.1 hR (by rw [su_r, if_neg (by omega)]; exact su_thr) (by rw [e8]) (kk t ⟨_, _, _, _, _, hR, (hL.dd (hL.2.2.2.1.of (fun k => su_f _ (by omega)) (fun k => su_f _ (by omega)) (fun l _ => su_f _ (by omega)) (su_f _ (by omega)) (su_f _ (by omega))) ((op_end (by omega) hd hD).up (by omega) (by omega))).out⟩))
theorem lw_read {K : Int32 → xT → Prop} {x y : Int} (hI : LInv E lo a1 a2 a3 D P t) (h1 : 720 ≤ m) (h2 : 3200 ≤ z) (hx : i32 x) (hy : i32 y) (kk : ∀ t, LInv E lo a1 a2 a3 (D + 200000000) (P + 1000000) t → R t) (hK : ∀ x2 t1, (xis t1 a2 8 ∧ V_X8_read_0 (fun x_6 t_5 => LK R a2 a3 x2 x_6.toInt64 t_5) a2 (I x) (I y) t1) → K x2 t1) : V_L_read_0 K a1 (I x) (I y) a3 t m z := by
  obtain ⟨ad, q, s, u, co, hR, hL⟩ := hI
  obtain ⟨rfl, rfl, rfl⟩ := hL.2.2.1
  have hD := hL.2.2.2.2
  have hS := hD.1.2.1
  have hq := hL.2.2.2.1.2.2.2.2.2.1
  have hM := hL.M
  have hG := hD.1.1
  have hsh : ∀ f, f < q.1 → 0 ≤ u 5 f 3 ∧ u 5 f 3 ≤ 1000000 := fun f hf => by
    rw [hS.r5 f 3 (by decide)]
    exact (hG.1 f hf).2.1
  have e3 : ∀ f, u 5 f 3 = s 5 f 3 := fun f => hS.r5 f 3 (by decide)
  refine ⟨hL.x7 hR, m, z, Nat.le_refl _, Nat.le_refl _, ?_⟩
  refine sp_read hR hD.2 hL.2.2.2.1.n0 (Nat.le_refl _) hx hy (fun f hf => hG.1.okF (by omega) rfl hf) (by omega) (by omega) (fun hc => kx2a (by decide) (hK 1 t ⟨hL.x8 hR, ?_⟩)) (fun hc hd => kx2b (by decide) (hK 2 t ⟨hL.x8 hR, ?_⟩)) (fun hc hd t hR => ?_)
  · exact mm_read hR hL.tu hL.u0.1 hq.1 hx hy hsh (fun _ t hR => lk_thr hR (by decide) (kk t ⟨_, _, _, _, _, hR, hL.thr⟩)) (fun h => absurd h hc) (fun h => absurd h hc)
  · exact mm_read hR hL.tu hL.u0.1 hq.1 hx hy hsh (fun h => absurd hc h) (fun _ _ t hR => lk_thr hR (by decide) (kk t ⟨_, _, _, _, _, hR, hL.thr⟩)) (fun _ h => absurd (by rw [e3] at h; exact h) hd)
  · refine out_put hL.2.1 hR (fun t hR => hK 0 t ⟨hL.x8 hR, ?_⟩)
    have h0 := (hG.1 x.toNat (by omega)).2.1
    refine mm_read hR hL.tu hL.u0.1 hq.1 hx hy hsh (fun h => absurd hc h) (fun _ h => absurd (by rw [e3]; exact hd) h) (fun _ _ t hR => lk_ok hL.2.1.1 hR (by rw [su_r, if_neg (by omega), su_r, if_neg (by omega)]; exact su_thr) (by rw [e3]) (kk t ⟨_, _, _, _, _, hR, (hL.dd (hL.2.2.2.1.of (fun k => ?_) (fun k => ?_) (fun l _ => ?_) ?_ ?_) ((op_read (by omega) (by omega) hD).up (by omega) (by omega))).out⟩))
    · rw [su_f _ (by omega), su_f _ (by omega)]
    · rw [su_f _ (by omega), su_f _ (by omega)]
    · rw [su_f _ (by omega), su_f _ (by omega)]
    · rw [su_f _ (by omega), su_f _ (by omega)]
    · rw [su_f _ (by omega), su_f _ (by omega)]
theorem lw_heat {K : Int32 → xT → Prop} {x : Int} (hI : LInv E lo a1 a2 a3 D P t) (h1 : 720 ≤ m) (h2 : 3200 ≤ z) (hx : i32 x) (kk : ∀ t, LInv E lo a1 a2 a3 (D + 200000000) (P + 1000000) t → R t) (hK : ∀ x2 t1, (xis t1 a2 8 ∧ V_X8_heat_0 (fun x_6 t_5 => LK R a2 a3 x2 x_6.toInt64 t_5) a2 (I x) t1) → K x2 t1) : V_L_heat_0 K a1 (I x) a3 t m z := by
  obtain ⟨ad, q, s, u, co, hR, hL⟩ := hI
  obtain ⟨rfl, rfl, rfl⟩ := hL.2.2.1
  have hD := hL.2.2.2.2
  have hM := hL.M
  have ec : u 20 0 11 = s 4 100 (nowN s) := hD.1.2.2.1.2.2.1
  have hc0 := (hD.1.1.2.2.2.2.1.2 (nowN s) (by omega)).2
  refine ⟨hL.x7 hR, m, z, Nat.le_refl _, Nat.le_refl _, ?_⟩
  refine sp_heat hR hD.2 hx hc0 (by omega) (by omega) (fun hc => kx2a (by decide) (hK 1 t ⟨hL.x8 hR, ?_⟩)) (fun hc hd => kx2b (by decide) (hK 2 t ⟨hL.x8 hR, ?_⟩)) (fun hc hd t hR => ?_)
  · exact mm_heat hR (by rw [ec]; exact hc0) hx (fun _ t hR => lk_thr hR (by decide) (kk t ⟨_, _, _, _, _, hR, hL.thr⟩)) (fun h => absurd h hc) (fun h => absurd h hc)
  · exact mm_heat hR (by rw [ec]; exact hc0) hx (fun h => absurd hc h) (fun _ _ t hR => lk_thr hR (by decide) (kk t ⟨_, _, _, _, _, hR, hL.thr⟩)) (fun _ h => absurd (by rw [ec] at h; exact h) hd)
  · refine out_put hL.2.1 hR (fun t hR => hK 0 t ⟨hL.x8 hR, ?_⟩)
    refine mm_heat hR (by rw [ec]; exact hc0) hx (fun h => absurd hc h) (fun _ h => absurd (by rw [ec]; exact hd) h) (fun _ _ t hR => lk_ok hL.2.1.1 hR (by rw [su_r, if_neg (by omega)]; exact su_thr) (by rw [ec]) (kk t ⟨_, _, _, _, _, hR, (hL.dd (hL.2.2.2.1.of (fun k => su_f _ (by omega)) (fun k => su_f _ (by omega)) (fun l _ => su_f _ (by omega)) (su_f _ (by omega)) (su_f _ (by omega))) (?_ : DRel _ _ _ _ _ _ _)).out⟩))
    rw [ec]
    exact (op_heat (by omega) hD).up (by omega) (by omega)
theorem lw_mend {K : Int32 → xT → Prop} {x : Int} (hI : LInv E lo a1 a2 a3 D P t) (h1 : 720 ≤ m) (h2 : 3200 ≤ z) (hx : i32 x) (kk : ∀ t, LInv E lo a1 a2 a3 (D + 200000000) (P + 1000000) t → R t) (hK : ∀ x2 t1, (xis t1 a2 8 ∧ V_X8_mend_0 (fun x_6 t_5 => LK R a2 a3 x2 x_6.toInt64 t_5) a2 (I x) t1) → K x2 t1) : V_L_mend_0 K a1 (I x) a3 t m z := by
  obtain ⟨ad, q, s, u, co, hR, hL⟩ := hI
  obtain ⟨rfl, rfl, rfl⟩ := hL.2.2.1
  have hD := hL.2.2.2.2
  have hS := hD.1.2.1
  have hq := hL.2.2.2.1.2.2.2.2.2.1
  have e0 : ∀ r, u 11 r 0 = s 11 r 0 := fun r => hS.r11 r 0 (by decide)
  have hi : ∀ r, r < q.2.2.1 → i32 (u 11 r 0) := fun r hr => by
    rw [e0]
    have := (hD.1.1.2.2.2.1 r hr).2.1
    exact ⟨by omega, by omega⟩
  refine ⟨hL.x7 hR, m, z, Nat.le_refl _, Nat.le_refl _, ?_⟩
  refine sp_mend hR hL.2.2.2.1.n2 (Nat.le_refl _) hx (fun r hr => hD.1.1.2.2.2.1.okR rfl rfl hr) (by omega) (by omega) (fun hc => kx2a (by decide) (hK 1 t ⟨hL.x8 hR, ?_⟩)) (fun hc hd => kx2b (by decide) (hK 2 t ⟨hL.x8 hR, ?_⟩)) (fun hc hd t hR => ?_)
  · exact mm_mend hR hL.u0.2.2 hq.2.2 hx hi (fun _ t hR => lk_thr hR (by decide) (kk t ⟨_, _, _, _, _, hR, hL.thr⟩)) (fun h => absurd h hc) (fun h => absurd h hc)
  · exact mm_mend hR hL.u0.2.2 hq.2.2 hx hi (fun h => absurd hc h) (fun _ _ t hR => lk_thr hR (by decide) (kk t ⟨_, _, _, _, _, hR, hL.thr⟩)) (fun _ h => absurd (by rw [e0] at h; exact h) hd)
  · refine out_put hL.2.1 hR (fun t hR => hK 0 t ⟨hL.x8 hR, ?_⟩)
    exact mm_mend hR hL.u0.2.2 hq.2.2 hx hi (fun h => absurd hc h) (fun _ h => absurd (by rw [e0]; exact hd) h) (fun _ _ t hR => lk_ok hL.2.1.1 hR (by rw [su_r, if_neg (by omega)]; exact su_thr) (by rw [hS.r11 _ 1 (by decide)]) (kk t ⟨_, _, _, _, _, hR, (hL.dd (hL.2.2.2.1.of (fun k => su_f _ (by omega)) (fun k => su_f _ (by omega)) (fun l _ => su_f _ (by omega)) (su_f _ (by omega)) (su_f _ (by omega))) ((op_mend (by omega) hD).up (by omega) (by omega))).out⟩))
theorem lw_pay {K : Int32 → xT → Prop} {x y : Int} (hI : LInv E lo a1 a2 a3 D P t) (h1 : 720 ≤ m) (h2 : 3200 ≤ z) (hx : i32 x) (hy : i32 y) (kk : ∀ t, LInv E lo a1 a2 a3 (D + 200000000) (P + 1000000) t → R t) (hK : ∀ x2 t1, (xis t1 a2 8 ∧ V_X8_pay_0 (fun y_6 t_5 => LK R a2 a3 x2 y_6 t_5) a2 (I x) (I y) t1) → K x2 t1) : V_L_pay_0 K a1 (I x) (I y) a3 t m z := by
  obtain ⟨ad, q, s, u, co, hR, hL⟩ := hI
  obtain ⟨rfl, rfl, rfl⟩ := hL.2.2.1
  have hD := hL.2.2.2.2
  have hS := hD.1.2.1
  have hq := hL.2.2.2.1.2.2.2.2.2.1
  refine ⟨hL.x7 hR, m, z, Nat.le_refl _, Nat.le_refl _, ?_⟩
  refine sp_pay hR hL.2.2.2.1.n1 (Nat.le_refl _) hx hy (by omega) (by omega) (fun hc => kx2a (by decide) (hK 1 t ⟨hL.x8 hR, ?_⟩)) (fun hc hd => kx2b (by decide) (hK 2 t ⟨hL.x8 hR, ?_⟩)) (fun hc hd t hR => ?_)
  · exact mm_pay hR hL.u0.2.1 hq.2.1 hx hy (fun _ t hR => lk_thr hR (by decide) (kk t ⟨_, _, _, _, _, hR, hL.thr⟩)) (fun h => absurd h hc) (fun h => absurd h hc)
  · exact mm_pay hR hL.u0.2.1 hq.2.1 hx hy (fun h => absurd hc h) (fun _ _ t hR => lk_thr hR (by decide) (kk t ⟨_, _, _, _, _, hR, hL.thr⟩)) (fun _ h => absurd h hd)
  · refine out_put hL.2.1 hR (fun t hR => hK 0 t ⟨hL.x8 hR, ?_⟩)
    have o : ∀ p i, p ≠ 0 → p ≠ 6 → toTen x.toNat (-y) (su s 6 x.toNat 7 (s 6 x.toNat 7 + y)) p i = s p i := fun p i h0 h6 => by rw [toTen_o h0 (by omega), su_f _ (by omega)]
    exact mm_pay hR hL.u0.2.1 hq.2.1 hx hy (fun h => absurd hc h) (fun _ h => absurd hd h) (fun _ _ t hR => lk_ok hL.2.1.1 hR (by rw [su_r, if_neg (by omega)]; exact su_thr) (by rw [hS.r6 _ 5 (by decide), Int.sub_eq_add_neg]) (kk t ⟨_, _, _, _, _, hR, (hL.dd (hL.2.2.2.1.of (fun k => o 1 k (by decide) (by decide)) (fun k => o 2 k (by decide) (by decide)) (fun l _ => o 9 l (by decide) (by decide)) (o 12 0 (by decide) (by decide)) (o 13 0 (by decide) (by decide))) ((op_pay (by omega) hd hD).up (by omega) (by omega))).out⟩))
theorem lw_plan {K : Int32 → xT → Prop} {x y : Int} (hI : LInv E lo a1 a2 a3 D P t) (hB : Bd D P) (h1 : 720 ≤ m) (h2 : 3200 ≤ z) (hx : i32 x) (hy : i32 y) (kk : ∀ t, LInv E lo a1 a2 a3 (D + 200000000) (P + 1000000) t → R t) (hK : ∀ x2 t1, (xis t1 a2 8 ∧ V_X8_plan_0 (fun y_6 t_5 => LK R a2 a3 x2 y_6 t_5) a2 (I x) (I y) t1) → K x2 t1) : V_L_plan_0 K a1 (I x) (I y) a3 t m z := by
  obtain ⟨ad, q, s, u, co, hR, hL⟩ := hI
  obtain ⟨rfl, rfl, rfl⟩ := hL.2.2.1
  have hD := hL.2.2.2.2
  have hS := hD.1.2.1
  have hq := hL.2.2.2.1.2.2.2.2.2.1
  have hM := hL.M
  have hP : ∀ l, l < q.2.1 → okP s l := fun l hl => hD.1.1.okP (by omega) hM.2.2 (by have := hB.2; omega) hl
  have e5 : ∀ l, u 6 l 5 = s 6 l 5 := fun l => hS.r6 l 5 (by decide)
  have e0 : ∀ l, u 7 l 0 = s 7 l 0 := fun l => hS.r7 l 0 (by decide)
  have huP : ∀ l, l < q.2.1 → i32 (u 7 l 0) ∧ -1000000000000 ≤ u 6 l 5 ∧ u 6 l 5 ≤ 1000000000000 := fun l hl => by
    rw [e0, e5]
    exact ⟨(hP l hl).1, (hP l hl).2.1⟩
  refine ⟨hL.x7 hR, m, z, Nat.le_refl _, Nat.le_refl _, ?_⟩
  refine sp_plan hR hL.2.2.2.1.n1 (Nat.le_refl _) hx hy hP (by omega) (by omega) (fun hc => kx3a (by decide) (by decide) (hK 1 t ⟨hL.x8 hR, ?_⟩)) (fun hc hd => kx3b (by decide) (by decide) (hK 2 t ⟨hL.x8 hR, ?_⟩)) (fun hc hd he => kx3c (by decide) (by decide) (hK 3 t ⟨hL.x8 hR, ?_⟩)) (fun hc hd he t hR => ?_)
  · exact mm_plan hR hL.u0.2.1 hq.2.1 hx hy huP (fun _ t hR => lk_thr hR (by decide) (kk t ⟨_, _, _, _, _, hR, hL.thr⟩)) (fun h => absurd h hc) (fun h => absurd h hc) (fun h => absurd h hc)
  · exact mm_plan hR hL.u0.2.1 hq.2.1 hx hy huP (fun h => absurd hc h) (fun _ _ t hR => lk_thr hR (by decide) (kk t ⟨_, _, _, _, _, hR, hL.thr⟩)) (fun _ h => absurd h hd) (fun _ h => absurd h hd)
  · exact mm_plan hR hL.u0.2.1 hq.2.1 hx hy huP (fun h => absurd hc h) (fun _ h => absurd hd h) (fun _ _ _ t hR => lk_thr hR (by decide) (kk t ⟨_, _, _, _, _, hR, hL.thr⟩)) (fun _ _ h => absurd (by rw [e0, e5]; exact he) h)
  · refine out_put hL.2.1 hR (fun t hR => hK 0 t ⟨hL.x8 hR, ?_⟩)
    have o : ∀ p i, p ≠ 7 → plnS x.toNat y s p i = s p i := fun p i h7 => by
      unfold plnS
      rw [su_f _ (by omega), su_f _ (by omega), su_f _ (by omega), su_f _ (by omega)]
    exact mm_plan hR hL.u0.2.1 hq.2.1 hx hy huP (fun h => absurd hc h) (fun _ h => absurd hd h) (fun _ _ h => absurd (by rw [e0, e5] at h; exact h) he) (fun _ _ _ t hR => lk_ok hL.2.1.1 hR (by unfold mPl; rw [su_r, if_neg (by omega), su_r, if_neg (by omega), su_r, if_neg (by omega), su_r, if_neg (by omega)]; exact su_thr) (by rw [e5]) (kk t ⟨_, _, _, _, _, hR, (hL.dd (hL.2.2.2.1.of (fun k => o 1 k (by decide)) (fun k => o 2 k (by decide)) (fun l _ => o 9 l (by decide)) (o 12 0 (by decide)) (o 13 0 (by decide))) ((op_plan (by omega) hd (by omega) hD).up (by omega) (by omega))).out⟩))
theorem bnAs_thr {l : Nat} : ∀ (k i : Nat) (u : xS), lp (bnA l) i k u 20 0 0 = u 20 0 0 := fun k i u => congrFun (lp_o (fun j s => bnA_o (by omega)) k i u) 0
theorem lw_income {K : Int32 → xT → Prop} {x y w : Int} (hI : LInv E lo a1 a2 a3 D P t) (h1 : 720 ≤ m) (h2 : 3200 ≤ z) (hx : i32 x) (hy : i32 y) (hw : i32 w) (kk : ∀ t, LInv E lo a1 a2 a3 (D + 200000000) (P + 1000000) t → R t) (hK : ∀ x2 t1, (xis t1 a2 8 ∧ V_X8_income_0 (fun y_6 t_5 => LK R a2 a3 x2 y_6 t_5) a2 (I x) (I y) (I w) t1) → K x2 t1) : V_L_income_0 K a1 (I x) (I y) (I w) a3 t m z := by
  obtain ⟨ad, q, s, u, co, hR, hL⟩ := hI
  obtain ⟨rfl, rfl, rfl⟩ := hL.2.2.1
  have hD := hL.2.2.2.2
  have hS := hD.1.2.1
  have hq := hL.2.2.2.1.2.2.2.2.2.1
  have e8 := hS.rd
  have hM := hL.M
  have ht : ∀ l m, l < q.2.1 → m < 121 → -1 ≤ u 4 (400 + l) m ∧ u 4 (400 + l) m ≤ 1000000 := fun l m hl hm => by
    rw [hS.rt (by omega)]
    exact (hD.1.1.2.1 l hl).2.2.2.2 m hm
  refine ⟨hL.x7 hR, m, z, Nat.le_refl _, Nat.le_refl _, ?_⟩
  refine sp_income hR hL.2.2.2.1.2.2.2.1 hD.2 hL.2.2.2.1.n1 (Nat.le_refl _) hx hy hw hL.sbl hL.okl (by omega) (by omega) (fun hc => kx2a (by decide) (hK 1 t ⟨hL.x8 hR, ?_⟩)) (fun hc hd => kx2b (by decide) (hK 2 t ⟨hL.x8 hR, ?_⟩)) (fun hc hd t hR => ?_)
  · exact mm_income hR hL.tu hL.u0.2.1 hq.2.1 hx hy hw hL.ubl ht (fun _ t hR => lk_thr hR (by decide) (kk t ⟨_, _, _, _, _, hR, hL.thr⟩)) (fun h => absurd (by rw [e8] at h; exact h) hc) (fun h => absurd (by rw [e8] at h; exact h) hc)
  · exact mm_income hR hL.tu hL.u0.2.1 hq.2.1 hx hy hw hL.ubl ht (fun h => absurd (by rw [e8]; exact hc) h) (fun _ _ t hR => lk_thr hR (by decide) (kk t ⟨_, _, _, _, _, hR, hL.thr⟩)) (fun _ h => absurd h hd)
  · refine out_put hL.2.1 hR (fun t hR => hK 0 t ⟨hL.x8 hR, ?_⟩)
    obtain ⟨op1, op2⟩ := op_income (l := x.toNat) (m := y.toNat) (x := w) hq.1 hq.2.1 (by omega) (by omega) hd hD
    have o : ∀ p i, p ≠ 0 → p ≠ 4 → p ≠ 6 → p ≠ 10 → incS x.toNat y.toNat (nowN s) w s p i = s p i := fun p i h0 h4 h6 h10 => by
      unfold incS
      rw [toDsk_o h0 (by omega), toTen_o h0 (by omega), lp_o (fun j s => bnA_o (by omega)), su_f _ (by omega)]
    refine mm_income hR hL.tu hL.u0.2.1 hq.2.1 hx hy hw hL.ubl ht (fun h => absurd (by rw [e8]; exact hc) h) (fun _ h => absurd hd h) (fun _ _ t hR => lk_ok hL.2.1.1 hR ?_ (by rw [op2]) (kk t ⟨_, _, _, _, _, hR, (hL.dd (hL.2.2.2.1.of (fun k => o 1 k (by decide) (by decide) (by decide) (by decide)) (fun k => o 2 k (by decide) (by decide) (by decide) (by decide)) (fun l _ => o 9 l (by decide) (by decide) (by decide) (by decide)) (o 12 0 (by decide) (by decide) (by decide) (by decide)) (o 13 0 (by decide) (by decide) (by decide) (by decide))) (op1.up (by omega) (by omega))).out⟩))
    unfold mInc mTd
    rw [su_r, if_neg (by omega), su_r, if_neg (by omega), bnAs_thr, su_r, if_neg (by omega)]
    exact su_thr
end LAWS
