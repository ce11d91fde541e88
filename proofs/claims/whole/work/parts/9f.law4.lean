section LAWM
variable {E : Nat → Nat} {ad ad' : xAd} {q q' : xL} {lo : Nat → Nat → Prop} {s s' u u' : xS} {co : Nat → Nat → xE} {t : xT} {a1 a2 a3 : Nat} {D P D' P' : Int} {R : xT → Prop} {m z : Nat}
theorem LB.cl (hL : LB E lo a1 a2 a3 D P ad q s u co) : CL q lo s := by
  have hQ := hL.2.2.2.1
  refine CL_of (fun l hl => ?_) (fun r hr => ?_) (fun k hk => ?_) hQ.2.2.2.1
  · have := (hL.2.2.2.2.1.1.2.1 l hl).1
    omega
  · have := (hL.2.2.2.2.1.1.2.2.2.1 r hr).1
    omega
  · obtain rfl | rfl | rfl : k = 0 ∨ k = 1 ∨ k = 2 := by omega
    · exact ⟨q.1, Nat.le_refl _, hQ.1.1, hQ.1.2.1⟩
    · exact ⟨q.2.1, Nat.le_refl _, hQ.2.1.1, hQ.2.1.2.1⟩
    · exact ⟨q.2.2.1, Nat.le_refl _, hQ.2.2.1.1, hQ.2.2.1.2.1⟩
theorem LQ.add {k n : Nat} {c : Int} (h : LI q s k n) (hc : (n : Int) + 1 ≤ c ∧ 10 ≤ c ∧ c ≤ 100) : LQ E ad' (qc q k) (addS s k n c) k (n + 1) := by
  refine ⟨LI_addS h ⟨hc.1, by omega⟩, LZ_addS, Or.inr ⟨?_, Or.inr rfl⟩, ?_⟩
  · rw [addS_2]
    show 10 ≤ (if 0 = 0 then c else _)
    rw [if_pos rfl]
    exact hc.2.1
  · rw [addS_2]
    show (if 0 = 0 then c else _) ≤ 100
    rw [if_pos rfl]
    exact hc.2.2
theorem GQ.flat {x c : Int} (h : GQ E ad q s) (hn : q.1 < 8) (ha : ∀ j, j ≠ 0 → ad' 2 j = ad 2 j) (hc : (q.1 : Int) + 1 ≤ c ∧ 10 ≤ c ∧ c ≤ 100) : GQ E ad' (qc (qF q) 0) (addS (mkF q.1 x s) 0 q.1 c) := by
  have o : ∀ p i, p ≠ 4 → p ≠ 5 → ¬ ((p = 1 ∨ p = 2) ∧ i = 0) → addS (mkF q.1 x s) 0 q.1 c p i = s p i := fun p i h4 h5 h1 => by rw [addS_o (by omega) (by omega), mkF_o (by omega) (by omega)]
  have hLI : LI (qF q) (mkF q.1 x s) 0 q.1 := LI_of (s := s) h.1.1 (mkF_o (by omega) (by omega)) (mkF_o (by omega) (by omega))
  refine ⟨LQ.add hLI hc, h.2.1.of (o 1 1 (by decide) (by decide) (by omega)) (o 2 1 (by decide) (by decide) (by omega)) (ha 1 (by decide)) Or.inl, h.2.2.1.of (o 1 2 (by decide) (by decide) (by omega)) (o 2 2 (by decide) (by decide) (by omega)) (ha 2 (by decide)) Or.inl, fun l m hl hm => ?_, ?_, ⟨?_, h.2.2.2.2.2.1.2⟩, h.2.2.2.2.2.2⟩
  · rw [o 9 l (by decide) (by decide) (by omega)]
    exact h.2.2.2.1 l m hl hm
  · have e := h.2.2.2.2.1
    unfold SBk at e ⊢
    rw [o 12 0 (by decide) (by decide) (by omega), o 13 0 (by decide) (by decide) (by omega)]
    exact e
  · show q.1 + 1 ≤ 8
    omega
theorem GQ.report {f g d c : Int} (h : GQ E ad q s) (hn : q.2.2.1 < 60) (ha : ∀ j, j ≠ 2 → ad' 2 j = ad 2 j) (hc : (q.2.2.1 : Int) + 1 ≤ c ∧ 10 ≤ c ∧ c ≤ 100) : GQ E ad' (qc (qR q) 2) (addS (mkR q.2.2.1 f g d s) 2 q.2.2.1 c) := by
  have e : ∀ p i, p ≠ 11 → mkR q.2.2.1 f g d s p i = s p i := fun p i hp => sup_n _ _ (by omega)
  have o : ∀ p i, p ≠ 11 → ¬ ((p = 1 ∨ p = 2) ∧ i = 2) → addS (mkR q.2.2.1 f g d s) 2 q.2.2.1 c p i = s p i := fun p i h4 h1 => by rw [addS_o (by omega) (by omega), e p i h4]
  have hLI : LI (qR q) (mkR q.2.2.1 f g d s) 2 q.2.2.1 := LI_of (s := s) h.2.2.1.1 (e 1 2 (by decide)) (e 2 2 (by decide))
  refine ⟨h.1.of (o 1 0 (by decide) (by omega)) (o 2 0 (by decide) (by omega)) (ha 0 (by decide)) Or.inl, h.2.1.of (o 1 1 (by decide) (by omega)) (o 2 1 (by decide) (by omega)) (ha 1 (by decide)) Or.inl, LQ.add hLI hc, fun l m hl hm => ?_, ?_, ⟨h.2.2.2.2.2.1.1, h.2.2.2.2.2.1.2.1, ?_⟩, h.2.2.2.2.2.2⟩
  · rw [o 9 l (by decide) (by omega)]
    exact h.2.2.2.1 l m hl hm
  · have e := h.2.2.2.2.1
    unfold SBk at e ⊢
    rw [o 12 0 (by decide) (by omega), o 13 0 (by decide) (by omega)]
    exact e
  · show q.2.2.1 + 1 ≤ 60
    omega
theorem GQ.lease {f g d c : Int} (h : GQ E ad q s) (hn : q.2.1 < 12) (ha : ∀ j, j ≠ 1 → ad' 2 j = ad 2 j) (hc : (q.2.1 : Int) + 1 ≤ c ∧ 10 ≤ c ∧ c ≤ 100) : GQ E ad' (qc (qL q) 1) (addS (mkL q.2.1 f g d s) 1 q.2.1 c) := by
  have e : ∀ p i, p ≠ 4 → ¬ ((p = 6 ∨ p = 7 ∨ p = 8 ∨ p = 9) ∧ i = q.2.1) → mkL q.2.1 f g d s p i = s p i := fun p i h4 hp => mkL_o (by omega) (by omega) (by omega) (by omega) (by omega)
  have o : ∀ p i, p ≠ 4 → ¬ ((p = 6 ∨ p = 7 ∨ p = 8 ∨ p = 9) ∧ i = q.2.1) → ¬ ((p = 1 ∨ p = 2) ∧ i = 1) → addS (mkL q.2.1 f g d s) 1 q.2.1 c p i = s p i := fun p i h4 h6 h1 => by rw [addS_o (by omega) (by omega), e p i h4 h6]
  have hLI : LI (qL q) (mkL q.2.1 f g d s) 1 q.2.1 := LI_of (s := s) h.2.1.1 (e 1 1 (by decide) (by omega)) (e 2 1 (by decide) (by omega))
  refine ⟨h.1.of (o 1 0 (by decide) (by omega) (by omega)) (o 2 0 (by decide) (by omega) (by omega)) (ha 0 (by decide)) Or.inl, LQ.add hLI hc, h.2.2.1.of (o 1 2 (by decide) (by omega) (by omega)) (o 2 2 (by decide) (by omega) (by omega)) (ha 2 (by decide)) Or.inl, fun l m hl hm => ?_, ?_, ⟨h.2.2.2.2.2.1.1, ?_, h.2.2.2.2.2.1.2.2⟩, fun i hi => ?_⟩
  · by_cases cl : l = q.2.1
    · subst cl
      have e9 : addS (mkL q.2.1 f g d s) 1 q.2.1 c 9 q.2.1 m = 0 := by rw [addS_o (by omega) (by omega), mkL_z (by omega)]
      rw [e9]
      refine ⟨fun g => ?_, fun g => absurd rfl g⟩
      obtain ⟨l', m', b1, b2, b3⟩ := h.2.2.2.2.2.2 _ g
      omega
    · have hl' : l < q.2.1 + 1 := hl
      rw [o 9 l (by decide) (by omega) (by omega)]
      exact h.2.2.2.1 l m (by omega) hm
  · have e := h.2.2.2.2.1
    unfold SBk at e ⊢
    rw [o 12 0 (by decide) (by omega) (by omega), o 13 0 (by decide) (by omega) (by omega)]
    exact e
  · show q.2.1 + 1 ≤ 12
    omega
  · obtain ⟨l', m', b1, b2, b3⟩ := h.2.2.2.2.2.2 _ hi
    exact ⟨l', m', Nat.lt_succ_of_lt b1, b2, b3⟩
theorem mk_thr {n : Nat} : (∀ a b, mFl n a b u 20 0 0 = 0) ∧ (∀ a b, mRe n a b u 20 0 0 = 0) ∧ ∀ a b c, mLe n a b c u 20 0 0 = 0 := by
  refine ⟨fun a b => ?_, fun a b => ?_, fun a b c => ?_⟩
  · unfold mFl
    rw [su_r, if_neg (by omega), su_r, if_neg (by omega), su_r, if_neg (by omega), su_r, if_neg (by omega)]
    exact su_thr
  · unfold mRe
    rw [su_r, if_neg (by omega), su_r, if_neg (by omega), su_r, if_neg (by omega), su_r, if_neg (by omega)]
    exact su_thr
  · unfold mLe
    rw [su_r, if_neg (by omega), su_r, if_neg (by omega), su_r, if_neg (by omega), su_r, if_neg (by omega), su_r, if_neg (by omega)]
    exact su_thr
theorem lw_flat {K : Int32 → xT → Prop} {x : Int} (hI : LInv E lo a1 a2 a3 D P t) (h1 : 720 ≤ m) (h2 : 3200 ≤ z) (hx : i32 x) (kk : ∀ t, LInv E lo a1 a2 a3 (D + 200000000) (P + 1000000) t → R t) (hK : ∀ x2 t1, (xis t1 a2 8 ∧ V_X8_flat_0 (fun x_6 t_5 => LK R a2 a3 x2 x_6.toInt64 t_5) a2 (I x) t1) → K x2 t1) : V_L_flat_0 E K a1 (I x) a3 t m z := by
  obtain ⟨ad, q, s, u, co, hR, hL⟩ := hI
  obtain ⟨ha1, ha2, ha3⟩ := hL.2.2.1
  subst ha1
  have hD := hL.2.2.2.2
  have hQ := hL.2.2.2.1
  have hq := hQ.2.2.2.2.2.1
  refine ⟨hL.x7 hR, m, z, Nat.le_refl _, Nat.le_refl _, ?_⟩
  refine sp_flat hL.1 hR hL.cl hQ.n0 hQ.1.2.1 hQ.1.2.2.1 hQ.1.2.2.2 rfl hq.1 hx (by omega) (by omega) (fun hc => kx2a (by decide) (hK 1 t ?_)) (fun hc hd => kx2b (by decide) (hK 2 t ?_)) (fun hc hd ad' t' c hA hA2 hR hcc => ?_)
  · subst ha2 ha3
    exact ⟨hL.x8 hR, mm_flat hR hL.tu hL.u0.1 hq.1 hx (fun _ t hR => lk_thr hR (by decide) (kk t ⟨_, _, _, _, _, hR, hL.thr⟩)) (fun h => absurd h hc) (fun h => absurd h hc)⟩
  · subst ha2 ha3
    exact ⟨hL.x8 hR, mm_flat hR hL.tu hL.u0.1 hq.1 hx (fun h => absurd hc h) (fun _ _ t hR => lk_thr hR (by decide) (kk t ⟨_, _, _, _, _, hR, hL.thr⟩)) (fun _ h => absurd h hd)⟩
  · have hB2 : ad' 20 0 = a2 := (hA.2 20 0 (by decide)).trans ha2
    have hB3 : ad' 35 0 = a3 := (hA.2 35 0 (by decide)).trans ha3
    subst hB2 hB3
    refine out_put hL.2.1 hR (fun t hR => hK 0 t ⟨xis_R hR (p := 20) (i := 0) rfl rfl, ?_⟩)
    refine mm_flat hR hL.tu hL.u0.1 hq.1 hx (fun h => absurd hc h) (fun _ h => absurd hd h) (fun _ _ t hR => lk_ok hL.2.1.1 hR (mk_thr.1 _ _) rfl (kk t ⟨_, _, _, _, _, hR, LB.out ⟨hL.1.of hA.2, hL.2.1, ⟨hA.1, rfl, rfl⟩, hQ.flat hd hA2 hcc, ?_⟩⟩))
    exact (op_flat hd hq.2.1 hc hD).up (by omega) (by omega)
theorem lw_report {K : Int32 → xT → Prop} {x y : Int} (hI : LInv E lo a1 a2 a3 D P t) (h1 : 720 ≤ m) (h2 : 3200 ≤ z) (hx : i32 x) (hy : i32 y) (kk : ∀ t, LInv E lo a1 a2 a3 (D + 200000000) (P + 1000000) t → R t) (hK : ∀ x2 t1, (xis t1 a2 8 ∧ V_X8_report_0 (fun x_6 t_5 => LK R a2 a3 x2 x_6.toInt64 t_5) a2 (I x) (I y) t1) → K x2 t1) : V_L_report_0 E K a1 (I x) (I y) a3 t m z := by
  obtain ⟨ad, q, s, u, co, hR, hL⟩ := hI
  obtain ⟨ha1, ha2, ha3⟩ := hL.2.2.1
  subst ha1
  have hD := hL.2.2.2.2
  have hQ := hL.2.2.2.1
  have hq := hQ.2.2.2.2.2.1
  refine ⟨hL.x7 hR, m, z, Nat.le_refl _, Nat.le_refl _, ?_⟩
  refine sp_report hL.1 hR hL.cl hD.2 hQ.n0 (Nat.le_refl _) hQ.n2 hQ.2.2.1.2.1 hQ.2.2.1.2.2.1 hQ.2.2.1.2.2.2 rfl hq.2.2 hx hy (by omega) (by omega) (fun hc => kx3a (by decide) (by decide) (hK 1 t ?_)) (fun hc hd => kx3b (by decide) (by decide) (hK 2 t ?_)) (fun hc hd he => kx3c (by decide) (by decide) (hK 3 t ?_)) (fun hc hd he ad' t' c hA hA2 hR hcc => ?_)
  · subst ha2 ha3
    exact ⟨hL.x8 hR, mm_report hR hL.u0.1 hq.1 hL.u0.2.2 hq.2.2 hx hy (fun _ t hR => lk_thr hR (by decide) (kk t ⟨_, _, _, _, _, hR, hL.thr⟩)) (fun h => absurd h hc) (fun h => absurd h hc) (fun h => absurd h hc)⟩
  · subst ha2 ha3
    exact ⟨hL.x8 hR, mm_report hR hL.u0.1 hq.1 hL.u0.2.2 hq.2.2 hx hy (fun h => absurd hc h) (fun _ _ t hR => lk_thr hR (by decide) (kk t ⟨_, _, _, _, _, hR, hL.thr⟩)) (fun _ h => absurd h hd) (fun _ h => absurd h hd)⟩
  · subst ha2 ha3
    exact ⟨hL.x8 hR, mm_report hR hL.u0.1 hq.1 hL.u0.2.2 hq.2.2 hx hy (fun h => absurd hc h) (fun _ h => absurd hd h) (fun _ _ _ t hR => lk_thr hR (by decide) (kk t ⟨_, _, _, _, _, hR, hL.thr⟩)) (fun _ _ h => absurd h he)⟩
  · have hB2 : ad' 20 0 = a2 := (hA.2 20 0 (by decide)).trans ha2
    have hB3 : ad' 35 0 = a3 := (hA.2 35 0 (by decide)).trans ha3
    subst hB2 hB3
    refine out_put hL.2.1 hR (fun t hR => hK 0 t ⟨xis_R hR (p := 20) (i := 0) rfl rfl, ?_⟩)
    refine mm_report hR hL.u0.1 hq.1 hL.u0.2.2 hq.2.2 hx hy (fun h => absurd hc h) (fun _ h => absurd hd h) (fun _ _ h => absurd he h) (fun _ _ _ t hR => lk_ok hL.2.1.1 hR (mk_thr.2.1 _ _) rfl (kk t ⟨_, _, _, _, _, hR, LB.out ⟨hL.1.of hA.2, hL.2.1, ⟨hA.1, rfl, rfl⟩, hQ.report he hA2 hcc, ?_⟩⟩))
    exact (op_report he hq.2.1 hc hd hD).up (by omega) (by omega)
theorem lw_lease {K : Int32 → xT → Prop} {x y : Int} (hI : LInv E lo a1 a2 a3 D P t) (hB : Bd D P) (h1 : 720 ≤ m) (h2 : 3200 ≤ z) (hx : i32 x) (hy : i32 y) (kk : ∀ t, LInv E lo a1 a2 a3 (D + 200000000) (P + 1000000) t → R t) (hK : ∀ x2 t1, (xis t1 a2 8 ∧ V_X8_lease_0 (fun x_6 t_5 => LK R a2 a3 x2 x_6.toInt64 t_5) a2 (I x) (I y) t1) → K x2 t1) : V_L_lease_0 E K a1 (I x) (I y) a3 t m z := by
  obtain ⟨ad, q, s, u, co, hR, hL⟩ := hI
  obtain ⟨ha1, ha2, ha3⟩ := hL.2.2.1
  subst ha1
  have hD := hL.2.2.2.2
  have hS := hD.1.2.1
  have hQ := hL.2.2.2.1
  have hq := hQ.2.2.2.2.2.1
  have hM := hL.M
  have hml : ∀ l, l < q.2.1 → okml u l := fun l hl => okml_of hS hD.1.1.2.1 hq.2.1 (by omega) hq.1 hl (hD.1.2.2.1.2.2.2.2 l hl)
  refine ⟨hL.x7 hR, m, z, Nat.le_refl _, Nat.le_refl _, ?_⟩
  refine sp_lease hL.1 hR hL.cl hD.2 hQ.n0 (Nat.le_refl _) hq.1 hQ.n1 hL.okl hQ.2.1.2.1 hQ.2.1.2.2.1 hQ.2.1.2.2.2 rfl hq.2.1 hx hy (by omega) (by omega) (fun hc => kx3a (by decide) (by decide) (hK 1 t ?_)) (fun hc hd => kx3b (by decide) (by decide) (hK 2 t ?_)) (fun hc hd he => kx3c (by decide) (by decide) (hK 3 t ?_)) (fun hc hd he hf ad' t' c hA hA2 hR hcc => ?_)
  · subst ha2 ha3
    exact ⟨hL.x8 hR, mm_lease hR hL.tu hL.u0.1 hq.1 hL.u0.2.1 hq.2.1 hml hx hy (fun _ t hR => lk_thr hR (by decide) (kk t ⟨_, _, _, _, _, hR, hL.thr⟩)) (fun h => absurd h hc) (fun h => absurd h hc) (fun h => absurd h hc)⟩
  · subst ha2 ha3
    exact ⟨hL.x8 hR, mm_lease hR hL.tu hL.u0.1 hq.1 hL.u0.2.1 hq.2.1 hml hx hy (fun h => absurd hc h) (fun _ _ t hR => lk_thr hR (by decide) (kk t ⟨_, _, _, _, _, hR, hL.thr⟩)) (fun _ h => absurd h hd) (fun _ h => absurd h hd)⟩
  · subst ha2 ha3
    have heq := let_eq hc.1 hD hq.2.1
    have he' : ¬ q.2.1 < 12 ∨ mLet u q.2.1 x := he.elim Or.inl (fun h => Or.inr (heq.mp h))
    exact ⟨hL.x8 hR, mm_lease hR hL.tu hL.u0.1 hq.1 hL.u0.2.1 hq.2.1 hml hx hy (fun h => absurd hc h) (fun _ h => absurd hd h) (fun _ _ _ t hR => lk_thr hR (by decide) (kk t ⟨_, _, _, _, _, hR, hL.thr⟩)) (fun _ _ h h' => he'.elim (fun g => absurd h g) (fun g => absurd g h'))⟩
  · have hB2 : ad' 20 0 = a2 := (hA.2 20 0 (by decide)).trans ha2
    have hB3 : ad' 35 0 = a3 := (hA.2 35 0 (by decide)).trans ha3
    subst hB2 hB3
    have heq := let_eq hc.1 hD hq.2.1
    refine out_put hL.2.1 hR (fun t hR => hK 0 t ⟨xis_R hR (p := 20) (i := 0) rfl rfl, ?_⟩)
    refine mm_lease hR hL.tu hL.u0.1 hq.1 hL.u0.2.1 hq.2.1 hml hx hy (fun h => absurd hc h) (fun _ h => absurd hd h) (fun _ _ h => h.elim (fun g => absurd he g) (fun g => absurd (heq.mpr g) hf)) (fun _ _ _ _ t hR => lk_ok hL.2.1.1 hR (mk_thr.2.2 _ _ _) rfl (kk t ⟨_, _, _, _, _, hR, LB.out ⟨hL.1.of hA.2, hL.2.1, ⟨hA.1, rfl, rfl⟩, hQ.lease he hA2 hcc, ?_⟩⟩))
    exact (op_lease hq.1 he hc hd hB.1.1 hB.2.1 hD).up (by omega) (by omega)
theorem mDay_thr {nf n nr : Nat} : mDay nf n nr u 20 0 0 = u 20 0 0 := by
  have a1 : su (lp mtk 0 nr u) 0 0 8 (u 0 0 8 + 1) 20 0 0 = u 20 0 0 := by
    rw [su_r, if_neg (by omega)]
    exact congrFun (lp_o (fun j s => mtk_o (by omega) (by omega)) _ _ _) 0
  unfold mDay
  split
  · unfold mBeg
    rw [lp_o (fun j s => mPa_o (by omega)), su_f _ (by omega), lp_o (fun j s => mPz_o (by omega)), su_r, if_neg (by omega), mEnd_o (by omega)]
    exact a1
  · exact a1
theorem itn_thr {nf n nr : Nat} : ∀ (k : Nat) (u : xS), itn (mDay nf n nr) k u 20 0 0 = u 20 0 0 := by
  intro k
  induction k with
  | zero => exact fun u => rfl
  | succ k ih =>
    intro u
    show itn (mDay nf n nr) k (mDay nf n nr u) 20 0 0 = _
    rw [ih, mDay_thr]
theorem RR_mono {lv lv' : Nat → Nat → Prop} {ce : Nat → Nat → xE} (h : Rel ad lv ce t) (hl : ∀ p i, lv' p i → lv p i) : Rel ad lv' ce t := ⟨fun p i g => h.1 p i (hl p i g), fun p i p' i' g g' => h.2 p i p' i' (hl p i g) (hl p' i' g')⟩
theorem lw_pass {K : Int32 → xT → Prop} {x : Int} (hI : LInv E lo a1 a2 a3 D P t) (hB : Bd D P) (h1 : 720 ≤ m) (h2 : 3200 ≤ z) (hx : i32 x) (kk : ∀ t, LInv E lo a1 a2 a3 (D + 200000000) (P + 1000000) t → R t) (hK : ∀ x2 t1, (xis t1 a2 8 ∧ V_X8_pass_0 (fun x_6 t_5 => LK R a2 a3 x2 x_6.toInt64 t_5) a2 (I x) t1) → K x2 t1) : V_L_pass_0 K a1 (I x) a3 t m z := by
  obtain ⟨ad, q, s, u, co, hR, hL⟩ := hI
  obtain ⟨ha1, ha2, ha3⟩ := hL.2.2.1
  subst ha1
  have hD := hL.2.2.2.2
  have hS := hD.1.2.1
  have hQ := hL.2.2.2.1
  have hq := hQ.2.2.2.2.2.1
  have e8 := hS.rd
  have op : 1 ≤ x ∧ x ≤ 60 → s 0 0 8 + x ≤ 3600 → _ := fun hc hd => op_pass (q := q) (nf := q.1) (n := q.2.1) (nr := q.2.2.1) (P := P) hq.1 hq.2.1 hq.2.2 (by have := hB.2; omega) rfl rfl rfl x.toNat s (su u 20 0 0 0) D hB.1.1 (by have := hB.1; omega) hD.thr hQ.n0 hQ.n1 hQ.n2 (by omega)
  refine ⟨hL.x7 hR, m, z, Nat.le_refl _, Nat.le_refl _, ?_⟩
  refine sp_pass (B := q.2.2.2.1) (nf := q.1) (n := q.2.1) (nr := q.2.2.1) hR hQ.2.2.2.1 hD.2 hx (Nat.le_refl _) hq.1 (Nat.le_refl _) hq.2.1 (Nat.le_refl _) (by omega) (by omega) (fun hc => kx2a (by decide) (hK 1 t ?_)) (fun hc hd => kx2b (by decide) (hK 2 t ?_)) (fun hc hd => (op hc hd).2.1) (fun hc hd ad' B' t' hA hR hHB => ?_)
  · subst ha2 ha3
    exact ⟨hL.x8 hR, mm_pass (nf := q.1) (n := q.2.1) (nr := q.2.2.1) hR hL.tu hq.1 hq.2.1 hq.2.2 hx (fun _ t hR => lk_thr hR (by decide) (kk t ⟨_, _, _, _, _, hR, hL.thr⟩)) (fun h => absurd h hc) (fun h => absurd h hc) (fun h => absurd h hc)⟩
  · subst ha2 ha3
    exact ⟨hL.x8 hR, mm_pass (nf := q.1) (n := q.2.1) (nr := q.2.2.1) hR hL.tu hq.1 hq.2.1 hq.2.2 hx (fun h => absurd hc h) (fun _ _ t hR => lk_thr hR (by decide) (kk t ⟨_, _, _, _, _, hR, hL.thr⟩)) (fun _ h => absurd (by rw [e8] at h; exact h) hd) (fun _ h => absurd (by rw [e8] at h; exact h) hd)⟩
  · have hB2 : ad' 20 0 = a2 := (hA.2.1 20 0 (by decide)).trans ha2
    have hB3 : ad' 35 0 = a3 := (hA.2.1 35 0 (by decide)).trans ha3
    subst hB2 hB3
    obtain ⟨o1, o2, o3, o4⟩ := op hc hd
    have hR2 : RR ad' (qw q (fun i => B' i ∧ ∃ l m, l < q.2.1 ∧ m < 121 ∧ i = 200 * l + m)) lo (pss q.1 q.2.1 q.2.2.1 x.toNat s) u co t' := RR_mono hR (fun p i h => by
      unfold clv at h ⊢
      split at h
      all_goals first
        | exact h
        | exact h.imp id (fun g => g.1))
    refine out_put hL.2.1 hR2 (fun t hR => hK 0 t ⟨xis_R hR (p := 20) (i := 0) rfl rfl, ?_⟩)
    refine mm_pass (nf := q.1) (n := q.2.1) (nr := q.2.2.1) hR hL.tu hq.1 hq.2.1 hq.2.2 hx (fun h => absurd hc h) (fun _ h => absurd (by rw [e8]; exact hd) h) (fun _ _ => o3) (fun _ _ t hR => lk_ok hL.2.1.1 hR (by rw [itn_thr]; exact su_thr) ?_ (kk t ⟨_, _, _, _, _, hR, LB.out ⟨hL.1.of hA.2.1, hL.2.1, ⟨hA.1, rfl, rfl⟩, ?_, ?_⟩⟩))
    · unfold pss
      rw [o1.1.2.1.rd]
    · unfold pss
      refine ⟨hQ.1.of (o4 1 0 (by omega)) (o4 2 0 (by omega)) (hA.2.2 0) id, hQ.2.1.of (o4 1 1 (by omega)) (o4 2 1 (by omega)) (hA.2.2 1) id, hQ.2.2.1.of (o4 1 2 (by omega)) (o4 2 2 (by omega)) (hA.2.2 2) id, fun l m hl hm => ?_, ?_, hq, fun i hi => hi.2⟩
      · have := hHB l m hl hm
        exact ⟨fun g => this.mp g.1, fun g => ⟨this.mpr g, l, m, hl, hm, rfl⟩⟩
      · have e := hQ.2.2.2.2.1
        unfold SBk at e ⊢
        rw [o4 12 0 (by omega), o4 13 0 (by omega)]
        exact e
    · exact o1.up (by omega) (by omega)
theorem lw_owner (hI : LInv E lo a1 a2 a3 D P t) (kk : ∀ t, LInv E lo a1 a2 a3 (D + 200000000) (P + 1000000) t → R t) : (xis t a1 7 ∧ V_X7_owner_0 (fun y_2 t_1 => (xis t_1 a2 8 ∧ V_X8_owner_0 (fun y_4 t_3 => ((y_2 = y_4 → R t_3) ∧ (¬ y_2 = y_4 → ((0 : Int32) = 1)))) a2 t_1)) a1 t) := by
  obtain ⟨ad, q, s, u, co, hR, hL⟩ := hI
  obtain ⟨rfl, rfl, rfl⟩ := hL.2.2.1
  have hD := hL.2.2.2.2
  have hS := hD.1.2.1
  have hq := hL.2.2.2.1.2.2.2.2.2.1
  refine ⟨hL.x7 hR, sp_owner hR ⟨hL.x8 hR, mm_owner hR hL.u0.2.1 hq.2.1 (fun t hR => ⟨fun _ => kk t ⟨_, _, _, _, _, hR, hL.thr⟩, fun h => absurd ?_ h⟩)⟩⟩
  have e := hD.1.1.2.2.2.2.2.2.2.1
  unfold GO at e
  rw [e]
  congr 2
  exact (sumn_congr _ (fun l hl => by rw [hS.r6 l 5 (by decide), hS.r6 l 6 (by decide)])).symm
end LAWM
