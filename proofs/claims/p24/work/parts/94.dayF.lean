/-! ===== a month begins, on both sides ===== -/
section DAYF
variable {q : xL} {s s' s2 u u' u2 : xS} {nf n nr M : Nat} {Bp D P : Int}
theorem toDsk_r {l k : Nat} {z : Int} : toDsk l z s 6 l k = if k = 6 then s 6 l 6 + z else s 6 l k := by
  unfold toDsk
  rw [su_f _ (by omega), su_r]
  by_cases c : k = 6
  · rw [if_pos ⟨rfl, rfl, c⟩, if_pos c]
  · rw [if_neg (fun h => c h.2.2), if_neg c]
theorem toDsk_0 {l k : Nat} {z : Int} : toDsk l z s 0 0 k = if k = 9 then s 0 0 9 - z else s 0 0 k := by
  unfold toDsk
  rw [su_r]
  by_cases c : k = 9
  · rw [if_pos ⟨rfl, rfl, c⟩, if_pos c]
  · rw [if_neg (fun h => c h.2.2), if_neg c, su_f _ (by omega)]
theorem St.dsk {l : Nat} {z : Int} : St s (toDsk l z s) := ⟨funext fun i => toDsk_o (by decide) (by omega), funext fun i => toDsk_o (by decide) (by omega), fun j => by
  by_cases c : j = l
  · subst c
    rw [toDsk_r, toDsk_r, toDsk_r, toDsk_r]
    exact ⟨rfl, rfl, rfl, rfl⟩
  · rw [toDsk_o (by decide) (by omega)]
    exact ⟨rfl, rfl, rfl, rfl⟩⟩
theorem GG.dsk {l : Nat} {z : Int} (h : GG nf n nr M Bp D P s) (hl : l < n) (hz : -D ≤ s 6 l 6 + z ∧ s 6 l 6 + z ≤ D) : GG nf n nr M Bp D P (toDsk l z s) := by
  obtain ⟨hF, hL, hU, hR, hMM, hZ, hLL, hO, hD⟩ := h
  have hS := St.dsk (s := s) (l := l) (z := z)
  have o : ∀ p i, p ≠ 0 → ¬ (p = 6 ∧ i = l) → toDsk l z s p i = s p i := fun p i h0 h6 => toDsk_o h0 h6
  have o4 : ∀ i, toDsk l z s 4 i = s 4 i := fun i => o 4 i (by decide) (by omega)
  refine ⟨hF.of (fun f _ => by rw [o 5 f (by decide) (by omega)]; exact ⟨rfl, rfl, rfl, rfl⟩) (fun f _ => o4 _) (fun f _ => o4 _), hL.of (fun j _ => hS.2.2 j) (fun j _ => o4 _), hU.of (fun j _ => ⟨(hS.2.2 j).1, (hS.2.2 j).2.2.2⟩) (fun j _ => o4 _), hR.of (fun r _ => by rw [o 11 r (by decide) (by omega)]; exact ⟨rfl, rfl, rfl, rfl⟩), hMM.of (by rw [toDsk_0, if_neg (by decide)]) (o4 _) (o4 _), hZ.of (o4 _) (fun f _ m _ => by rw [o4]), fun j hj => ?_, ?_, hD.of (fun f _ _ => ⟨o 5 f (by decide) (by omega), o4 _, o4 _⟩) (fun j h1 _ => ⟨o 6 j (by decide) (by omega), o 7 j (by decide) (by omega), o 9 j (by decide) (by omega), o4 _⟩) (fun r _ _ => o 11 r (by decide) (by omega))⟩
  · obtain ⟨a, b, c⟩ := hLL j hj
    refine ⟨a.of hS hj (o 9 j (by decide) (by omega)) (fun m _ => o 10 _ (by decide) (by omega)), ?_, c.of (o 7 j (by decide) (by omega))⟩
    by_cases cj : j = l
    · subst cj
      unfold LC at b ⊢
      rw [TT.of (o 9 j (by decide) (by omega)) (fun m _ => o 10 _ (by decide) (by omega)), toDsk_r, toDsk_r, toDsk_r, if_neg (by decide), if_neg (by decide), if_pos rfl]
      exact ⟨b.1, b.2.1, hz⟩
    · exact b.of (o 6 j (by decide) (by omega)) (o 9 j (by decide) (by omega)) (fun m _ => o 10 _ (by decide) (by omega))
  · unfold GO at hO ⊢
    have e : sumn (fun j => toDsk l z s 6 j 5 + toDsk l z s 6 j 6) n = sumn (fup (fun j => s 6 j 5 + s 6 j 6) l (s 6 l 5 + s 6 l 6 + z)) n := sumn_congr n (fun j hj => by
      by_cases c : j = l
      · subst c
        rw [fup_s, toDsk_r, toDsk_r, if_neg (by decide), if_pos rfl]
        omega
      · rw [fup_n _ _ c, toDsk_o (by decide) (by omega)])
    rw [e, sumn_fup n hl, toDsk_0, if_pos rfl, hO]
    omega
theorem phF_step {j : Nat} (hM : M < 121) (hn : n ≤ 12) (hD : 1000000 ≤ D) (hj : j < n) (h : CMR nf n nr M Bp D P s u) : CMR nf n nr M Bp D P (bgM M j s) (mPa M j u) := by
  obtain ⟨hG, hS, h1, hA⟩ := h
  have er : mrunb u j M = runb s j M := mrunb_eq hS (h1.2.2.2.2 j hj) (by omega)
  have ed : mDue M j u = payDue M j s := by
    unfold mDue payDue
    rw [hS.r6 j 8 (by decide), hS.r6 j 6 (by decide), hS.rt (by omega), h1.1 M (Nat.le_refl M)]
  unfold bgM mPa payAh
  rw [er, ed]
  by_cases c : runb s j M = 0
  · rw [if_pos c, if_pos (Or.inl c)]
    exact ⟨hG, hS, h1, hA⟩
  · rw [if_neg c]
    by_cases c2 : payDue M j s ≤ 0
    · rw [if_pos c2, if_pos (Or.inr c2)]
      exact ⟨hG, hS, h1, hA⟩
    · rw [if_neg c2, if_neg (fun h => h.elim c c2)]
      have hrent : 0 ≤ s 6 j 8 * s 4 0 M ∧ s 6 j 8 * s 4 0 M ≤ 100000000 := by
        have a1 := (hG.2.1 j hj).2.1
        have a2 := (hG.2.2.2.2.1.2 M hM).1
        refine ⟨Int.mul_nonneg a1.1 (by omega), ?_⟩
        have a3 : s 6 j 8 * s 4 0 M ≤ 500000 * s 4 0 M := Int.mul_le_mul_of_nonneg_right a1.2 (by omega)
        omega
      have hben := ben_rng (r := s 6 j 8 * s 4 0 M / 100) (i := incn (s 4 (400 + j)) (M + 1)) (by omega)
      have hz : -D ≤ s 6 j 6 + -payDue M j s ∧ s 6 j 6 + -payDue M j s ≤ D := by
        have e : s 6 j 6 + -payDue M j s = -ben (s 6 j 8 * s 4 0 M / 100) (incn (s 4 (400 + j)) (M + 1)) := by
          unfold payDue
          omega
        rw [e]
        omega
      have o : ∀ p i, p ≠ 0 → ¬ (p = 6 ∧ i = j) → toDsk j (-payDue M j s) s p i = s p i := fun p i h0 h6 => toDsk_o h0 h6
      refine ⟨hG.dsk hj hz, ?_, ⟨fun m hm => ?_, ?_, ?_, fun f hf => ?_, fun l hl => ?_⟩, fun f hf => ?_⟩
      · unfold toDsk
        refine S0.cls ?_ (show ¬ (0 = 0 ∧ 9 = 8) by decide)
        rw [hS.r6 j 6 (by decide), show s 6 j 6 - payDue M j s = s 6 j 6 + -payDue M j s by omega]
        exact hS.both
      · rw [su_f _ (by omega), o 4 0 (by decide) (by omega)]
        exact h1.1 m hm
      · rw [su_f _ (by omega), toDsk_0, if_neg (by decide)]
        exact h1.2.1
      · rw [su_f _ (by omega), o 4 100 (by decide) (by omega)]
        exact h1.2.2.1
      · rw [su_f _ (by omega), o 4 _ (by decide) (by omega)]
        exact h1.2.2.2.1 f hf
      · rw [su_f _ (by omega), ((St.dsk (s := s) (l := j) (z := -payDue M j s)).2.2 l).2.1]
        exact h1.2.2.2.2 l hl
      · rw [su_f _ (by omega), o 4 _ (by decide) (by omega)]
        exact hA f hf
theorem mPz_at : ∀ (r i : Nat) (u : xS) (f : Nat), lp mPz i r u 21 8 f = if i ≤ f ∧ f < i + r then 0 else u 21 8 f := by
  intro r
  induction r with
  | zero =>
    intro i u f
    rw [if_neg (by omega)]
    rfl
  | succ r ih =>
    intro i u f
    show lp mPz (i + 1) r (mPz i u) 21 8 f = _
    rw [ih]
    unfold mPz
    by_cases c : f = i
    · subst c
      rw [if_neg (by omega), su_r, if_pos ⟨rfl, rfl, rfl⟩, if_pos (by omega)]
    · rw [su_r]
      by_cases c2 : i + 1 ≤ f ∧ f < i + 1 + r
      · rw [if_pos c2, if_pos (by omega)]
      · rw [if_neg c2, if_neg (fun h => c h.2.2), if_neg (by omega)]
/-- the months' turn -/
theorem phF0 (hnf : nf ≤ 8) (hM : M < 120) (h : MR4 nf n nr M Bp D P s u) : CMR nf n nr (M + 1) Bp (D + 1000000) P (su s 4 0 (M + 1) (s 0 0 7)) (su (lp mPz 0 nf (su u 20 0 11 0)) 21 10 (M + 1 + 1) (u 21 10 (M + 1))) := by
  obtain ⟨⟨hF, hL, hU, hR, hMM, hZ1, hLL, hO, hD⟩, hS, h1, hA, hZ⟩ := h
  have o : ∀ p i, ¬ (p = 4 ∧ i = 0) → su s 4 0 (M + 1) (s 0 0 7) p i = s p i := fun p i hp => su_f _ hp
  have o4 : ∀ i m, m ≠ M + 1 → su s 4 0 (M + 1) (s 0 0 7) 4 i m = s 4 i m := fun i m hm => by rw [su_r, if_neg (fun h => hm h.2.2)]
  have v : ∀ p i, ¬ (p = 21 ∧ (i = 8 ∨ i = 10)) → ¬ (p = 20 ∧ i = 0) → su (lp mPz 0 nf (su u 20 0 11 0)) 21 10 (M + 1 + 1) (u 21 10 (M + 1)) p i = u p i := fun p i g1 g2 => by
    rw [su_f _ (by omega), lp_o (fun j s => mPz_o (by omega)), su_f _ g2]
  have v10 : ∀ m, su (lp mPz 0 nf (su u 20 0 11 0)) 21 10 (M + 1 + 1) (u 21 10 (M + 1)) 21 10 m = if m = M + 1 + 1 then u 21 10 (M + 1) else u 21 10 m := fun m => by
    rw [su_r]
    by_cases c : m = M + 1 + 1
    · rw [if_pos ⟨rfl, rfl, c⟩, if_pos c]
    · rw [if_neg (fun h => c h.2.2), if_neg c, lp_o (fun j s => mPz_o (by omega)), su_f _ (by omega)]
  have hr' : ∀ m : Int, ∀ j, runb (su s 4 0 (M + 1) (s 0 0 7)) j m = runb s j m := fun m j => by
    unfold runb
    rw [o 6 j (by omega)]
  refine ⟨⟨hF.of (fun f _ => by rw [o 5 f (by omega)]; exact ⟨rfl, rfl, rfl, rfl⟩) (fun f _ => o 4 _ (by omega)) (fun f _ => o 4 _ (by omega)), hL.of (fun l _ => by rw [o 6 l (by omega)]; exact ⟨rfl, rfl, rfl, rfl⟩) (fun l _ => o 4 _ (by omega)), hU.of (fun l _ => by rw [o 6 l (by omega)]; exact ⟨rfl, rfl⟩) (fun l _ => o 4 _ (by omega)), hR.of (fun r _ => by rw [o 11 r (by omega)]; exact ⟨rfl, rfl, rfl, rfl⟩), ?_, hZ1.of (o 4 _ (by omega)) (fun f _ m _ => by rw [o 4 _ (by omega)]), fun l hl => ?_, hO.of (by rw [o 0 0 (by omega)]) (fun l _ => by rw [o 6 l (by omega)]; exact ⟨rfl, rfl⟩), hD.of (fun f _ _ => ⟨o 5 f (by omega), o 4 _ (by omega), o 4 _ (by omega)⟩) (fun l _ _ => ⟨o 6 l (by omega), o 7 l (by omega), o 9 l (by omega), o 4 _ (by omega)⟩) (fun r _ _ => o 11 r (by omega))⟩, ?_, ⟨fun m hm => ?_, ?_, ?_, fun f hf => ?_, fun l hl => ?_⟩, fun f hf => ?_⟩
  · refine ⟨by rw [o 0 0 (by omega)]; exact hMM.1, fun m hm => ?_⟩
    rw [o 4 100 (by omega)]
    refine ⟨?_, (hMM.2 m hm).2⟩
    rw [su_r]
    by_cases c : m = M + 1
    · rw [if_pos ⟨rfl, rfl, c⟩]
      exact hMM.1
    · rw [if_neg (fun h => c h.2.2)]
      exact (hMM.2 m hm).1
  · obtain ⟨p1, p2, p3⟩ := hLL l hl
    refine ⟨p1.of2 (fun m _ => hr' m l) (fun m hm hm2 _ k _ => ?_) (o 9 l (by omega)) (fun m _ => o 10 _ (by omega)), p2.of (o 6 l (by omega)) (o 9 l (by omega)) (fun m _ => o 10 _ (by omega)), p3.of (o 7 l (by omega))⟩
    exact bl_congr hl (fun j _ => by rw [o 6 j (by omega)]) (fun j _ => hr' m j) (by rw [o 6 l (by omega)]) (fun j _ => by rw [o 5 _ (by omega)]) (fun j _ _ => o4 _ m (by omega)) (o4 _ m (by omega)) (o4 _ m (by omega)) (o4 _ m (by omega)) (by rw [o 4 (400 + l) (by omega)]) k
  · refine S0.mdl ?_ (fun h => h)
    refine S0.lpm (fun j u hu => S0.mdl (p := 21) (i := 8) (k := j) hu (fun h => h)) _ _ _ ?_
    have e : ¬ Cm 4 0 (M + 1) := show ¬ ((200 ≤ 0 ∧ 0 < 208) ∨ (400 ≤ 0 ∧ 0 < 412)) by decide
    exact (hS.cls e).mdl (p := 20) (i := 0) (k := 11) (fun h => h)
  · rw [v10, if_neg (by omega), su_r]
    by_cases c : m = M + 1
    · rw [if_pos ⟨rfl, rfl, c⟩, c]
      exact h1.2.1
    · rw [if_neg (fun h => c h.2.2)]
      exact h1.1 m (by omega)
  · rw [v10, if_pos rfl, o 0 0 (by omega)]
    exact h1.2.1
  · rw [o 4 100 (by omega), (hZ (M + 1) (by omega) (by omega)).1, su_f _ (by omega), lp_o (fun j s => mPz_o (by omega)), su_r, if_pos ⟨rfl, rfl, rfl⟩]
  · rw [su_f _ (by omega), mPz_at, o 4 _ (by omega)]
    by_cases c : f < nf
    · rw [if_pos (by omega), (hZ (M + 1) (by omega) (by omega)).2 f c]
    · have hdf := (hD.1 f (by omega) hf).2.2.2
      rw [if_neg (by omega), su_f _ (by omega), hdf, h1.2.2.2.1 f hf, hdf]
  · rw [v 21 22 (by omega) (by omega), o 6 l (by omega)]
    exact h1.2.2.2.2 l hl
  · rw [v 21 4 (by omega) (by omega), o 4 _ (by omega)]
    exact hA f hf
theorem phF (hnf : nf ≤ 8) (hn : n ≤ 12) (hM : M < 120) (hD : 0 ≤ D) (h : MR4 nf n nr M Bp D P s u) : CMR nf n nr (M + 1) Bp (D + 1000000) P (bMon n (M + 1) s) (mBeg nf n (M + 1) u) := by
  have h0 := phF0 hnf hM h
  have key := lp_rel (R := fun _ s' u' => CMR nf n nr (M + 1) Bp (D + 1000000) P s' u') (f := bgM (M + 1)) (g := mPa (M + 1)) n 0 _ _ (fun j s' u' _ hj hR => phF_step (by omega) hn (by omega) (by omega) hR) h0
  exact key
end DAYF
