section DAYE2
variable {q : xL} {s s' s2 u u' u2 : xS} {nf n nr M : Nat} {Bp D P : Int}
theorem St.E8 (h : E8 s s') : St s s' := ⟨funext fun i => h 4 i (by decide), funext fun i => h 5 i (by decide), fun j => by rw [h 6 j (by decide)]; exact ⟨rfl, rfl, rfl, rfl⟩⟩
theorem mwg_eq (hS : S0 s u) (hL : GL s nf n M) (hnf : nf ≤ 8) {l m : Nat} (hl : l < n) (hm : m < 121) (h1 : u 21 22 l = if s 6 l 1 = -1 then 1000 else s 6 l 1) : mwg m 0 u l = wrS s m l ∧ mwg m 1 u l = useb s l m := by
  have h0 := (hL l hl).1
  unfold mwg wrS useb
  rw [mrunb_eq hS h1 (by omega), hS.r6 l 0 (by decide), hS.r5 _ 0 (by decide), hS.ru (by omega)]
  exact ⟨rfl, rfl⟩
theorem MR2.keep (h : MR2 nf n nr M Bp D P s u) (hE : E8 s s2) (hM : EM u u2) : MR2 nf n nr M Bp D P s2 u2 := by
  obtain ⟨⟨hF, hL, hU, hR, hMM, hZ, hLL, hO, hD⟩, hS, h1, hA⟩ := h
  have e : ∀ p i, p ≠ 8 → s2 p i = s p i := hE
  have hSt := St.E8 hE
  refine ⟨⟨hF.of (fun f _ => by rw [e 5 f (by decide)]; exact ⟨rfl, rfl, rfl, rfl⟩) (fun f _ => e 4 _ (by decide)) (fun f _ => e 4 _ (by decide)), hL.of (fun l _ => by rw [e 6 l (by decide)]; exact ⟨rfl, rfl, rfl, rfl⟩) (fun l _ => e 4 _ (by decide)), hU.of (fun l _ => by rw [e 6 l (by decide)]; exact ⟨rfl, rfl⟩) (fun l _ => e 4 _ (by decide)), hR.of (fun r _ => by rw [e 11 r (by decide)]; exact ⟨rfl, rfl, rfl, rfl⟩), hMM.of (by rw [e 0 0 (by decide)]) (e 4 _ (by decide)) (e 4 _ (by decide)), hZ.of (e 4 _ (by decide)) (fun f _ m _ => by rw [e 4 _ (by decide)]), fun l hl => ?_, hO.of (by rw [e 0 0 (by decide)]) (fun l _ => by rw [e 6 l (by decide)]; exact ⟨rfl, rfl⟩), hD.of (fun f _ _ => ⟨e 5 f (by decide), e 4 _ (by decide), e 4 _ (by decide)⟩) (fun l _ _ => ⟨e 6 l (by decide), e 7 l (by decide), e 9 l (by decide), e 4 _ (by decide)⟩) (fun r _ _ => e 11 r (by decide))⟩, fun p i k hc => ?_, ⟨fun m hm => ?_, ?_, ?_, fun f hf => ?_, fun l hl => ?_⟩, fun f hf => ?_⟩
  · obtain ⟨a, b, c⟩ := hLL l hl
    exact ⟨a.of hSt hl (e 9 l (by decide)) (fun m _ => e 10 _ (by decide)), b.of (e 6 l (by decide)) (e 9 l (by decide)) (fun m _ => e 10 _ (by decide)), c.of (e 7 l (by decide))⟩
  · have h8 : p ≠ 8 := fun h => by subst h; exact hc
    have h21 : p ≠ 21 := fun h => by subst h; exact hc
    rw [hM p i k (by omega), e p i h8]
    exact hS p i k hc
  · rw [hM 21 10 m (by omega), e 4 0 (by decide)]
    exact h1.1 m hm
  · rw [hM 21 10 _ (by omega), e 0 0 (by decide)]
    exact h1.2.1
  · rw [hM 20 0 11 (by omega), e 4 100 (by decide)]
    exact h1.2.2.1
  · rw [hM 21 8 f (by omega), e 4 _ (by decide)]
    exact h1.2.2.2.1 f hf
  · rw [hM 21 22 l (by omega), e 6 l (by decide)]
    exact h1.2.2.2.2 l hl
  · rw [hM 21 4 f (by omega), e 4 _ (by decide)]
    exact hA f hf
theorem MR2.heat (h : MR2 nf n nr M Bp D P s u) (hnf : nf ≤ 8) (hM : M < 121) {l : Nat} (hl : l < n) : msHeat n M u 21 36 l = shHeat n M s 8 l 0 := by
  obtain ⟨⟨hF, hL, hU, hR, hMM, hZ, hLL, hO, hD⟩, hS, h1, hA⟩ := h
  have e : ∀ j, j < n → mwg M 0 u j = wrS s M j ∧ mwg M 1 u j = useb s j M := fun j hj => mwg_eq hS hL hnf hj hM (h1.2.2.2.2 j hj)
  rw [msHeat_HS hl (fun j hj => by rw [(e j hj).2]; exact (useb_rng hF hL hU hj hM (Nat.lt_succ_self M)).1), shHeat_HS hl, h1.2.2.1]
  exact HS_congr (fun j hj => (e j hj).1) (fun j hj => (e j hj).2) hl
/-- the loop over the leases -/
def RE (n M : Nat) (D P : Int) (s2 u2 : xS) (j : Nat) (s' u' : xS) : Prop := St s2 s' ∧ (∀ p i, p ≠ 0 → p ≠ 6 → p ≠ 7 → p ≠ 9 → p ≠ 10 → s' p i = s2 p i) ∧ s' 0 0 7 = s2 0 0 7 ∧ (∀ l, n ≤ l → s' 6 l = s2 6 l ∧ s' 7 l = s2 7 l ∧ s' 9 l = s2 9 l) ∧ (∀ l, l < n → LH s' n (if l < j then M + 1 else M) l ∧ LC s' (if l < j then D + 1000000 else D) P l ∧ LN s' (if l < j then M + 1 else M) l) ∧ GO s' n ∧ S0 s' u' ∧ u' 21 = u2 21 ∧ u' 20 = u2 20
theorem mBv_eq {l m : Nat} (hS : S0 s u) (hl : l < 12) (h10 : u 21 10 m = s 4 0 m) (h8 : u 21 8 (s 6 l 0).toNat = s 4 (300 + (s 6 l 0).toNat) m) (h36 : u 21 36 l = s 8 l 0) {k : Nat} (hk : k < 4) : mBv l m u k = cBill s l m k := by
  obtain rfl | rfl | rfl | rfl : k = 0 ∨ k = 1 ∨ k = 2 ∨ k = 3 := by omega
  · show u 6 l 8 * u 21 10 m / 100 = s 6 l 8 * s 4 0 m / 100
    rw [hS.r6 l 8 (by decide), h10]
  · show low (u 6 l 8 * u 21 10 m / 100) (u 21 8 (u 6 l 0).toNat) = low (s 6 l 8 * s 4 0 m / 100) (s 4 (300 + (s 6 l 0).toNat) m)
    rw [hS.r6 l 8 (by decide), hS.r6 l 0 (by decide), h10, h8]
  · show ben (u 6 l 8 * u 21 10 m / 100 - low (u 6 l 8 * u 21 10 m / 100) (u 21 8 (u 6 l 0).toNat)) (incn (u 4 (400 + l)) (m + 1)) = ben (s 6 l 8 * s 4 0 m / 100 - low (s 6 l 8 * s 4 0 m / 100) (s 4 (300 + (s 6 l 0).toNat) m)) (incn (s 4 (400 + l)) (m + 1))
    rw [hS.r6 l 8 (by decide), hS.r6 l 0 (by decide), h10, h8, hS.rt hl]
  · exact h36
theorem phE_step {j : Nat} (hnf : nf ≤ 8) (hn : n ≤ 12) (hM : M < 120) (hB : Bp ≤ 100000000) (h : MR2 nf n nr M Bp D P s2 u2) (hh : ∀ l, l < n → s2 8 l 0 = bl s2 n l M 3 ∧ u2 21 36 l = s2 8 l 0) (hj : j < n) (hR : RE n M D P s2 u2 j s' u') : RE n M D P s2 u2 (j + 1) (emB M j s') (mEm M j u') := by
  obtain ⟨⟨hF, hL, hU, hRR, hMM, hZ, hLL, hO2, hD⟩, hS2, h1, hA⟩ := h
  obtain ⟨r1, r2, r3, r4, r5, r6, r7, r8, r9⟩ := hR
  have hlast : u' 21 22 j = if s' 6 j 1 = -1 then 1000 else s' 6 j 1 := by
    rw [r8, (r1.2.2 j).2.1]
    exact h1.2.2.2.2 j hj
  have er : mrunb u' j M = runb s' j M := mrunb_eq r7 hlast (by omega)
  obtain ⟨g1, g2, g3⟩ := r5 j hj
  rw [if_neg (Nat.lt_irrefl j)] at g1 g2 g3
  have e9 : s' 9 j M = 0 := (g1 M (by omega)).2 (fun h => absurd h.1 (Nat.lt_irrefl M))
  -- the plan
  have p7 : ∀ p i, ¬ (p = 7 ∧ i = j) → planM j s' p i = s' p i := fun p i hp => planM_o hp
  have q7 : ∀ p i, ¬ (p = 7 ∧ i = j) → planM j u' p i = u' p i := fun p i hp => planM_o hp
  have hSt : St s' (planM j s') := ⟨funext fun i => p7 4 i (by omega), funext fun i => p7 5 i (by omega), fun i => by rw [p7 6 i (by omega)]; exact ⟨rfl, rfl, rfl, rfl⟩⟩
  have hS3 := planM_S0 (l := j) r7
  have hN3 := planM_LN g3
  have hC3 : LC (planM j s') D P j := g2.of (p7 6 j (by omega)) (p7 9 j (by omega)) (fun m _ => p7 10 _ (by omega))
  have hH3 : LH (planM j s') n M j := g1.of hSt hj (p7 9 j (by omega)) (fun m _ => p7 10 _ (by omega))
  have hO3 : GO (planM j s') n := r6.of (by rw [p7 0 0 (by omega)]) (fun l _ => by rw [p7 6 l (by omega)]; exact ⟨rfl, rfl⟩)
  have hoth : ∀ l, l < n → l ≠ j → LH (planM j s') n (if l < j then M + 1 else M) l ∧ LC (planM j s') (if l < j then D + 1000000 else D) P l ∧ LN (planM j s') (if l < j then M + 1 else M) l := fun l hl hne => by
    obtain ⟨a, b, c⟩ := r5 l hl
    exact ⟨a.of hSt hl (p7 9 l (by omega)) (fun m _ => p7 10 _ (by omega)), b.of (p7 6 l (by omega)) (p7 9 l (by omega)) (fun m _ => p7 10 _ (by omega)), c.of (p7 7 l (by omega))⟩
  have hlt : ∀ l, l ≠ j → (l < j + 1) = (l < j) := fun l hne => propext ⟨fun h => by omega, fun h => by omega⟩
  have rs3 : ∀ m : Int, runb (planM j s') j m = runb s' j m := fun m => hSt.runb
  unfold emB mEm
  rw [er]
  by_cases c : runb s' j M = 0
  · rw [if_pos c, if_pos c]
    refine ⟨St.tr r1 hSt, fun p i a1 a2 a3 a4 a5 => by rw [p7 p i (by omega)]; exact r2 p i a1 a2 a3 a4 a5, by rw [p7 0 0 (by omega)]; exact r3, fun l hl => by rw [p7 6 l (by omega), p7 7 l (by omega), p7 9 l (by omega)]; exact r4 l hl, fun l hl => ?_, hO3, hS3, by rw [← r8]; exact funext fun i => q7 21 i (by omega), by rw [← r9]; exact funext fun i => q7 20 i (by omega)⟩
    by_cases cl : l = j
    · subst cl
      rw [if_pos (Nat.lt_succ_self l), if_pos (Nat.lt_succ_self l)]
      refine ⟨fun m hm => ?_, ⟨hC3.1, hC3.2.1, by have := hC3.2.2; omega⟩, hN3⟩
      obtain ⟨b1, b2⟩ := hH3 m hm
      refine ⟨fun d => b1 ⟨?_, d.2⟩, fun d => b2 (fun d' => d ⟨by omega, d'.2⟩)⟩
      have : m ≠ M := fun e => by
        subst e
        rw [rs3] at d
        exact d.2 c
      omega
    · simp only [hlt l cl]
      exact hoth l hl cl
  · rw [if_neg c, if_neg c]
    generalize hs3 : planM j s' = s3 at *
    generalize hu3 : planM j u' = u3 at *
    have hSt3 : St s2 s3 := St.tr r1 hSt
    have h38 : s3 8 j 0 = s2 8 j 0 := by rw [p7 8 j (by omega), r2 8 j (by decide) (by decide) (by decide) (by decide) (by decide)]
    have u321 : u3 21 = u2 21 := by rw [← r8]; exact funext fun i => q7 21 i (by omega)
    have h0j := (hL j hj).1
    have hb : ∀ k, k < 4 → mBv j M u3 k = cBill s3 j M k := fun k hk => mBv_eq hS3 (by omega) (by rw [u321, hSt3.1]; exact h1.1 M (Nat.le_refl M)) (by rw [u321, hSt3.1, (hSt3.2.2 j).1]; exact h1.2.2.2.1 _ (by omega)) (by rw [u321, h38]; exact (hh j hj).2) hk
    have hcb : ∀ k, k < 4 → cBill s3 j M k = bl s2 n j M k := fun k hk => by
      rw [← hSt3.bl hj]
      obtain rfl | rfl | rfl | rfl : k = 0 ∨ k = 1 ∨ k = 2 ∨ k = 3 := by omega
      · rfl
      · rfl
      · rfl
      · rw [hSt3.bl hj, ← (hh j hj).1, ← h38]
        rfl
    have hrng := bl_rng hF hL hMM (by omega) hB hU hj (m := M) (by omega) (Nat.lt_succ_self M)
    have hStb : St s3 (mkBill M j s3) := St.bill
    have o : ∀ p i, p ≠ 0 → p ≠ 10 → ¬ (p = 6 ∧ i = j) → ¬ (p = 9 ∧ i = j) → mkBill M j s3 p i = s3 p i := fun p i a1 a2 a3 a4 => mkBill_o a1 a2 a3 a4
    refine ⟨St.tr hSt3 hStb, fun p i a1 a2 a3 a4 a5 => by rw [o p i a1 a5 (by omega) (by omega), p7 p i (by omega)]; exact r2 p i a1 a2 a3 a4 a5, ?_, fun l hl => ?_, fun l hl => ?_, GO_bill hj hO3, bill_S0 hS3 hb (by omega), ?_, ?_⟩
    · rw [mkBill_0, if_neg (by decide), p7 0 0 (by omega)]
      exact r3
    · rw [o 6 l (by decide) (by decide) (by omega) (by omega), o 7 l (by decide) (by decide) (by omega) (by omega), o 9 l (by decide) (by decide) (by omega) (by omega), p7 6 l (by omega), p7 7 l (by omega), p7 9 l (by omega)]
      exact r4 l hl
    · by_cases cl : l = j
      · subst cl
        rw [if_pos (Nat.lt_succ_self l), if_pos (Nat.lt_succ_self l)]
        have e93 : s3 9 l M = 0 := by rw [p7 9 l (by omega)]; exact e9
        refine ⟨fun m hm => ?_, ⟨?_, ?_, ?_⟩, hN3.of (o 7 l (by decide) (by decide) (by omega) (by omega))⟩
        · obtain ⟨b1, b2⟩ := hH3 m hm
          rw [hStb.runb, mkBill_9]
          by_cases cm : m = M
          · subst cm
            rw [if_pos rfl]
            refine ⟨fun _ => ⟨rfl, fun k hk => ?_⟩, fun d => absurd ⟨Nat.lt_succ_self m, by rw [rs3]; exact c⟩ d⟩
            rw [mkBill_10 hk, hcb k hk, hStb.bl hl, hSt3.bl hl]
          · rw [if_neg cm]
            refine ⟨fun d => ?_, fun d => b2 (fun d' => d ⟨by omega, d'.2⟩)⟩
            obtain ⟨b3, b4⟩ := b1 ⟨by omega, d.2⟩
            refine ⟨b3, fun k hk => ?_⟩
            rw [mkBill_10n (by omega), hStb.bl hl]
            exact b4 k hk
        · rw [mkBill_6, mkBill_6, if_pos rfl, if_neg (by decide), if_neg (by decide), TT_bill (by omega) e93, hC3.1]
          omega
        · rw [mkBill_6, if_neg (by decide), if_neg (by decide)]
          exact hC3.2.1
        · rw [mkBill_6, if_neg (by decide), if_pos rfl, hcb 2 (by decide)]
          have := hC3.2.2
          omega
      · simp only [hlt l cl]
        obtain ⟨a, b, cc⟩ := hoth l hl cl
        exact ⟨a.of hStb hl (o 9 l (by decide) (by decide) (by omega) (by omega)) (fun m hm => mkBill_10n (by omega)), b.of (o 6 l (by decide) (by decide) (by omega) (by omega)) (o 9 l (by decide) (by decide) (by omega) (by omega)) (fun m hm => mkBill_10n (by omega)), cc.of (o 7 l (by decide) (by decide) (by omega) (by omega))⟩
    · rw [← u321]
      exact funext fun i => mBl_o (by decide) (by omega) (by omega)
    · rw [← r9]
      exact funext fun i => by rw [mBl_o (by decide) (by omega) (by omega), q7 20 i (by omega)]
/-- where the bills are made, and the next month has not begun -/
def MR4 (nf n nr M : Nat) (Bp D P : Int) (s u : xS) : Prop := GG nf n nr (M + 1) Bp (D + 1000000) P s ∧ S0 s u ∧ S1 s u M n ∧ AD s u (M + 1) nf ∧ GZ s nf M
theorem phE (hnf : nf ≤ 8) (hn : n ≤ 12) (hM : M < 120) (hB : Bp ≤ 100000000) (h0 : MR2 nf n nr M Bp D P s u) : MR4 nf n nr M Bp D P (lp (emB M) 0 n (shHeat n M s)) (lp (mEm M) 0 n (msHeat n M u)) := by
  have h := h0.keep (E8.shHeat (n := n) (m := M) (s := s)) (EM.msHeat (n := n) (m := M) (u := u))
  have hh : ∀ l, l < n → shHeat n M s 8 l 0 = bl (shHeat n M s) n l M 3 ∧ msHeat n M u 21 36 l = shHeat n M s 8 l 0 := fun l hl => ⟨by
    rw [(St.E8 (E8.shHeat (n := n) (m := M) (s := s))).bl hl]
    exact shHeat_HS hl, h0.heat hnf (by omega) hl⟩
  generalize shHeat n M s = s2 at *
  generalize msHeat n M u = u2 at *
  have key := lp_rel (R := RE n M D P s2 u2) (f := emB M) (g := mEm M) n 0 s2 u2 (fun j s' u' _ hj hR => phE_step hnf hn hM hB h hh (by omega) hR) (by
    obtain ⟨⟨hF, hL, hU, hRR, hMM, hZ, hLL, hO2, hD⟩, hS2, h1, hA⟩ := h
    refine ⟨St.rf, fun _ _ _ _ _ _ _ => rfl, rfl, fun _ _ => ⟨rfl, rfl, rfl⟩, fun l hl => ?_, hO2, hS2, rfl, rfl⟩
    rw [if_neg (Nat.not_lt_zero l), if_neg (Nat.not_lt_zero l)]
    exact hLL l hl)
  rw [Nat.zero_add] at key
  generalize lp (emB M) 0 n s2 = w at *
  generalize lp (mEm M) 0 n u2 = v at *
  obtain ⟨⟨hF, hL, hU, hRR, hMM, hZ, hLL, hO2, hD⟩, hS2, h1, hA⟩ := h
  obtain ⟨r1, r2, r3, r4, r5, r6, r7, r8, r9⟩ := key
  have w4 : ∀ i, w 4 i = s2 4 i := fun i => by rw [r1.1]
  have w5 : ∀ i, w 5 i = s2 5 i := fun i => by rw [r1.2.1]
  have w11 : ∀ i, w 11 i = s2 11 i := fun i => r2 11 i (by decide) (by decide) (by decide) (by decide) (by decide)
  have hZ' : GZ w nf M := hZ.of (w4 _) (fun f _ m _ => by rw [w4])
  refine ⟨⟨hF.of (fun f _ => by rw [w5]; exact ⟨rfl, rfl, rfl, rfl⟩) (fun f _ => w4 _) (fun f _ => w4 _), ?_, hU.of (fun l _ => ⟨(r1.2.2 l).1, (r1.2.2 l).2.2.2⟩) (fun l _ => w4 _), hRR.of (fun r _ => by rw [w11]; exact ⟨rfl, rfl, rfl, rfl⟩), hMM.of r3 (w4 _) (w4 _), fun m hm hm2 => hZ' m hm (by omega), fun l hl => ?_, r6, hD.of (fun f _ _ => ⟨w5 f, w4 _, w4 _⟩) (fun l hl _ => ⟨(r4 l hl).1, (r4 l hl).2.1, (r4 l hl).2.2, w4 _⟩) (fun r _ _ => w11 r)⟩, r7, ⟨?_, ?_, ?_, ?_, ?_⟩, ?_, hZ'⟩
  · intro l hl
    have := (hL.of (s' := w) (fun l _ => r1.2.2 l) (fun l _ => w4 _)) l hl
    obtain ⟨a, b, c, d, e⟩ := this
    exact ⟨a, b, by omega, by omega, e⟩
  · have := r5 l hl
    rw [if_pos hl, if_pos hl] at this
    exact this
  · rw [r8]
    intro m hm
    rw [w4]
    exact h1.1 m hm
  · rw [r8, r3]
    exact h1.2.1
  · rw [r9, w4]
    exact h1.2.2.1
  · rw [r8]
    intro f hf
    rw [w4]
    exact h1.2.2.2.1 f hf
  · rw [r8]
    intro l hl
    rw [(r1.2.2 l).2.1]
    exact h1.2.2.2.2 l hl
  · intro f hf
    rw [r8, w4]
    exact hA f hf
end DAYE2
