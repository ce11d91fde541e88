/-! ===== a month's uses, on both sides ===== -/
section DAYC
variable {q : xL} {s s' u : xS} {nf n nr M : Nat} {Bp D P : Int}
def GFf (s : xS) (f M : Nat) (Bp : Int) : Prop := (1 ≤ s 5 f 0 ∧ s 5 f 0 ≤ 9) ∧ (0 ≤ s 5 f 3 ∧ s 5 f 3 ≤ 1000000) ∧ (0 ≤ s 5 f 4 ∧ s 5 f 4 ≤ 1000000 * (M : Int)) ∧ (-1 ≤ s 5 f 5 ∧ s 5 f 5 ≤ 1000) ∧ ∀ m, m < 121 → (-1 ≤ s 4 (200 + f) m ∧ s 4 (200 + f) m ≤ 1000000) ∧ (M ≤ m → s 4 (200 + f) m = -1) ∧ (0 ≤ s 4 (300 + f) m ∧ s 4 (300 + f) m ≤ Bp)
theorem eg_rng {g : Nat → Int} {m b : Nat} (h : ∀ k, k < 121 → -1 ≤ g k ∧ g k ≤ 1000000) (hm : m < 121) : (0 ≤ egS g m b ∧ egS g m b ≤ 1000000 * egC g m b) ∧ (egC g m b = 0 ∨ egC g m b = 1) := by
  unfold egS egC
  by_cases c : eg g m b = -1
  · rw [if_pos c, if_pos c]
    omega
  · rw [if_neg c, if_neg c]
    have : -1 ≤ eg g m b ∧ eg g m b ≤ 1000000 := by
      unfold eg
      by_cases d : b ≤ m
      · rw [if_pos d]
        exact h _ (by omega)
      · rw [if_neg d]
        omega
    omega
theorem guess_rng {g : Nat → Int} {m : Nat} (h : ∀ k, k < 121 → -1 ≤ g k ∧ g k ≤ 1000000) (hm : m < 121) : 0 ≤ guess g m ∧ guess g m ≤ 1000000 := by
  obtain ⟨a1, b1⟩ := eg_rng (b := 1) h hm
  obtain ⟨a2, b2⟩ := eg_rng (b := 2) h hm
  obtain ⟨a3, b3⟩ := eg_rng (b := 3) h hm
  unfold guess
  by_cases c : egC g m 1 + egC g m 2 + egC g m 3 = 0
  · rw [if_pos c]
    omega
  · rw [if_neg c]
    exact ⟨Int.ediv_nonneg (by omega) (by omega), Int.ediv_le_of_le_mul (by omega) (by omega)⟩
theorem fuse_rng {f m : Nat} (h : GFf s f M Bp) (hm : m < 121) : 0 ≤ fuse f m s ∧ fuse f m s ≤ 1000000 := by
  obtain ⟨a, b, c, d, e⟩ := h
  unfold fuse
  by_cases c1 : s 5 f 5 = m
  · rw [if_pos c1]
    by_cases c2 : 0 < s 5 f 3 - s 5 f 4
    · rw [if_pos c2]
      omega
    · rw [if_neg c2]
      omega
  · rw [if_neg c1]
    exact guess_rng (fun k hk => (e k hk).1) hm
theorem fuse_eq {f m : Nat} (hS : S0 s u) (hf : f < 8) : fuse f m u = fuse f m s := by
  unfold fuse
  rw [hS.r5 f 5 (by decide), hS.r5 f 3 (by decide), hS.r5 f 4 (by decide), hS.ru hf]
/-- what the finding of uses leaves alone -/
def FrC (M nf : Nat) (s s' : xS) : Prop := (∀ p i, p ≠ 4 → p ≠ 5 → s' p i = s p i) ∧ (∀ i, ¬ (200 ≤ i ∧ i < 200 + nf) → s' 4 i = s 4 i) ∧ (∀ i m, m ≠ M → s' 4 i m = s 4 i m) ∧ (∀ f k, k ≠ 4 → s' 5 f k = s 5 f k) ∧ ∀ f, nf ≤ f → s' 5 f = s 5 f
theorem FrC.step {f : Nat} (h : FrC M nf s s') (hf : f < nf) : FrC M nf s (fndU M f s') := by
  obtain ⟨a, b, c, d, e⟩ := h
  unfold fndU
  refine ⟨fun p i h4 h5 => ?_, fun i hi => ?_, fun i m hm => ?_, fun j k hk => ?_, fun j hj => ?_⟩
  · rw [su_f _ (by omega), su_f _ (by omega)]
    exact a p i h4 h5
  · rw [su_f _ (by omega), su_f _ (by omega)]
    exact b i hi
  · rw [su_r, if_neg (by omega), su_r, if_neg (by omega)]
    exact c i m hm
  · rw [su_r, if_neg (by omega), su_r, if_neg (by omega)]
    exact d j k hk
  · rw [su_f _ (by omega), su_f _ (by omega)]
    exact e j hj
/-- where the uses are found, and the bills aren't made yet -/
def MR2 (nf n nr M : Nat) (Bp D P : Int) (s u : xS) : Prop := (GF s nf (M + 1) Bp ∧ GL s nf n M ∧ GU s n (M + 1) ∧ GR s nf nr ∧ GM s ∧ GZ s nf M ∧ (∀ l, l < n → LH s n M l ∧ LC s D P l ∧ LN s M l) ∧ GO s n ∧ GD s nf n nr) ∧ S0 s u ∧ S1 s u M n ∧ AD s u (M + 1) nf
theorem phC (hnf : nf ≤ 8) (hM : M < 121) (h : CMR nf n nr M Bp D P s u) : MR2 nf n nr M Bp D P (lp (fndU M) 0 nf s) (lp (fndU M) 0 nf u) := by
  obtain ⟨⟨hF, hL, hU, hR, hMM, hZ, hLL, hO, hD⟩, hS, h1, hA⟩ := h
  have key := lp_rel (R := fun j s' u' => (∀ f, f < nf → GFf s' f (if f < j then M + 1 else M) Bp ∧ okg (s' 4 (200 + f)) (u' 21 4 f) (if f < j then M + 1 else M) ∧ (f < j → 0 ≤ s' 4 (200 + f) M)) ∧ S0 s' u' ∧ FrC M nf s s' ∧ (∀ p i, p ≠ 4 → p ≠ 5 → u' p i = u p i)) (f := fndU M) (g := fndU M) nf 0 s u (fun j s' u' _ hj hh => by
    obtain ⟨g1, g2, g3, g4⟩ := hh
    have hj' : j < nf := by omega
    obtain ⟨q1, q2, -⟩ := g1 j hj'
    rw [if_neg (Nat.lt_irrefl j)] at q1 q2
    have hfr := fuse_rng q1 hM
    have hfe := fuse_eq (s := s') (u := u') (f := j) (m := M) g2 (by omega)
    have hu5 : u' 5 j 4 = s' 5 j 4 := g2.r5 j 4 (by decide)
    refine ⟨fun f hf => ?_, ?_, g3.step hj', fun p i h4 h5 => by rw [fndU_o (by omega) (by omega)]; exact g4 p i h4 h5⟩
    · obtain ⟨r1, r2, r3⟩ := g1 f hf
      have hu21 : fndU M j u' 21 4 f = u 21 4 f := by rw [fndU_o (by omega) (by omega), g4 21 4 (by decide) (by decide)]
      have hu21' : u' 21 4 f = u 21 4 f := by rw [g4 21 4 (by decide) (by decide)]
      by_cases c : f = j
      · subst c
        rw [if_pos (Nat.lt_succ_self f)]
        have wM : fndU M f s' 4 (200 + f) M = fuse f M s' := by
          unfold fndU
          rw [su_r, if_neg (by omega), su_r, if_pos ⟨rfl, rfl, rfl⟩]
        have wm : ∀ m, m ≠ M → fndU M f s' 4 (200 + f) m = s' 4 (200 + f) m := fun m hm => by
          unfold fndU
          rw [su_r, if_neg (by omega), su_r, if_neg (by omega)]
        have w3 : fndU M f s' 4 (300 + f) = s' 4 (300 + f) := by
          unfold fndU
          rw [su_f _ (by omega), su_f _ (by omega)]
        have w5 : ∀ k, k ≠ 4 → fndU M f s' 5 f k = s' 5 f k := fun k hk => by
          unfold fndU
          rw [su_r, if_neg (by omega), su_r, if_neg (by omega)]
        have w54 : fndU M f s' 5 f 4 = s' 5 f 4 + fuse f M s' := by
          unfold fndU
          rw [su_r, if_pos ⟨rfl, rfl, rfl⟩]
        refine ⟨?_, ?_, fun _ => by rw [wM]; exact hfr.1⟩
        · obtain ⟨a, b, cc, d, e⟩ := q1
          unfold GFf
          rw [w5 0 (by decide), w5 3 (by decide), w5 5 (by decide), w54, w3]
          refine ⟨a, b, by omega, d, fun m hm => ?_⟩
          by_cases k1 : m = M
          · subst k1
            rw [wM]
            exact ⟨by omega, fun h => by omega, (e m hm).2.2⟩
          · rw [wm m k1]
            exact ⟨(e m hm).1, fun h => (e m hm).2.1 (by omega), (e m hm).2.2⟩
        · rw [hu21]
          rw [hu21'] at q2
          refine ⟨q2.1, fun k hk => ?_⟩
          by_cases k1 : k = M
          · subst k1
            rw [wM]
            have := (hA f hf).2
            exact ⟨fun h => by omega, fun _ => hfr⟩
          · rw [wm k k1]
            exact q2.2 k (by omega)
      · have w : fndU M j s' 4 (200 + f) = s' 4 (200 + f) ∧ fndU M j s' 4 (300 + f) = s' 4 (300 + f) ∧ fndU M j s' 5 f = s' 5 f := by
          unfold fndU
          refine ⟨?_, ?_, ?_⟩
          · rw [su_f _ (by omega), su_f _ (by omega)]
          · rw [su_f _ (by omega), su_f _ (by omega)]
          · rw [su_f _ (by omega), su_f _ (by omega)]
        have hlt : (f < j + 1) = (f < j) := propext ⟨fun h => by omega, fun h => by omega⟩
        unfold GFf at r1 ⊢
        rw [w.1, w.2.1, w.2.2, hu21]
        rw [hu21'] at r2
        simp only [hlt]
        exact ⟨r1, r2, r3⟩
    · have e : fndU M j u' = su (su u' 4 (200 + j) M (fuse j M s')) 5 j 4 (s' 5 j 4 + fuse j M s') := by
        unfold fndU
        rw [hfe, hu5]
      rw [e]
      exact g2.both.both) ⟨fun f hf => by
    rw [if_neg (Nat.not_lt_zero f)]
    exact ⟨hF f hf, (hA f hf).1, fun h => absurd h (Nat.not_lt_zero f)⟩, hS, ⟨fun _ _ _ _ => rfl, fun _ _ => rfl, fun _ _ _ => rfl, fun _ _ _ => rfl, fun _ _ => rfl⟩, fun _ _ _ _ => rfl⟩
  rw [Nat.zero_add] at key
  generalize lp (fndU M) 0 nf s = w at *
  generalize lp (fndU M) 0 nf u = v at *
  obtain ⟨k1, k2, ⟨a, b, c, d, e⟩, k4⟩ := key
  have hr' : ∀ m : Int, ∀ j, runb w j m = runb s j m := fun m j => by
    unfold runb
    rw [a 6 j (by decide) (by decide)]
  refine ⟨⟨?_, ?_, ?_, ?_, ?_, ?_, fun l hl => ?_, ?_, ?_⟩, k2, ⟨?_, ?_, ?_, fun f hf => ?_, fun l hl => ?_⟩, fun f hf => ?_⟩
  · intro f hf
    have := (k1 f hf).1
    rw [if_pos hf] at this
    exact this
  · exact hL.of (fun l hl => by rw [a 6 l (by decide) (by decide)]; exact ⟨rfl, rfl, rfl, rfl⟩) (fun l hl => b _ (by omega))
  · intro l hl m hm h9
    rw [a 6 l (by decide) (by decide)] at h9 ⊢
    by_cases cc : m = M
    · subst cc
      have h0 := (hL l hl).1
      exact (k1 (s 6 l 0).toNat (by omega)).2.2 (by omega)
    · rw [c _ m cc]
      exact hU l hl m (by omega) h9
  · exact hR.of (fun j hj => by rw [a 11 j (by decide) (by decide)]; exact ⟨rfl, rfl, rfl, rfl⟩)
  · exact hMM.of (by rw [a 0 0 (by decide) (by decide)]) (b _ (by omega)) (b _ (by omega))
  · exact hZ.of (b _ (by omega)) (fun f hf m hm => by rw [b (300 + f) (by omega)])
  · obtain ⟨p1, p2, p3⟩ := hLL l hl
    refine ⟨p1.of2 (fun m _ => hr' m l) (fun m hm hm2 _ k _ => ?_) (a 9 l (by decide) (by decide)) (fun m _ => a 10 _ (by decide) (by decide)), p2.of (a 6 l (by decide) (by decide)) (a 9 l (by decide) (by decide)) (fun m _ => a 10 _ (by decide) (by decide)), p3.of (a 7 l (by decide) (by decide))⟩
    exact bl_congr hl (fun j _ => by rw [a 6 j (by decide) (by decide)]) (fun j _ => hr' m j) (by rw [a 6 l (by decide) (by decide)]) (fun j _ => d _ 0 (by decide)) (fun j _ _ => c _ m (by omega)) (c _ m (by omega)) (c _ m (by omega)) (c _ m (by omega)) (by rw [b (400 + l) (by omega)]) k
  · exact hO.of (by rw [a 0 0 (by decide) (by decide)]) (fun l _ => by rw [a 6 l (by decide) (by decide)]; exact ⟨rfl, rfl⟩)
  · exact hD.of (fun f g1 g2 => ⟨e f g1, b _ (by omega), b _ (by omega)⟩) (fun l g1 g2 => ⟨a 6 l (by decide) (by decide), a 7 l (by decide) (by decide), a 9 l (by decide) (by decide), b _ (by omega)⟩) (fun j g1 g2 => a 11 j (by decide) (by decide))
  · intro m hm
    rw [b 0 (by omega), k4 21 10 (by decide) (by decide)]
    exact h1.1 m hm
  · rw [a 0 0 (by decide) (by decide), k4 21 10 (by decide) (by decide)]
    exact h1.2.1
  · rw [b 100 (by omega), k4 20 0 (by decide) (by decide)]
    exact h1.2.2.1
  · rw [b (300 + f) (by omega), k4 21 8 (by decide) (by decide)]
    exact h1.2.2.2.1 f hf
  · rw [a 6 l (by decide) (by decide), k4 21 22 (by decide) (by decide)]
    exact h1.2.2.2.2 l hl
  · have := (k1 f hf).2.1
    rw [if_pos hf] at this
    refine ⟨this, ?_⟩
    rw [k4 21 4 (by decide) (by decide)]
    have := (hA f hf).2
    omega
end DAYC
