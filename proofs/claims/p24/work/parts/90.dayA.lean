/-! ===== a day's points, on both sides ===== -/
section DAYA
variable {q : xL} {s s' u : xS} {nf n nr M : Nat} {Bp D P : Int}
theorem GF.of (h : GF s nf M Bp) (h5 : ∀ f, f < nf → s' 5 f 0 = s 5 f 0 ∧ s' 5 f 3 = s 5 f 3 ∧ s' 5 f 4 = s 5 f 4 ∧ s' 5 f 5 = s 5 f 5) (hu : ∀ f, f < nf → s' 4 (200 + f) = s 4 (200 + f)) (hp : ∀ f, f < nf → s' 4 (300 + f) = s 4 (300 + f)) : GF s' nf M Bp := fun f hf => by
  obtain ⟨a, b, c, d⟩ := h5 f hf
  rw [a, b, c, d, hu f hf, hp f hf]
  exact h f hf
theorem GL.of (h : GL s nf n M) (h6 : ∀ l, l < n → s' 6 l 0 = s 6 l 0 ∧ s' 6 l 1 = s 6 l 1 ∧ s' 6 l 8 = s 6 l 8 ∧ s' 6 l 9 = s 6 l 9) (ht : ∀ l, l < n → s' 4 (400 + l) = s 4 (400 + l)) : GL s' nf n M := fun l hl => by
  obtain ⟨a, b, c, d⟩ := h6 l hl
  rw [a, b, c, d, ht l hl]
  exact h l hl
theorem GU.of (h : GU s n M) (h6 : ∀ l, l < n → s' 6 l 0 = s 6 l 0 ∧ s' 6 l 9 = s 6 l 9) (hu : ∀ l, l < n → s' 4 (200 + (s 6 l 0).toNat) = s 4 (200 + (s 6 l 0).toNat)) : GU s' n M := fun l hl m hm => by
  obtain ⟨a, d⟩ := h6 l hl
  rw [a, d, hu l hl]
  exact h l hl m hm
theorem GR.of (h : GR s nf nr) (h11 : ∀ r, r < nr → s' 11 r 0 = s 11 r 0 ∧ s' 11 r 2 = s 11 r 2 ∧ s' 11 r 3 = s 11 r 3 ∧ s' 11 r 4 = s 11 r 4) : GR s' nf nr := fun r hr => by
  obtain ⟨a, b, c, d⟩ := h11 r hr
  rw [a, b, c, d]
  exact h r hr
theorem GM.of (h : GM s) (h7 : s' 0 0 7 = s 0 0 7) (h0 : s' 4 0 = s 4 0) (hc : s' 4 100 = s 4 100) : GM s' := by
  unfold GM at h ⊢
  rw [h7, h0, hc]
  exact h
theorem GZ.of (h : GZ s nf M) (hc : s' 4 100 = s 4 100) (hp : ∀ f, f < nf → ∀ m, M < m → s' 4 (300 + f) m = s 4 (300 + f) m) : GZ s' nf M := fun m hm hM => by
  rw [hc]
  exact ⟨(h m hm hM).1, fun f hf => by rw [hp f hf m hM]; exact (h m hm hM).2 f hf⟩
theorem LH.of2 {l : Nat} (h : LH s n M l) (hr : ∀ m : Nat, m < M → runb s' l m = runb s l m) (hb : ∀ m, m < 121 → m < M → runb s l m ≠ 0 → ∀ k, k < 4 → bl s' n l m k = bl s n l m k) (h9 : s' 9 l = s 9 l) (h10 : ∀ m, m < 121 → s' 10 (200 * l + m) = s 10 (200 * l + m)) : LH s' n M l := fun m hm => by
  by_cases c : m < M
  · rw [hr m c, h9, h10 m hm]
    refine ⟨fun d => ⟨((h m hm).1 d).1, fun k hk => ?_⟩, (h m hm).2⟩
    rw [hb m hm c d.2 k hk]
    exact ((h m hm).1 d).2 k hk
  · rw [h9]
    exact ⟨fun d => absurd d.1 c, fun _ => (h m hm).2 (fun d => c d.1)⟩
theorem GO.of (h : GO s n) (h9 : s' 0 0 9 = s 0 0 9) (h6 : ∀ l, l < n → s' 6 l 5 = s 6 l 5 ∧ s' 6 l 6 = s 6 l 6) : GO s' n := by
  unfold GO at h ⊢
  rw [h9, h]
  congr 1
  exact (sumn_congr n (fun l hl => by rw [(h6 l hl).1, (h6 l hl).2])).symm
theorem GD.of (h : GD s nf n nr) (h5 : ∀ f, nf ≤ f → f < 8 → s' 5 f = s 5 f ∧ s' 4 (200 + f) = s 4 (200 + f) ∧ s' 4 (300 + f) = s 4 (300 + f)) (h6 : ∀ l, n ≤ l → l < 12 → s' 6 l = s 6 l ∧ s' 7 l = s 7 l ∧ s' 9 l = s 9 l ∧ s' 4 (400 + l) = s 4 (400 + l)) (h11 : ∀ r, nr ≤ r → r < 60 → s' 11 r = s 11 r) : GD s' nf n nr := by
  refine ⟨fun f h1 h2 => ?_, fun l h1 h2 => ?_, fun r h1 h2 => ?_⟩
  · obtain ⟨a, b, c⟩ := h5 f h1 h2
    rw [a, b, c]
    exact h.1 f h1 h2
  · obtain ⟨a, b, c, d⟩ := h6 l h1 h2
    rw [a, b, c, d]
    exact h.2.1 l h1 h2
  · rw [h11 r h1 h2]
    exact h.2.2 r h1 h2
theorem GF.up {B' : Int} (h : GF s nf M Bp) (hB : Bp ≤ B') : GF s nf M B' := fun f hf => by
  obtain ⟨a, b, c, d, e⟩ := h f hf
  exact ⟨a, b, c, d, fun m hm => ⟨(e m hm).1, (e m hm).2.1, (e m hm).2.2.1, by have := (e m hm).2.2.2; omega⟩⟩
theorem GG.upB {B' : Int} (h : GG nf n nr M Bp D P s) (hB : Bp ≤ B') : GG nf n nr M B' D P s := ⟨h.1.up hB, h.2⟩
/-- the relation of class and model -/
def CMR (nf n nr M : Nat) (Bp D P : Int) (s u : xS) : Prop := GG nf n nr M Bp D P s ∧ S0 s u ∧ S1 s u M n ∧ AD s u M nf
theorem ppd_rng (g : Int) : 0 ≤ ppd g ∧ ppd g ≤ 30 := by
  unfold ppd
  repeat' split
  all_goals omega
theorem phA {r : Nat} (hnf : nf ≤ 8) (hM : M < 121) (hr : r < nr) (h : CMR nf n nr M Bp D P s u) : CMR nf n nr M (Bp + 30) D P (tkP (s 0 0 8) M r s) (mtk r u) := by
  obtain ⟨hG, hS, h1, hA⟩ := h
  have hB0 : Bp ≤ Bp + 30 := by omega
  have hc : (u 11 r 0 = 0 ∧ clk (u 11 r 3) < u 0 0 8 - u 11 r 4) ↔ (s 11 r 0 = 0 ∧ clk (s 11 r 3) < s 0 0 8 - s 11 r 4) := by
    rw [hS.r11 r 0 (by decide), hS.r11 r 3 (by decide), hS.r11 r 4 (by decide), hS.rd]
  by_cases c : s 11 r 0 = 0 ∧ clk (s 11 r 3) < s 0 0 8 - s 11 r 4
  · have es : tkP (s 0 0 8) M r s = su (su s 4 (300 + (s 11 r 2).toNat) M (s 4 (300 + (s 11 r 2).toNat) M + ppd (s 11 r 3))) 11 r 1 (s 11 r 1 + 1) := by unfold tkP; rw [if_pos c]
    have eu : mtk r u = su (su u 21 8 (s 11 r 2).toNat (u 21 8 (s 11 r 2).toNat + ppd (s 11 r 3))) 11 r 1 (s 11 r 1 + 1) := by
      unfold mtk
      rw [if_pos (hc.mpr c), hS.r11 r 1 (by decide), hS.r11 r 2 (by decide), hS.r11 r 3 (by decide)]
    rw [es, eu]
    obtain ⟨hF, hL, hU, hR, hMM, hZ, hLL, hO, hD⟩ := hG
    have hh := (hR r hr).1
    have hpp := ppd_rng (s 11 r 3)
    generalize ppd (s 11 r 3) = x at hpp ⊢
    generalize hg : (s 11 r 2).toNat = g at *
    have hg8 : g < nf := by omega
    generalize hw : su (su s 4 (300 + g) M (s 4 (300 + g) M + x)) 11 r 1 (s 11 r 1 + 1) = w
    have w4 : ∀ i, i ≠ 300 + g → w 4 i = s 4 i := fun i hi => by
      rw [← hw, su_f _ (by omega), su_f _ (by omega)]
    have w4m : ∀ i m, m ≠ M → w 4 i m = s 4 i m := fun i m hi => by
      rw [← hw, su_r, if_neg (by omega), su_r, if_neg (by omega)]
    have wp : w 4 (300 + g) M = s 4 (300 + g) M + x := by
      rw [← hw, su_r, if_neg (by omega), su_r, if_pos ⟨rfl, rfl, rfl⟩]
    have wo : ∀ p i, p ≠ 4 → p ≠ 11 → w p i = s p i := fun p i g1 g2 => by
      rw [← hw, su_f _ (by omega), su_f _ (by omega)]
    have w11 : ∀ i k, k ≠ 1 → w 11 i k = s 11 i k := fun i k hk => by
      rw [← hw, su_r, if_neg (by omega), su_r, if_neg (by omega)]
    refine ⟨⟨?_, ?_, ?_, ?_, ?_, ?_, fun l hl => ?_, ?_, ?_⟩, ?_, ⟨?_, ?_, ?_, fun f hf => ?_, ?_⟩, ?_⟩
    · intro f hf
      rw [wo 5 f (by decide) (by decide), w4 (200 + f) (by omega)]
      obtain ⟨a, b, cc, d, e⟩ := hF f hf
      refine ⟨a, b, cc, d, fun m hm => ⟨(e m hm).1, (e m hm).2.1, ?_⟩⟩
      have := (e m hm).2.2
      by_cases k1 : f = g ∧ m = M
      · obtain ⟨rfl, rfl⟩ := k1
        rw [wp]
        omega
      · have : w 4 (300 + f) m = s 4 (300 + f) m := by
          by_cases k2 : f = g
          · rw [w4m _ _ (fun k3 => k1 ⟨k2, k3⟩)]
          · rw [w4 _ (by omega)]
        omega
    · exact hL.of (fun l hl => by rw [wo 6 l (by decide) (by decide)]; exact ⟨rfl, rfl, rfl, rfl⟩) (fun l hl => w4 _ (by omega))
    · exact hU.of (fun l hl => by rw [wo 6 l (by decide) (by decide)]; exact ⟨rfl, rfl⟩) (fun l hl => w4 _ (by have := (hL l hl).1; omega))
    · exact hR.of (fun j hj => ⟨w11 _ _ (by decide), w11 _ _ (by decide), w11 _ _ (by decide), w11 _ _ (by decide)⟩)
    · exact hMM.of (by rw [wo 0 0 (by decide) (by decide)]) (w4 _ (by omega)) (w4 _ (by omega))
    · exact hZ.of (w4 _ (by omega)) (fun f hf m hm => w4m _ _ (by omega))
    · obtain ⟨a, b, cc⟩ := hLL l hl
      have hr' : ∀ m : Int, ∀ j, runb w j m = runb s j m := fun m j => by
        unfold runb
        rw [wo 6 j (by decide) (by decide)]
      refine ⟨a.of2 (fun m _ => hr' m l) (fun m hm hm2 _ k _ => ?_) (wo 9 l (by decide) (by decide)) (fun m _ => wo 10 _ (by decide) (by decide)), b.of (wo 6 l (by decide) (by decide)) (wo 9 l (by decide) (by decide)) (fun m _ => wo 10 _ (by decide) (by decide)), cc.of (wo 7 l (by decide) (by decide))⟩
      exact bl_congr hl (fun j _ => by rw [wo 6 j (by decide) (by decide)]) (fun j _ => hr' m j) (by rw [wo 6 l (by decide) (by decide)]) (fun j _ => by rw [wo 5 _ (by decide) (by decide)]) (fun j _ _ => w4m _ _ (by omega)) (w4m _ _ (by omega)) (w4m _ _ (by omega)) (w4m _ _ (by omega)) (by rw [w4 (400 + l) (by omega)]) k
    · exact hO.of (by rw [wo 0 0 (by decide) (by decide)]) (fun l _ => by rw [wo 6 l (by decide) (by decide)]; exact ⟨rfl, rfl⟩)
    · exact hD.of (fun f h1 h2 => ⟨wo 5 f (by decide) (by decide), w4 _ (by omega), w4 _ (by omega)⟩) (fun l h1 h2 => ⟨wo 6 l (by decide) (by decide), wo 7 l (by decide) (by decide), wo 9 l (by decide) (by decide), w4 _ (by omega)⟩) (fun j h1 h2 => by rw [← hw, su_f _ (by omega), su_f _ (by omega)])
    · rw [← hw]
      exact ((hS.cls (by show ¬ ((200 ≤ 300 + g ∧ 300 + g < 208) ∨ (400 ≤ 300 + g ∧ 300 + g < 412)); omega)).mdl (show ¬ Cm 21 8 g from fun h => h)).both
    · intro m hm
      rw [w4 0 (by omega), su_f _ (by omega), su_f _ (by omega)]
      exact h1.1 m hm
    · rw [wo 0 0 (by decide) (by decide), su_f _ (by omega), su_f _ (by omega)]
      exact h1.2.1
    · rw [w4 100 (by omega), su_f _ (by omega), su_f _ (by omega)]
      exact h1.2.2.1
    · rw [su_f _ (by omega), su_r]
      have e8 := h1.2.2.2.1
      by_cases k1 : f = g
      · subst k1
        rw [if_pos ⟨rfl, rfl, rfl⟩, wp, e8 f hf]
      · rw [if_neg (fun h => k1 h.2.2), w4 _ (by omega)]
        exact e8 f hf
    · intro l hl
      rw [wo 6 l (by decide) (by decide), su_f _ (by omega), su_f _ (by omega)]
      exact h1.2.2.2.2 l hl
    · intro f hf
      rw [w4 _ (by omega), su_f _ (by omega), su_f _ (by omega)]
      exact hA f hf
  · have es : tkP (s 0 0 8) M r s = s := by unfold tkP; rw [if_neg c]
    have eu : mtk r u = u := by unfold mtk; rw [if_neg (fun h => c (hc.mp h))]
    rw [es, eu]
    exact ⟨hG.upB hB0, hS, h1, hA⟩
theorem phA_all (hnf : nf ≤ 8) (hM : M < 121) (h : CMR nf n nr M Bp D P s u) : CMR nf n nr M (Bp + 30 * (nr : Int)) D P (lp (tkP (s 0 0 8) M) 0 nr s) (lp mtk 0 nr u) := by
  have := lp_rel (R := fun j s' u' => CMR nf n nr M (Bp + 30 * (j : Int)) D P s' u' ∧ s' 0 0 8 = s 0 0 8) (f := tkP (s 0 0 8) M) (g := mtk) nr 0 s u (fun j s' u' _ hj hh => by
    obtain ⟨h1, h2⟩ := hh
    have := phA hnf hM (r := j) (by omega) h1
    rw [h2] at this
    refine ⟨?_, ?_⟩
    · rw [show Bp + 30 * ((j + 1 : Nat) : Int) = Bp + 30 * (j : Int) + 30 by omega]
      exact this
    · rw [tkP_o (by omega) (by omega)]
      exact h2) ⟨by rw [show Bp + 30 * ((0 : Nat) : Int) = Bp by omega]; exact h, rfl⟩
  rw [Nat.zero_add] at this
  exact this.1
end DAYA
