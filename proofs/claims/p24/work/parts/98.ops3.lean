/-! ===== what is made, on both sides ===== -/
section OPS3
variable {q : xL} {s s' s2 u u' u2 : xS} {nf n nr M : Nat} {Bp D P : Int}
theorem mkF_5 {F k : Nat} {z : Int} : mkF F z s 5 F k = if k = 0 then z else if k = 5 then -1 else 0 := by
  unfold mkF
  rw [sup_n _ _ (by omega), sup_n _ _ (by omega), sup_s]
theorem mkF_4 {F i k : Nat} {z : Int} : mkF F z s 4 i k = if i = 300 + F then 0 else if i = 200 + F then -1 else s 4 i k := by
  unfold mkF
  by_cases c : i = 300 + F
  · subst c
    rw [sup_s, if_pos rfl]
  · rw [sup_n _ _ (by omega), if_neg c]
    by_cases c2 : i = 200 + F
    · subst c2
      rw [sup_s, if_pos rfl]
    · rw [sup_n _ _ (by omega), if_neg c2, sup_n _ _ (by omega)]
/-- a flat is added -/
theorem op_flat {z c : Int} (hnf : nf < 8) (hn : n ≤ 12) (hz : 1 ≤ z ∧ z ≤ 9) (h : DRel nf n nr D P s u) : DRel (nf + 1) n nr D P (addS (mkF nf z s) 0 nf c) (mFl nf z (u 0 0 8 / 30) u) := by
  obtain ⟨hC, hT⟩ := DRel.thr (c := 0) h
  rw [h.1.2.1.rd]
  unfold okT at hT
  have hy : s 0 0 8 / 30 = (nowN s : Int) := by unfold nowN; omega
  have hy2 : nowN s ≤ 120 := by unfold nowN; omega
  rw [hy]
  generalize hw : addS (mkF nf z s) 0 nf c = w
  have o : ∀ p i, p ≠ 1 → p ≠ 2 → ¬ (p = 5 ∧ i = nf) → ¬ (p = 4 ∧ (i = 200 + nf ∨ i = 300 + nf)) → w p i = s p i := fun p i h1 h2 h5 h4 => by rw [← hw, addS_o (by omega) (by omega), mkF_o h5 h4]
  have o4 : ∀ i k, w 4 i k = if i = 300 + nf then 0 else if i = 200 + nf then -1 else s 4 i k := fun i k => by rw [← hw, addS_o (by omega) (by omega), mkF_4]
  have o5 : ∀ k, w 5 nf k = if k = 0 then z else if k = 5 then -1 else 0 := fun k => by rw [← hw, addS_o (by omega) (by omega), mkF_5]
  have o1 : ∀ k, w 1 k 2 = if k = 0 then (nf : Int) + 1 else s 1 k 2 := fun k => by
    rw [← hw]
    by_cases ck : k = 0
    · subst ck
      rw [addS_1, if_pos rfl, if_pos rfl]
    · rw [addS_o (by omega) (by omega), mkF_o (by omega) (by omega), if_neg ck]
  have o4n : ∀ i, i ≠ 200 + nf → i ≠ 300 + nf → w 4 i = s 4 i := fun i g1 g2 => o 4 i (by omega) (by omega) (by omega) (by omega)
  have v : ∀ p i, ¬ (p = 1 ∧ i = 0) → ¬ (p = 5 ∧ i = nf) → ¬ (p = 21 ∧ i = 4) → mFl nf z (nowN s) u p i = su u 20 0 0 0 p i := fun p i g1 g5 g21 => by
    unfold mFl
    rw [su_f _ g1, su_f _ g5, su_f _ g21, su_f _ g5]
  have v4 : ∀ f, mFl nf z (nowN s) u 21 4 f = if f = nf then (nowN s : Int) else u 21 4 f := fun f => by
    unfold mFl
    rw [su_f _ (by omega), su_f _ (by omega), su_r]
    by_cases cf : f = nf
    · rw [if_pos ⟨rfl, rfl, cf⟩, if_pos cf]
    · rw [if_neg (fun h => cf h.2.2), if_neg cf, su_f _ (by omega), su_f _ (by omega)]
  have e8 : w 0 0 8 = s 0 0 8 := by rw [o 0 0 (by omega) (by omega) (by omega) (by omega)]
  refine ⟨?_, by unfold okT; rw [e8]; exact hT⟩
  rw [nowN_of e8, e8]
  obtain ⟨⟨hF, hL, hU, hR, hMM, hZ, hLL, hO, hD⟩, hS0, h1, hA⟩ := hC
  have w6 : ∀ l, w 6 l = s 6 l := fun l => o 6 l (by omega) (by omega) (by omega) (by omega)
  have hrb : ∀ j, ∀ m : Int, runb w j m = runb s j m := fun j m => by
    unfold runb
    rw [w6]
  obtain ⟨d3, d4, dU, dP⟩ := hD.1 nf (Nat.le_refl nf) hnf
  refine ⟨⟨fun f hf => ?_, ?_, hU.of (fun l _ => by rw [w6]; exact ⟨rfl, rfl⟩) (fun l hl => by have := (hL l hl).1; exact o4n _ (by omega) (by omega)), ?_, hMM.of (by rw [o 0 0 (by omega) (by omega) (by omega) (by omega)]) (o4n _ (by omega) (by omega)) (o4n _ (by omega) (by omega)), fun m hm hm2 => ?_, fun l hl => ?_, hO.of (by rw [o 0 0 (by omega) (by omega) (by omega) (by omega)]) (fun l _ => by rw [w6]; exact ⟨rfl, rfl⟩), ⟨fun f g1 g2 => ?_, fun l g1 g2 => ?_, fun r g1 g2 => ?_⟩⟩, fun p i k hc => ?_, ⟨fun m hm => ?_, ?_, ?_, fun f hf => ?_, fun l hl => ?_⟩, fun f hf => ?_⟩
  · by_cases cf : f = nf
    · subst cf
      have w0 : w 5 f 0 = z := by rw [o5, if_pos rfl]
      have w3 : w 5 f 3 = 0 := by rw [o5, if_neg (by decide), if_neg (by decide)]
      have w4 : w 5 f 4 = 0 := by rw [o5, if_neg (by decide), if_neg (by decide)]
      have w5 : w 5 f 5 = -1 := by rw [o5, if_neg (by decide), if_pos rfl]
      have wu : ∀ m, w 4 (200 + f) m = -1 := fun m => by rw [o4, if_neg (by omega), if_pos rfl]
      have wp : ∀ m, w 4 (300 + f) m = 0 := fun m => by rw [o4, if_pos rfl]
      rw [w0, w3, w4, w5]
      refine ⟨hz, by omega, by omega, by omega, fun m hm => ?_⟩
      rw [wu, wp]
      exact ⟨by omega, fun _ => rfl, by omega⟩
    · rw [o 5 f (by omega) (by omega) (by omega) (by omega), o4n (200 + f) (by omega) (by omega), o4n (300 + f) (by omega) (by omega)]
      exact hF f (by omega)
  · intro l hl
    have := hL l hl
    rw [w6, o4n (400 + l) (by omega) (by omega)]
    exact ⟨by omega, this.2⟩
  · intro r hr
    have := hR r hr
    rw [o 11 r (by omega) (by omega) (by omega) (by omega)]
    exact ⟨by omega, this.2⟩
  · have := hZ m hm hm2
    rw [o4n 100 (by omega) (by omega)]
    refine ⟨this.1, fun f hf => ?_⟩
    rw [o4]
    by_cases cf : f = nf
    · rw [if_pos (by omega)]
    · rw [if_neg (by omega), if_neg (by omega)]
      exact this.2 f (by omega)
  · obtain ⟨a, b, cc⟩ := hLL l hl
    refine ⟨a.of2 (fun m _ => hrb l m) (fun m hm hm2 _ k _ => bl_congr hl (fun j _ => by rw [w6]) (fun j _ => hrb j m) (by rw [w6]) (fun j hj => by have := (hL j hj).1; rw [o 5 _ (by omega) (by omega) (by omega) (by omega)]) (fun j hj _ => by have := (hL j hj).1; rw [o4n _ (by omega) (by omega)]) (by rw [o4n _ (by omega) (by omega)]) (by have := (hL l hl).1; rw [o4n _ (by omega) (by omega)]) (by rw [o4n _ (by omega) (by omega)]) (by rw [o4n _ (by omega) (by omega)]) k) (o 9 l (by omega) (by omega) (by omega) (by omega)) (fun m _ => o 10 _ (by omega) (by omega) (by omega) (by omega)), b.of (w6 l) (o 9 l (by omega) (by omega) (by omega) (by omega)) (fun m _ => o 10 _ (by omega) (by omega) (by omega) (by omega)), cc.of (o 7 l (by omega) (by omega) (by omega) (by omega))⟩
  · have := hD.1 f (by omega) g2
    rw [o 5 f (by omega) (by omega) (by omega) (by omega), o4n (200 + f) (by omega) (by omega), o4n (300 + f) (by omega) (by omega)]
    exact this
  · have := hD.2.1 l g1 g2
    rw [w6, o 7 l (by omega) (by omega) (by omega) (by omega), o 9 l (by omega) (by omega) (by omega) (by omega), o4n (400 + l) (by omega) (by omega)]
    exact this
  · rw [o 11 r (by omega) (by omega) (by omega) (by omega)]
    exact hD.2.2 r g1 g2
  · have hS := h.1.2.1
    by_cases c1 : p = 1
    · subst c1
      have hk : k = 2 := hc
      subst hk
      rw [o1]
      by_cases ci : i = 0
      · subst ci
        unfold mFl
        rw [su_r, if_pos ⟨rfl, rfl, rfl⟩, if_pos rfl]
      · rw [if_neg ci, v 1 i (by omega) (by omega) (by omega)]
        exact hS0 1 i 2 hc
    · by_cases c5 : p = 5 ∧ i = nf
      · obtain ⟨rfl, rfl⟩ := c5
        have hk : k = 0 ∨ k = 3 ∨ k = 4 ∨ k = 5 := hc
        have e3 := hS.r5 i 3 (by decide)
        have e4 := hS.r5 i 4 (by decide)
        rw [o5]
        unfold mFl
        rw [su_r, if_neg (by omega), su_r]
        by_cases k5 : k = 5
        · rw [if_pos ⟨rfl, rfl, k5⟩, if_neg (by omega), if_pos k5]
        · rw [if_neg (fun h => k5 h.2.2), su_r, if_neg (by omega), su_r]
          by_cases k0 : k = 0
          · rw [if_pos ⟨rfl, rfl, k0⟩, if_pos k0]
          · rw [if_neg (fun h => k0 h.2.2), if_neg k0, if_neg k5, su_r, if_neg (by omega)]
            obtain rfl | rfl : k = 3 ∨ k = 4 := by omega
            · rw [e3, d3]
            · rw [e4, d4]
      · have h21 : p ≠ 21 := fun h => by subst h; exact hc
        rw [v p i (by omega) c5 (by omega), hS0 p i k hc]
        by_cases c4 : p = 4
        · subst c4
          have hk : (200 ≤ i ∧ i < 208) ∨ (400 ≤ i ∧ i < 412) := hc
          rw [o4, if_neg (by omega)]
          by_cases ci : i = 200 + nf
          · rw [if_pos ci, ci, dU]
          · rw [if_neg ci]
        · have h2 : p ≠ 2 := fun h => by subst h; exact hc
          rw [o p i c1 h2 c5 (by omega)]
  · rw [v 21 10 (by omega) (by omega) (by omega), o4n 0 (by omega) (by omega)]
    exact h1.1 m hm
  · rw [v 21 10 (by omega) (by omega) (by omega), o 0 0 (by omega) (by omega) (by omega) (by omega)]
    exact h1.2.1
  · rw [v 20 0 (by omega) (by omega) (by omega), o4n 100 (by omega) (by omega)]
    exact h1.2.2.1
  · have e := h1.2.2.2.1 f hf
    rw [v 21 8 (by omega) (by omega) (by omega), e, o4]
    by_cases cf : f = nf
    · rw [if_pos (by omega), cf, dP]
    · rw [if_neg (by omega), if_neg (by omega)]
  · rw [v 21 22 (by omega) (by omega) (by omega), w6]
    exact h1.2.2.2.2 l hl
  · rw [v4]
    by_cases cf : f = nf
    · subst cf
      rw [if_pos rfl]
      refine ⟨⟨by omega, fun k hk => ⟨fun _ => ?_, fun g => by omega⟩⟩, Int.le_refl _⟩
      rw [o4, if_neg (by omega), if_pos rfl]
    · rw [if_neg cf, o4n (200 + f) (by omega) (by omega)]
      have := hA f (by omega)
      rw [show su u 20 0 0 0 21 4 f = u 21 4 f by rw [su_f _ (by omega)]] at this
      exact this
/-- a repair is reported -/
theorem op_report {f g c : Int} (hnr : nr < 60) (hn : n ≤ 12) (hf : 0 ≤ f ∧ f < nf) (hg : 0 ≤ g ∧ g ≤ 2) (h : DRel nf n nr D P s u) : DRel nf n (nr + 1) D P (addS (mkR nr f g (s 0 0 8) s) 2 nr c) (mRe nr f g u) := by
  obtain ⟨hC, hT⟩ := DRel.thr (c := 0) h
  have e8u := h.1.2.1.rd
  unfold okT at hT
  generalize hw : addS (mkR nr f g (s 0 0 8) s) 2 nr c = w
  have o : ∀ p i, p ≠ 1 → p ≠ 2 → ¬ (p = 11 ∧ i = nr) → w p i = s p i := fun p i h1 h2 h11 => by
    rw [← hw, addS_o (by omega) (by omega)]
    unfold mkR
    exact sup_n _ _ h11
  have o11 : ∀ k, w 11 nr k = if k = 2 then f else if k = 3 then g else if k = 4 then s 0 0 8 else 0 := fun k => by
    rw [← hw, addS_o (by omega) (by omega)]
    unfold mkR
    rw [sup_s]
  have o1 : ∀ k, w 1 k 2 = if k = 2 then (nr : Int) + 1 else s 1 k 2 := fun k => by
    rw [← hw]
    by_cases ck : k = 2
    · subst ck
      rw [addS_1, if_pos rfl, if_pos rfl]
    · rw [addS_o (by omega) (by omega), if_neg ck]
      unfold mkR
      rw [sup_n _ _ (by omega)]
  have o4 : ∀ i, w 4 i = s 4 i := fun i => o 4 i (by omega) (by omega) (by omega)
  have v : ∀ p i, ¬ (p = 1 ∧ i = 2) → ¬ (p = 11 ∧ i = nr) → mRe nr f g u p i = su u 20 0 0 0 p i := fun p i g1 g5 => by
    unfold mRe
    rw [su_f _ g1, su_f _ g5, su_f _ g5, su_f _ g5]
  have e8 : w 0 0 8 = s 0 0 8 := by rw [o 0 0 (by omega) (by omega) (by omega)]
  have hS : St s w := ⟨funext o4, funext fun i => o 5 i (by omega) (by omega) (by omega), fun j => by rw [o 6 j (by omega) (by omega) (by omega)]; exact ⟨rfl, rfl, rfl, rfl⟩⟩
  refine ⟨?_, by unfold okT; rw [e8]; exact hT⟩
  rw [nowN_of e8, e8]
  obtain ⟨⟨hF, hL, hU, hR, hMM, hZ, hLL, hO, hD⟩, hS0, h1, hA⟩ := hC
  have w6 : ∀ l, w 6 l = s 6 l := fun l => o 6 l (by omega) (by omega) (by omega)
  obtain ⟨d0, d1⟩ := hD.2.2 nr (Nat.le_refl nr) hnr
  refine ⟨⟨hF.of (fun f _ => by rw [o 5 f (by omega) (by omega) (by omega)]; exact ⟨rfl, rfl, rfl, rfl⟩) (fun f _ => o4 _) (fun f _ => o4 _), hL.of (fun l _ => hS.2.2 l) (fun l _ => o4 _), hU.of (fun l _ => ⟨(hS.2.2 l).1, (hS.2.2 l).2.2.2⟩) (fun l _ => o4 _), fun r hr => ?_, hMM.of (by rw [o 0 0 (by omega) (by omega) (by omega)]) (o4 _) (o4 _), hZ.of (o4 _) (fun f _ m _ => by rw [o4]), fun l hl => ⟨(hLL l hl).1.of hS hl (o 9 l (by omega) (by omega) (by omega)) (fun m _ => o 10 _ (by omega) (by omega) (by omega)), (hLL l hl).2.1.of (w6 l) (o 9 l (by omega) (by omega) (by omega)) (fun m _ => o 10 _ (by omega) (by omega) (by omega)), (hLL l hl).2.2.of (o 7 l (by omega) (by omega) (by omega))⟩, hO.of (by rw [o 0 0 (by omega) (by omega) (by omega)]) (fun l _ => by rw [w6]; exact ⟨rfl, rfl⟩), ⟨fun f g1 g2 => ?_, fun l g1 g2 => ?_, fun r g1 g2 => ?_⟩⟩, fun p i k hc => ?_, ⟨fun m hm => ?_, ?_, ?_, fun f hf => ?_, fun l hl => ?_⟩, fun f hf => ?_⟩
  · by_cases cr : r = nr
    · subst cr
      rw [o11, o11, o11, o11, if_pos rfl, if_neg (by decide), if_neg (by decide), if_neg (by decide), if_neg (by decide), if_pos rfl, if_neg (by decide), if_neg (by decide), if_pos rfl]
      exact ⟨hf, Or.inl rfl, hg, hT⟩
    · rw [o 11 r (by omega) (by omega) (by omega)]
      exact hR r (by omega)
  · rw [o 5 f (by omega) (by omega) (by omega), o4, o4]
    exact hD.1 f g1 g2
  · rw [w6, o 7 l (by omega) (by omega) (by omega), o 9 l (by omega) (by omega) (by omega), o4]
    exact hD.2.1 l g1 g2
  · rw [o 11 r (by omega) (by omega) (by omega)]
    exact hD.2.2 r (by omega) g2
  · have hS9 := h.1.2.1
    by_cases c1 : p = 1
    · subst c1
      have hk : k = 2 := hc
      subst hk
      rw [o1]
      by_cases ci : i = 2
      · subst ci
        unfold mRe
        rw [su_r, if_pos ⟨rfl, rfl, rfl⟩, if_pos rfl]
      · rw [if_neg ci, v 1 i (by omega) (by omega)]
        exact hS0 1 i 2 hc
    · by_cases c5 : p = 11 ∧ i = nr
      · obtain ⟨rfl, rfl⟩ := c5
        have hk : k < 5 := hc
        have e0 := hS9.r11 i 0 (by decide)
        have e1 := hS9.r11 i 1 (by decide)
        rw [o11]
        unfold mRe
        rw [su_r, if_neg (by omega), su_r]
        by_cases k4 : k = 4
        · rw [if_pos ⟨rfl, rfl, k4⟩, if_neg (by omega), if_neg (by omega), if_pos k4, e8u]
        · rw [if_neg (fun h => k4 h.2.2), su_r]
          by_cases k3 : k = 3
          · rw [if_pos ⟨rfl, rfl, k3⟩, if_neg (by omega), if_pos k3]
          · rw [if_neg (fun h => k3 h.2.2), su_r]
            by_cases k2 : k = 2
            · rw [if_pos ⟨rfl, rfl, k2⟩, if_pos k2]
            · rw [if_neg (fun h => k2 h.2.2), if_neg k2, if_neg k3, if_neg k4, su_r, if_neg (by omega)]
              obtain rfl | rfl : k = 0 ∨ k = 1 := by omega
              · rw [e0, d0]
              · rw [e1, d1]
      · have h2 : p ≠ 2 := fun h => by subst h; exact hc
        rw [v p i (by omega) c5, hS0 p i k hc, o p i c1 h2 c5]
  · rw [v 21 10 (by omega) (by omega), o4]
    exact h1.1 m hm
  · rw [v 21 10 (by omega) (by omega), o 0 0 (by omega) (by omega) (by omega)]
    exact h1.2.1
  · rw [v 20 0 (by omega) (by omega), o4]
    exact h1.2.2.1
  · rw [v 21 8 (by omega) (by omega), o4]
    exact h1.2.2.2.1 f hf
  · rw [v 21 22 (by omega) (by omega), w6]
    exact h1.2.2.2.2 l hl
  · rw [o4, v 21 4 (by omega) (by omega)]
    exact hA f hf
end OPS3
