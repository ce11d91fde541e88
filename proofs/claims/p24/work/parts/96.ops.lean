/-! ===== the small calls, on both sides ===== -/
section OPS
variable {q : xL} {s s' s2 u u' u2 : xS} {nf n nr M : Nat} {Bp D P : Int}
/-- cells that the invariant doesn't speak of -/
theorem GG.irr (h : GG nf n nr M Bp D P s) (e : ∀ p i, p = 4 ∨ p = 5 ∨ p = 6 ∨ p = 7 ∨ p = 9 ∨ p = 11 ∨ (p = 10 ∧ i ≠ 9999) → s' p i = s p i) (e7 : s' 0 0 7 = s 0 0 7) (e9 : s' 0 0 9 = s 0 0 9) : GG nf n nr M Bp D P s' := by
  obtain ⟨hF, hL, hU, hR, hMM, hZ, hLL, hO, hD⟩ := h
  have e4 : ∀ i, s' 4 i = s 4 i := fun i => e 4 i (by omega)
  have hS : St s s' := ⟨funext e4, funext fun i => e 5 i (by omega), fun i => by rw [e 6 i (by omega)]; exact ⟨rfl, rfl, rfl, rfl⟩⟩
  exact ⟨hF.of (fun f _ => by rw [e 5 f (by omega)]; exact ⟨rfl, rfl, rfl, rfl⟩) (fun f _ => e4 _) (fun f _ => e4 _), hL.of (fun l _ => hS.2.2 l) (fun l _ => e4 _), hU.of (fun l _ => ⟨(hS.2.2 l).1, (hS.2.2 l).2.2.2⟩) (fun l _ => e4 _), hR.of (fun r _ => by rw [e 11 r (by omega)]; exact ⟨rfl, rfl, rfl, rfl⟩), hMM.of e7 (e4 _) (e4 _), hZ.of (e4 _) (fun f _ m _ => by rw [e4]), fun l hl => ⟨(hLL l hl).1.of hS hl (e 9 l (by omega)) (fun m hm => e 10 _ (by omega)), (hLL l hl).2.1.of (e 6 l (by omega)) (e 9 l (by omega)) (fun m hm => e 10 _ (by omega)), (hLL l hl).2.2.of (e 7 l (by omega))⟩, hO.of e9 (fun l _ => by rw [e 6 l (by omega)]; exact ⟨rfl, rfl⟩), hD.of (fun f _ _ => ⟨e 5 f (by omega), e4 _, e4 _⟩) (fun l _ _ => ⟨e 6 l (by omega), e 7 l (by omega), e 9 l (by omega), e4 _⟩) (fun r _ _ => e 11 r (by omega))⟩
theorem CMR.irr (h : CMR nf n nr M Bp D P s u) (e : ∀ p i, p = 4 ∨ p = 5 ∨ p = 6 ∨ p = 7 ∨ p = 9 ∨ p = 11 ∨ (p = 10 ∧ i ≠ 9999) → s' p i = s p i) (e0 : ∀ k, s' 0 0 k = s 0 0 k) (e1 : ∀ k, s' 1 k 2 = s 1 k 2) (hn : n ≤ 12) : CMR nf n nr M Bp D P s' u := by
  obtain ⟨hG, hS, h1, hA⟩ := h
  refine ⟨hG.irr e (e0 7) (e0 9), fun p i k hc => ?_, ⟨fun m hm => by rw [e 4 _ (by omega)]; exact h1.1 m hm, by rw [e0]; exact h1.2.1, by rw [e 4 _ (by omega)]; exact h1.2.2.1, fun f hf => by rw [e 4 _ (by omega)]; exact h1.2.2.2.1 f hf, fun l hl => by rw [e 6 l (by omega)]; exact h1.2.2.2.2 l hl⟩, fun f hf => by rw [e 4 _ (by omega)]; exact hA f hf⟩
  rw [hS p i k hc]
  unfold Cm at hc
  split at hc
  · obtain ⟨rfl, rfl⟩ := hc
    exact (e0 8).symm
  · subst hc
    exact (e1 i).symm
  · rw [e 4 i (by omega)]
  · rw [e 5 i (by omega)]
  · rw [e 6 i (by omega)]
  · rw [e 7 i (by omega)]
  · rw [e 9 i (by omega)]
  · rw [e 10 i (Or.inr (Or.inr (Or.inr (Or.inr (Or.inr (Or.inr ⟨rfl, hc.2⟩))))))]
  · rw [e 11 i (by omega)]
  · exact hc.elim
theorem CMR.mdl (h : CMR nf n nr M Bp D P s u) (hE : ∀ p i k, ¬ (p = 21 ∧ i = 38) → ¬ (p = 20 ∧ i = 0 ∧ (k = 39 ∨ k = 0)) → u' p i k = u p i k) : CMR nf n nr M Bp D P s u' := by
  obtain ⟨hG, hS, h1, hA⟩ := h
  refine ⟨hG, fun p i k hc => ?_, ⟨fun m hm => by rw [hE 21 10 m (by omega) (by omega)]; exact h1.1 m hm, by rw [hE 21 10 _ (by omega) (by omega)]; exact h1.2.1, by rw [hE 20 0 11 (by omega) (by omega)]; exact h1.2.2.1, fun f hf => by rw [hE 21 8 f (by omega) (by omega)]; exact h1.2.2.2.1 f hf, fun l hl => by rw [hE 21 22 l (by omega) (by omega)]; exact h1.2.2.2.2 l hl⟩, fun f hf => by rw [hE 21 4 f (by omega) (by omega)]; exact hA f hf⟩
  have h20 : p ≠ 20 := fun h => by subst h; exact hc
  have h21 : p ≠ 21 := fun h => by subst h; exact hc
  rw [hE p i k (by omega) (by omega)]
  exact hS p i k hc
theorem CMR.thr {c : Int} (h : CMR nf n nr M Bp D P s u) : CMR nf n nr M Bp D P s (su u 20 0 0 c) := h.mdl (fun p i k h1 h2 => by rw [su_r, if_neg (by omega)])
theorem DRel.mdl (h : DRel nf n nr D P s u) (hE : ∀ p i k, ¬ (p = 21 ∧ i = 38) → ¬ (p = 20 ∧ i = 0 ∧ (k = 39 ∨ k = 0)) → u' p i k = u p i k) : DRel nf n nr D P s u' := ⟨CMR.mdl h.1 hE, h.2⟩
theorem DRel.thr {c : Int} (h : DRel nf n nr D P s u) : DRel nf n nr D P s (su u 20 0 0 c) := ⟨CMR.thr h.1, h.2⟩
theorem DRel.irr (h : DRel nf n nr D P s u) (e : ∀ p i, p = 4 ∨ p = 5 ∨ p = 6 ∨ p = 7 ∨ p = 9 ∨ p = 11 ∨ (p = 10 ∧ i ≠ 9999) → s' p i = s p i) (e0 : ∀ k, s' 0 0 k = s 0 0 k) (e1 : ∀ k, s' 1 k 2 = s 1 k 2) (hn : n ≤ 12) : DRel nf n nr D P s' u := by
  have e8 := e0 8
  obtain ⟨hC, hT⟩ := h
  refine ⟨?_, by unfold okT at hT ⊢; rw [e8]; exact hT⟩
  have en : nowN s' = nowN s := by unfold nowN; rw [e8]
  rw [en, e8]
  exact hC.irr e e0 e1 hn
theorem CMR.upD {D' P' : Int} (h : CMR nf n nr M Bp D P s u) (hD : D ≤ D') (hP : P ≤ P') : CMR nf n nr M Bp D' P' s u := by
  obtain ⟨⟨hF, hL, hU, hR, hMM, hZ, hLL, hO, hDD⟩, hS, h1, hA⟩ := h
  refine ⟨⟨hF, hL, hU, hR, hMM, hZ, fun l hl => ?_, hO, hDD⟩, hS, h1, hA⟩
  obtain ⟨a, b, c⟩ := hLL l hl
  exact ⟨a, ⟨b.1, by have := b.2.1; omega, by have := b.2.2; omega⟩, c⟩
theorem DRel.up {D' P' : Int} (h : DRel nf n nr D P s u) (hD : D ≤ D') (hP : P ≤ P') : DRel nf n nr D' P' s u := ⟨h.1.upD hD hP, h.2⟩
theorem nowN_of (h8 : s' 0 0 8 = s 0 0 8) : nowN s' = nowN s := by unfold nowN; rw [h8]
/-- the index -/
theorem op_index {z : Int} (hz : 50 ≤ z ∧ z ≤ 200) (h : DRel nf n nr D P s u) : DRel nf n nr D P (su s 0 0 7 z) (su (su u 20 0 0 0) 21 10 (nowN u + 1) z) := by
  obtain ⟨hC, hT⟩ := DRel.thr (c := 0) h
  rw [show nowN u = nowN s by unfold nowN; rw [h.1.2.1.rd]]
  have o : ∀ p i, p ≠ 0 → su s 0 0 7 z p i = s p i := fun p i hp => su_f _ (by omega)
  have o0 : ∀ k, k ≠ 7 → su s 0 0 7 z 0 0 k = s 0 0 k := fun k hk => by rw [su_r, if_neg (by omega)]
  have hS : St s (su s 0 0 7 z) := ⟨funext fun i => o 4 i (by decide), funext fun i => o 5 i (by decide), fun i => by rw [o 6 i (by decide)]; exact ⟨rfl, rfl, rfl, rfl⟩⟩
  refine ⟨?_, by unfold okT at hT ⊢; rw [o0 8 (by decide)]; exact hT⟩
  rw [nowN_of (o0 8 (by decide)), o0 8 (by decide)]
  obtain ⟨⟨hF, hL, hU, hR, hMM, hZ, hLL, hO, hD⟩, hS0, h1, hA⟩ := hC
  refine ⟨⟨hF.of (fun f _ => by rw [o 5 f (by decide)]; exact ⟨rfl, rfl, rfl, rfl⟩) (fun f _ => o 4 _ (by decide)) (fun f _ => o 4 _ (by decide)), hL.of (fun l _ => hS.2.2 l) (fun l _ => o 4 _ (by decide)), hU.of (fun l _ => ⟨(hS.2.2 l).1, (hS.2.2 l).2.2.2⟩) (fun l _ => o 4 _ (by decide)), hR.of (fun r _ => by rw [o 11 r (by decide)]; exact ⟨rfl, rfl, rfl, rfl⟩), ⟨by rw [su_r, if_pos ⟨rfl, rfl, rfl⟩]; exact hz, by rw [o 4 0 (by decide), o 4 100 (by decide)]; exact hMM.2⟩, hZ.of (o 4 _ (by decide)) (fun f _ m _ => by rw [o 4 _ (by decide)]), fun l hl => ⟨(hLL l hl).1.of hS hl (o 9 l (by decide)) (fun m _ => o 10 _ (by decide)), (hLL l hl).2.1.of (o 6 l (by decide)) (o 9 l (by decide)) (fun m _ => o 10 _ (by decide)), (hLL l hl).2.2.of (o 7 l (by decide))⟩, hO.of (o0 9 (by decide)) (fun l _ => by rw [o 6 l (by decide)]; exact ⟨rfl, rfl⟩), hD.of (fun f _ _ => ⟨o 5 f (by decide), o 4 _ (by decide), o 4 _ (by decide)⟩) (fun l _ _ => ⟨o 6 l (by decide), o 7 l (by decide), o 9 l (by decide), o 4 _ (by decide)⟩) (fun r _ _ => o 11 r (by decide))⟩, (hS0.cls (p := 0) (i := 0) (k := 7) (show ¬ (0 = 0 ∧ 7 = 8) by decide)).mdl (p := 21) (i := 10) (k := nowN s + 1) (fun h => h), ⟨fun m hm => ?_, ?_, ?_, fun f hf => ?_, fun l hl => ?_⟩, fun f hf => ?_⟩
  · rw [su_r, if_neg (by omega), o 4 0 (by decide)]
    exact h1.1 m hm
  · rw [su_r, if_pos ⟨rfl, rfl, rfl⟩, su_r, if_pos ⟨rfl, rfl, rfl⟩]
  · rw [su_f _ (by omega), o 4 100 (by decide)]
    exact h1.2.2.1
  · rw [su_f _ (by omega), o 4 _ (by decide)]
    exact h1.2.2.2.1 f hf
  · rw [su_f _ (by omega), o 6 l (by decide)]
    exact h1.2.2.2.2 l hl
  · rw [o 4 _ (by decide), su_f _ (by omega)]
    exact hA f hf
/-- a meter is read -/
theorem op_read {f : Nat} {x : Int} (hf : f < nf) (hx : 0 ≤ x ∧ x ≤ 1000000) (h : DRel nf n nr D P s u) : DRel nf n nr D P (su (su s 5 f 3 x) 5 f 5 (s 0 0 8 / 30)) (su (su (su u 20 0 0 0) 5 f 3 x) 5 f 5 (u 0 0 8 / 30)) := by
  obtain ⟨hC, hT⟩ := DRel.thr (c := 0) h
  rw [h.1.2.1.rd]
  unfold okT at hT
  generalize hd : s 0 0 8 / 30 = y
  have hy : 0 ≤ y ∧ y ≤ 120 := by omega
  have o : ∀ p i, ¬ (p = 5 ∧ i = f) → su (su s 5 f 3 x) 5 f 5 y p i = s p i := fun p i hp => by rw [su_f _ hp, su_f _ hp]
  have v : ∀ p i, ¬ (p = 5 ∧ i = f) → su (su (su u 20 0 0 0) 5 f 3 x) 5 f 5 y p i = su u 20 0 0 0 p i := fun p i hp => by rw [su_f _ hp, su_f _ hp]
  have w5 : ∀ k, su (su s 5 f 3 x) 5 f 5 y 5 f k = if k = 5 then y else if k = 3 then x else s 5 f k := fun k => by
    rw [su_r, su_r]
    by_cases c : k = 5
    · rw [if_pos ⟨rfl, rfl, c⟩, if_pos c]
    · rw [if_neg (fun h => c h.2.2), if_neg c]
      by_cases c2 : k = 3
      · rw [if_pos ⟨rfl, rfl, c2⟩, if_pos c2]
      · rw [if_neg (fun h => c2 h.2.2), if_neg c2]
  refine ⟨?_, by unfold okT; rw [o 0 0 (by omega)]; exact hT⟩
  rw [nowN_of (s := s) (by rw [o 0 0 (by omega)]), o 0 0 (by omega)]
  obtain ⟨⟨hF, hL, hU, hR, hMM, hZ, hLL, hO, hD⟩, hS0, h1, hA⟩ := hC
  have o4 : ∀ i, su (su s 5 f 3 x) 5 f 5 y 4 i = s 4 i := fun i => o 4 i (by omega)
  have r5 : ∀ j, su (su s 5 f 3 x) 5 f 5 y 5 j 0 = s 5 j 0 := fun j => by
    by_cases c : j = f
    · subst c
      rw [w5, if_neg (by decide), if_neg (by decide)]
    · rw [o 5 j (by omega)]
  have hrb : ∀ j, ∀ m : Int, runb (su (su s 5 f 3 x) 5 f 5 y) j m = runb s j m := fun j m => by
    unfold runb
    rw [o 6 j (by omega)]
  refine ⟨⟨fun j hj => ?_, hL.of (fun l _ => by rw [o 6 l (by omega)]; exact ⟨rfl, rfl, rfl, rfl⟩) (fun l _ => o4 _), hU.of (fun l _ => by rw [o 6 l (by omega)]; exact ⟨rfl, rfl⟩) (fun l _ => o4 _), hR.of (fun r _ => by rw [o 11 r (by omega)]; exact ⟨rfl, rfl, rfl, rfl⟩), hMM.of (by rw [o 0 0 (by omega)]) (o4 _) (o4 _), hZ.of (o4 _) (fun f _ m _ => by rw [o4]), fun l hl => ⟨(hLL l hl).1.of2 (fun m _ => hrb l m) (fun m hm hm2 _ k _ => bl_congr hl (fun j _ => by rw [o 6 j (by omega)]) (fun j _ => hrb j m) (by rw [o 6 l (by omega)]) (fun j _ => r5 _) (fun j _ _ => by rw [o4]) (by rw [o4]) (by rw [o4]) (by rw [o4]) (by rw [o4]) k) (o 9 l (by omega)) (fun m _ => o 10 _ (by omega)), (hLL l hl).2.1.of (o 6 l (by omega)) (o 9 l (by omega)) (fun m _ => o 10 _ (by omega)), (hLL l hl).2.2.of (o 7 l (by omega))⟩, hO.of (by rw [o 0 0 (by omega)]) (fun l _ => by rw [o 6 l (by omega)]; exact ⟨rfl, rfl⟩), hD.of (fun j _ _ => ⟨o 5 j (by omega), o4 _, o4 _⟩) (fun l _ _ => ⟨o 6 l (by omega), o 7 l (by omega), o 9 l (by omega), o4 _⟩) (fun r _ _ => o 11 r (by omega))⟩, hS0.both.both, ⟨fun m hm => ?_, ?_, ?_, fun j hj => ?_, fun l hl => ?_⟩, fun j hj => ?_⟩
  · obtain ⟨a, b, c, d, e⟩ := hF j hj
    rw [o4, o4]
    by_cases cj : j = f
    · subst cj
      rw [w5, w5, w5, w5, if_neg (by decide), if_neg (by decide), if_neg (by decide), if_pos rfl, if_neg (by decide), if_neg (by decide), if_pos rfl]
      exact ⟨a, hx, c, by omega, e⟩
    · rw [o 5 j (by omega)]
      exact ⟨a, b, c, d, e⟩
  · rw [v 21 10 (by omega), o4]
    exact h1.1 m hm
  · rw [v 21 10 (by omega), o 0 0 (by omega)]
    exact h1.2.1
  · rw [v 20 0 (by omega), o4]
    exact h1.2.2.1
  · rw [v 21 8 (by omega), o4]
    exact h1.2.2.2.1 j hj
  · rw [v 21 22 (by omega), o 6 l (by omega)]
    exact h1.2.2.2.2 l hl
  · rw [v 21 4 (by omega), o4]
    exact hA j hj
/-- heat -/
theorem op_heat {x : Int} (hx : 0 ≤ x ∧ x ≤ 10000000) (h : DRel nf n nr D P s u) : DRel nf n nr D P (su s 4 100 (nowN s) x) (su (su u 20 0 0 0) 20 0 11 x) := by
  obtain ⟨hC, hT⟩ := DRel.thr (c := 0) h
  have o : ∀ p i, ¬ (p = 4 ∧ i = 100) → su s 4 100 (nowN s) x p i = s p i := fun p i hp => su_f _ hp
  have o4m : ∀ i m, m ≠ nowN s → su s 4 100 (nowN s) x 4 i m = s 4 i m := fun i m hm => by rw [su_r, if_neg (by omega)]
  have hrb : ∀ j, ∀ m : Int, runb (su s 4 100 (nowN s) x) j m = runb s j m := fun j m => by
    unfold runb
    rw [o 6 j (by omega)]
  refine ⟨?_, by unfold okT at hT ⊢; rw [o 0 0 (by omega)]; exact hT⟩
  rw [nowN_of (s := s) (by rw [o 0 0 (by omega)]), o 0 0 (by omega)]
  obtain ⟨⟨hF, hL, hU, hR, hMM, hZ, hLL, hO, hD⟩, hS0, h1, hA⟩ := hC
  refine ⟨⟨hF.of (fun f _ => by rw [o 5 f (by omega)]; exact ⟨rfl, rfl, rfl, rfl⟩) (fun f _ => o 4 _ (by omega)) (fun f _ => o 4 _ (by omega)), hL.of (fun l _ => by rw [o 6 l (by omega)]; exact ⟨rfl, rfl, rfl, rfl⟩) (fun l _ => o 4 _ (by omega)), hU.of (fun l _ => by rw [o 6 l (by omega)]; exact ⟨rfl, rfl⟩) (fun l _ => o 4 _ (by omega)), hR.of (fun r _ => by rw [o 11 r (by omega)]; exact ⟨rfl, rfl, rfl, rfl⟩), ⟨by rw [o 0 0 (by omega)]; exact hMM.1, fun m hm => ?_⟩, fun m hm hm2 => ?_, fun l hl => ⟨(hLL l hl).1.of2 (fun m _ => hrb l m) (fun m hm hm2 _ k _ => bl_congr hl (fun j _ => by rw [o 6 j (by omega)]) (fun j _ => hrb j m) (by rw [o 6 l (by omega)]) (fun j _ => by rw [o 5 _ (by omega)]) (fun j _ _ => o4m _ m (by omega)) (o4m _ m (by omega)) (o4m _ m (by omega)) (o4m _ m (by omega)) (by rw [o 4 (400 + l) (by omega)]) k) (o 9 l (by omega)) (fun m _ => o 10 _ (by omega)), (hLL l hl).2.1.of (o 6 l (by omega)) (o 9 l (by omega)) (fun m _ => o 10 _ (by omega)), (hLL l hl).2.2.of (o 7 l (by omega))⟩, hO.of (by rw [o 0 0 (by omega)]) (fun l _ => by rw [o 6 l (by omega)]; exact ⟨rfl, rfl⟩), hD.of (fun j _ _ => ⟨o 5 j (by omega), o 4 _ (by omega), o 4 _ (by omega)⟩) (fun l _ _ => ⟨o 6 l (by omega), o 7 l (by omega), o 9 l (by omega), o 4 _ (by omega)⟩) (fun r _ _ => o 11 r (by omega))⟩, (hS0.cls (p := 4) (i := 100) (k := nowN s) (show ¬ ((200 ≤ 100 ∧ 100 < 208) ∨ (400 ≤ 100 ∧ 100 < 412)) by decide)).mdl (p := 20) (i := 0) (k := 11) (fun h => h), ⟨fun m hm => ?_, ?_, ?_, fun j hj => ?_, fun l hl => ?_⟩, fun j hj => ?_⟩
  · rw [o 4 0 (by omega)]
    refine ⟨(hMM.2 m hm).1, ?_⟩
    rw [su_r]
    by_cases c : m = nowN s
    · rw [if_pos ⟨rfl, rfl, c⟩]
      exact hx
    · rw [if_neg (fun h => c h.2.2)]
      exact (hMM.2 m hm).2
  · rw [o4m 100 m (by omega)]
    exact ⟨(hZ m hm hm2).1, fun f hf => by rw [o 4 _ (by omega)]; exact (hZ m hm hm2).2 f hf⟩
  · rw [su_f _ (by omega), o 4 0 (by omega)]
    exact h1.1 m hm
  · rw [su_f _ (by omega), o 0 0 (by omega)]
    exact h1.2.1
  · rw [su_r, if_pos ⟨rfl, rfl, rfl⟩, su_r, if_pos ⟨rfl, rfl, rfl⟩]
  · rw [su_f _ (by omega), o 4 _ (by omega)]
    exact h1.2.2.2.1 j hj
  · rw [su_f _ (by omega), o 6 l (by omega)]
    exact h1.2.2.2.2 l hl
  · rw [o 4 _ (by omega), su_f _ (by omega)]
    exact hA j hj
/-- a repair is mended -/
theorem op_mend {r : Nat} (hr : r < nr) (h : DRel nf n nr D P s u) : DRel nf n nr D P (su s 11 r 0 1) (su (su u 20 0 0 0) 11 r 0 1) := by
  obtain ⟨hC, hT⟩ := DRel.thr (c := 0) h
  have o : ∀ p i, ¬ (p = 11 ∧ i = r) → su s 11 r 0 1 p i = s p i := fun p i hp => su_f _ hp
  have o4 : ∀ i, su s 11 r 0 1 4 i = s 4 i := fun i => o 4 i (by omega)
  refine ⟨?_, by unfold okT at hT ⊢; rw [o 0 0 (by omega)]; exact hT⟩
  rw [nowN_of (s := s) (by rw [o 0 0 (by omega)]), o 0 0 (by omega)]
  obtain ⟨⟨hF, hL, hU, hR, hMM, hZ, hLL, hO, hD⟩, hS0, h1, hA⟩ := hC
  have hS : St s (su s 11 r 0 1) := ⟨funext o4, funext fun i => o 5 i (by omega), fun i => by rw [o 6 i (by omega)]; exact ⟨rfl, rfl, rfl, rfl⟩⟩
  refine ⟨⟨hF.of (fun f _ => by rw [o 5 f (by omega)]; exact ⟨rfl, rfl, rfl, rfl⟩) (fun f _ => o4 _) (fun f _ => o4 _), hL.of (fun l _ => hS.2.2 l) (fun l _ => o4 _), hU.of (fun l _ => ⟨(hS.2.2 l).1, (hS.2.2 l).2.2.2⟩) (fun l _ => o4 _), fun j hj => ?_, hMM.of (by rw [o 0 0 (by omega)]) (o4 _) (o4 _), hZ.of (o4 _) (fun f _ m _ => by rw [o4]), fun l hl => ⟨(hLL l hl).1.of hS hl (o 9 l (by omega)) (fun m _ => o 10 _ (by omega)), (hLL l hl).2.1.of (o 6 l (by omega)) (o 9 l (by omega)) (fun m _ => o 10 _ (by omega)), (hLL l hl).2.2.of (o 7 l (by omega))⟩, hO.of (by rw [o 0 0 (by omega)]) (fun l _ => by rw [o 6 l (by omega)]; exact ⟨rfl, rfl⟩), hD.of (fun j _ _ => ⟨o 5 j (by omega), o4 _, o4 _⟩) (fun l _ _ => ⟨o 6 l (by omega), o 7 l (by omega), o 9 l (by omega), o4 _⟩) (fun j _ _ => o 11 j (by omega))⟩, hS0.both, ⟨fun m hm => ?_, ?_, ?_, fun j hj => ?_, fun l hl => ?_⟩, fun j hj => ?_⟩
  · obtain ⟨a, b, c, d⟩ := hR j hj
    have w : ∀ k, k ≠ 0 → su s 11 r 0 1 11 j k = s 11 j k := fun k hk => by rw [su_r, if_neg (fun h => hk h.2.2)]
    rw [w 2 (by decide), w 3 (by decide), w 4 (by decide)]
    refine ⟨a, ?_, c, d⟩
    rw [su_r]
    split
    · exact Or.inr rfl
    · exact b
  · rw [su_f _ (by omega), o4]
    exact h1.1 m hm
  · rw [su_f _ (by omega), o 0 0 (by omega)]
    exact h1.2.1
  · rw [su_f _ (by omega), o4]
    exact h1.2.2.1
  · rw [su_f _ (by omega), o4]
    exact h1.2.2.2.1 j hj
  · rw [su_f _ (by omega), o 6 l (by omega)]
    exact h1.2.2.2.2 l hl
  · rw [o4, su_f _ (by omega)]
    exact hA j hj
end OPS
