section OBJ2
variable {E : Nat → Nat} {ad ad' : xAd} {q q' : xL} {lo : Nat → Nat → Prop} {s s' u u' w : xS} {co : Nat → Nat → xE} {t : xT} {D P D' P' : Int}
theorem GQ.flat {x c : Int} (h : GQ E ad q s) (hn : q.1 < 8) (ha : ∀ j, j ≠ 0 → ad' 2 j = ad 2 j) (hc : (q.1 : Int) + 1 ≤ c ∧ 10 ≤ c ∧ c ≤ 100) : GQ E ad' (qc (qF q) 0) (addS (mkF q.1 x s) 0 q.1 c) := by
  have o : ∀ p i, p ≠ 4 → p ≠ 5 → ¬ ((p = 1 ∨ p = 2) ∧ i = 0) → addS (mkF q.1 x s) 0 q.1 c p i = s p i := fun p i h4 h5 h1 => by rw [addS_o (by omega) (by omega), mkF_o (by omega) (by omega)]
  have hLI : LI (qF q) (mkF q.1 x s) 0 q.1 := LI_of (s := s) h.1.1 (mkF_o (by omega) (by omega)) (mkF_o (by omega) (by omega))
  refine ⟨LQ.add hLI hc, h.2.1.of (o 1 1 (by decide) (by decide) (by omega)) (o 2 1 (by decide) (by decide) (by omega)) (ha 1 (by decide)) Or.inl, h.2.2.1.of (o 1 2 (by decide) (by decide) (by omega)) (o 2 2 (by decide) (by decide) (by omega)) (ha 2 (by decide)) Or.inl, fun l m hl hm => ?_, ?_, ⟨?_, h.2.2.2.2.2.1.2⟩, h.2.2.2.2.2.2⟩
  · rw [o 9 l (by decide) (by decide) (by omega)]
    exact h.2.2.2.1 l m hl hm
  · have e := h.2.2.2.2.1
    unfold SBk at e ⊢
    rw [o 12 0 (by decide) (by decide) (by omega), o 13 0 (by decide) (by decide) (by omega)]
    exact e
  · show q.1 + 1 ≤ 8
    omega
theorem GQ.report {f g d c : Int} (h : GQ E ad q s) (hn : q.2.2.1 < 60) (ha : ∀ j, j ≠ 2 → ad' 2 j = ad 2 j) (hc : (q.2.2.1 : Int) + 1 ≤ c ∧ 10 ≤ c ∧ c ≤ 100) : GQ E ad' (qc (qR q) 2) (addS (mkR q.2.2.1 f g d s) 2 q.2.2.1 c) := by
  have e : ∀ p i, p ≠ 11 → mkR q.2.2.1 f g d s p i = s p i := fun p i hp => sup_n _ _ (by omega)
  have o : ∀ p i, p ≠ 11 → ¬ ((p = 1 ∨ p = 2) ∧ i = 2) → addS (mkR q.2.2.1 f g d s) 2 q.2.2.1 c p i = s p i := fun p i h4 h1 => by rw [addS_o (by omega) (by omega), e p i h4]
  have hLI : LI (qR q) (mkR q.2.2.1 f g d s) 2 q.2.2.1 := LI_of (s := s) h.2.2.1.1 (e 1 2 (by decide)) (e 2 2 (by decide))
  refine ⟨h.1.of (o 1 0 (by decide) (by omega)) (o 2 0 (by decide) (by omega)) (ha 0 (by decide)) Or.inl, h.2.1.of (o 1 1 (by decide) (by omega)) (o 2 1 (by decide) (by omega)) (ha 1 (by decide)) Or.inl, LQ.add hLI hc, fun l m hl hm => ?_, ?_, ⟨h.2.2.2.2.2.1.1, h.2.2.2.2.2.1.2.1, ?_⟩, h.2.2.2.2.2.2⟩
  · rw [o 9 l (by decide) (by omega)]
    exact h.2.2.2.1 l m hl hm
  · have e := h.2.2.2.2.1
    unfold SBk at e ⊢
    rw [o 12 0 (by decide) (by omega), o 13 0 (by decide) (by omega)]
    exact e
  · show q.2.2.1 + 1 ≤ 60
    omega
theorem GQ.lease {f g d c : Int} (h : GQ E ad q s) (hn : q.2.1 < 12) (ha : ∀ j, j ≠ 1 → ad' 2 j = ad 2 j) (hc : (q.2.1 : Int) + 1 ≤ c ∧ 10 ≤ c ∧ c ≤ 100) : GQ E ad' (qc (qL q) 1) (addS (mkL q.2.1 f g d s) 1 q.2.1 c) := by
  have e : ∀ p i, p ≠ 4 → ¬ ((p = 6 ∨ p = 7 ∨ p = 8 ∨ p = 9) ∧ i = q.2.1) → mkL q.2.1 f g d s p i = s p i := fun p i h4 hp => mkL_o (by omega) (by omega) (by omega) (by omega) (by omega)
  have o : ∀ p i, p ≠ 4 → ¬ ((p = 6 ∨ p = 7 ∨ p = 8 ∨ p = 9) ∧ i = q.2.1) → ¬ ((p = 1 ∨ p = 2) ∧ i = 1) → addS (mkL q.2.1 f g d s) 1 q.2.1 c p i = s p i := fun p i h4 h6 h1 => by rw [addS_o (by omega) (by omega), e p i h4 h6]
  have hLI : LI (qL q) (mkL q.2.1 f g d s) 1 q.2.1 := LI_of (s := s) h.2.1.1 (e 1 1 (by decide) (by omega)) (e 2 1 (by decide) (by omega))
  refine ⟨h.1.of (o 1 0 (by decide) (by omega) (by omega)) (o 2 0 (by decide) (by omega) (by omega)) (ha 0 (by decide)) Or.inl, LQ.add hLI hc, h.2.2.1.of (o 1 2 (by decide) (by omega) (by omega)) (o 2 2 (by decide) (by omega) (by omega)) (ha 2 (by decide)) Or.inl, fun l m hl hm => ?_, ?_, ⟨h.2.2.2.2.2.1.1, ?_, h.2.2.2.2.2.1.2.2⟩, fun i hi => ?_⟩
  · by_cases cl : l = q.2.1
    · subst cl
      have e9 : addS (mkL q.2.1 f g d s) 1 q.2.1 c 9 q.2.1 m = 0 := by rw [addS_o (by omega) (by omega), mkL_z (by omega)]
      rw [e9]
      refine ⟨fun g => ?_, fun g => absurd rfl g⟩
      obtain ⟨l', m', b1, b2, b3⟩ := h.2.2.2.2.2.2 _ g
      omega
    · have hl' : l < q.2.1 + 1 := hl
      rw [o 9 l (by decide) (by omega) (by omega)]
      exact h.2.2.2.1 l m (by omega) hm
  · have e := h.2.2.2.2.1
    unfold SBk at e ⊢
    rw [o 12 0 (by decide) (by omega) (by omega), o 13 0 (by decide) (by omega) (by omega)]
    exact e
  · show q.2.1 + 1 ≤ 12
    omega
  · obtain ⟨l', m', b1, b2, b3⟩ := h.2.2.2.2.2.2 _ hi
    exact ⟨l', m', Nat.lt_succ_of_lt b1, b2, b3⟩
end OBJ2
