/-! ===== a list grows ===== -/
section ADD
variable {E : Nat → Nat} {ad : xAd} {q q' : xL} {lo : Nat → Nat → Prop} {s s' u : xS} {co : Nat → Nat → xE} {t t' : xT} {rc rs : Nat}
/-- a role gets a new address, another one's cell is written -/
theorem RR_move {r i0 r2 i2 a : Nat} {e1 e2 : xE} (hr : r < 20) (hr2 : r2 < 20) (hne : ¬ (r2 = r ∧ i2 = i0)) (hR : RR ad q lo s u co t) (ha : ∀ p i, clv q lo p i → ad p i ≠ a) (h2 : clv q lo r2 i2) (ht : ∀ b, b ≠ a → b ≠ ad r2 i2 → t' b = t b) (h1t : t' a = some e1) (h2t : t' (ad r2 i2) = some e2) (hs1 : sim e1 (cel (adu ad r i0 a) r i0 (s' r i0))) (hs2 : sim e2 (cel (adu ad r i0 a) r2 i2 (s' r2 i2))) (hs : ∀ p i, ¬ (p = r ∧ i = i0) → ¬ (p = r2 ∧ i = i2) → s' p i = s p i) (hc : ∀ p i, p < 20 → clv q lo p i → ¬ (p = r ∧ i = i0) → ¬ (p = r2 ∧ i = i2) → ¬ cites p i (s p i) r i0) (hq : ∀ p i, clv q' lo p i → clv q lo p i ∨ (p = r ∧ i = i0)) : RR (adu ad r i0 a) q' lo s' u co t' := by
  have hadj : ∀ p i, ¬ (p = r ∧ i = i0) → adu ad r i0 a p i = ad p i := fun p i h => adu_n ad a h
  refine ⟨fun p i hl => ?_, fun p1 i1 p2 i2' g1 g2 e => ?_⟩
  · by_cases c1 : p = r ∧ i = i0
    · obtain ⟨rfl, rfl⟩ := c1
      rw [adu_s]
      refine ⟨e1, h1t, ?_⟩
      unfold xce
      rw [if_pos hr]
      exact hs1
    · rw [hadj p i c1]
      have hl0 := (hq p i hl).resolve_right c1
      by_cases c2 : p = r2 ∧ i = i2
      · obtain ⟨rfl, rfl⟩ := c2
        refine ⟨e2, h2t, ?_⟩
        unfold xce
        rw [if_pos hr2]
        exact hs2
      · obtain ⟨x, g1, g2⟩ := hR.1 p i hl0
        refine ⟨x, ?_, ?_⟩
        · rw [ht _ (ha p i hl0) (fun e => c2 (hR.2 _ _ _ _ hl0 h2 e))]
          exact g1
        · unfold xce at g2 ⊢
          by_cases h20 : p < 20
          · rw [if_pos h20] at g2 ⊢
            rw [hs p i c1 c2]
            refine cel_ext (fun p' i' hci => hadj p' i' (fun h => ?_)) g2
            rw [h.1, h.2] at hci
            exact hc p i h20 hl0 c1 c2 hci
          · rw [if_neg h20] at g2 ⊢
            rw [mce_adu hr]
            exact g2
  · by_cases c1 : p1 = r ∧ i1 = i0
    · by_cases c2 : p2 = r ∧ i2' = i0
      · exact ⟨c1.1.trans c2.1.symm, c1.2.trans c2.2.symm⟩
      · rw [c1.1, c1.2, adu_s, hadj _ _ c2] at e
        exact absurd e.symm (ha _ _ ((hq _ _ g2).resolve_right c2))
    · by_cases c2 : p2 = r ∧ i2' = i0
      · rw [c2.1, c2.2, adu_s, hadj _ _ c1] at e
        exact absurd e (ha _ _ ((hq _ _ g1).resolve_right c1))
      · rw [hadj _ _ c1, hadj _ _ c2] at e
        exact hR.2 _ _ _ _ ((hq _ _ g1).resolve_right c1) ((hq _ _ g2).resolve_right c2) e
def LZ (s : xS) (k n : Nat) : Prop := ∀ j : Nat, n ≤ j → s 2 k (j + 1) = 0
/-- a list's array: none of its own as long as it is empty -/
def LE (E : Nat → Nat) (ad : xAd) (q : xL) (s : xS) (k : Nat) : Prop := (s 2 k 0 = 0 ∧ ad 2 k = E 0) ∨ (10 ≤ s 2 k 0 ∧ q.2.2.2.2 k)
def qc (q : xL) (k : Nat) : xL := (q.1, q.2.1, q.2.2.1, q.2.2.2.1, fun j => q.2.2.2.2 j ∨ j = k)
def addS (s : xS) (k n : Nat) (c : Int) : xS := su (sup (su s 1 k 0 (s 1 k 0 + 1)) 2 k (fun i => if i = 0 then c else if i ≤ n + 1 then (i : Int) else 0)) 1 k 2 (n + 1)
theorem elt_obj {k n : Nat} (hk : k < 3) (hR : RR ad q lo s u co t) (h : clv q lo (elt k) n) : ∃ vs, t (ad (elt k) n) = some (.inr (kc k, vs)) ∧ xObj (kc k) := by
  obtain rfl | rfl | rfl : k = 0 ∨ k = 1 ∨ k = 2 := by omega
  · exact ⟨_, hR.obj (p := 5) h rfl, _, rfl, by decide +kernel⟩
  · exact ⟨_, hR.obj (p := 6) h rfl, _, rfl, by decide +kernel⟩
  · exact ⟨_, hR.obj (p := 11) h rfl, _, rfl, by decide +kernel⟩
theorem clv_qc {k p i : Nat} (h : clv (qc q k) lo p i) : clv q lo p i ∨ (p = 2 ∧ i = k) := by
  by_cases hp : p = 2
  · subst hp
    obtain ⟨h1, h2 | h2⟩ := h
    · exact Or.inl ⟨h1, h2⟩
    · exact Or.inr ⟨rfl, h2⟩
  · left
    unfold clv at h ⊢
    split at h <;> first | exact absurd rfl hp | exact h
theorem cites2 {p i : Nat} {g : Nat → Int} {k : Nat} (h : cites p i g 2 k) : p = 1 ∧ i = k := by
  unfold cites at h
  split at h
  · omega
  · exact ⟨rfl, h.2.symm⟩
  · obtain ⟨h1, -⟩ := h
    unfold elt at h1
    split at h1 <;> omega
  · omega
  · exact h.elim
  · omega
  · omega
  · exact h.elim
  · exact h.elim
  · omega
  · exact h.elim
  · omega
  · omega
  · exact h.elim
theorem shr1 {c : Int} (h : 0 ≤ c ∧ c < 1024) : I c >>> ((1 : Int32) &&& 31) = I (c / 2) := by
  obtain ⟨k, rfl⟩ : ∃ k : Nat, c = k := ⟨c.toNat, by omega⟩
  have hk : k < 1024 := by omega
  clear h
  revert k
  decide +kernel
end ADD
