/-! ===== a new cell gets a role; bills are made ===== -/
theorem adu_s (ad : xAd) (p i a : Nat) : adu ad p i a p i = a := if_pos ⟨rfl, rfl⟩
theorem adu_n (ad : xAd) {p i p' i' : Nat} (a : Nat) (h : ¬ (p' = p ∧ i' = i)) : adu ad p i a p' i' = ad p' i' := if_neg h
theorem Rel.add {ad : xAd} {lv lv' : Nat → Nat → Prop} {ce ce' : Nat → Nat → xE} {t : xT} {p i a : Nat} {e0 : xE} (h : Rel ad lv ce t) (hq : t a = none) (hnl : ¬ lv p i) (hlv : ∀ p' i', lv' p' i' → lv p' i' ∨ (p' = p ∧ i' = i)) (hce : ∀ p' i', lv p' i' → ¬ (p' = p ∧ i' = i) → ∀ e, sim e (ce p' i') → sim e (ce' p' i')) (hs : sim e0 (ce' p i)) : Rel (adu ad p i a) lv' ce' (xup t a e0) := by
  have hne : ∀ p' i', lv p' i' → ad p' i' ≠ a := by
    intro p' i' hl e
    obtain ⟨x, h1, -⟩ := h.1 p' i' hl
    rw [e, hq] at h1
    cases h1
  refine ⟨fun p' i' hl => ?_, fun p1 i1 p2 i2 g1 g2 e => ?_⟩
  · by_cases hh : p' = p ∧ i' = i
    · obtain ⟨rfl, rfl⟩ := hh
      rw [adu_s, xup_s]
      exact ⟨e0, rfl, hs⟩
    · rw [adu_n ad a hh]
      have hl2 := (hlv p' i' hl).resolve_right hh
      obtain ⟨x, h1, h2⟩ := h.1 p' i' hl2
      rw [xup_n _ _ (hne _ _ hl2)]
      exact ⟨x, h1, hce _ _ hl2 hh _ h2⟩
  · by_cases h1 : p1 = p ∧ i1 = i
    · by_cases h2 : p2 = p ∧ i2 = i
      · exact ⟨h1.1.trans h2.1.symm, h1.2.trans h2.2.symm⟩
      · rw [h1.1, h1.2, adu_s, adu_n ad a h2] at e
        exact absurd e.symm (hne _ _ ((hlv _ _ g2).resolve_right h2))
    · by_cases h2 : p2 = p ∧ i2 = i
      · rw [h2.1, h2.2, adu_s, adu_n ad a h1] at e
        exact absurd e (hne _ _ ((hlv _ _ g1).resolve_right h1))
      · rw [adu_n ad a h1, adu_n ad a h2] at e
        exact h.2 _ _ _ _ ((hlv _ _ g1).resolve_right h1) ((hlv _ _ g2).resolve_right h2) e
theorem sim_of_eq {e a b : xE} (h : a = b) (hs : sim e a) : sim e b := h ▸ hs
/-- cells that don't name a role keep when it gets its address -/
theorem cel_adu10 {ad : xAd} {i a p' i' : Nat} {g : Nat → Int} (h0 : p' ≠ 0) (h9 : p' ≠ 9) : cel (adu ad 10 i a) p' i' g = cel ad p' i' g := by
  have key : ∀ r j : Nat, r ≠ 10 → adu ad 10 i a r j = ad r j := fun r j hr => adu_n ad a (fun h => hr h.1)
  have hek : ∀ k j, adu ad 10 i a (elt k) j = ad (elt k) j := fun k j => key _ j (by unfold elt; split <;> decide)
  unfold cel
  split <;> first | rfl | exact absurd rfl h0 | exact absurd rfl h9 | (simp only [hek, key 1 _ (by decide), key 2 _ (by decide), key 3 _ (by decide), key 4 _ (by decide), key 5 _ (by decide), key 7 _ (by decide), key 8 _ (by decide), key 9 _ (by decide), key 12 _ (by decide), key 13 _ (by decide)]; done)
theorem cel_adu13 {ad : xAd} {i a p' i' : Nat} {g : Nat → Int} (h0 : p' ≠ 12) : cel (adu ad 13 i a) p' i' g = cel ad p' i' g := by
  have key : ∀ r j : Nat, r ≠ 13 → adu ad 13 i a r j = ad r j := fun r j hr => adu_n ad a (fun h => hr h.1)
  have hek : ∀ k j, adu ad 13 i a (elt k) j = ad (elt k) j := fun k j => key _ j (by unfold elt; split <;> decide)
  unfold cel
  split <;> first | rfl | exact absurd rfl h0 | (simp only [hek, key 1 _ (by decide), key 2 _ (by decide), key 3 _ (by decide), key 4 _ (by decide), key 5 _ (by decide), key 7 _ (by decide), key 8 _ (by decide), key 9 _ (by decide), key 10 _ (by decide), key 12 _ (by decide)]; done)
theorem mce_adu {ad : xAd} {p i a p' i' : Nat} {u : xS} (hp : p < 20) : mce (adu ad p i a) u p' i' = mce ad u p' i' := by
  have key : ∀ j : Nat, adu ad p i a 21 j = ad 21 j := fun j => adu_n ad a (fun h => by omega)
  unfold mce
  split
  · simp only [key]
  · rfl
section CLS2
variable {ad : xAd} {q : xL} {lo : Nat → Nat → Prop} {s u : xS} {co : Nat → Nat → xE} {t : xT}
/-- one more bill lives -/
def qB (q : xL) (b : Nat) : xL := (q.1, q.2.1, q.2.2.1, (fun i => q.2.2.2.1 i ∨ i = b), q.2.2.2.2)
theorem clv_qB {b p i : Nat} (h : clv (qB q b) lo p i) : clv q lo p i ∨ (p = 10 ∧ i = b) := by
  by_cases hp : p = 10
  · subst hp
    rcases h with h | h | h
    · exact Or.inl (Or.inl h)
    · exact Or.inl (Or.inr h)
    · exact Or.inr ⟨rfl, h⟩
  · left
    unfold clv at h ⊢
    split at h <;> first | exact absurd rfl hp | exact h
theorem RR_bill {b a : Nat} (hR : RR ad q lo s u co t) (hq : t a = none) (hb : ¬ clv q lo 10 b) (hn : ∀ l m, l < q.2.1 → m < 121 → 200 * l + m = b → s 9 l m = 0) : RR (adu ad 10 b a) (qB q b) lo (sup s 10 b (fun _ => 0)) u co (xup t a (.inr (0, [.int 0, .int 0, .int 0, .int 0]))) := by
  refine Rel.add hR hq hb (fun p' i' => clv_qB) (fun p' i' hl hne e hs => ?_) ?_
  · unfold xce at hs ⊢
    by_cases h20 : p' < 20
    · rw [if_pos h20] at hs ⊢
      rw [sup_n s _ hne]
      by_cases h0 : p' = 0
      · subst h0
        have hi : i' = 0 := hl
        subst hi
        have h99 : adu ad 10 b a 10 9999 = ad 10 9999 := adu_n ad a (fun h => hb (Or.inl h.2.symm))
        unfold cel at hs ⊢
        simp only [h99, adu_n ad (p := 10) (i := b) a (show ¬ (1 = 10 ∧ _) from fun h => by omega), adu_n ad (p := 10) (i := b) a (show ¬ (3 = 10 ∧ _) from fun h => by omega), adu_n ad (p := 10) (i := b) a (show ¬ (12 = 10 ∧ _) from fun h => by omega)]
        exact hs
      · by_cases h9 : p' = 9
        · subst h9
          have hi : i' < q.2.1 := hl
          obtain ⟨f, rfl, hf⟩ := sim_ref hs
          refine ⟨rfl, rfl, fun j hj => ?_⟩
          rw [hf j hj]
          show (if s 9 i' j = 0 then none else some (ad 10 (200 * i' + j))) = if s 9 i' j = 0 then none else some (adu ad 10 b a 10 (200 * i' + j))
          by_cases hz : s 9 i' j = 0
          · rw [if_pos hz, if_pos hz]
          · rw [if_neg hz, if_neg hz, adu_n ad a (fun h => hz (hn i' j hi hj h.2))]
        · rw [cel_adu10 h0 h9]
          exact hs
    · rw [if_neg h20] at hs ⊢
      rw [mce_adu (by decide)]
      exact hs
  · unfold xce
    rw [if_pos (by decide), sup_s]
    exact rfl
end CLS2
