section START2
variable {E : Nat → Nat} {ad : xAd} {q : xL} {lo : Nat → Nat → Prop} {s u u' : xS} {co : Nat → Nat → xE} {t : xT}
theorem cel_adu35 {a p i : Nat} {g : Nat → Int} : cel (adu ad 35 0 a) p i g = cel ad p i g := by
  have e : ∀ p i, p ≠ 35 → adu ad 35 0 a p i = ad p i := fun p i hp => adu_n ad a (fun h => hp h.1)
  unfold cel
  split
  all_goals try simp only [e _ _ (show (1 : Nat) ≠ 35 by decide), e _ _ (show (3 : Nat) ≠ 35 by decide), e _ _ (show (12 : Nat) ≠ 35 by decide), e _ _ (show (10 : Nat) ≠ 35 by decide), e _ _ (show (2 : Nat) ≠ 35 by decide), e _ _ (show (4 : Nat) ≠ 35 by decide), e _ _ (show (5 : Nat) ≠ 35 by decide), e _ _ (show (7 : Nat) ≠ 35 by decide), e _ _ (show (8 : Nat) ≠ 35 by decide), e _ _ (show (9 : Nat) ≠ 35 by decide), e _ _ (show (13 : Nat) ≠ 35 by decide)]
  · congr 7
    funext j
    have : ∀ k, elt k ≠ 35 := fun k => by
      unfold elt
      split <;> decide
    rw [e _ _ (this i)]
theorem mce_adu35 {a p i : Nat} : mce (adu ad 35 0 a) u p i = mce ad u p i := by
  have e : ∀ p i, p ≠ 35 → adu ad 35 0 a p i = ad p i := fun p i hp => adu_n ad a (fun h => hp h.1)
  unfold mce
  split
  · simp only [e _ _ (show (21 : Nat) ≠ 35 by decide)]
  · rfl
def lo1 (p i : Nat) : Prop := lo0 p i ∨ (p = 35 ∧ i = 0)
theorem RR_out {a : Nat} {w : Int64} (hR : RR ad q0 lo0 s u (coE E) t) (hq : t a = none) : RR (adu ad 35 0 a) q0 lo1 s u (coE E) (xup t a (.inl (1, (1 : Int32).toNatClampNeg, .inr (.inl (fun _ => 0))))) := by
  refine Rel.add hR hq (p := 35) (i := 0) (fun h => ?_) (fun p i h => ?_) (fun p i hl hn e h => ?_) ⟨rfl, rfl, fun j hj => rfl⟩
  · obtain ⟨h, -⟩ : lo0 35 0 := h
    omega
  · unfold clv at h ⊢
    split at h
    all_goals first
      | exact Or.inl h
      | exact h.imp id id
  · unfold xce at h ⊢
    by_cases c1 : p < 20
    · rw [if_pos c1] at h ⊢
      rw [cel_adu35]
      exact h
    · rw [if_neg c1] at h ⊢
      by_cases c2 : p < 22
      · rw [if_pos c2] at h ⊢
        rw [mce_adu35]
        exact h
      · rw [if_neg c2] at h ⊢
        exact h
theorem first_GQ (h2 : ∀ k, ad 2 k = E 0) : GQ E ad q0 s0i := by
  have hl : ∀ k, LQ E ad q0 s0i k 0 := fun k => ⟨⟨rfl, Int.le_refl 0, show (0 : Int) ≤ 1000 by decide, fun j hj => absurd hj (Nat.not_lt_zero j), fun h => absurd h (by decide)⟩, fun j _ => rfl, Or.inl ⟨rfl, h2 k⟩, show (0 : Int) ≤ 100 by decide⟩
  refine ⟨hl 0, hl 1, hl 2, fun l m hl => absurd hl (Nat.not_lt_zero l), ⟨⟨by decide, by decide⟩, ⟨by decide, by decide⟩, fun j _ => ?_⟩, ⟨by decide, by decide, by decide⟩, fun i h => h.elim⟩
  show -128 ≤ (if j + 1 = 0 then (16 : Int) else 0) ∧ (if j + 1 = 0 then (16 : Int) else 0) ≤ 127
  rw [if_neg (by omega)]
  decide
theorem first_DRel {D P : Int} : DRel 0 0 0 D P s0i u0i := by
  refine ⟨⟨⟨fun f hf => absurd hf (Nat.not_lt_zero f), fun l hl => absurd hl (Nat.not_lt_zero l), fun l hl => absurd hl (Nat.not_lt_zero l), fun r hr => absurd hr (Nat.not_lt_zero r), ⟨by decide, fun m _ => ⟨by show 50 ≤ (100 : Int) ∧ (100 : Int) ≤ 200; decide, by show 0 ≤ (0 : Int) ∧ (0 : Int) ≤ 10000000; decide⟩⟩, fun m _ _ => ⟨rfl, fun f hf => absurd hf (Nat.not_lt_zero f)⟩, fun l hl => absurd hl (Nat.not_lt_zero l), rfl, ⟨fun f _ hf => ⟨rfl, rfl, fun m => ?_, fun m => ?_⟩, fun l _ hl => ⟨rfl, rfl, fun _ _ => rfl, fun _ => rfl, fun m => ?_⟩, fun r _ _ => ⟨rfl, rfl⟩⟩⟩, fun p i k hc => ?_, ⟨fun m hm => ?_, rfl, rfl, fun f hf => ?_, fun l hl => absurd hl (Nat.not_lt_zero l)⟩, fun f hf => absurd hf (Nat.not_lt_zero f)⟩, ⟨by decide, by decide⟩⟩
  · show (if 200 + f = 0 then (100 : Int) else if 200 + f = 100 then 0 else if 300 ≤ 200 + f ∧ 200 + f < 400 then 0 else -1) = -1
    rw [if_neg (by omega), if_neg (by omega), if_neg (by omega)]
  · show (if 300 + f = 0 then (100 : Int) else if 300 + f = 100 then 0 else if 300 ≤ 300 + f ∧ 300 + f < 400 then 0 else -1) = 0
    rw [if_neg (by omega), if_neg (by omega), if_pos (by omega)]
  · show (if 400 + l = 0 then (100 : Int) else if 400 + l = 100 then 0 else if 300 ≤ 400 + l ∧ 400 + l < 400 then 0 else -1) = -1
    rw [if_neg (by omega), if_neg (by omega), if_neg (by omega)]
  · unfold Cm at hc
    split at hc
    · obtain ⟨rfl, rfl⟩ := hc
      rfl
    · rfl
    · rfl
    · rfl
    · rfl
    · rfl
    · rfl
    · rfl
    · rfl
    · exact hc.elim
  · have hm0 : m = 0 := by
      have : nowN s0i = 0 := rfl
      omega
    subst hm0
    rfl
  · show (0 : Int) = (if 300 + f = 0 then (100 : Int) else if 300 + f = 100 then 0 else if 300 ≤ 300 + f ∧ 300 + f < 400 then 0 else -1)
    rw [if_neg (by omega), if_neg (by omega), if_pos (by omega)]
end START2
