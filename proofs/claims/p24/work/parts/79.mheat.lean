/-- the same but for weights, shares, rests -/
def EM (u u' : xS) : Prop := ∀ p i k, ¬ (p = 21 ∧ (i = 35 ∨ i = 36 ∨ i = 37)) → u' p i k = u p i k
theorem EM.rf {u : xS} : EM u u := fun _ _ _ _ => rfl
theorem EM.tr {a b c : xS} (h : EM a b) (g : EM b c) : EM a c := fun p i k hp => (g p i k hp).trans (h p i k hp)
theorem EM.su {u : xS} {i k : Nat} {x : Int} (hi : i = 35 ∨ i = 36 ∨ i = 37) : EM u (su u 21 i k x) := fun p i' k' h => by
  rw [su_r, if_neg (fun e => h ⟨e.1, by rw [e.2.1]; exact hi⟩)]
theorem EM.lp {f : Nat → xS → xS} (hf : ∀ i u, EM u (f i u)) : ∀ (k i : Nat) (u : xS), EM u (lp f i k u) := by
  intro k
  induction k with
  | zero => exact fun _ _ => EM.rf
  | succ k ih => exact fun i u => EM.tr (hf i u) (ih (i + 1) (f i u))
theorem EM.mgv {n : Nat} {u : xS} : EM u (mgv n u) := EM.tr (EM.su (by decide)) (EM.su (by decide))
theorem EM.mtw {S A : Int} {l : Nat} {u : xS} : EM u (mtw S A l u) := EM.tr (EM.su (by decide)) (EM.su (by decide))
theorem EM.msb {n : Nat} {S A : Int} : ∀ (r i : Nat) (u : xS) (left : Int), EM u (msb n S A i r u left) := by
  intro r
  induction r with
  | zero =>
    intro i u left
    show EM u (itn (_root_.Jvm.Pilot.CRentStreamLaw_law_r6381_6d719a.mgv n) left.toNat u)
    generalize left.toNat = k
    induction k generalizing u with
    | zero => exact EM.rf
    | succ k ih => exact EM.tr EM.mgv (ih _)
  | succ r ih =>
    intro i u left
    exact EM.tr EM.mtw (ih _ _ _)
theorem EM.msw {n : Nat} {S : Int} {u : xS} : EM u (msw n S u) := by
  unfold _root_.Jvm.Pilot.CRentStreamLaw_law_r6381_6d719a.msw
  split
  · exact EM.msb _ _ _ _
  · exact EM.rf
theorem EM.mwS {m : Nat} {by1 : Int} {l : Nat} {u : xS} : EM u (mwS m by1 l u) := EM.su (by decide)
theorem EM.mwg {m : Nat} {by1 : Int} {l : Nat} {u u' : xS} (h : EM u u') : mwg m by1 u' l = mwg m by1 u l := by
  unfold _root_.Jvm.Pilot.CRentStreamLaw_law_r6381_6d719a.mwg mrunb
  rw [h 6 l 9 (by omega), h 21 22 l (by omega), h 6 l 0 (by omega), h 5 _ 0 (by omega), h 4 _ m (by omega)]
theorem EM.okmw {m l : Nat} {u u' : xS} (h : EM u u') (g : okmw m u l) : okmw m u' l := by
  unfold _root_.Jvm.Pilot.CRentStreamLaw_law_r6381_6d719a.okmw okml at g ⊢
  rw [h 6 l 0 (by omega), h 6 l 9 (by omega), h 21 22 l (by omega), h 5 _ 0 (by omega), h 4 _ m (by omega)]
  exact g
theorem mwS_at {m : Nat} {by1 : Int} : ∀ (r i : Nat) (u : xS) (l : Nat), lp (mwS m by1) i r u 21 35 l = if i ≤ l ∧ l < i + r then mwg m by1 u l else u 21 35 l := by
  intro r
  induction r with
  | zero =>
    intro i u l
    rw [if_neg (by omega)]
    rfl
  | succ r ih =>
    intro i u l
    show lp (mwS m by1) (i + 1) r (mwS m by1 i u) 21 35 l = _
    rw [ih, (EM.mwS : EM u (mwS m by1 i u)).mwg]
    by_cases c : l = i
    · subst c
      rw [if_neg (by omega), if_pos (by omega)]
      unfold mwS
      rw [su_r, if_pos ⟨rfl, rfl, rfl⟩]
    · have e1 : mwS m by1 i u 21 35 l = u 21 35 l := by
        unfold mwS
        rw [su_r, if_neg (fun h => c h.2.2)]
      rw [e1]
      by_cases c2 : i ≤ l ∧ l < i + (r + 1)
      · rw [if_pos (by omega), if_pos c2]
      · rw [if_neg (by omega), if_neg c2]
