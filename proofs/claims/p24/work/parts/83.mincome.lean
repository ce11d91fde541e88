/-! ===== the model is told an income ===== -/
def mTd (l : Nat) (x : Int) (u : xS) : xS := su (su u 6 l 5 (u 6 l 5 + x)) 6 l 6 (u 6 l 6 - x)
def mInc (l m e : Nat) (x : Int) (u : xS) : xS := mTd l (bnLs l m (e - m) (su (su u 20 0 0 0) 4 (400 + l) m x) 0) (lp (bnA l) m (e - m) (su (su u 20 0 0 0) 4 (400 + l) m x))
section MM13
variable {ad : xAd} {q : xL} {lo : Nat → Nat → Prop} {s u : xS} {co : Nat → Nat → xE} {t : xT} {nf n nr : Nat}
theorem okBl_bnA {l m m' : Nat} (hbl : okBl u l m') (hr : 0 ≤ bnV l m u ∧ bnV l m u ≤ 1000000) : okBl (bnA l m u) l m' := by
  by_cases c : u 9 l m = 0
  · have e1 : bnA l m u = u := by unfold bnA; rw [if_pos c]
    rw [e1]
    exact hbl
  · have e1 : bnA l m u = su u 10 (200 * l + m) 2 (bnV l m u) := by unfold bnA; rw [if_neg c]
    rw [e1]
    unfold okBl at hbl ⊢
    simp (config := { decide := true }) only [su_r, su_f, sup_n, not_false_eq_true, eq_self_iff_true, true_or, or_true, false_or, or_false, true_and, and_true, false_and, and_false, if_true, if_false, ite_true, ite_false]
    intro h9
    have := hbl h9
    by_cases cc : m' = m
    · subst cc
      simp only [eq_self_iff_true, if_true]
      exact ⟨this.1, this.2.1, hr, this.2.2.2⟩
    · simp only [show ¬ (200 * l + m' = 200 * l + m) by omega, if_false]
      exact this
end MM13
