section MM3
variable {ad : xAd} {q : xL} {lo : Nat → Nat → Prop} {s u : xS} {co : Nat → Nat → xE} {t : xT} {nf n nr : Nat}
def mtk (r : Nat) (u : xS) : xS := if u 11 r 0 = 0 ∧ clk (u 11 r 3) < u 0 0 8 - u 11 r 4 then su (su u 21 8 (u 11 r 2).toNat (u 21 8 (u 11 r 2).toNat + ppd (u 11 r 3))) 11 r 1 (u 11 r 1 + 1) else u
def okmr (u : xS) (r : Nat) : Prop := r < 60 ∧ (0 ≤ u 11 r 2 ∧ u 11 r 2 < 8) ∧ i32 (u 11 r 0) ∧ i32 (u 11 r 3) ∧ (0 ≤ u 11 r 4 ∧ u 11 r 4 ≤ 100000)
theorem mtk_o {r p i : Nat} (h8 : ¬ p = 21) (h11 : ¬ (p = 11 ∧ i = r)) : mtk r u p i = u p i := by
  unfold mtk
  split
  · rw [su_f _ h11, su_f _ (fun h => h8 h.1)]
  · rfl
theorem okmr_of {u' : xS} {r : Nat} (h : okmr u r) (e : u' 11 r = u 11 r) : okmr u' r := by
  unfold okmr at h ⊢
  rw [e]
  exact h
end MM3
