section MM7
variable {ad : xAd} {q : xL} {lo : Nat → Nat → Prop} {s u : xS} {co : Nat → Nat → xE} {t : xT} {nf n nr : Nat}
theorem mgv_o {n p i k : Nat} {u : xS} (h : ¬ (p = 21 ∧ (i = 36 ∨ i = 37))) : mgv n u p i k = u p i k := by
  unfold mgv
  rw [su_r, if_neg (by omega), su_r, if_neg (by omega)]
end MM7
