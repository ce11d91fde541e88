/-! ===== the model shares the heat ===== -/
section MM5
variable {ad : xAd} {q : xL} {lo : Nat → Nat → Prop} {s u : xS} {co : Nat → Nat → xE} {t : xT} {nf n nr : Nat}
/-- what a lease weighs, by use or by rooms -/
def mwg (m : Nat) (by1 : Int) (u : xS) (l : Nat) : Int := if mrunb u l m = 0 then 0 else if by1 = 0 then u 5 (u 6 l 0).toNat 0 else u 4 (200 + (u 6 l 0).toNat) m
def mwS (m : Nat) (by1 : Int) (l : Nat) (u : xS) : xS := su u 21 35 l (mwg m by1 u l)
def okmw (m : Nat) (u : xS) (l : Nat) : Prop := okml u l ∧ (0 ≤ u 6 l 0 ∧ u 6 l 0 < 8) ∧ i32 (u 5 (u 6 l 0).toNat 0) ∧ i32 (u 4 (200 + (u 6 l 0).toNat) m)
theorem mwg_o {m : Nat} {by1 x : Int} {l j : Nat} : mwg m by1 (su u 21 35 j x) l = mwg m by1 u l := by
  unfold mwg mrunb
  have e : ∀ p i k, ¬ (p = 21 ∧ i = 35 ∧ k = j) → su u 21 35 j x p i k = u p i k := fun p i k h => by rw [su_r, if_neg h]
  rw [e 6 l 9 (by omega), e 21 22 l (by omega), e 6 l 0 (by omega), e 5 _ 0 (by omega), e 4 _ m (by omega)]
end MM5
