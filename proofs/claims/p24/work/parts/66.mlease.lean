section MC5
variable {ad : xAd} {q : xL} {lo : Nat → Nat → Prop} {s u : xS} {co : Nat → Nat → xE} {t : xT} {nf n nr : Nat}
/-- whether a lease runs in a month, in the model -/
def mrunb (u : xS) (l : Nat) (m : Int) : Int := if u 6 l 9 ≤ m ∧ m ≤ u 21 22 l then 1 else 0
theorem mrunb_01 (u : xS) (l : Nat) (m : Int) : mrunb u l m = 0 ∨ mrunb u l m = 1 := by
  unfold mrunb
  split <;> simp
def okml (u : xS) (l : Nat) : Prop := l < 12 ∧ i32 (u 6 l 0) ∧ i32 (u 6 l 9) ∧ i32 (u 21 22 l)
/-- whether a flat is let on, in the model -/
def mLet (u : xS) (n : Nat) (f : Int) : Prop := ∃ l, l < n ∧ u 6 l 0 = f ∧ mrunb u l (u 0 0 8 / 30 + 1) = 1
end MC5
