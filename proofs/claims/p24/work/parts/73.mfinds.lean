section MM4
variable {ad : xAd} {q : xL} {lo : Nat → Nat → Prop} {s u : xS} {co : Nat → Nat → xE} {t : xT} {nf n nr : Nat}
def mput (f m : Nat) (x : Int) (u : xS) : xS := su (su u 4 (200 + f) m x) 5 f 4 (u 5 f 4 + x)
/-- what is known of a flat's uses ahead of a month -/
def okg (g : Nat → Int) (a : Int) (m : Nat) : Prop := (0 ≤ a ∧ a ≤ 1000) ∧ ∀ k, k < m → ((k : Int) < a → g k = -1) ∧ (a ≤ k → 0 ≤ g k ∧ g k ≤ 1000000)
theorem eg_none {g : Nat → Int} {a : Int} {m b : Nat} (h : okg g a m) (hb : 1 ≤ b) (hab : (m : Int) - b < a) : egS g m b = 0 ∧ egC g m b = 0 := by
  have : eg g m b = -1 := by
    unfold eg
    split
    · exact (h.2 (m - b) (by omega)).1 (by omega)
    · rfl
  unfold egS egC
  rw [this]
  exact ⟨rfl, rfl⟩
theorem eg_some {g : Nat → Int} {a : Int} {m b : Nat} (h : okg g a m) (hb : 1 ≤ b) (hab : a ≤ (m : Int) - b) : egS g m b = g (m - b) ∧ egC g m b = 1 ∧ 0 ≤ g (m - b) ∧ g (m - b) ≤ 1000000 := by
  have h0 := h.1
  have h2 := (h.2 (m - b) (by omega)).2 (by omega)
  have : eg g m b = g (m - b) := by
    unfold eg
    rw [if_pos (by omega)]
  unfold egS egC
  rw [this, if_neg (by omega), if_neg (by omega)]
  exact ⟨rfl, rfl, h2⟩
end MM4
