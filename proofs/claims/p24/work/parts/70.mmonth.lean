/-! ===== the model's incomes, benefits, rents ===== -/
section MM1
variable {ad : xAd} {q : xL} {lo : Nat → Nat → Prop} {s u : xS} {co : Nat → Nat → xE} {t : xT} {nf n nr : Nat}
theorem at_rd {k l m : Nat} (hm : m < 121) : mvr k 0 = mvr k 0 ∧ (121 * l + m) / 121 = l ∧ (121 * l + m) % 121 = m := ⟨rfl, by omega, by omega⟩
end MM1
