/-! ===== the model's line ===== -/
theorem nrw_char {c : Int} (h : 0 ≤ c ∧ c ≤ 127) : narrow .char (.int (I c)) = .int (I c) := by
  obtain ⟨k, rfl⟩ : ∃ k : Nat, c = k := ⟨c.toNat, by omega⟩
  have hk : k < 128 := by omega
  clear h
  revert k
  decide +kernel
section MM15
variable {ad : xAd} {q : xL} {lo : Nat → Nat → Prop} {s u : xS} {co : Nat → Nat → xE} {t : xT} {nf n nr : Nat} {l : List Int}
theorem am_len2 {c v : Int} : (am c v).length ≤ 12 := am_len
end MM15
