/-! ===== the model's cells: reading and writing ===== -/
def minv (p i f : Nat) : Nat × Nat := match p with
  | 5 => (match f with | 0 => 3 | 3 => 5 | 5 => 6 | _ => 7, i)
  | 4 => if i < 400 then (9, (i - 200) * 121 + f) else (25, (i - 400) * 121 + f)
  | 11 => (match f with | 2 => 13 | 3 => 14 | 4 => 15 | 1 => 16 | _ => 17, i)
  | 6 => (match f with | 0 => 19 | 8 => 20 | 9 => 21 | 5 => 23 | _ => 24, i)
  | 9 => (26, i * 121 + f)
  | 10 => (match f with | 0 => 27 | 1 => 28 | 2 => 29 | _ => 30, i / 200 * 121 + i % 200)
  | 7 => (match f with | 0 => 31 | 1 => 32 | 2 => 33 | _ => 34, i)
  | _ => (i, f)
theorem mvr_inv {k j : Nat} (h : j < (mkd k).2) : minv (mvr k j).1 (mvr k j).2.1 (mvr k j).2.2 = (k, j) := by
  unfold mkd at h
  split at h <;> first
    | rfl
    | (exact absurd h (Nat.not_lt_zero j))
    | (show (if 200 + j / 121 < 400 then (9, (200 + j / 121 - 200) * 121 + j % 121) else (25, (200 + j / 121 - 400) * 121 + j % 121)) = _
       rw [if_pos (by simp only at h; omega)]
       congr 1
       simp only at h
       omega)
    | (show (if 400 + j / 121 < 400 then (9, (400 + j / 121 - 200) * 121 + j % 121) else (25, (400 + j / 121 - 400) * 121 + j % 121)) = _
       rw [if_neg (by omega)]
       congr 1
       omega)
    | (show (26, j / 121 * 121 + j % 121) = _
       congr 1
       omega)
    | (show (_, (200 * (j / 121) + j % 121) / 200 * 121 + (200 * (j / 121) + j % 121) % 200) = _
       congr 1
       omega)
theorem mvr_inj {k k' j j' : Nat} (h : j < (mkd k).2) (h' : j' < (mkd k').2) (e : mvr k j = mvr k' j') : k = k' ∧ j = j' := by
  have h1 := mvr_inv h
  rw [e, mvr_inv h'] at h1
  exact ⟨(Prod.mk.inj h1).1.symm, (Prod.mk.inj h1).2.symm⟩
theorem mvr_tag {k j : Nat} (h : j < (mkd k).2) : (mvr k j).1 ≠ 0 ∧ (mvr k j).1 ≠ 1 ∧ (mvr k j).1 ≠ 20 := by
  unfold mkd at h
  split at h <;> first | exact absurd h (Nat.not_lt_zero j) | exact ⟨Nat.ne_of_beq_eq_false rfl, Nat.ne_of_beq_eq_false rfl, Nat.ne_of_beq_eq_false rfl⟩
section MODEL
variable {ad : xAd} {q : xL} {lo : Nat → Nat → Prop} {s u : xS} {co : Nat → Nat → xE} {t : xT}
end MODEL
