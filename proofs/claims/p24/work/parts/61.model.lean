/-! ===== the model's cells: reading and writing ===== -/
def minv (p i f : Nat) : Nat × Nat := match p with
  | 5 => (match f with | 0 => 3 | 3 => 5 | 5 => 6 | _ => 7, i)
  | 4 => if i < 400 then (9, (i - 200) * 121 + f) else (25, (i - 400) * 121 + f)
  | 11 => (match f with | 2 => 13 | 3 => 14 | 4 => 15 | 1 => 16 | _ => 17, i)
  | 6 => (match f with | 0 => 19 | 8 => 20 | 9 => 21 | 5 => 23 | _ => 24, i)
  | 9 => (26, i * 121 + f)
  | 10 => (match f with | 0 => 27 | 1 => 28 | 2 => 29 | _ => 30, i / 200 * 121 + i % 200)
  | 7 => (match f with | 0 => 31 | 1 => 32 | 2 => 33 | _ => 34, i)
  | _ => (i, f)
theorem mvr_inv {k j : Nat} (h : j < (mkd k).2) : minv (mvr k j).1 (mvr k j).2.1 (mvr k j).2.2 = (k, j) := by
  unfold mkd at h
  split at h <;> first
    | rfl
    | (exact absurd h (Nat.not_lt_zero j))
    | (show (if 200 + j / 121 < 400 then (9, (200 + j / 121 - 200) * 121 + j % 121) else (25, (200 + j / 121 - 400) * 121 + j % 121)) = _
       rw [if_pos (by simp only at h; omega)]
       congr 1
       simp only at h
       omega)
    | (show (if 400 + j / 121 < 400 then (9, (400 + j / 121 - 200) * 121 + j % 121) else (25, (400 + j / 121 - 400) * 121 + j % 121)) = _
       rw [if_neg (by omega)]
       congr 1
       omega)
    | (show (26, j / 121 * 121 + j % 121) = _
       congr 1
       omega)
    | (show (_, (200 * (j / 121) + j % 121) / 200 * 121 + (200 * (j / 121) + j % 121) % 200) = _
       congr 1
       omega)
theorem mvr_inj {k k' j j' : Nat} (h : j < (mkd k).2) (h' : j' < (mkd k').2) (e : mvr k j = mvr k' j') : k = k' ∧ j = j' := by
  have h1 := mvr_inv h
  rw [e, mvr_inv h'] at h1
  exact ⟨(Prod.mk.inj h1).1.symm, (Prod.mk.inj h1).2.symm⟩
theorem mvr_tag {k j : Nat} (h : j < (mkd k).2) : (mvr k j).1 ≠ 0 ∧ (mvr k j).1 ≠ 1 ∧ (mvr k j).1 ≠ 20 := by
  unfold mkd at h
  split at h <;> first | exact absurd h (Nat.not_lt_zero j) | exact ⟨Nat.ne_of_beq_eq_false rfl, Nat.ne_of_beq_eq_false rfl, Nat.ne_of_beq_eq_false rfl⟩
theorem clv21 {q : xL} {lo : Nat → Nat → Prop} {k j : Nat} (hk : k < 40) (hj : j < (mkd k).2) : clv q lo 21 k := by
  show k < if (mkd k).2 = 0 then 0 else 40
  rw [if_neg (by omega)]
  exact hk
section MODEL
variable {ad : xAd} {q : xL} {lo : Nat → Nat → Prop} {s u : xS} {co : Nat → Nat → xE} {t : xT}
theorem xce_u {u' : xS} {p i : Nat} (h : p < 20 ∨ 22 ≤ p) : xce ad s u' co p i = xce ad s u co p i := by
  unfold xce
  rcases h with h | h
  · rw [if_pos h, if_pos h]
  · rw [if_neg (by omega), if_neg (by omega), if_neg (by omega), if_neg (by omega)]
theorem Rel.up2 {ad : xAd} {lv : Nat → Nat → Prop} {ce ce' : Nat → Nat → xE} {t : xT} {p i : Nat} {e : xE} (h : Rel ad lv ce t) (hl : lv p i) (hs : sim e (ce' p i)) (ho : ∀ p' i', lv p' i' → ¬ (p' = p ∧ i' = i) → ∀ e, sim e (ce p' i') → sim e (ce' p' i')) : Rel ad lv ce' (xup t (ad p i) e) := by
  refine ⟨fun p' i' hl' => ?_, h.2⟩
  by_cases hq : p' = p ∧ i' = i
  · obtain ⟨rfl, rfl⟩ := hq
    exact ⟨e, xup_s _ _ _, hs⟩
  · obtain ⟨e', h1, h2⟩ := h.1 p' i' hl'
    refine ⟨e', ?_, ho p' i' hl' hq _ h2⟩
    rw [xup_n _ _ (fun ha => hq (h.2 _ _ _ _ hl' hl ha))]
    exact h1
theorem mce_sim {u' : xS} {k : Nat} {e : xE} (hm : ∀ j, j < (mkd k).2 → mva u' k j = mva u k j) (h : sim e (mce ad u 21 k)) : sim e (mce ad u' 21 k) := by
  have e1 : ∀ v : xS, mce ad v 21 k = if (mkd k).1 = 1 then .inl (1, (mkd k).2, .inr (.inl (fun j => J (mva v k j)))) else .inl ((mkd k).1, (mkd k).2, .inl (fun j => I (mva v k j))) := fun v => rfl
  rw [e1] at h ⊢
  by_cases c : (mkd k).1 = 1
  · rw [if_pos c] at h ⊢
    obtain ⟨f, rfl, hf⟩ := sim_long h
    exact ⟨rfl, rfl, fun j hj => by rw [hf j hj, ← hm j hj]⟩
  · rw [if_neg c] at h ⊢
    obtain ⟨f, rfl, hf⟩ := sim_int h
    exact ⟨rfl, rfl, fun j hj => by rw [hf j hj, ← hm j hj]⟩
/-- what a write leaves alone -/
theorem msim {p i f : Nat} {x : Int} {p' i' p0 i0 : Nat} (hl : clv q lo p' i') (hq : ¬ (p' = p0 ∧ i' = i0)) (h20 : p' = 20 → mce ad (su u p i f x) 20 0 = mce ad u 20 0) (h21 : p' = 21 → ∀ j, j < (mkd i').2 → mva (su u p i f x) i' j = mva u i' j) {e : xE} (h : sim e (xce ad s u co p' i')) : sim e (xce ad s (su u p i f x) co p' i') := by
  by_cases hc : p' < 20 ∨ 22 ≤ p'
  · rw [xce_u hc]
    exact h
  · have hc2 : p' = 20 ∨ p' = 21 := by omega
    rcases hc2 with rfl | rfl
    · have hi : i' = 0 := hl
      subst hi
      show sim e (mce ad (su u p i f x) 20 0)
      rw [h20 rfl]
      exact h
    · exact mce_sim (ad := ad) (h21 rfl) h
theorem mob {u : xS} {p i f : Nat} {x : Int} (h0 : p ≠ 0) (h1 : p ≠ 1) (h20 : p ≠ 20) : mce ad (su u p i f x) 20 0 = mce ad u 20 0 := by
  have e : ∀ a b c, a = 0 ∨ a = 1 ∨ a = 20 → su u p i f x a b c = u a b c := fun a b c h => by
    rw [su_r, if_neg]
    omega
  unfold mce
  simp only [e 20 _ _ (by decide), e 0 _ _ (by decide), e 1 _ _ (by decide)]
end MODEL
