/-! ===== the text of a line: the builder ===== -/
theorem sh0r (x : Int32) : x >>> ((0 : Int32) &&& 31) = x := by simp
theorem sh0l (x : Int32) : x <<< ((0 : Int32) &&& 31) = x := by simp
section SBS
variable {ad : xAd} {q : xL} {lo : Nat → Nat → Prop} {s u : xS} {co : Nat → Nat → xE} {t : xT} {rc rs : Nat}
theorem RR_sb {a : Nat} {e1 e2 : xE} {g : Nat → Int} (hR : RR ad q lo s u co t) (ha : t a = none) (hs : sim e2 (cel ad 13 0 g)) : RR (adu ad 13 0 a) q lo (sup s 13 0 g) u co (xup (xup (xup t a e1) a e2) (ad 12 0) (.inr (9, [.ref a, .int 0, .int (I (s 12 0 2)), .int (I (s 12 0 3))]))) := by
  have hne : ∀ p i, clv q lo p i → ad p i ≠ a := by
    intro p i hl e
    obtain ⟨x, h1, -⟩ := hR.1 p i hl
    rw [e, ha] at h1
    cases h1
  have h12 : clv q lo 12 0 := rfl
  refine ⟨fun p i hl => ?_, fun p1 i1 p2 i2 g1 g2 e => ?_⟩
  · by_cases c13 : p = 13
    · subst c13
      have hi : i = 0 := hl
      subst hi
      rw [adu_s, xup_n _ _ (fun e => hne 12 0 h12 e.symm), xup_s]
      refine ⟨e2, rfl, ?_⟩
      unfold xce
      rw [if_pos (by decide), sup_s]
      exact hs
    · rw [adu_n ad a (fun h => c13 h.1)]
      by_cases c12 : p = 12
      · subst c12
        have hi : i = 0 := hl
        subst hi
        rw [xup_s]
        refine ⟨_, rfl, ?_⟩
        unfold xce
        rw [if_pos (by decide), sup_n _ _ (by omega)]
        rw [show cel (adu ad 13 0 a) 12 0 (s 12 0) = .inr (9, [.ref (adu ad 13 0 a 13 0), .int 0, .int (I (s 12 0 2)), .int (I (s 12 0 3))]) from rfl, adu_s]
        exact rfl
      · have hx : ad p i ≠ ad 12 0 := fun e => c12 (hR.2 _ _ _ _ hl h12 e).1
        rw [xup_n _ _ hx, xup_n _ _ (hne p i hl), xup_n _ _ (hne p i hl)]
        obtain ⟨x, h1, h2⟩ := hR.1 p i hl
        refine ⟨x, h1, ?_⟩
        unfold xce at h2 ⊢
        by_cases h20 : p < 20
        · rw [if_pos h20] at h2 ⊢
          rw [sup_n _ _ (by omega), cel_adu13 c12]
          exact h2
        · rw [if_neg h20] at h2 ⊢
          rw [mce_adu (by decide)]
          exact h2
  · have hz : ∀ j, clv q lo 13 j → j = 0 := fun j h => h
    by_cases h1 : p1 = 13
    · subst h1
      have := hz _ g1
      subst this
      by_cases h2 : p2 = 13
      · subst h2
        exact ⟨rfl, (hz _ g2).symm⟩
      · rw [adu_s, adu_n ad a (fun h => h2 h.1)] at e
        exact absurd e.symm (hne _ _ g2)
    · by_cases h2 : p2 = 13
      · subst h2
        have := hz _ g2
        subst this
        rw [adu_s, adu_n ad a (fun h => h1 h.1)] at e
        exact absurd e (hne _ _ g1)
      · rw [adu_n ad a (fun h => h1 h.1), adu_n ad a (fun h => h2 h.1)] at e
        exact hR.2 _ _ _ _ g1 g2 e
/-- the builder: its room and its bytes are in range -/
def SBk (s : xS) : Prop := (0 ≤ s 12 0 3 ∧ s 12 0 3 ≤ s 13 0 0) ∧ (s 13 0 0 = 16 ∨ s 13 0 0 = 34 ∨ (70 ≤ s 13 0 0 ∧ s 13 0 0 ≤ 300)) ∧ ∀ j : Nat, (j : Int) < s 13 0 0 → -128 ≤ s 13 0 (j + 1) ∧ s 13 0 (j + 1) ≤ 127
def ncap (c need : Int) : Int := if need - c < c + 2 then c + (c + 2) else c + (need - c)
def grown (s : xS) (need : Int) : xS := sup s 13 0 (fun k => if k = 0 then ncap (s 13 0 0) need else if (k : Int) ≤ s 13 0 0 then s 13 0 k else 0)
theorem fits_byte {z : Int} (h : -128 ≤ z ∧ z ≤ 127) : fits .byte (.int (I z)) = true := by
  simp [fits]
  exact ⟨(by (try simp only [I_lit, J_lit, I_ofNat, I_neg, I_add, I_sub, I_mul, J_neg, J_add, J_sub, J_mul]); first | (rw [I_lt ⟨by omega, by omega⟩ ⟨by omega, by omega⟩]; omega) | (rw [I_le ⟨by omega, by omega⟩ ⟨by omega, by omega⟩]; omega) | (rw [I_eq ⟨by omega, by omega⟩ ⟨by omega, by omega⟩]; omega) | (rw [J_lt ⟨by omega, by omega⟩ ⟨by omega, by omega⟩]; omega) | (rw [J_le ⟨by omega, by omega⟩ ⟨by omega, by omega⟩]; omega) | (rw [J_eq ⟨by omega, by omega⟩ ⟨by omega, by omega⟩]; omega)), (by (try simp only [I_lit, J_lit, I_ofNat, I_neg, I_add, I_sub, I_mul, J_neg, J_add, J_sub, J_mul]); first | (rw [I_lt ⟨by omega, by omega⟩ ⟨by omega, by omega⟩]; omega) | (rw [I_le ⟨by omega, by omega⟩ ⟨by omega, by omega⟩]; omega) | (rw [I_eq ⟨by omega, by omega⟩ ⟨by omega, by omega⟩]; omega) | (rw [J_lt ⟨by omega, by omega⟩ ⟨by omega, by omega⟩]; omega) | (rw [J_le ⟨by omega, by omega⟩ ⟨by omega, by omega⟩]; omega) | (rw [J_eq ⟨by omega, by omega⟩ ⟨by omega, by omega⟩]; omega))⟩
theorem copy_min {n m : Int} (hn : 0 ≤ n ∧ n ≤ 1000) (hm : 0 ≤ m ∧ m ≤ 1000) (h : n ≤ m) : (if I m < I n then I m else I n) = I n := by
  by_cases c : I m < I n
  · rw [I_lt ⟨by omega, by omega⟩ ⟨by omega, by omega⟩] at c
    omega
  · rw [if_neg c]
theorem sp_ensure {K : xT → Prop} {need : Int} (hR : RR ad q lo s u co t) (hS : SBk s) (hn : 0 ≤ need ∧ need ≤ 69) (h1 : s 13 0 0 < need → 1 ≤ rc ∧ 140 ≤ rs) (k0 : need ≤ s 13 0 0 → K t) (k1 : s 13 0 0 < need → ∀ a t', RR (adu ad 13 0 a) q lo (grown s need) u co t' → K t') : V_J5_ensureCapacityInternal_d00df_0 K (ad 12 0) (I need) t rc rs := by
  obtain ⟨hc, hC, hB⟩ := hS
  unfold V_J5_ensureCapacityInternal_d00df_0
  refine xgR_R hR (by simp only [clv, eq_self_iff_true, true_or, or_true, false_or, or_false, true_and, and_true, false_and, and_false] <;> omega) rfl rfl ?_
  refine xal_I hR (p := 13) (i := 0) rfl rfl ?_
  refine xgI_R hR (by simp only [clv, eq_self_iff_true, true_or, or_true, false_or, or_false, true_and, and_true, false_and, and_false] <;> omega) rfl rfl ?_
  rw [show (((s 13 0 0).toNat : Nat) : Int) = s 13 0 0 by omega, sh0r, I_sub]
  by_cases c : need ≤ s 13 0 0
  · exact xbt (by (try simp only [I_lit, J_lit, I_ofNat, I_neg, I_add, I_sub, I_mul, J_neg, J_add, J_sub, J_mul]); first | (rw [I_lt ⟨by omega, by omega⟩ ⟨by omega, by omega⟩]; omega) | (rw [I_le ⟨by omega, by omega⟩ ⟨by omega, by omega⟩]; omega) | (rw [I_eq ⟨by omega, by omega⟩ ⟨by omega, by omega⟩]; omega) | (rw [J_lt ⟨by omega, by omega⟩ ⟨by omega, by omega⟩]; omega) | (rw [J_le ⟨by omega, by omega⟩ ⟨by omega, by omega⟩]; omega) | (rw [J_eq ⟨by omega, by omega⟩ ⟨by omega, by omega⟩]; omega)) (k0 c)
  · refine xbf (by (try simp only [I_lit, J_lit, I_ofNat, I_neg, I_add, I_sub, I_mul, J_neg, J_add, J_sub, J_mul]); first | (rw [I_lt ⟨by omega, by omega⟩ ⟨by omega, by omega⟩]; omega) | (rw [I_le ⟨by omega, by omega⟩ ⟨by omega, by omega⟩]; omega) | (rw [I_eq ⟨by omega, by omega⟩ ⟨by omega, by omega⟩]; omega) | (rw [J_lt ⟨by omega, by omega⟩ ⟨by omega, by omega⟩]; omega) | (rw [J_le ⟨by omega, by omega⟩ ⟨by omega, by omega⟩]; omega) | (rw [J_eq ⟨by omega, by omega⟩ ⟨by omega, by omega⟩]; omega)) ?_
    have hk1 := k1 (by omega)
    obtain ⟨hrc, hrs⟩ := h1 (by omega)
    refine xgR_R hR (by simp only [clv, eq_self_iff_true, true_or, or_true, false_or, or_false, true_and, and_true, false_and, and_false] <;> omega) rfl rfl ?_
    refine ⟨xis_R hR (by simp only [clv, eq_self_iff_true, true_or, or_true, false_or, or_false, true_and, and_true, false_and, and_false] <;> omega) rfl, ?_⟩
    unfold V_J5_newCapacity_0f7a4_0
    refine xgR_R hR (by simp only [clv, eq_self_iff_true, true_or, or_true, false_or, or_false, true_and, and_true, false_and, and_false] <;> omega) rfl rfl ?_
    refine xal_I hR (p := 13) (i := 0) rfl rfl ?_
    refine xgI_R hR (by simp only [clv, eq_self_iff_true, true_or, or_true, false_or, or_false, true_and, and_true, false_and, and_false] <;> omega) rfl rfl ?_
    refine xgI_R hR (by simp only [clv, eq_self_iff_true, true_or, or_true, false_or, or_false, true_and, and_true, false_and, and_false] <;> omega) rfl rfl ?_
    rw [show (((s 13 0 0).toNat : Nat) : Int) = s 13 0 0 by omega, sh0l, sh0l, I_sub, show (2 : Int32) = I 2 from rfl, I_add]
    unfold V_J8_newLength_cabcc_0
    have em : (if I (need - s 13 0 0) < I (s 13 0 0 + 2) then I (s 13 0 0 + 2) else I (need - s 13 0 0)) = I (if need - s 13 0 0 < s 13 0 0 + 2 then s 13 0 0 + 2 else need - s 13 0 0) := by
      by_cases cc : need - s 13 0 0 < s 13 0 0 + 2
      · rw [if_pos cc, if_pos (by (try simp only [I_lit, J_lit, I_ofNat, I_neg, I_add, I_sub, I_mul, J_neg, J_add, J_sub, J_mul]); first | (rw [I_lt ⟨by omega, by omega⟩ ⟨by omega, by omega⟩]; omega) | (rw [I_le ⟨by omega, by omega⟩ ⟨by omega, by omega⟩]; omega) | (rw [I_eq ⟨by omega, by omega⟩ ⟨by omega, by omega⟩]; omega) | (rw [J_lt ⟨by omega, by omega⟩ ⟨by omega, by omega⟩]; omega) | (rw [J_le ⟨by omega, by omega⟩ ⟨by omega, by omega⟩]; omega) | (rw [J_eq ⟨by omega, by omega⟩ ⟨by omega, by omega⟩]; omega))]
      · rw [if_neg cc, if_neg (by (try simp only [I_lit, J_lit, I_ofNat, I_neg, I_add, I_sub, I_mul, J_neg, J_add, J_sub, J_mul]); first | (rw [I_lt ⟨by omega, by omega⟩ ⟨by omega, by omega⟩]; omega) | (rw [I_le ⟨by omega, by omega⟩ ⟨by omega, by omega⟩]; omega) | (rw [I_eq ⟨by omega, by omega⟩ ⟨by omega, by omega⟩]; omega) | (rw [J_lt ⟨by omega, by omega⟩ ⟨by omega, by omega⟩]; omega) | (rw [J_le ⟨by omega, by omega⟩ ⟨by omega, by omega⟩]; omega) | (rw [J_eq ⟨by omega, by omega⟩ ⟨by omega, by omega⟩]; omega))]
    have en : s 13 0 0 + (if need - s 13 0 0 < s 13 0 0 + 2 then s 13 0 0 + 2 else need - s 13 0 0) = ncap (s 13 0 0) need := by
      unfold ncap
      split <;> rfl
    rw [em, I_add, en]
    have hN : need ≤ ncap (s 13 0 0) need ∧ s 13 0 0 < ncap (s 13 0 0) need ∧ ncap (s 13 0 0) need ≤ 140 := by
      unfold ncap
      split <;> omega
    refine xbf (by (try simp only [I_lit, J_lit, I_ofNat, I_neg, I_add, I_sub, I_mul, J_neg, J_add, J_sub, J_mul]); first | (rw [I_lt ⟨by omega, by omega⟩ ⟨by omega, by omega⟩]; omega) | (rw [I_le ⟨by omega, by omega⟩ ⟨by omega, by omega⟩]; omega) | (rw [I_eq ⟨by omega, by omega⟩ ⟨by omega, by omega⟩]; omega) | (rw [J_lt ⟨by omega, by omega⟩ ⟨by omega, by omega⟩]; omega) | (rw [J_le ⟨by omega, by omega⟩ ⟨by omega, by omega⟩]; omega) | (rw [J_eq ⟨by omega, by omega⟩ ⟨by omega, by omega⟩]; omega)) (xbf (by (try simp only [I_lit, J_lit, I_ofNat, I_neg, I_add, I_sub, I_mul, J_neg, J_add, J_sub, J_mul]); first | (rw [I_lt ⟨by omega, by omega⟩ ⟨by omega, by omega⟩]; omega) | (rw [I_le ⟨by omega, by omega⟩ ⟨by omega, by omega⟩]; omega) | (rw [I_eq ⟨by omega, by omega⟩ ⟨by omega, by omega⟩]; omega) | (rw [J_lt ⟨by omega, by omega⟩ ⟨by omega, by omega⟩]; omega) | (rw [J_le ⟨by omega, by omega⟩ ⟨by omega, by omega⟩]; omega) | (rw [J_eq ⟨by omega, by omega⟩ ⟨by omega, by omega⟩]; omega)) ?_)
    refine xsf (by (try simp only [I_lit, J_lit, I_ofNat, I_neg, I_add, I_sub, I_mul, J_neg, J_add, J_sub, J_mul]); first | (rw [I_lt ⟨by omega, by omega⟩ ⟨by omega, by omega⟩]; omega) | (rw [I_le ⟨by omega, by omega⟩ ⟨by omega, by omega⟩]; omega) | (rw [I_eq ⟨by omega, by omega⟩ ⟨by omega, by omega⟩]; omega) | (rw [J_lt ⟨by omega, by omega⟩ ⟨by omega, by omega⟩]; omega) | (rw [J_le ⟨by omega, by omega⟩ ⟨by omega, by omega⟩]; omega) | (rw [J_eq ⟨by omega, by omega⟩ ⟨by omega, by omega⟩]; omega)) ?_
    refine xgI_R hR (by simp only [clv, eq_self_iff_true, true_or, or_true, false_or, or_false, true_and, and_true, false_and, and_false] <;> omega) rfl rfl ?_
    rw [sh0r]
    refine xgI_R hR (by simp only [clv, eq_self_iff_true, true_or, or_true, false_or, or_false, true_and, and_true, false_and, and_false] <;> omega) rfl rfl ?_
    rw [sh0l]
    refine ⟨rc, rs, Nat.le_refl _, Nat.le_refl _, ?_⟩
    unfold V_J7_copyOf_9075b_0
    refine xal_I hR (p := 13) (i := 0) rfl rfl ?_
    rw [show (((s 13 0 0).toNat : Nat) : Int) = s 13 0 0 by omega]
    refine xsf (by (try simp only [I_lit, J_lit, I_ofNat, I_neg, I_add, I_sub, I_mul, J_neg, J_add, J_sub, J_mul]); first | (rw [I_lt ⟨by omega, by omega⟩ ⟨by omega, by omega⟩]; omega) | (rw [I_le ⟨by omega, by omega⟩ ⟨by omega, by omega⟩]; omega) | (rw [I_eq ⟨by omega, by omega⟩ ⟨by omega, by omega⟩]; omega) | (rw [J_lt ⟨by omega, by omega⟩ ⟨by omega, by omega⟩]; omega) | (rw [J_le ⟨by omega, by omega⟩ ⟨by omega, by omega⟩]; omega) | (rw [J_eq ⟨by omega, by omega⟩ ⟨by omega, by omega⟩]; omega)) ?_
    have hnn : (I (ncap (s 13 0 0) need)).toNatClampNeg = (ncap (s 13 0 0) need).toNat := I_nat ⟨by omega, by omega⟩
    refine ⟨(by (try simp only [I_lit, J_lit, I_ofNat, I_neg, I_add, I_sub, I_mul, J_neg, J_add, J_sub, J_mul]); first | (rw [I_lt ⟨by omega, by omega⟩ ⟨by omega, by omega⟩]; omega) | (rw [I_le ⟨by omega, by omega⟩ ⟨by omega, by omega⟩]; omega) | (rw [I_eq ⟨by omega, by omega⟩ ⟨by omega, by omega⟩]; omega) | (rw [J_lt ⟨by omega, by omega⟩ ⟨by omega, by omega⟩]; omega) | (rw [J_le ⟨by omega, by omega⟩ ⟨by omega, by omega⟩]; omega) | (rw [J_eq ⟨by omega, by omega⟩ ⟨by omega, by omega⟩]; omega)), by rw [hnn]; omega, hrc, by rw [hnn]; omega, fun a ha => ?_⟩
    obtain ⟨e, he, hsim⟩ := hR.1 13 0 rfl
    obtain ⟨f, rfl, hf⟩ := sim_int (show sim e (.inl (3, (s 13 0 0).toNat, .inl (fun j => I (s 13 0 (j + 1))))) from hsim)
    have hna : ad 13 0 ≠ a := fun e => by rw [e, ha] at he; cases he
    have hna2 : ad 12 0 ≠ a := fun e => by
      obtain ⟨x, h1, -⟩ := hR.1 12 0 rfl
      rw [e, ha] at h1
      cases h1
    have he2 : xup t a (.inl (3, (I (ncap (s 13 0 0) need)).toNatClampNeg, .inl fun _ => 0)) (ad 13 0) = some (.inl (3, (s 13 0 0).toNat, .inl f)) := by rw [xup_n _ _ hna]; exact he
    refine ⟨3, _, he2, ?_⟩
    show xcB _ _ _ _ _ _ _
    rw [I_ofNat, show (((s 13 0 0).toNat : Nat) : Int) = s 13 0 0 by omega, copy_min (by omega) (by omega) (by omega)]
    have hcn : (I (s 13 0 0)).toNatClampNeg = (s 13 0 0).toNat := I_nat ⟨by omega, by omega⟩
    refine ⟨3, _, _, f, _, he2, Or.inl rfl, xup_s _ _ _, by decide, by decide, (by (try simp only [I_lit, J_lit, I_ofNat, I_neg, I_add, I_sub, I_mul, J_neg, J_add, J_sub, J_mul]); first | (rw [I_lt ⟨by omega, by omega⟩ ⟨by omega, by omega⟩]; omega) | (rw [I_le ⟨by omega, by omega⟩ ⟨by omega, by omega⟩]; omega) | (rw [I_eq ⟨by omega, by omega⟩ ⟨by omega, by omega⟩]; omega) | (rw [J_lt ⟨by omega, by omega⟩ ⟨by omega, by omega⟩]; omega) | (rw [J_le ⟨by omega, by omega⟩ ⟨by omega, by omega⟩]; omega) | (rw [J_eq ⟨by omega, by omega⟩ ⟨by omega, by omega⟩]; omega)), by rw [hcn]; show 0 + _ ≤ _; omega, by rw [hcn, hnn]; show 0 + _ ≤ _; omega, fun i hi => ?_, ?_⟩
    · rw [hcn] at hi
      rw [show (0 : Int32).toNatClampNeg + i = i by show 0 + i = i; omega, hf i (by omega)]
      exact fits_byte (hB i (by omega))
    · refine ⟨a, rfl, ?_⟩
      refine ⟨[.ref (ad 13 0), .int 0, .int (I (s 12 0 2)), .int (I (s 12 0 3))], ?_, Nat.le_of_ble_eq_true rfl, ?_⟩
      · rw [xup_n _ _ hna2, xup_n _ _ hna2]
        exact hR.obj (p := 12) (i := 0) rfl rfl
      · refine hk1 a _ (RR_sb hR ha ?_)
        refine ⟨rfl, hnn, fun j hj => ?_⟩
        rw [hcn]
        show (if 0 ≤ j ∧ j < 0 + (s 13 0 0).toNat then f (0 + (j - 0)) else 0) = I (if j + 1 = 0 then _ else if ((j + 1 : Nat) : Int) ≤ s 13 0 0 then s 13 0 (j + 1) else 0)
        rw [if_neg (show ¬ (j + 1 = 0) by omega)]
        by_cases cj : j < (s 13 0 0).toNat
        · rw [if_pos (show 0 ≤ j ∧ j < 0 + (s 13 0 0).toNat by omega), if_pos (show ((j + 1 : Nat) : Int) ≤ s 13 0 0 by omega), show 0 + (j - 0) = j by omega, hf j cj]
        · rw [if_neg (show ¬ (0 ≤ j ∧ j < 0 + (s 13 0 0).toNat) by omega), if_neg (show ¬ ((j + 1 : Nat) : Int) ≤ s 13 0 0 by omega)]
          rfl
end SBS
