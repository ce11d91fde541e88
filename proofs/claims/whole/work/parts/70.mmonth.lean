/-! ===== the model's incomes, benefits, rents ===== -/
section MM1
variable {ad : xAd} {q : xL} {lo : Nat → Nat → Prop} {s u : xS} {co : Nat → Nat → xE} {t : xT} {nf n nr : Nat}
theorem at_rd {k l m : Nat} (hm : m < 121) : mvr k 0 = mvr k 0 ∧ (121 * l + m) / 121 = l ∧ (121 * l + m) % 121 = m := ⟨rfl, by omega, by omega⟩
theorem mm_incLoop {K : Int32 → xT → Prop} {l M : Nat} (hR : RR ad q lo s u co t) (hl : l < 12) (hM : M < 121) (hb : ∀ m, m < 121 → -1 ≤ u 4 (400 + l) m ∧ u 4 (400 + l) m ≤ 1000000) (kk : K (I (incn (u 4 (400 + l)) (M + 1))) t) : ∀ (r i : Nat), i + r = M + 1 → V_X8_incomeIn_5 K (r + 1) (ad 20 0) (I l) (I M) (I (incn (u 4 (400 + l)) i)) (I i) t := by
  intro r
  induction r with
  | zero =>
    intro i hi
    show VS_X8_incomeIn_5 (V_X8_incomeIn_5 K 0) K _ _ _ _ _ _
    unfold VS_X8_incomeIn_5
    have e : i = M + 1 := by omega
    subst e
    exact xbt (by (try simp only [I_lit, J_lit, I_ofNat, I_neg, I_add, I_sub, I_mul, J_neg, J_add, J_sub, J_mul]); first | (rw [I_lt ⟨by omega, by omega⟩ ⟨by omega, by omega⟩]; omega) | (rw [I_le ⟨by omega, by omega⟩ ⟨by omega, by omega⟩]; omega) | (rw [I_eq ⟨by omega, by omega⟩ ⟨by omega, by omega⟩]; omega) | (rw [J_lt ⟨by omega, by omega⟩ ⟨by omega, by omega⟩]; omega) | (rw [J_le ⟨by omega, by omega⟩ ⟨by omega, by omega⟩]; omega) | (rw [J_eq ⟨by omega, by omega⟩ ⟨by omega, by omega⟩]; omega)) kk
  | succ r ih =>
    intro i hi
    show VS_X8_incomeIn_5 (V_X8_incomeIn_5 K (r + 1)) K _ _ _ _ _ _
    unfold VS_X8_incomeIn_5
    refine xbf (by (try simp only [I_lit, J_lit, I_ofNat, I_neg, I_add, I_sub, I_mul, J_neg, J_add, J_sub, J_mul]); first | (rw [I_lt ⟨by omega, by omega⟩ ⟨by omega, by omega⟩]; omega) | (rw [I_le ⟨by omega, by omega⟩ ⟨by omega, by omega⟩]; omega) | (rw [I_eq ⟨by omega, by omega⟩ ⟨by omega, by omega⟩]; omega) | (rw [J_lt ⟨by omega, by omega⟩ ⟨by omega, by omega⟩]; omega) | (rw [J_le ⟨by omega, by omega⟩ ⟨by omega, by omega⟩]; omega) | (rw [J_eq ⟨by omega, by omega⟩ ⟨by omega, by omega⟩]; omega)) ?_
    refine xgR_R hR (p := 20) (i := 0) rfl rfl rfl ?_
    unfold V_X8_at_0
    rw [show (121 : Int32) = I 121 from rfl, I_mul, I_add, show (I (i : Int) + 1 : Int32) = I ((i + 1 : Nat) : Int) from I_add _ 1]
    have hz : 0 ≤ 121 * (l : Int) + i ∧ 121 * (l : Int) + i < ((1452 : Nat) : Int) := by omega
    have e25 : mva u 25 (121 * (l : Int) + i).toNat = u 4 (400 + l) i := by
      show u 4 (400 + (121 * (l : Int) + i).toNat / 121) ((121 * (l : Int) + i).toNat % 121) = _
      rw [show (121 * (l : Int) + i).toNat / 121 = l by omega, show (121 * (l : Int) + i).toNat % 121 = i by omega]
    refine xaI_R hR (p := 21) (i := 25) (show 25 < 40 by decide) rfl (by decide) hz ?_
    rw [e25]
    have hbi := hb i (by omega)
    have nx := ih (i + 1) (by omega)
    have hs : incn (u 4 (400 + l)) (i + 1) = if u 4 (400 + l) i = -1 then incn (u 4 (400 + l)) i else u 4 (400 + l) i := rfl
    rw [hs] at nx
    by_cases c : u 4 (400 + l) i = -1
    · rw [if_pos c] at nx
      exact xst (by rw [c]; rfl) nx
    · rw [if_neg c] at nx
      refine xsf (by (try simp only [I_lit, J_lit, I_ofNat, I_neg, I_add, I_sub, I_mul, J_neg, J_add, J_sub, J_mul]); first | (rw [I_lt ⟨by omega, by omega⟩ ⟨by omega, by omega⟩]; omega) | (rw [I_le ⟨by omega, by omega⟩ ⟨by omega, by omega⟩]; omega) | (rw [I_eq ⟨by omega, by omega⟩ ⟨by omega, by omega⟩]; omega) | (rw [J_lt ⟨by omega, by omega⟩ ⟨by omega, by omega⟩]; omega) | (rw [J_le ⟨by omega, by omega⟩ ⟨by omega, by omega⟩]; omega) | (rw [J_eq ⟨by omega, by omega⟩ ⟨by omega, by omega⟩]; omega)) ?_
      refine xgR_R hR (p := 20) (i := 0) rfl rfl rfl ?_
      refine xaI_R hR (p := 21) (i := 25) (show 25 < 40 by decide) rfl (by decide) hz ?_
      rw [e25]
      exact nx
theorem mm_incomeIn {K : Int32 → xT → Prop} {l M : Nat} (hR : RR ad q lo s u co t) (hl : l < 12) (hM : M < 121) (hb : ∀ m, m < 121 → -1 ≤ u 4 (400 + l) m ∧ u 4 (400 + l) m ≤ 1000000) (kk : K (I (incn (u 4 (400 + l)) (M + 1))) t) : V_X8_incomeIn_0 K (ad 20 0) (I l) (I M) t := ⟨M + 2, mm_incLoop hR hl hM hb kk (M + 1) 0 (by omega)⟩
theorem mm_benefit {K : Int32 → xT → Prop} {r i : Int} (hr : 0 ≤ r ∧ r ≤ 100000000) (hi : 0 ≤ i ∧ i ≤ 100000000) (kk : K (I (ben r i)) t) : V_X8_benefitFor_0 K (I r) (I i) t := by
  unfold V_X8_benefitFor_0
  refine ⟨by decide, by decide, ?_⟩
  rw [show (8 : Int32) = I 8 from rfl, show (10 : Int32) = I 10 from rfl, show (3 : Int32) = I 3 from rfl, I_mul, I_mul, I_div ⟨by omega, by omega⟩ ⟨by omega, by omega⟩ (by omega) (by omega), I_div ⟨by omega, by omega⟩ ⟨by omega, by omega⟩ (by omega) (by omega), I_sub]
  have e1 : 3 * i / 10 = i * 3 / 10 := by omega
  have e2 : 8 * r / 10 = r * 8 / 10 := by omega
  rw [e1, e2]
  unfold ben at kk
  by_cases c : 0 ≤ r - i * 3 / 10
  · refine xbt (by (try simp only [I_lit, J_lit, I_ofNat, I_neg, I_add, I_sub, I_mul, J_neg, J_add, J_sub, J_mul]); first | (rw [I_lt ⟨by omega, by omega⟩ ⟨by omega, by omega⟩]; omega) | (rw [I_le ⟨by omega, by omega⟩ ⟨by omega, by omega⟩]; omega) | (rw [I_eq ⟨by omega, by omega⟩ ⟨by omega, by omega⟩]; omega) | (rw [J_lt ⟨by omega, by omega⟩ ⟨by omega, by omega⟩]; omega) | (rw [J_le ⟨by omega, by omega⟩ ⟨by omega, by omega⟩]; omega) | (rw [J_eq ⟨by omega, by omega⟩ ⟨by omega, by omega⟩]; omega)) ?_
    by_cases c2 : r - i * 3 / 10 ≤ r * 8 / 10
    · rw [if_neg (show ¬ r * 8 / 10 < r - i * 3 / 10 by omega)] at kk
      refine xbt (by (try simp only [I_lit, J_lit, I_ofNat, I_neg, I_add, I_sub, I_mul, J_neg, J_add, J_sub, J_mul]); first | (rw [I_lt ⟨by omega, by omega⟩ ⟨by omega, by omega⟩]; omega) | (rw [I_le ⟨by omega, by omega⟩ ⟨by omega, by omega⟩]; omega) | (rw [I_eq ⟨by omega, by omega⟩ ⟨by omega, by omega⟩]; omega) | (rw [J_lt ⟨by omega, by omega⟩ ⟨by omega, by omega⟩]; omega) | (rw [J_le ⟨by omega, by omega⟩ ⟨by omega, by omega⟩]; omega) | (rw [J_eq ⟨by omega, by omega⟩ ⟨by omega, by omega⟩]; omega)) ?_
      by_cases c3 : 0 < r - i * 3 / 10
      · rw [if_pos c3] at kk
        exact kk
      · rw [if_neg c3] at kk
        rw [show r - i * 3 / 10 = 0 by omega]
        exact kk
    · rw [if_pos (show r * 8 / 10 < r - i * 3 / 10 by omega)] at kk
      refine xbf (by (try simp only [I_lit, J_lit, I_ofNat, I_neg, I_add, I_sub, I_mul, J_neg, J_add, J_sub, J_mul]); first | (rw [I_lt ⟨by omega, by omega⟩ ⟨by omega, by omega⟩]; omega) | (rw [I_le ⟨by omega, by omega⟩ ⟨by omega, by omega⟩]; omega) | (rw [I_eq ⟨by omega, by omega⟩ ⟨by omega, by omega⟩]; omega) | (rw [J_lt ⟨by omega, by omega⟩ ⟨by omega, by omega⟩]; omega) | (rw [J_le ⟨by omega, by omega⟩ ⟨by omega, by omega⟩]; omega) | (rw [J_eq ⟨by omega, by omega⟩ ⟨by omega, by omega⟩]; omega)) ?_
      by_cases c3 : 0 < r * 8 / 10
      · rw [if_pos c3] at kk
        exact kk
      · rw [if_neg c3] at kk
        rw [show r * 8 / 10 = 0 by omega]
        exact kk
  · refine xbf (by (try simp only [I_lit, J_lit, I_ofNat, I_neg, I_add, I_sub, I_mul, J_neg, J_add, J_sub, J_mul]); first | (rw [I_lt ⟨by omega, by omega⟩ ⟨by omega, by omega⟩]; omega) | (rw [I_le ⟨by omega, by omega⟩ ⟨by omega, by omega⟩]; omega) | (rw [I_eq ⟨by omega, by omega⟩ ⟨by omega, by omega⟩]; omega) | (rw [J_lt ⟨by omega, by omega⟩ ⟨by omega, by omega⟩]; omega) | (rw [J_le ⟨by omega, by omega⟩ ⟨by omega, by omega⟩]; omega) | (rw [J_eq ⟨by omega, by omega⟩ ⟨by omega, by omega⟩]; omega)) ?_
    rw [if_neg (show ¬ r * 8 / 10 < r - i * 3 / 10 by omega), if_neg (by omega)] at kk
    exact kk
theorem mm_rentIn {K : Int32 → xT → Prop} {l m : Nat} (hR : RR ad q lo s u co t) (hl : l < 12) (hm : m < 122) (h0 : 0 ≤ u 6 l 8 * u 21 10 m ∧ u 6 l 8 * u 21 10 m < 2147483648) (kk : K (I (u 6 l 8 * u 21 10 m / 100)) t) : V_X8_rentIn_0 K (ad 20 0) (I l) (I m) t := by
  unfold V_X8_rentIn_0
  refine xgR_R hR (p := 20) (i := 0) rfl rfl rfl ?_
  refine xaI_R hR (p := 21) (i := 20) (show 20 < 40 by decide) rfl (by decide) (show 0 ≤ (l : Int) ∧ (l : Int) < ((12 : Nat) : Int) by omega) ?_
  refine xgR_R hR (p := 20) (i := 0) rfl rfl rfl ?_
  refine xaI_R hR (p := 21) (i := 10) (show 10 < 40 by decide) rfl (by decide) (show 0 ≤ (m : Int) ∧ (m : Int) < ((122 : Nat) : Int) by omega) ?_
  refine ⟨by decide, ?_⟩
  show K (I (u 6 (l : Int).toNat 8) * I (u 21 10 (m : Int).toNat) / (100 : Int32)) t
  rw [show ((l : Int).toNat) = l by omega, show ((m : Int).toNat) = m by omega, I_mul, show (100 : Int32) = I 100 from rfl, I_div ⟨by omega, by omega⟩ ⟨by omega, by omega⟩ (by omega) (by omega)]
  exact kk
end MM1
