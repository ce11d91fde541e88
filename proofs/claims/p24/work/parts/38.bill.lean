/-! ===== plans, uses, bills are made ===== -/
section CLS6
variable {ad : xAd} {q : xL} {lo : Nat → Nat → Prop} {s u : xS} {co : Nat → Nat → xE} {t : xT}
def bnd (s : xS) (l : Nat) : Int := if s 7 l 1 - s 7 l 2 * (s 7 l 3 + 1) < 0 then 0 else s 7 l 1 - s 7 l 2 * (s 7 l 3 + 1)
/-- a plan at a month's end -/
def planM (l : Nat) (s : xS) : xS := if s 7 l 0 = 1 then (if s 6 l 5 ≤ bnd s l then (if bnd s l = 0 then su (su s 7 l 3 (s 7 l 3 + 1)) 7 l 0 3 else su s 7 l 3 (s 7 l 3 + 1)) else su (su s 7 l 3 (s 7 l 3 + 1)) 7 l 0 2) else s
def okP (s : xS) (l : Nat) : Prop := i32 (s 7 l 0) ∧ (-1000000000000 ≤ s 6 l 5 ∧ s 6 l 5 ≤ 1000000000000) ∧ (0 ≤ s 7 l 1 ∧ s 7 l 1 ≤ 1000000000000) ∧ (0 ≤ s 7 l 2 ∧ s 7 l 2 ≤ 1000000000000) ∧ (0 ≤ s 7 l 3 ∧ s 7 l 3 ≤ 1000)
theorem sp_planM {K : xT → Prop} {l : Nat} (hR : RR ad q lo s u co t) (hl : l < q.2.1) (hP : okP s l) (kk : ∀ t, RR ad q lo (planM l s) u co t → K t) : V_X5_endMonth_0 K (ad 7 l) (J (s 6 l 5)) t := by
  obtain ⟨p0, p5, p1, p2, p3⟩ := hP
  unfold i32 at p0
  unfold V_X5_endMonth_0
  refine xgI_R hR (by simp only [clv, eq_self_iff_true, true_or, or_true, false_or, or_false, true_and, and_true, false_and, and_false] <;> omega) rfl rfl ?_
  unfold planM at kk
  by_cases c : s 7 l 0 = 1
  · rw [if_pos c] at kk
    refine xbt (by rw [c]; rfl) ?_
    refine xgI_R hR (by simp only [clv, eq_self_iff_true, true_or, or_true, false_or, or_false, true_and, and_true, false_and, and_false] <;> omega) rfl rfl ?_
    rw [show (I (s 7 l 3) + (1 : Int32)) = I (s 7 l 3 + 1) from I_add _ 1]
    refine xpF_I hR (by simp only [clv, eq_self_iff_true, true_or, or_true, false_or, or_false, true_and, and_true, false_and, and_false] <;> omega) (by decide) rfl (Nat.le_of_ble_eq_true rfl) rfl (fun t hR => ?_)
    refine xgJ_R hR (by simp only [clv, eq_self_iff_true, true_or, or_true, false_or, or_false, true_and, and_true, false_and, and_false] <;> omega) rfl rfl ?_
    refine xgJ_R hR (by simp only [clv, eq_self_iff_true, true_or, or_true, false_or, or_false, true_and, and_true, false_and, and_false] <;> omega) rfl rfl ?_
    refine xgI_R hR (by simp only [clv, eq_self_iff_true, true_or, or_true, false_or, or_false, true_and, and_true, false_and, and_false] <;> omega) rfl rfl ?_
    simp (config := { decide := true }) only [su_r, su_f, sup_n, not_false_eq_true, eq_self_iff_true, true_or, or_true, false_or, or_false, true_and, and_true, false_and, and_false, if_true, if_false, ite_true, ite_false]
    have m0 : 0 ≤ s 7 l 2 * (s 7 l 3 + 1) := Int.mul_nonneg p2.1 (by omega)
    have m1 : s 7 l 2 * (s 7 l 3 + 1) ≤ 1000000000000 * 1001 := Int.mul_le_mul p2.2 (by omega) (by omega) (by decide)
    have eb : (if J (s 7 l 1) - J (s 7 l 2) * (I (s 7 l 3 + 1)).toInt64 < (0 : Int64) then (0 : Int64) else J (s 7 l 1) - J (s 7 l 2) * (I (s 7 l 3 + 1)).toInt64) = J (bnd s l) := by
      rw [I_long ⟨by omega, by omega⟩, J_mul, J_sub, show (0 : Int64) = J 0 from rfl]
      unfold bnd
      by_cases cc : s 7 l 1 - s 7 l 2 * (s 7 l 3 + 1) < 0
      · rw [if_pos cc, if_pos (by (try simp only [I_lit, J_lit, I_ofNat, I_neg, I_add, I_sub, I_mul, J_neg, J_add, J_sub, J_mul]); first | (rw [I_lt ⟨by omega, by omega⟩ ⟨by omega, by omega⟩]; omega) | (rw [I_le ⟨by omega, by omega⟩ ⟨by omega, by omega⟩]; omega) | (rw [I_eq ⟨by omega, by omega⟩ ⟨by omega, by omega⟩]; omega) | (rw [J_lt ⟨by omega, by omega⟩ ⟨by omega, by omega⟩]; omega) | (rw [J_le ⟨by omega, by omega⟩ ⟨by omega, by omega⟩]; omega) | (rw [J_eq ⟨by omega, by omega⟩ ⟨by omega, by omega⟩]; omega))]
      · rw [if_neg cc, if_neg (by (try simp only [I_lit, J_lit, I_ofNat, I_neg, I_add, I_sub, I_mul, J_neg, J_add, J_sub, J_mul]); first | (rw [I_lt ⟨by omega, by omega⟩ ⟨by omega, by omega⟩]; omega) | (rw [I_le ⟨by omega, by omega⟩ ⟨by omega, by omega⟩]; omega) | (rw [I_eq ⟨by omega, by omega⟩ ⟨by omega, by omega⟩]; omega) | (rw [J_lt ⟨by omega, by omega⟩ ⟨by omega, by omega⟩]; omega) | (rw [J_le ⟨by omega, by omega⟩ ⟨by omega, by omega⟩]; omega) | (rw [J_eq ⟨by omega, by omega⟩ ⟨by omega, by omega⟩]; omega))]
    rw [eb]
    have b0 : 0 ≤ bnd s l ∧ bnd s l ≤ 1000000000000 := by
      unfold bnd
      split <;> omega
    by_cases c1 : s 6 l 5 ≤ bnd s l
    · rw [if_pos c1] at kk
      refine xbt (by (try simp only [I_lit, J_lit, I_ofNat, I_neg, I_add, I_sub, I_mul, J_neg, J_add, J_sub, J_mul]); first | (rw [I_lt ⟨by omega, by omega⟩ ⟨by omega, by omega⟩]; omega) | (rw [I_le ⟨by omega, by omega⟩ ⟨by omega, by omega⟩]; omega) | (rw [I_eq ⟨by omega, by omega⟩ ⟨by omega, by omega⟩]; omega) | (rw [J_lt ⟨by omega, by omega⟩ ⟨by omega, by omega⟩]; omega) | (rw [J_le ⟨by omega, by omega⟩ ⟨by omega, by omega⟩]; omega) | (rw [J_eq ⟨by omega, by omega⟩ ⟨by omega, by omega⟩]; omega)) ?_
      by_cases c2 : bnd s l = 0
      · rw [if_pos c2] at kk
        refine xst (by rw [c2]; rfl) ?_
        rw [show (3 : Int32) = I 3 from rfl]
        refine xpF_I hR (by simp only [clv, eq_self_iff_true, true_or, or_true, false_or, or_false, true_and, and_true, false_and, and_false] <;> omega) (by decide) rfl (Nat.le_of_ble_eq_true rfl) rfl (fun t hR => ?_)
        exact kk _ hR
      · rw [if_neg c2] at kk
        refine xsf ?_ (kk _ hR)
        rw [show (0 : Int64) = J 0 from rfl, J_eq ⟨by omega, by omega⟩ ⟨by omega, by omega⟩]
        exact c2
    · rw [if_neg c1] at kk
      refine xbf (by (try simp only [I_lit, J_lit, I_ofNat, I_neg, I_add, I_sub, I_mul, J_neg, J_add, J_sub, J_mul]); first | (rw [I_lt ⟨by omega, by omega⟩ ⟨by omega, by omega⟩]; omega) | (rw [I_le ⟨by omega, by omega⟩ ⟨by omega, by omega⟩]; omega) | (rw [I_eq ⟨by omega, by omega⟩ ⟨by omega, by omega⟩]; omega) | (rw [J_lt ⟨by omega, by omega⟩ ⟨by omega, by omega⟩]; omega) | (rw [J_le ⟨by omega, by omega⟩ ⟨by omega, by omega⟩]; omega) | (rw [J_eq ⟨by omega, by omega⟩ ⟨by omega, by omega⟩]; omega)) ?_
      rw [show (2 : Int32) = I 2 from rfl]
      refine xpF_I hR (by simp only [clv, eq_self_iff_true, true_or, or_true, false_or, or_false, true_and, and_true, false_and, and_false] <;> omega) (by decide) rfl (Nat.le_of_ble_eq_true rfl) rfl (fun t hR => ?_)
      exact kk _ hR
  · rw [if_neg c] at kk
    exact xbf (by (try simp only [I_lit, J_lit, I_ofNat, I_neg, I_add, I_sub, I_mul, J_neg, J_add, J_sub, J_mul]); first | (rw [I_lt ⟨by omega, by omega⟩ ⟨by omega, by omega⟩]; omega) | (rw [I_le ⟨by omega, by omega⟩ ⟨by omega, by omega⟩]; omega) | (rw [I_eq ⟨by omega, by omega⟩ ⟨by omega, by omega⟩]; omega) | (rw [J_lt ⟨by omega, by omega⟩ ⟨by omega, by omega⟩]; omega) | (rw [J_le ⟨by omega, by omega⟩ ⟨by omega, by omega⟩]; omega) | (rw [J_eq ⟨by omega, by omega⟩ ⟨by omega, by omega⟩]; omega)) (kk _ hR)
theorem sp_inN {K : Int32 → xT → Prop} {i : Nat} {z : Int} (hz : -2147483648 ≤ z ∧ z < 0) (kk : K (I (-1)) t) : V_X4_in_0 K (ad 3 i) (I z) t := by
  unfold V_X4_in_0
  exact xbt (by (try simp only [I_lit, J_lit, I_ofNat, I_neg, I_add, I_sub, I_mul, J_neg, J_add, J_sub, J_mul]); first | (rw [I_lt ⟨by omega, by omega⟩ ⟨by omega, by omega⟩]; omega) | (rw [I_le ⟨by omega, by omega⟩ ⟨by omega, by omega⟩]; omega) | (rw [I_eq ⟨by omega, by omega⟩ ⟨by omega, by omega⟩]; omega) | (rw [J_lt ⟨by omega, by omega⟩ ⟨by omega, by omega⟩]; omega) | (rw [J_le ⟨by omega, by omega⟩ ⟨by omega, by omega⟩]; omega) | (rw [J_eq ⟨by omega, by omega⟩ ⟨by omega, by omega⟩]; omega)) kk
/-- the use b months back, -1 for none -/
def eg (g : Nat → Int) (m b : Nat) : Int := if b ≤ m then g (m - b) else -1
def egS (g : Nat → Int) (m b : Nat) : Int := if eg g m b = -1 then 0 else eg g m b
def egC (g : Nat → Int) (m b : Nat) : Int := if eg g m b = -1 then 0 else 1
def guess (g : Nat → Int) (m : Nat) : Int := if egC g m 1 + egC g m 2 + egC g m 3 = 0 then 0 else (egS g m 1 + egS g m 2 + egS g m 3) / (egC g m 1 + egC g m 2 + egC g m 3)
def okU (s : xS) (f : Nat) : Prop := ∀ m, m < 121 → -1 ≤ s 4 (200 + f) m ∧ s 4 (200 + f) m ≤ 1000000
theorem sp_guessStep {K : Int32 → xT → Prop} {f m b k : Nat} {S C : Int} (hR : RR ad q lo s u co t) (hf : f < q.1) (hU : okU s f) (hm : m < 121) (hb : 1 ≤ b ∧ b ≤ 3) (kk : V_X1_guessedUse_7 K k (ad 5 f) (I m) (I (S + egS (s 4 (200 + f)) m b)) (I (C + egC (s 4 (200 + f)) m b)) (I ((b + 1 : Nat) : Int)) t) : V_X1_guessedUse_7 K (k + 1) (ad 5 f) (I m) (I S) (I C) (I b) t := by
  show VS_X1_guessedUse_7 _ _ _ _ _ _ _ _
  unfold VS_X1_guessedUse_7
  refine xbf (by (try simp only [I_lit, J_lit, I_ofNat, I_neg, I_add, I_sub, I_mul, J_neg, J_add, J_sub, J_mul]); first | (rw [I_lt ⟨by omega, by omega⟩ ⟨by omega, by omega⟩]; omega) | (rw [I_le ⟨by omega, by omega⟩ ⟨by omega, by omega⟩]; omega) | (rw [I_eq ⟨by omega, by omega⟩ ⟨by omega, by omega⟩]; omega) | (rw [J_lt ⟨by omega, by omega⟩ ⟨by omega, by omega⟩]; omega) | (rw [J_le ⟨by omega, by omega⟩ ⟨by omega, by omega⟩]; omega) | (rw [J_eq ⟨by omega, by omega⟩ ⟨by omega, by omega⟩]; omega)) ?_
  refine xgR_R hR (by simp only [clv, eq_self_iff_true, true_or, or_true, false_or, or_false, true_and, and_true, false_and, and_false] <;> omega) rfl rfl ?_
  refine ⟨xis_R hR (by simp only [clv, eq_self_iff_true, true_or, or_true, false_or, or_false, true_and, and_true, false_and, and_false] <;> omega) rfl, ?_⟩
  rw [I_sub]
  have go : ∀ e : Int, eg (s 4 (200 + f)) m b = e → -1 ≤ e ∧ e ≤ 1000000 → ((I e = (-1 : Int32) → V_X1_guessedUse_7 K k (ad 5 f) (I m) (I S) (I C) (I b + 1) t) ∧ (¬ I e = (-1 : Int32) → V_X1_guessedUse_7 K k (ad 5 f) (I m) (I S + I e) (I C + 1) (I b + 1) t)) := by
    intro e he hr
    rw [show (I (b : Int) + 1 : Int32) = I ((b + 1 : Nat) : Int) from I_add _ 1, show (I C + 1 : Int32) = I (C + 1) from I_add _ 1, I_add]
    unfold egS egC at kk
    rw [he] at kk
    by_cases c : e = -1
    · rw [if_pos c, if_pos c, Int.add_zero, Int.add_zero] at kk
      exact xbt (by rw [c]; rfl) kk
    · rw [if_neg c, if_neg c] at kk
      exact xbf (by (try simp only [I_lit, J_lit, I_ofNat, I_neg, I_add, I_sub, I_mul, J_neg, J_add, J_sub, J_mul]); first | (rw [I_lt ⟨by omega, by omega⟩ ⟨by omega, by omega⟩]; omega) | (rw [I_le ⟨by omega, by omega⟩ ⟨by omega, by omega⟩]; omega) | (rw [I_eq ⟨by omega, by omega⟩ ⟨by omega, by omega⟩]; omega) | (rw [J_lt ⟨by omega, by omega⟩ ⟨by omega, by omega⟩]; omega) | (rw [J_le ⟨by omega, by omega⟩ ⟨by omega, by omega⟩]; omega) | (rw [J_eq ⟨by omega, by omega⟩ ⟨by omega, by omega⟩]; omega)) kk
  by_cases c : b ≤ m
  · have h1 := hU (m - b) (by omega)
    refine sp_in hR (by simp only [clv, eq_self_iff_true, true_or, or_true, false_or, or_false, true_and, and_true, false_and, and_false] <;> omega) (by omega) ?_
    rw [show ((m : Int) - b).toNat = m - b by omega]
    exact go _ (by unfold eg; rw [if_pos c]) h1
  · exact sp_inN (by omega) (go _ (by unfold eg; rw [if_neg c]) (by omega))
theorem sp_guess {K : Int32 → xT → Prop} {f m : Nat} (hR : RR ad q lo s u co t) (hf : f < q.1) (hU : okU s f) (hm : m < 121) (kk : K (I (guess (s 4 (200 + f)) m)) t) : V_X1_guessedUse_0 K (ad 5 f) (I m) t := by
  have hS : ∀ b, 0 ≤ egS (s 4 (200 + f)) m b ∧ egS (s 4 (200 + f)) m b ≤ 1000000 := by
    intro b
    unfold egS eg
    by_cases c : b ≤ m
    · have := hU (m - b) (by omega)
      rw [if_pos c]
      split <;> omega
    · rw [if_neg c]
      simp
  have hC : ∀ b, 0 ≤ egC (s 4 (200 + f)) m b ∧ egC (s 4 (200 + f)) m b ≤ 1 := by
    intro b
    unfold egC
    split <;> omega
  refine ⟨4, ?_⟩
  refine sp_guessStep (S := 0) (C := 0) (b := 1) hR hf hU hm (by decide) ?_
  refine sp_guessStep (b := 2) hR hf hU hm (by decide) ?_
  refine sp_guessStep (b := 3) hR hf hU hm (by decide) ?_
  show VS_X1_guessedUse_7 _ _ _ _ _ _ _ _
  unfold VS_X1_guessedUse_7
  unfold guess at kk
  have s1 := hS 1; have s2 := hS 2; have s3 := hS 3
  have c1 := hC 1; have c2 := hC 2; have c3 := hC 3
  rw [Int.zero_add, Int.zero_add]
  have hS' : 0 ≤ egS (s 4 (200 + f)) m 1 + egS (s 4 (200 + f)) m 2 + egS (s 4 (200 + f)) m 3 ∧ egS (s 4 (200 + f)) m 1 + egS (s 4 (200 + f)) m 2 + egS (s 4 (200 + f)) m 3 ≤ 3000000 := by omega
  have hC' : 0 ≤ egC (s 4 (200 + f)) m 1 + egC (s 4 (200 + f)) m 2 + egC (s 4 (200 + f)) m 3 ∧ egC (s 4 (200 + f)) m 1 + egC (s 4 (200 + f)) m 2 + egC (s 4 (200 + f)) m 3 ≤ 3 := by omega
  generalize egS (s 4 (200 + f)) m 1 + egS (s 4 (200 + f)) m 2 + egS (s 4 (200 + f)) m 3 = S at kk hS' ⊢
  generalize egC (s 4 (200 + f)) m 1 + egC (s 4 (200 + f)) m 2 + egC (s 4 (200 + f)) m 3 = C at kk hC' ⊢
  refine xbt (by (try simp only [I_lit, J_lit, I_ofNat, I_neg, I_add, I_sub, I_mul, J_neg, J_add, J_sub, J_mul]); first | (rw [I_lt ⟨by omega, by omega⟩ ⟨by omega, by omega⟩]; omega) | (rw [I_le ⟨by omega, by omega⟩ ⟨by omega, by omega⟩]; omega) | (rw [I_eq ⟨by omega, by omega⟩ ⟨by omega, by omega⟩]; omega) | (rw [J_lt ⟨by omega, by omega⟩ ⟨by omega, by omega⟩]; omega) | (rw [J_le ⟨by omega, by omega⟩ ⟨by omega, by omega⟩]; omega) | (rw [J_eq ⟨by omega, by omega⟩ ⟨by omega, by omega⟩]; omega)) ?_
  by_cases c : C = 0
  · rw [if_pos c] at kk
    exact xst (by rw [c]; rfl) kk
  · rw [if_neg c] at kk
    have hn : ¬ I C = (0 : Int32) := (by (try simp only [I_lit, J_lit, I_ofNat, I_neg, I_add, I_sub, I_mul, J_neg, J_add, J_sub, J_mul]); first | (rw [I_lt ⟨by omega, by omega⟩ ⟨by omega, by omega⟩]; omega) | (rw [I_le ⟨by omega, by omega⟩ ⟨by omega, by omega⟩]; omega) | (rw [I_eq ⟨by omega, by omega⟩ ⟨by omega, by omega⟩]; omega) | (rw [J_lt ⟨by omega, by omega⟩ ⟨by omega, by omega⟩]; omega) | (rw [J_le ⟨by omega, by omega⟩ ⟨by omega, by omega⟩]; omega) | (rw [J_eq ⟨by omega, by omega⟩ ⟨by omega, by omega⟩]; omega))
    refine xsf hn ⟨hn, ?_⟩
    rw [I_div ⟨by omega, by omega⟩ ⟨by omega, by omega⟩ (by omega) (by omega)]
    exact kk
/-- the use that is found at a month's end -/
def fuse (f m : Nat) (s : xS) : Int := if s 5 f 5 = m then (if 0 < s 5 f 3 - s 5 f 4 then s 5 f 3 - s 5 f 4 else 0) else guess (s 4 (200 + f)) m
def fndU (m f : Nat) (s : xS) : xS := su (su s 4 (200 + f) m (fuse f m s)) 5 f 4 (s 5 f 4 + fuse f m s)
def okF (q : xL) (s : xS) (f : Nat) : Prop := f < q.1 ∧ okU s f ∧ i32 (s 5 f 5) ∧ (0 ≤ s 5 f 3 ∧ s 5 f 3 ≤ 1000000) ∧ (0 ≤ s 5 f 4 ∧ s 5 f 4 ≤ 1000000000)
theorem sp_findUse {K : xT → Prop} {f m : Nat} (hR : RR ad q lo s u co t) (hf : okF q s f) (hm : m < 121) (kk : ∀ t, RR ad q lo (fndU m f s) u co t → K t) : V_X1_findUse_0 K (ad 5 f) (I m) t := by
  obtain ⟨h1, h2, h3, h4, h5⟩ := hf
  unfold i32 at h3
  unfold V_X1_findUse_0
  refine xgI_R hR (by simp only [clv, eq_self_iff_true, true_or, or_true, false_or, or_false, true_and, and_true, false_and, and_false] <;> omega) rfl rfl ?_
  unfold fndU fuse at kk
  by_cases c : s 5 f 5 = m
  · rw [if_pos c] at kk
    refine xst (by rw [c]) ?_
    refine xgI_R hR (by simp only [clv, eq_self_iff_true, true_or, or_true, false_or, or_false, true_and, and_true, false_and, and_false] <;> omega) rfl rfl ?_
    refine xgI_R hR (by simp only [clv, eq_self_iff_true, true_or, or_true, false_or, or_false, true_and, and_true, false_and, and_false] <;> omega) rfl rfl ?_
    refine xgR_R hR (by simp only [clv, eq_self_iff_true, true_or, or_true, false_or, or_false, true_and, and_true, false_and, and_false] <;> omega) rfl rfl ?_
    refine ⟨xis_R hR (by simp only [clv, eq_self_iff_true, true_or, or_true, false_or, or_false, true_and, and_true, false_and, and_false] <;> omega) rfl, ?_⟩
    rw [I_sub, show (0 : Int32) = I 0 from rfl]
    have e : (if I 0 < I (s 5 f 3 - s 5 f 4) then I (s 5 f 3 - s 5 f 4) else I 0) = I (if 0 < s 5 f 3 - s 5 f 4 then s 5 f 3 - s 5 f 4 else 0) := by
      by_cases cc : 0 < s 5 f 3 - s 5 f 4
      · rw [if_pos cc, if_pos (by (try simp only [I_lit, J_lit, I_ofNat, I_neg, I_add, I_sub, I_mul, J_neg, J_add, J_sub, J_mul]); first | (rw [I_lt ⟨by omega, by omega⟩ ⟨by omega, by omega⟩]; omega) | (rw [I_le ⟨by omega, by omega⟩ ⟨by omega, by omega⟩]; omega) | (rw [I_eq ⟨by omega, by omega⟩ ⟨by omega, by omega⟩]; omega) | (rw [J_lt ⟨by omega, by omega⟩ ⟨by omega, by omega⟩]; omega) | (rw [J_le ⟨by omega, by omega⟩ ⟨by omega, by omega⟩]; omega) | (rw [J_eq ⟨by omega, by omega⟩ ⟨by omega, by omega⟩]; omega))]
      · rw [if_neg cc, if_neg (by (try simp only [I_lit, J_lit, I_ofNat, I_neg, I_add, I_sub, I_mul, J_neg, J_add, J_sub, J_mul]); first | (rw [I_lt ⟨by omega, by omega⟩ ⟨by omega, by omega⟩]; omega) | (rw [I_le ⟨by omega, by omega⟩ ⟨by omega, by omega⟩]; omega) | (rw [I_eq ⟨by omega, by omega⟩ ⟨by omega, by omega⟩]; omega) | (rw [J_lt ⟨by omega, by omega⟩ ⟨by omega, by omega⟩]; omega) | (rw [J_le ⟨by omega, by omega⟩ ⟨by omega, by omega⟩]; omega) | (rw [J_eq ⟨by omega, by omega⟩ ⟨by omega, by omega⟩]; omega))]
    rw [e]
    refine sp_put hR (by simp only [clv, eq_self_iff_true, true_or, or_true, false_or, or_false, true_and, and_true, false_and, and_false] <;> omega) (by omega) (fun t hR => ?_)
    rw [show ((m : Int).toNat) = m by omega] at hR
    refine xgI_R hR (by simp only [clv, eq_self_iff_true, true_or, or_true, false_or, or_false, true_and, and_true, false_and, and_false] <;> omega) rfl rfl ?_
    simp (config := { decide := true }) only [su_r, su_f, sup_n, not_false_eq_true, eq_self_iff_true, true_or, or_true, false_or, or_false, true_and, and_true, false_and, and_false, if_true, if_false, ite_true, ite_false]
    rw [I_add]
    refine xpF_I hR (by simp only [clv, eq_self_iff_true, true_or, or_true, false_or, or_false, true_and, and_true, false_and, and_false] <;> omega) (by decide) rfl (Nat.le_of_ble_eq_true rfl) rfl (fun t hR => ?_)
    exact kk _ hR
  · rw [if_neg c] at kk
    refine xsf (by (try simp only [I_lit, J_lit, I_ofNat, I_neg, I_add, I_sub, I_mul, J_neg, J_add, J_sub, J_mul]); first | (rw [I_lt ⟨by omega, by omega⟩ ⟨by omega, by omega⟩]; omega) | (rw [I_le ⟨by omega, by omega⟩ ⟨by omega, by omega⟩]; omega) | (rw [I_eq ⟨by omega, by omega⟩ ⟨by omega, by omega⟩]; omega) | (rw [J_lt ⟨by omega, by omega⟩ ⟨by omega, by omega⟩]; omega) | (rw [J_le ⟨by omega, by omega⟩ ⟨by omega, by omega⟩]; omega) | (rw [J_eq ⟨by omega, by omega⟩ ⟨by omega, by omega⟩]; omega)) ?_
    refine ⟨xis_R hR (by simp only [clv, eq_self_iff_true, true_or, or_true, false_or, or_false, true_and, and_true, false_and, and_false] <;> omega) rfl, ?_⟩
    refine sp_guess hR h1 h2 hm ?_
    refine xgR_R hR (by simp only [clv, eq_self_iff_true, true_or, or_true, false_or, or_false, true_and, and_true, false_and, and_false] <;> omega) rfl rfl ?_
    refine ⟨xis_R hR (by simp only [clv, eq_self_iff_true, true_or, or_true, false_or, or_false, true_and, and_true, false_and, and_false] <;> omega) rfl, ?_⟩
    refine sp_put hR (by simp only [clv, eq_self_iff_true, true_or, or_true, false_or, or_false, true_and, and_true, false_and, and_false] <;> omega) (by omega) (fun t hR => ?_)
    rw [show ((m : Int).toNat) = m by omega] at hR
    refine xgI_R hR (by simp only [clv, eq_self_iff_true, true_or, or_true, false_or, or_false, true_and, and_true, false_and, and_false] <;> omega) rfl rfl ?_
    simp (config := { decide := true }) only [su_r, su_f, sup_n, not_false_eq_true, eq_self_iff_true, true_or, or_true, false_or, or_false, true_and, and_true, false_and, and_false, if_true, if_false, ite_true, ite_false]
    rw [I_add]
    refine xpF_I hR (by simp only [clv, eq_self_iff_true, true_or, or_true, false_or, or_false, true_and, and_true, false_and, and_false] <;> omega) (by decide) rfl (Nat.le_of_ble_eq_true rfl) rfl (fun t hR => ?_)
    exact kk _ hR
def toTen (l : Nat) (z : Int) (s : xS) : xS := su (su s 6 l 5 (s 6 l 5 + z)) 0 0 9 (s 0 0 9 - z)
def toDsk (l : Nat) (z : Int) (s : xS) : xS := su (su s 6 l 6 (s 6 l 6 + z)) 0 0 9 (s 0 0 9 - z)
def bT (s : xS) (b : Nat) : Int := s 10 b 0 - s 10 b 1 - s 10 b 2 + s 10 b 3
def putB (l m : Nat) (s : xS) : xS := su s 9 l m 1
def mkBill (m l : Nat) (s : xS) : xS := toDsk l (cBill s l m 2) (toTen l (cBill s l m 0 - cBill s l m 1 - cBill s l m 2 + cBill s l m 3) (putB l m (settle (sup s 10 (200 * l + m) (fun _ => 0)) l m (200 * l + m))))
def qw (q : xL) (B : Nat → Prop) : xL := (q.1, q.2.1, q.2.2.1, B, q.2.2.2.2)
def HB (q : xL) (s : xS) : Prop := ∀ l m, l < q.2.1 → m < 121 → (q.2.2.2.1 (200 * l + m) ↔ s 9 l m ≠ 0)
/-- what a month's numbers are -/
def okM (q : xL) (s : xS) (m : Nat) : Prop := (0 ≤ s 4 0 m ∧ s 4 0 m ≤ 200) ∧ ∀ f, f < q.1 → 0 ≤ s 4 (300 + f) m ∧ s 4 (300 + f) m ≤ 100000000
theorem incn_rng {g : Nat → Int} {n : Nat} (h : ∀ m, m < n → -1 ≤ g m ∧ g m ≤ 1000000) : 0 ≤ incn g n ∧ incn g n ≤ 1000000 := by
  induction n with
  | zero => exact ⟨Int.le_refl _, by show (0 : Int) ≤ 1000000; decide⟩
  | succ n ih =>
    have h1 := ih (fun m hm => h m (by omega))
    have h2 := h n (by omega)
    show 0 ≤ (if g n = -1 then incn g n else g n) ∧ (if g n = -1 then incn g n else g n) ≤ 1000000
    split <;> omega
theorem xsQ5_R {K : xT → Prop} {l m : Nat} (hR : RR ad q lo s u co t) (hl : l < q.2.1) (hm : m < 121) (hb : clv q lo 10 (200 * l + m)) (kk : ∀ t, RR ad q lo (putB l m s) u co t → K t) : xsQ5 t (ad 9 l) (I m) (ad 10 (200 * l + m)) K := by
  obtain ⟨e, h1, h2⟩ := hR.1 9 l hl
  obtain ⟨f, rfl, hf⟩ := sim_ref (show sim e (cel ad 9 l (s 9 l)) from h2)
  have hr : i32 (m : Int) := ⟨by omega, by omega⟩
  refine ⟨121, f, h1, (I_in hr).mpr (by omega), _, hR.obj (p := 10) hb rfl, kk _ (hR.up (p := 9) hl ?_ fun p' i' _ hq => xce_su p' i' hq)⟩
  rw [show xce ad (putB l m s) u co 9 l = cel ad 9 l (fup (s 9 l) m 1) from xce_here (by decide)]
  refine ⟨rfl, rfl, fun j hj => ?_⟩
  rw [I_nat hr]
  show (if j = (m : Int).toNat then some (ad 10 (200 * l + m)) else f j) = if fup (s 9 l) m 1 j = 0 then none else some (ad 10 (200 * l + j))
  unfold fup
  by_cases c : j = m
  · subst c
    rw [if_pos (by omega), if_pos rfl, if_neg (by decide)]
  · rw [if_neg (by omega), if_neg c, hf j hj]
theorem sp_putBill {K : xT → Prop} {l m : Nat} (hR : RR ad q lo s u co t) (hl : l < q.2.1) (hm : m < 121) (hb : clv q lo 10 (200 * l + m)) (kk : ∀ t, RR ad q lo (putB l m s) u co t → K t) : V_X3_putBill_0 K (ad 6 l) (I m) (ad 10 (200 * l + m)) t := by
  unfold V_X3_putBill_0
  refine xbf (by (try simp only [I_lit, J_lit, I_ofNat, I_neg, I_add, I_sub, I_mul, J_neg, J_add, J_sub, J_mul]); first | (rw [I_lt ⟨by omega, by omega⟩ ⟨by omega, by omega⟩]; omega) | (rw [I_le ⟨by omega, by omega⟩ ⟨by omega, by omega⟩]; omega) | (rw [I_eq ⟨by omega, by omega⟩ ⟨by omega, by omega⟩]; omega) | (rw [J_lt ⟨by omega, by omega⟩ ⟨by omega, by omega⟩]; omega) | (rw [J_le ⟨by omega, by omega⟩ ⟨by omega, by omega⟩]; omega) | (rw [J_eq ⟨by omega, by omega⟩ ⟨by omega, by omega⟩]; omega)) ?_
  refine xgR_R hR (by simp only [clv, eq_self_iff_true, true_or, or_true, false_or, or_false, true_and, and_true, false_and, and_false] <;> omega) rfl rfl ?_
  refine xal_Q hR (p := 9) hl rfl ?_
  refine xbf (by (try simp only [I_lit, J_lit, I_ofNat, I_neg, I_add, I_sub, I_mul, J_neg, J_add, J_sub, J_mul]); first | (rw [I_lt ⟨by omega, by omega⟩ ⟨by omega, by omega⟩]; omega) | (rw [I_le ⟨by omega, by omega⟩ ⟨by omega, by omega⟩]; omega) | (rw [I_eq ⟨by omega, by omega⟩ ⟨by omega, by omega⟩]; omega) | (rw [J_lt ⟨by omega, by omega⟩ ⟨by omega, by omega⟩]; omega) | (rw [J_le ⟨by omega, by omega⟩ ⟨by omega, by omega⟩]; omega) | (rw [J_eq ⟨by omega, by omega⟩ ⟨by omega, by omega⟩]; omega)) ?_
  refine xgR_R hR (by simp only [clv, eq_self_iff_true, true_or, or_true, false_or, or_false, true_and, and_true, false_and, and_false] <;> omega) rfl rfl ?_
  exact xsQ5_R hR hl hm hb kk
theorem sp_ofTenant {K : Int32 → xT → Prop} {b : Nat} (hR : RR ad q lo s u co t) (hb : clv q lo 10 b) (kk : K (I (bT s b)) t) : V_X0_ofTenant_0 K (ad 10 b) t := by
  unfold V_X0_ofTenant_0
  refine xgI_R hR hb rfl rfl ?_
  refine xgI_R hR hb rfl rfl ?_
  refine xgI_R hR hb rfl rfl ?_
  refine xgI_R hR hb rfl rfl ?_
  rw [I_sub, I_sub, I_add]
  exact kk
end CLS6
