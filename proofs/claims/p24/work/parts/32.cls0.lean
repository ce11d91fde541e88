/-! ===== the class's methods, by roles: months, leases ===== -/
/-- how many flats, leases, repairs live; which bills; which lists have arrays -/
abbrev xL : Type := Nat × Nat × Nat × (Nat → Prop) × (Nat → Prop)
def clv (q : xL) (lo : Nat → Nat → Prop) (p i : Nat) : Prop := match p with
  | 0 => i = 0
  | 1 => i < 3
  | 2 => i < 3 ∧ q.2.2.2.2 i
  | 3 => i = 0 ∨ i = 100 ∨ (200 ≤ i ∧ i < 200 + q.1) ∨ (300 ≤ i ∧ i < 300 + q.1) ∨ (400 ≤ i ∧ i < 400 + q.2.1)
  | 4 => i = 0 ∨ i = 100 ∨ (200 ≤ i ∧ i < 200 + q.1) ∨ (300 ≤ i ∧ i < 300 + q.1) ∨ (400 ≤ i ∧ i < 400 + q.2.1)
  | 5 => i < q.1
  | 6 => i < q.2.1
  | 7 => i < q.2.1
  | 8 => i < q.2.1
  | 9 => i < q.2.1
  | 10 => i = 9999 ∨ q.2.2.2.1 i
  | 11 => i < q.2.2.1
  | 12 => i = 0
  | 13 => i = 0
  | 20 => False
  | 21 => False
  | p => lo p i
abbrev RR (ad : xAd) (q : xL) (lo : Nat → Nat → Prop) (s u : xS) (co : Nat → Nat → xE) (t : xT) : Prop := Rel ad (clv q lo) (xce ad s u co) t
theorem xbt {p A B : Prop} (h : p) (k : A) : (p → A) ∧ (¬ p → B) := ⟨fun _ => k, fun q => absurd h q⟩
theorem xbf {p A B : Prop} (h : ¬ p) (k : B) : (p → A) ∧ (¬ p → B) := ⟨fun q => absurd q h, fun _ => k⟩
theorem xst {p A B : Prop} (h : p) (k : B) : (¬ p → A) ∧ (p → B) := ⟨fun q => absurd h q, fun _ => k⟩
theorem xsf {p A B : Prop} (h : ¬ p) (k : A) : (¬ p → A) ∧ (p → B) := ⟨fun _ => k, fun q => absurd q h⟩
section CLS
variable {ad : xAd} {q : xL} {lo : Nat → Nat → Prop} {s u : xS} {co : Nat → Nat → xE} {t : xT}
theorem sp_in {K : Int32 → xT → Prop} {i : Nat} {z : Int} (hR : RR ad q lo s u co t) (h3 : clv q lo 3 i) (hz : 0 ≤ z ∧ z < 121) (kk : K (I (s 4 i z.toNat)) t) : V_X4_in_0 K (ad 3 i) (I z) t := by
  unfold V_X4_in_0
  refine xbf (by (try simp only [I_lit, J_lit, I_ofNat, I_neg, I_add, I_sub, I_mul, J_neg, J_add, J_sub, J_mul]); first | (rw [I_lt ⟨by omega, by omega⟩ ⟨by omega, by omega⟩]; omega) | (rw [I_le ⟨by omega, by omega⟩ ⟨by omega, by omega⟩]; omega) | (rw [I_eq ⟨by omega, by omega⟩ ⟨by omega, by omega⟩]; omega) | (rw [J_lt ⟨by omega, by omega⟩ ⟨by omega, by omega⟩]; omega) | (rw [J_le ⟨by omega, by omega⟩ ⟨by omega, by omega⟩]; omega) | (rw [J_eq ⟨by omega, by omega⟩ ⟨by omega, by omega⟩]; omega)) ?_
  refine xgR_R hR h3 rfl rfl ?_
  refine xal_I hR (i := i) (p := 4) h3 rfl ?_
  refine xbf (by (try simp only [I_lit, J_lit, I_ofNat, I_neg, I_add, I_sub, I_mul, J_neg, J_add, J_sub, J_mul]); first | (rw [I_lt ⟨by omega, by omega⟩ ⟨by omega, by omega⟩]; omega) | (rw [I_le ⟨by omega, by omega⟩ ⟨by omega, by omega⟩]; omega) | (rw [I_eq ⟨by omega, by omega⟩ ⟨by omega, by omega⟩]; omega) | (rw [J_lt ⟨by omega, by omega⟩ ⟨by omega, by omega⟩]; omega) | (rw [J_le ⟨by omega, by omega⟩ ⟨by omega, by omega⟩]; omega) | (rw [J_eq ⟨by omega, by omega⟩ ⟨by omega, by omega⟩]; omega)) ?_
  refine xgR_R hR h3 rfl rfl ?_
  exact xaI_R hR (p := 4) h3 rfl (by decide) hz kk
theorem sp_put {K : xT → Prop} {i : Nat} {z x : Int} (hR : RR ad q lo s u co t) (h3 : clv q lo 3 i) (hz : 0 ≤ z ∧ z < 121) (kk : ∀ t, RR ad q lo (su s 4 i z.toNat x) u co t → K t) : V_X4_put_0 K (ad 3 i) (I z) (I x) t := by
  unfold V_X4_put_0
  refine xbf (by (try simp only [I_lit, J_lit, I_ofNat, I_neg, I_add, I_sub, I_mul, J_neg, J_add, J_sub, J_mul]); first | (rw [I_lt ⟨by omega, by omega⟩ ⟨by omega, by omega⟩]; omega) | (rw [I_le ⟨by omega, by omega⟩ ⟨by omega, by omega⟩]; omega) | (rw [I_eq ⟨by omega, by omega⟩ ⟨by omega, by omega⟩]; omega) | (rw [J_lt ⟨by omega, by omega⟩ ⟨by omega, by omega⟩]; omega) | (rw [J_le ⟨by omega, by omega⟩ ⟨by omega, by omega⟩]; omega) | (rw [J_eq ⟨by omega, by omega⟩ ⟨by omega, by omega⟩]; omega)) ?_
  refine xgR_R hR h3 rfl rfl ?_
  refine xal_I hR (i := i) (p := 4) h3 rfl ?_
  refine xbf (by (try simp only [I_lit, J_lit, I_ofNat, I_neg, I_add, I_sub, I_mul, J_neg, J_add, J_sub, J_mul]); first | (rw [I_lt ⟨by omega, by omega⟩ ⟨by omega, by omega⟩]; omega) | (rw [I_le ⟨by omega, by omega⟩ ⟨by omega, by omega⟩]; omega) | (rw [I_eq ⟨by omega, by omega⟩ ⟨by omega, by omega⟩]; omega) | (rw [J_lt ⟨by omega, by omega⟩ ⟨by omega, by omega⟩]; omega) | (rw [J_le ⟨by omega, by omega⟩ ⟨by omega, by omega⟩]; omega) | (rw [J_eq ⟨by omega, by omega⟩ ⟨by omega, by omega⟩]; omega)) ?_
  refine xgR_R hR h3 rfl rfl ?_
  exact xsI_R hR (p := 4) h3 (by decide) rfl (by decide) hz ⟨_, rfl, fun j _ => by show I (fup _ _ _ _) = _; unfold fup; split <;> rfl⟩ kk
/-- the latest number that was told -/
def incn (g : Nat → Int) (n : Nat) : Int := Nat.rec 0 (fun m r => if g m = -1 then r else g m) n
theorem sp_incomeLoop {K : Int32 → xT → Prop} {l : Nat} (hR : RR ad q lo s u co t) (hl : l < q.2.1) (hb : ∀ m, m < 121 → i32 (s 4 (400 + l) m)) (n : Nat) (hn : n ≤ 121) (kk : K (I (incn (s 4 (400 + l)) n)) t) : V_X3_incomeIn_2 K (n + 1) (ad 6 l) (I ((n : Int) - 1)) t := by
  induction n with
  | zero => exact xbt (by (try simp only [I_lit, J_lit, I_ofNat, I_neg, I_add, I_sub, I_mul, J_neg, J_add, J_sub, J_mul]); first | (rw [I_lt ⟨by omega, by omega⟩ ⟨by omega, by omega⟩]; omega) | (rw [I_le ⟨by omega, by omega⟩ ⟨by omega, by omega⟩]; omega) | (rw [I_eq ⟨by omega, by omega⟩ ⟨by omega, by omega⟩]; omega) | (rw [J_lt ⟨by omega, by omega⟩ ⟨by omega, by omega⟩]; omega) | (rw [J_le ⟨by omega, by omega⟩ ⟨by omega, by omega⟩]; omega) | (rw [J_eq ⟨by omega, by omega⟩ ⟨by omega, by omega⟩]; omega)) kk
  | succ n ih =>
    show VS_X3_incomeIn_2 (V_X3_incomeIn_2 K (n + 1)) K _ _ t
    unfold VS_X3_incomeIn_2
    have hbn := hb n (by omega)
    unfold i32 at hbn
    have e0 : ((n : Int) + 1 - 1).toNat = n := by omega
    refine xbf (by (try simp only [I_lit, J_lit, I_ofNat, I_neg, I_add, I_sub, I_mul, J_neg, J_add, J_sub, J_mul]); first | (rw [I_lt ⟨by omega, by omega⟩ ⟨by omega, by omega⟩]; omega) | (rw [I_le ⟨by omega, by omega⟩ ⟨by omega, by omega⟩]; omega) | (rw [I_eq ⟨by omega, by omega⟩ ⟨by omega, by omega⟩]; omega) | (rw [J_lt ⟨by omega, by omega⟩ ⟨by omega, by omega⟩]; omega) | (rw [J_le ⟨by omega, by omega⟩ ⟨by omega, by omega⟩]; omega) | (rw [J_eq ⟨by omega, by omega⟩ ⟨by omega, by omega⟩]; omega)) ?_
    refine xgR_R hR (by simp only [clv, eq_self_iff_true, true_or, or_true, false_or, or_false, true_and, and_true, false_and, and_false] <;> omega) rfl rfl ?_
    refine ⟨xis_R hR (by simp only [clv, eq_self_iff_true, true_or, or_true, false_or, or_false, true_and, and_true, false_and, and_false] <;> omega) rfl, ?_⟩
    refine sp_in hR (by simp only [clv, eq_self_iff_true, true_or, or_true, false_or, or_false, true_and, and_true, false_and, and_false] <;> omega) (by omega) ?_
    have kk' : K (I (if s 4 (400 + l) n = -1 then incn (s 4 (400 + l)) n else s 4 (400 + l) n)) t := kk
    have e1 : ((↑(n + 1) : Int) - 1).toNat = n := by omega
    rw [e1]
    by_cases hq : s 4 (400 + l) n = -1
    · rw [if_pos hq] at kk'
      refine xbt (by rw [hq]; rfl) ?_
      have := ih (by omega) kk'
      rw [show (I (((n + 1 : Nat) : Int) - 1) + (-1 : Int32)) = I ((n : Int) - 1) by simp only [I_lit, J_lit, I_ofNat, I_neg, I_add, I_sub, I_mul, J_neg, J_add, J_sub, J_mul]; congr 1; omega]
      exact this
    · rw [if_neg hq] at kk'
      refine xbf (by rw [show (-1 : Int32) = I (-1) from rfl, I_eq ⟨by omega, by omega⟩ ⟨by omega, by omega⟩]; exact hq) ?_
      refine xgR_R hR (by simp only [clv, eq_self_iff_true, true_or, or_true, false_or, or_false, true_and, and_true, false_and, and_false] <;> omega) rfl rfl ?_
      refine ⟨xis_R hR (by simp only [clv, eq_self_iff_true, true_or, or_true, false_or, or_false, true_and, and_true, false_and, and_false] <;> omega) rfl, ?_⟩
      refine sp_in hR (by simp only [clv, eq_self_iff_true, true_or, or_true, false_or, or_false, true_and, and_true, false_and, and_false] <;> omega) (by omega) ?_
      rw [e1]
      exact kk'
theorem sp_incomeIn {K : Int32 → xT → Prop} {l : Nat} {z : Int} (hR : RR ad q lo s u co t) (hl : l < q.2.1) (hb : ∀ m, m < 121 → i32 (s 4 (400 + l) m)) (hz : 0 ≤ z ∧ z < 121) (kk : K (I (incn (s 4 (400 + l)) (z.toNat + 1))) t) : V_X3_incomeIn_0 K (ad 6 l) (I z) t := by
  refine ⟨z.toNat + 2, ?_⟩
  have := sp_incomeLoop hR hl hb (z.toNat + 1) (by omega) kk
  rw [show (((z.toNat + 1 : Nat) : Int) - 1) = z by omega] at this
  exact this
theorem sp_rentAt {K : Int32 → xT → Prop} {l : Nat} {z : Int} (hR : RR ad q lo s u co t) (hl : l < q.2.1) (h0 : 0 ≤ s 6 l 8 * z ∧ s 6 l 8 * z < 2147483648) (kk : K (I (s 6 l 8 * z / 100)) t) : V_X3_rentAt_0 K (ad 6 l) (I z) t := by
  unfold V_X3_rentAt_0
  refine xgI_R hR (by simp only [clv, eq_self_iff_true, true_or, or_true, false_or, or_false, true_and, and_true, false_and, and_false] <;> omega) rfl rfl ?_
  refine ⟨by decide, ?_⟩
  rw [I_mul, show (100 : Int32) = I 100 from rfl, I_div ⟨by omega, by omega⟩ ⟨by omega, by omega⟩ (by omega) (by omega)]
  exact kk
/-- whether a lease runs in a month -/
def runs (s : xS) (l : Nat) (m : Int) : Prop := s 6 l 9 ≤ m ∧ (s 6 l 1 = -1 ∨ m ≤ s 6 l 1)
def runb (s : xS) (l : Nat) (m : Int) : Int := if s 6 l 9 ≤ m ∧ (s 6 l 1 = -1 ∨ m ≤ s 6 l 1) then 1 else 0
theorem sp_runsIn {K : Int32 → xT → Prop} {l : Nat} {z : Int} (hR : RR ad q lo s u co t) (hl : l < q.2.1) (h1 : i32 (s 6 l 1)) (h9 : i32 (s 6 l 9)) (hz : i32 z) (kk : K (I (runb s l z)) t) : V_X3_runsIn_0 K (ad 6 l) (I z) t := by
  unfold V_X3_runsIn_0
  unfold runb at kk
  unfold i32 at h1 h9 hz
  refine xgI_R hR (by simp only [clv, eq_self_iff_true, true_or, or_true, false_or, or_false, true_and, and_true, false_and, and_false] <;> omega) rfl rfl ?_
  by_cases c1 : z < s 6 l 9
  · rw [if_neg (by omega)] at kk
    exact xbt (by (try simp only [I_lit, J_lit, I_ofNat, I_neg, I_add, I_sub, I_mul, J_neg, J_add, J_sub, J_mul]); first | (rw [I_lt ⟨by omega, by omega⟩ ⟨by omega, by omega⟩]; omega) | (rw [I_le ⟨by omega, by omega⟩ ⟨by omega, by omega⟩]; omega) | (rw [I_eq ⟨by omega, by omega⟩ ⟨by omega, by omega⟩]; omega) | (rw [J_lt ⟨by omega, by omega⟩ ⟨by omega, by omega⟩]; omega) | (rw [J_le ⟨by omega, by omega⟩ ⟨by omega, by omega⟩]; omega) | (rw [J_eq ⟨by omega, by omega⟩ ⟨by omega, by omega⟩]; omega)) kk
  · refine xbf (by (try simp only [I_lit, J_lit, I_ofNat, I_neg, I_add, I_sub, I_mul, J_neg, J_add, J_sub, J_mul]); first | (rw [I_lt ⟨by omega, by omega⟩ ⟨by omega, by omega⟩]; omega) | (rw [I_le ⟨by omega, by omega⟩ ⟨by omega, by omega⟩]; omega) | (rw [I_eq ⟨by omega, by omega⟩ ⟨by omega, by omega⟩]; omega) | (rw [J_lt ⟨by omega, by omega⟩ ⟨by omega, by omega⟩]; omega) | (rw [J_le ⟨by omega, by omega⟩ ⟨by omega, by omega⟩]; omega) | (rw [J_eq ⟨by omega, by omega⟩ ⟨by omega, by omega⟩]; omega)) ?_
    refine xgI_R hR (by simp only [clv, eq_self_iff_true, true_or, or_true, false_or, or_false, true_and, and_true, false_and, and_false] <;> omega) rfl rfl ?_
    by_cases c2 : s 6 l 1 = -1
    · rw [if_pos (by omega)] at kk
      exact xbt (by show I (s 6 l 1) = I (-1); rw [c2]) kk
    · refine xbf (by (try simp only [I_lit, J_lit, I_ofNat, I_neg, I_add, I_sub, I_mul, J_neg, J_add, J_sub, J_mul]); first | (rw [I_lt ⟨by omega, by omega⟩ ⟨by omega, by omega⟩]; omega) | (rw [I_le ⟨by omega, by omega⟩ ⟨by omega, by omega⟩]; omega) | (rw [I_eq ⟨by omega, by omega⟩ ⟨by omega, by omega⟩]; omega) | (rw [J_lt ⟨by omega, by omega⟩ ⟨by omega, by omega⟩]; omega) | (rw [J_le ⟨by omega, by omega⟩ ⟨by omega, by omega⟩]; omega) | (rw [J_eq ⟨by omega, by omega⟩ ⟨by omega, by omega⟩]; omega)) ?_
      refine xgI_R hR (by simp only [clv, eq_self_iff_true, true_or, or_true, false_or, or_false, true_and, and_true, false_and, and_false] <;> omega) rfl rfl ?_
      by_cases c3 : s 6 l 1 < z
      · rw [if_neg (by omega)] at kk
        exact xbt (by (try simp only [I_lit, J_lit, I_ofNat, I_neg, I_add, I_sub, I_mul, J_neg, J_add, J_sub, J_mul]); first | (rw [I_lt ⟨by omega, by omega⟩ ⟨by omega, by omega⟩]; omega) | (rw [I_le ⟨by omega, by omega⟩ ⟨by omega, by omega⟩]; omega) | (rw [I_eq ⟨by omega, by omega⟩ ⟨by omega, by omega⟩]; omega) | (rw [J_lt ⟨by omega, by omega⟩ ⟨by omega, by omega⟩]; omega) | (rw [J_le ⟨by omega, by omega⟩ ⟨by omega, by omega⟩]; omega) | (rw [J_eq ⟨by omega, by omega⟩ ⟨by omega, by omega⟩]; omega)) kk
      · rw [if_pos (by omega)] at kk
        exact xbf (by (try simp only [I_lit, J_lit, I_ofNat, I_neg, I_add, I_sub, I_mul, J_neg, J_add, J_sub, J_mul]); first | (rw [I_lt ⟨by omega, by omega⟩ ⟨by omega, by omega⟩]; omega) | (rw [I_le ⟨by omega, by omega⟩ ⟨by omega, by omega⟩]; omega) | (rw [I_eq ⟨by omega, by omega⟩ ⟨by omega, by omega⟩]; omega) | (rw [J_lt ⟨by omega, by omega⟩ ⟨by omega, by omega⟩]; omega) | (rw [J_le ⟨by omega, by omega⟩ ⟨by omega, by omega⟩]; omega) | (rw [J_eq ⟨by omega, by omega⟩ ⟨by omega, by omega⟩]; omega)) kk
/-- the benefit for a rent and an income -/
def ben (r i : Int) : Int := if 0 < (if r * 8 / 10 < r - i * 3 / 10 then r * 8 / 10 else r - i * 3 / 10) then (if r * 8 / 10 < r - i * 3 / 10 then r * 8 / 10 else r - i * 3 / 10) else 0
theorem sp_benefit {K : Int32 → xT → Prop} {r i : Int} (hr : 0 ≤ r ∧ r ≤ 100000000) (hi : 0 ≤ i ∧ i ≤ 100000000) (kk : K (I (ben r i)) t) : V_X7_benefitFor_0 K (I r) (I i) t := by
  unfold V_X7_benefitFor_0
  refine ⟨by decide, by decide, ?_⟩
  rw [show (8 : Int32) = I 8 from rfl, show (10 : Int32) = I 10 from rfl, show (3 : Int32) = I 3 from rfl, show (0 : Int32) = I 0 from rfl, I_mul, I_mul, I_div ⟨by omega, by omega⟩ ⟨by omega, by omega⟩ (by omega) (by omega), I_div ⟨by omega, by omega⟩ ⟨by omega, by omega⟩ (by omega) (by omega), I_sub]
  have e : (if I (r * 8 / 10) < I (r - i * 3 / 10) then I (r * 8 / 10) else I (r - i * 3 / 10)) = I (if r * 8 / 10 < r - i * 3 / 10 then r * 8 / 10 else r - i * 3 / 10) := by
    by_cases c : r * 8 / 10 < r - i * 3 / 10
    · rw [if_pos c, if_pos (by (try simp only [I_lit, J_lit, I_ofNat, I_neg, I_add, I_sub, I_mul, J_neg, J_add, J_sub, J_mul]); first | (rw [I_lt ⟨by omega, by omega⟩ ⟨by omega, by omega⟩]; omega) | (rw [I_le ⟨by omega, by omega⟩ ⟨by omega, by omega⟩]; omega) | (rw [I_eq ⟨by omega, by omega⟩ ⟨by omega, by omega⟩]; omega) | (rw [J_lt ⟨by omega, by omega⟩ ⟨by omega, by omega⟩]; omega) | (rw [J_le ⟨by omega, by omega⟩ ⟨by omega, by omega⟩]; omega) | (rw [J_eq ⟨by omega, by omega⟩ ⟨by omega, by omega⟩]; omega))]
    · rw [if_neg c, if_neg (by (try simp only [I_lit, J_lit, I_ofNat, I_neg, I_add, I_sub, I_mul, J_neg, J_add, J_sub, J_mul]); first | (rw [I_lt ⟨by omega, by omega⟩ ⟨by omega, by omega⟩]; omega) | (rw [I_le ⟨by omega, by omega⟩ ⟨by omega, by omega⟩]; omega) | (rw [I_eq ⟨by omega, by omega⟩ ⟨by omega, by omega⟩]; omega) | (rw [J_lt ⟨by omega, by omega⟩ ⟨by omega, by omega⟩]; omega) | (rw [J_le ⟨by omega, by omega⟩ ⟨by omega, by omega⟩]; omega) | (rw [J_eq ⟨by omega, by omega⟩ ⟨by omega, by omega⟩]; omega))]
  rw [e]
  unfold ben at kk
  generalize hm : (if r * 8 / 10 < r - i * 3 / 10 then r * 8 / 10 else r - i * 3 / 10) = m at kk ⊢
  have hmr : -100000000 ≤ m ∧ m ≤ 100000000 := by
    rw [← hm]
    split <;> omega
  by_cases c : 0 < m
  · rw [if_pos c] at kk
    rw [if_pos (by (try simp only [I_lit, J_lit, I_ofNat, I_neg, I_add, I_sub, I_mul, J_neg, J_add, J_sub, J_mul]); first | (rw [I_lt ⟨by omega, by omega⟩ ⟨by omega, by omega⟩]; omega) | (rw [I_le ⟨by omega, by omega⟩ ⟨by omega, by omega⟩]; omega) | (rw [I_eq ⟨by omega, by omega⟩ ⟨by omega, by omega⟩]; omega) | (rw [J_lt ⟨by omega, by omega⟩ ⟨by omega, by omega⟩]; omega) | (rw [J_le ⟨by omega, by omega⟩ ⟨by omega, by omega⟩]; omega) | (rw [J_eq ⟨by omega, by omega⟩ ⟨by omega, by omega⟩]; omega))]
    exact kk
  · rw [if_neg c] at kk
    rw [if_neg (by (try simp only [I_lit, J_lit, I_ofNat, I_neg, I_add, I_sub, I_mul, J_neg, J_add, J_sub, J_mul]); first | (rw [I_lt ⟨by omega, by omega⟩ ⟨by omega, by omega⟩]; omega) | (rw [I_le ⟨by omega, by omega⟩ ⟨by omega, by omega⟩]; omega) | (rw [I_eq ⟨by omega, by omega⟩ ⟨by omega, by omega⟩]; omega) | (rw [J_lt ⟨by omega, by omega⟩ ⟨by omega, by omega⟩]; omega) | (rw [J_le ⟨by omega, by omega⟩ ⟨by omega, by omega⟩]; omega) | (rw [J_eq ⟨by omega, by omega⟩ ⟨by omega, by omega⟩]; omega))]
    exact kk
theorem sp_toTenant {K : xT → Prop} {l : Nat} {z : Int} (hR : RR ad q lo s u co t) (hl : l < q.2.1) (kk : ∀ t, RR ad q lo (su (su s 6 l 5 (s 6 l 5 + z)) 0 0 9 (s 0 0 9 - z)) u co t → K t) : V_X7_postToTenant_0 K (ad 0 0) (ad 6 l) (J z) t := by
  unfold V_X7_postToTenant_0
  refine xgJ_R hR (by simp only [clv, eq_self_iff_true, true_or, or_true, false_or, or_false, true_and, and_true, false_and, and_false] <;> omega) rfl rfl ?_
  rw [J_add]
  refine xpF_J hR (by simp only [clv, eq_self_iff_true, true_or, or_true, false_or, or_false, true_and, and_true, false_and, and_false] <;> omega) (by decide) rfl (Nat.le_of_ble_eq_true rfl) rfl (fun t hR => ?_)
  refine xgJ_R hR (by simp only [clv, eq_self_iff_true, true_or, or_true, false_or, or_false, true_and, and_true, false_and, and_false] <;> omega) rfl rfl ?_
  rw [J_sub]
  refine xpF_J hR (by simp only [clv, eq_self_iff_true, true_or, or_true, false_or, or_false, true_and, and_true, false_and, and_false] <;> omega) (by decide) rfl (Nat.le_of_ble_eq_true rfl) rfl (fun t hR => ?_)
  exact kk t hR
theorem sp_toDesk {K : xT → Prop} {l : Nat} {z : Int} (hR : RR ad q lo s u co t) (hl : l < q.2.1) (kk : ∀ t, RR ad q lo (su (su s 6 l 6 (s 6 l 6 + z)) 0 0 9 (s 0 0 9 - z)) u co t → K t) : V_X7_postToDesk_0 K (ad 0 0) (ad 6 l) (J z) t := by
  unfold V_X7_postToDesk_0
  refine xgJ_R hR (by simp only [clv, eq_self_iff_true, true_or, or_true, false_or, or_false, true_and, and_true, false_and, and_false] <;> omega) rfl rfl ?_
  rw [J_add]
  refine xpF_J hR (by simp only [clv, eq_self_iff_true, true_or, or_true, false_or, or_false, true_and, and_true, false_and, and_false] <;> omega) (by decide) rfl (Nat.le_of_ble_eq_true rfl) rfl (fun t hR => ?_)
  refine xgJ_R hR (by simp only [clv, eq_self_iff_true, true_or, or_true, false_or, or_false, true_and, and_true, false_and, and_false] <;> omega) rfl rfl ?_
  rw [J_sub]
  refine xpF_J hR (by simp only [clv, eq_self_iff_true, true_or, or_true, false_or, or_false, true_and, and_true, false_and, and_false] <;> omega) (by decide) rfl (Nat.le_of_ble_eq_true rfl) rfl (fun t hR => ?_)
  exact kk t hR
end CLS
