/-! ===== lists, the month, what a bill says ===== -/
section CLS1
variable {ad : xAd} {q : xL} {lo : Nat → Nat → Prop} {s u : xS} {co : Nat → Nat → xE} {t : xT}
/-- a list of n elements, in their order -/
def LI (q : xL) (s : xS) (k n : Nat) : Prop := s 1 k 2 = n ∧ (n : Int) ≤ s 2 k 0 ∧ s 2 k 0 ≤ 1000 ∧ (∀ j, j < n → s 2 k (j + 1) = j + 1) ∧ (0 < n → q.2.2.2.2 k)
theorem sp_size {K : Int32 → xT → Prop} {k n : Nat} (hR : RR ad q lo s u co t) (hk : k < 3) (hL : LI q s k n) (kk : K (I n) t) : V_Jx4a65c_size_8abf5_0 K (ad 1 k) t := by
  unfold V_Jx4a65c_size_8abf5_0
  refine xgI_R hR (by simp only [clv, eq_self_iff_true, true_or, or_true, false_or, or_false, true_and, and_true, false_and, and_false] <;> omega) rfl rfl ?_
  rw [hL.1]
  exact kk
theorem sp_get {K : Option Nat → xT → Prop} {k n : Nat} {z : Int} (hR : RR ad q lo s u co t) (hk : k < 3) (hL : LI q s k n) (hz : 0 ≤ z ∧ z < n) (kk : K (some (ad (elt k) z.toNat)) t) : V_Jx4a65c_get_915e3_0 K (ad 1 k) (I z) t := by
  unfold V_Jx4a65c_get_915e3_0
  obtain ⟨e1, e2, e3, e4, e5⟩ := hL
  refine xgI_R hR (by simp only [clv, eq_self_iff_true, true_or, or_true, false_or, or_false, true_and, and_true, false_and, and_false] <;> omega) rfl rfl ?_
  rw [e1]
  unfold V_J15_checkIndex_7cf53_0 V_J3_checkIndex_8e157_0
  refine xbf (by (try simp only [I_lit, J_lit, I_ofNat, I_neg, I_add, I_sub, I_mul, J_neg, J_add, J_sub, J_mul]); first | (rw [I_lt ⟨by omega, by omega⟩ ⟨by omega, by omega⟩]; omega) | (rw [I_le ⟨by omega, by omega⟩ ⟨by omega, by omega⟩]; omega) | (rw [I_eq ⟨by omega, by omega⟩ ⟨by omega, by omega⟩]; omega) | (rw [J_lt ⟨by omega, by omega⟩ ⟨by omega, by omega⟩]; omega) | (rw [J_le ⟨by omega, by omega⟩ ⟨by omega, by omega⟩]; omega) | (rw [J_eq ⟨by omega, by omega⟩ ⟨by omega, by omega⟩]; omega)) ?_
  refine xbt (by (try simp only [I_lit, J_lit, I_ofNat, I_neg, I_add, I_sub, I_mul, J_neg, J_add, J_sub, J_mul]); first | (rw [I_lt ⟨by omega, by omega⟩ ⟨by omega, by omega⟩]; omega) | (rw [I_le ⟨by omega, by omega⟩ ⟨by omega, by omega⟩]; omega) | (rw [I_eq ⟨by omega, by omega⟩ ⟨by omega, by omega⟩]; omega) | (rw [J_lt ⟨by omega, by omega⟩ ⟨by omega, by omega⟩]; omega) | (rw [J_le ⟨by omega, by omega⟩ ⟨by omega, by omega⟩]; omega) | (rw [J_eq ⟨by omega, by omega⟩ ⟨by omega, by omega⟩]; omega)) ?_
  refine ⟨xis_R hR (by simp only [clv, eq_self_iff_true, true_or, or_true, false_or, or_false, true_and, and_true, false_and, and_false] <;> omega) rfl, ?_⟩
  unfold V_Jx4a65c_elementData_915e3_0
  refine xgR_R hR (by simp only [clv, eq_self_iff_true, true_or, or_true, false_or, or_false, true_and, and_true, false_and, and_false] <;> omega) rfl rfl ?_
  have hC := e5 (by omega)
  refine xaQ_R hR (p := 2) ⟨hk, hC⟩ rfl (by omega) (by omega) ?_
  show K (if s 2 k (z.toNat + 1) = 0 then none else some (ad (elt k) (s 2 k (z.toNat + 1) - 1).toNat)) t
  rw [e4 _ (by omega), if_neg (by omega), show ((z.toNat : Int) + 1 - 1).toNat = z.toNat by omega]
  exact kk
theorem sp_now {K : Int32 → xT → Prop} (hR : RR ad q lo s u co t) (h0 : 0 ≤ s 0 0 8 ∧ s 0 0 8 ≤ 100000) (kk : K (I (s 0 0 8 / 30)) t) : V_X7_monthNow_0 K (ad 0 0) t := by
  unfold V_X7_monthNow_0
  refine xgI_R hR (by simp only [clv, eq_self_iff_true, true_or, or_true, false_or, or_false, true_and, and_true, false_and, and_false] <;> omega) rfl rfl ?_
  refine ⟨by decide, ?_⟩
  rw [show (30 : Int32) = I 30 from rfl, I_div ⟨by omega, by omega⟩ ⟨by omega, by omega⟩ (by omega) (by omega)]
  exact kk
theorem sp_needMonth {KX : String → xT → Prop} {K : xT → Prop} {z : Int} {rc rs : Nat} (hR : RR ad q lo s u co t) (h0 : 0 ≤ s 0 0 8 ∧ s 0 0 8 ≤ 100000) (hz : i32 z) (h1 : 1 ≤ rc) (h2 : 6 ≤ rs) (kx : ¬ (0 ≤ z ∧ z ≤ s 0 0 8 / 30) → KX "java/lang/IndexOutOfBoundsException" t) (kk : 0 ≤ z ∧ z ≤ s 0 0 8 / 30 → K t) : V_X7_needMonth_0 KX K (ad 0 0) (I z) t rc rs := by
  unfold V_X7_needMonth_0
  unfold i32 at hz
  by_cases c : z < 0
  · exact xbt (by (try simp only [I_lit, J_lit, I_ofNat, I_neg, I_add, I_sub, I_mul, J_neg, J_add, J_sub, J_mul]); first | (rw [I_lt ⟨by omega, by omega⟩ ⟨by omega, by omega⟩]; omega) | (rw [I_le ⟨by omega, by omega⟩ ⟨by omega, by omega⟩]; omega) | (rw [I_eq ⟨by omega, by omega⟩ ⟨by omega, by omega⟩]; omega) | (rw [J_lt ⟨by omega, by omega⟩ ⟨by omega, by omega⟩]; omega) | (rw [J_le ⟨by omega, by omega⟩ ⟨by omega, by omega⟩]; omega) | (rw [J_eq ⟨by omega, by omega⟩ ⟨by omega, by omega⟩]; omega)) ⟨h1, h2, kx (by omega)⟩
  · refine xbf (by (try simp only [I_lit, J_lit, I_ofNat, I_neg, I_add, I_sub, I_mul, J_neg, J_add, J_sub, J_mul]); first | (rw [I_lt ⟨by omega, by omega⟩ ⟨by omega, by omega⟩]; omega) | (rw [I_le ⟨by omega, by omega⟩ ⟨by omega, by omega⟩]; omega) | (rw [I_eq ⟨by omega, by omega⟩ ⟨by omega, by omega⟩]; omega) | (rw [J_lt ⟨by omega, by omega⟩ ⟨by omega, by omega⟩]; omega) | (rw [J_le ⟨by omega, by omega⟩ ⟨by omega, by omega⟩]; omega) | (rw [J_eq ⟨by omega, by omega⟩ ⟨by omega, by omega⟩]; omega)) ?_
    refine ⟨xis_R hR (by simp only [clv, eq_self_iff_true, true_or, or_true, false_or, or_false, true_and, and_true, false_and, and_false] <;> omega) rfl, ?_⟩
    refine sp_now hR h0 ?_
    by_cases c2 : z ≤ s 0 0 8 / 30
    · exact xbt (by (try simp only [I_lit, J_lit, I_ofNat, I_neg, I_add, I_sub, I_mul, J_neg, J_add, J_sub, J_mul]); first | (rw [I_lt ⟨by omega, by omega⟩ ⟨by omega, by omega⟩]; omega) | (rw [I_le ⟨by omega, by omega⟩ ⟨by omega, by omega⟩]; omega) | (rw [I_eq ⟨by omega, by omega⟩ ⟨by omega, by omega⟩]; omega) | (rw [J_lt ⟨by omega, by omega⟩ ⟨by omega, by omega⟩]; omega) | (rw [J_le ⟨by omega, by omega⟩ ⟨by omega, by omega⟩]; omega) | (rw [J_eq ⟨by omega, by omega⟩ ⟨by omega, by omega⟩]; omega)) (kk (by omega))
    · exact xbf (by (try simp only [I_lit, J_lit, I_ofNat, I_neg, I_add, I_sub, I_mul, J_neg, J_add, J_sub, J_mul]); first | (rw [I_lt ⟨by omega, by omega⟩ ⟨by omega, by omega⟩]; omega) | (rw [I_le ⟨by omega, by omega⟩ ⟨by omega, by omega⟩]; omega) | (rw [I_eq ⟨by omega, by omega⟩ ⟨by omega, by omega⟩]; omega) | (rw [J_lt ⟨by omega, by omega⟩ ⟨by omega, by omega⟩]; omega) | (rw [J_le ⟨by omega, by omega⟩ ⟨by omega, by omega⟩]; omega) | (rw [J_eq ⟨by omega, by omega⟩ ⟨by omega, by omega⟩]; omega)) ⟨h1, h2, kx (by omega)⟩
theorem sp_flatAt {KX : String → xT → Prop} {K : Option Nat → xT → Prop} {z : Int} {n rc rs : Nat} (hR : RR ad q lo s u co t) (hL : LI q s 0 n) (hn : n ≤ q.1) (hz : i32 z) (h1 : 1 ≤ rc) (h2 : 6 ≤ rs) (kx : ¬ (0 ≤ z ∧ z < n) → KX "java/lang/IndexOutOfBoundsException" t) (kk : 0 ≤ z ∧ z < n → K (some (ad 5 z.toNat)) t) : V_X7_flatAt_0 KX K (ad 0 0) (I z) t rc rs := by
  unfold V_X7_flatAt_0
  unfold i32 at hz
  have hb : (n : Int) ≤ 1000 := by have := hL.2.1; have := hL.2.2.1; omega
  by_cases c : z < 0
  · exact xbt (by (try simp only [I_lit, J_lit, I_ofNat, I_neg, I_add, I_sub, I_mul, J_neg, J_add, J_sub, J_mul]); first | (rw [I_lt ⟨by omega, by omega⟩ ⟨by omega, by omega⟩]; omega) | (rw [I_le ⟨by omega, by omega⟩ ⟨by omega, by omega⟩]; omega) | (rw [I_eq ⟨by omega, by omega⟩ ⟨by omega, by omega⟩]; omega) | (rw [J_lt ⟨by omega, by omega⟩ ⟨by omega, by omega⟩]; omega) | (rw [J_le ⟨by omega, by omega⟩ ⟨by omega, by omega⟩]; omega) | (rw [J_eq ⟨by omega, by omega⟩ ⟨by omega, by omega⟩]; omega)) ⟨h1, h2, kx (by omega)⟩
  · refine xbf (by (try simp only [I_lit, J_lit, I_ofNat, I_neg, I_add, I_sub, I_mul, J_neg, J_add, J_sub, J_mul]); first | (rw [I_lt ⟨by omega, by omega⟩ ⟨by omega, by omega⟩]; omega) | (rw [I_le ⟨by omega, by omega⟩ ⟨by omega, by omega⟩]; omega) | (rw [I_eq ⟨by omega, by omega⟩ ⟨by omega, by omega⟩]; omega) | (rw [J_lt ⟨by omega, by omega⟩ ⟨by omega, by omega⟩]; omega) | (rw [J_le ⟨by omega, by omega⟩ ⟨by omega, by omega⟩]; omega) | (rw [J_eq ⟨by omega, by omega⟩ ⟨by omega, by omega⟩]; omega)) ?_
    refine xgR_R hR (by simp only [clv, eq_self_iff_true, true_or, or_true, false_or, or_false, true_and, and_true, false_and, and_false] <;> omega) rfl rfl ?_
    refine ⟨xis_R hR (by simp only [clv, eq_self_iff_true, true_or, or_true, false_or, or_false, true_and, and_true, false_and, and_false] <;> omega) rfl, ?_⟩
    refine sp_size hR (by decide) hL ?_
    by_cases c2 : z < n
    · refine xbt (by (try simp only [I_lit, J_lit, I_ofNat, I_neg, I_add, I_sub, I_mul, J_neg, J_add, J_sub, J_mul]); first | (rw [I_lt ⟨by omega, by omega⟩ ⟨by omega, by omega⟩]; omega) | (rw [I_le ⟨by omega, by omega⟩ ⟨by omega, by omega⟩]; omega) | (rw [I_eq ⟨by omega, by omega⟩ ⟨by omega, by omega⟩]; omega) | (rw [J_lt ⟨by omega, by omega⟩ ⟨by omega, by omega⟩]; omega) | (rw [J_le ⟨by omega, by omega⟩ ⟨by omega, by omega⟩]; omega) | (rw [J_eq ⟨by omega, by omega⟩ ⟨by omega, by omega⟩]; omega)) ?_
      refine xgR_R hR (by simp only [clv, eq_self_iff_true, true_or, or_true, false_or, or_false, true_and, and_true, false_and, and_false] <;> omega) rfl rfl ?_
      refine ⟨xis_R hR (by simp only [clv, eq_self_iff_true, true_or, or_true, false_or, or_false, true_and, and_true, false_and, and_false] <;> omega) rfl, ?_⟩
      refine sp_get hR (by decide) hL (by omega) ⟨_, rfl, ?_⟩
      refine ⟨xis_R hR (p := 5) (by simp only [clv, eq_self_iff_true, true_or, or_true, false_or, or_false, true_and, and_true, false_and, and_false] <;> omega) rfl, ?_⟩
      exact kk (by omega)
    · exact xbf (by (try simp only [I_lit, J_lit, I_ofNat, I_neg, I_add, I_sub, I_mul, J_neg, J_add, J_sub, J_mul]); first | (rw [I_lt ⟨by omega, by omega⟩ ⟨by omega, by omega⟩]; omega) | (rw [I_le ⟨by omega, by omega⟩ ⟨by omega, by omega⟩]; omega) | (rw [I_eq ⟨by omega, by omega⟩ ⟨by omega, by omega⟩]; omega) | (rw [J_lt ⟨by omega, by omega⟩ ⟨by omega, by omega⟩]; omega) | (rw [J_le ⟨by omega, by omega⟩ ⟨by omega, by omega⟩]; omega) | (rw [J_eq ⟨by omega, by omega⟩ ⟨by omega, by omega⟩]; omega)) ⟨h1, h2, kx (by omega)⟩
theorem sp_leaseAt {KX : String → xT → Prop} {K : Option Nat → xT → Prop} {z : Int} {n rc rs : Nat} (hR : RR ad q lo s u co t) (hL : LI q s 1 n) (hn : n ≤ q.2.1) (hz : i32 z) (h1 : 1 ≤ rc) (h2 : 6 ≤ rs) (kx : ¬ (0 ≤ z ∧ z < n) → KX "java/lang/IndexOutOfBoundsException" t) (kk : 0 ≤ z ∧ z < n → K (some (ad 6 z.toNat)) t) : V_X7_leaseAt_0 KX K (ad 0 0) (I z) t rc rs := by
  unfold V_X7_leaseAt_0
  unfold i32 at hz
  have hb : (n : Int) ≤ 1000 := by have := hL.2.1; have := hL.2.2.1; omega
  by_cases c : z < 0
  · exact xbt (by (try simp only [I_lit, J_lit, I_ofNat, I_neg, I_add, I_sub, I_mul, J_neg, J_add, J_sub, J_mul]); first | (rw [I_lt ⟨by omega, by omega⟩ ⟨by omega, by omega⟩]; omega) | (rw [I_le ⟨by omega, by omega⟩ ⟨by omega, by omega⟩]; omega) | (rw [I_eq ⟨by omega, by omega⟩ ⟨by omega, by omega⟩]; omega) | (rw [J_lt ⟨by omega, by omega⟩ ⟨by omega, by omega⟩]; omega) | (rw [J_le ⟨by omega, by omega⟩ ⟨by omega, by omega⟩]; omega) | (rw [J_eq ⟨by omega, by omega⟩ ⟨by omega, by omega⟩]; omega)) ⟨h1, h2, kx (by omega)⟩
  · refine xbf (by (try simp only [I_lit, J_lit, I_ofNat, I_neg, I_add, I_sub, I_mul, J_neg, J_add, J_sub, J_mul]); first | (rw [I_lt ⟨by omega, by omega⟩ ⟨by omega, by omega⟩]; omega) | (rw [I_le ⟨by omega, by omega⟩ ⟨by omega, by omega⟩]; omega) | (rw [I_eq ⟨by omega, by omega⟩ ⟨by omega, by omega⟩]; omega) | (rw [J_lt ⟨by omega, by omega⟩ ⟨by omega, by omega⟩]; omega) | (rw [J_le ⟨by omega, by omega⟩ ⟨by omega, by omega⟩]; omega) | (rw [J_eq ⟨by omega, by omega⟩ ⟨by omega, by omega⟩]; omega)) ?_
    refine xgR_R hR (by simp only [clv, eq_self_iff_true, true_or, or_true, false_or, or_false, true_and, and_true, false_and, and_false] <;> omega) rfl rfl ?_
    refine ⟨xis_R hR (by simp only [clv, eq_self_iff_true, true_or, or_true, false_or, or_false, true_and, and_true, false_and, and_false] <;> omega) rfl, ?_⟩
    refine sp_size hR (by decide) hL ?_
    by_cases c2 : z < n
    · refine xbt (by (try simp only [I_lit, J_lit, I_ofNat, I_neg, I_add, I_sub, I_mul, J_neg, J_add, J_sub, J_mul]); first | (rw [I_lt ⟨by omega, by omega⟩ ⟨by omega, by omega⟩]; omega) | (rw [I_le ⟨by omega, by omega⟩ ⟨by omega, by omega⟩]; omega) | (rw [I_eq ⟨by omega, by omega⟩ ⟨by omega, by omega⟩]; omega) | (rw [J_lt ⟨by omega, by omega⟩ ⟨by omega, by omega⟩]; omega) | (rw [J_le ⟨by omega, by omega⟩ ⟨by omega, by omega⟩]; omega) | (rw [J_eq ⟨by omega, by omega⟩ ⟨by omega, by omega⟩]; omega)) ?_
      refine xgR_R hR (by simp only [clv, eq_self_iff_true, true_or, or_true, false_or, or_false, true_and, and_true, false_and, and_false] <;> omega) rfl rfl ?_
      refine ⟨xis_R hR (by simp only [clv, eq_self_iff_true, true_or, or_true, false_or, or_false, true_and, and_true, false_and, and_false] <;> omega) rfl, ?_⟩
      refine sp_get hR (by decide) hL (by omega) ⟨_, rfl, ?_⟩
      refine ⟨xis_R hR (p := 6) (by simp only [clv, eq_self_iff_true, true_or, or_true, false_or, or_false, true_and, and_true, false_and, and_false] <;> omega) rfl, ?_⟩
      exact kk (by omega)
    · exact xbf (by (try simp only [I_lit, J_lit, I_ofNat, I_neg, I_add, I_sub, I_mul, J_neg, J_add, J_sub, J_mul]); first | (rw [I_lt ⟨by omega, by omega⟩ ⟨by omega, by omega⟩]; omega) | (rw [I_le ⟨by omega, by omega⟩ ⟨by omega, by omega⟩]; omega) | (rw [I_eq ⟨by omega, by omega⟩ ⟨by omega, by omega⟩]; omega) | (rw [J_lt ⟨by omega, by omega⟩ ⟨by omega, by omega⟩]; omega) | (rw [J_le ⟨by omega, by omega⟩ ⟨by omega, by omega⟩]; omega) | (rw [J_eq ⟨by omega, by omega⟩ ⟨by omega, by omega⟩]; omega)) ⟨h1, h2, kx (by omega)⟩
/-- what a rent is lowered by for points -/
def low (r p : Int) : Int := if r < r * p / 3000 then r else r * p / 3000
theorem low_rng {r p : Int} (hr : 0 ≤ r) (hp : 0 ≤ p) : 0 ≤ low r p ∧ low r p ≤ r := by
  have h := Int.ediv_nonneg (Int.mul_nonneg hr hp) (by decide : (0 : Int) ≤ 3000)
  unfold low
  split <;> omega
theorem ben_rng {r i : Int} (hr : 0 ≤ r) : 0 ≤ ben r i ∧ ben r i ≤ r * 8 / 10 := by
  unfold ben
  split <;> split at * <;> omega
theorem sp_lowered {K : Int32 → xT → Prop} {r p : Int} (hr : 0 ≤ r ∧ r ≤ 100000000) (hp : 0 ≤ p ∧ p ≤ 100000000) (kk : K (I (low r p)) t) : V_X7_loweredBy_0 K (I r) (I p) t := by
  unfold V_X7_loweredBy_0
  have h0 : 0 ≤ r * p := Int.mul_nonneg hr.1 hp.1
  have h1 : r * p ≤ 100000000 * 100000000 := Int.mul_le_mul hr.2 hp.2 hp.1 (by decide)
  refine ⟨by decide, ?_⟩
  rw [I_long ⟨by omega, by omega⟩, I_long ⟨by omega, by omega⟩, J_mul, show (3000 : Int64) = J 3000 from rfl, J_div ⟨by omega, by omega⟩ ⟨by omega, by omega⟩ h0 (by omega)]
  unfold low at kk
  generalize hm : r * p / 3000 = m at kk ⊢
  by_cases c : r < m
  · rw [if_pos c] at kk
    rw [if_pos (by (try simp only [I_lit, J_lit, I_ofNat, I_neg, I_add, I_sub, I_mul, J_neg, J_add, J_sub, J_mul]); first | (rw [I_lt ⟨by omega, by omega⟩ ⟨by omega, by omega⟩]; omega) | (rw [I_le ⟨by omega, by omega⟩ ⟨by omega, by omega⟩]; omega) | (rw [I_eq ⟨by omega, by omega⟩ ⟨by omega, by omega⟩]; omega) | (rw [J_lt ⟨by omega, by omega⟩ ⟨by omega, by omega⟩]; omega) | (rw [J_le ⟨by omega, by omega⟩ ⟨by omega, by omega⟩]; omega) | (rw [J_eq ⟨by omega, by omega⟩ ⟨by omega, by omega⟩]; omega)), J_int]
    exact kk
  · rw [if_neg c] at kk
    rw [if_neg (by (try simp only [I_lit, J_lit, I_ofNat, I_neg, I_add, I_sub, I_mul, J_neg, J_add, J_sub, J_mul]); first | (rw [I_lt ⟨by omega, by omega⟩ ⟨by omega, by omega⟩]; omega) | (rw [I_le ⟨by omega, by omega⟩ ⟨by omega, by omega⟩]; omega) | (rw [I_eq ⟨by omega, by omega⟩ ⟨by omega, by omega⟩]; omega) | (rw [J_lt ⟨by omega, by omega⟩ ⟨by omega, by omega⟩]; omega) | (rw [J_le ⟨by omega, by omega⟩ ⟨by omega, by omega⟩]; omega) | (rw [J_eq ⟨by omega, by omega⟩ ⟨by omega, by omega⟩]; omega)), J_int]
    exact kk
/-- a bill's four numbers -/
def cBill (s : xS) (l : Nat) (m : Nat) : Nat → Int := fun k => match k with
  | 0 => s 6 l 8 * s 4 0 m / 100
  | 1 => low (s 6 l 8 * s 4 0 m / 100) (s 4 (300 + (s 6 l 0).toNat) m)
  | 2 => ben (s 6 l 8 * s 4 0 m / 100 - low (s 6 l 8 * s 4 0 m / 100) (s 4 (300 + (s 6 l 0).toNat) m)) (incn (s 4 (400 + l)) (m + 1))
  | _ => s 8 l 0
def settle (s : xS) (l m b : Nat) : xS := su (su (su (su s 10 b 0 (cBill s l m 0)) 10 b 1 (cBill s l m 1)) 10 b 2 (cBill s l m 2)) 10 b 3 (cBill s l m 3)
theorem sp_settle {K : xT → Prop} {l b : Nat} {z : Int} (hR : RR ad q lo s u co t) (hl : l < q.2.1) (hh : (s 6 l 0).toNat < q.1) (hb : clv q lo 10 b) (hz : 0 ≤ z ∧ z < 121) (hr : 0 ≤ s 6 l 8 ∧ s 6 l 8 ≤ 500000) (hx : 0 ≤ s 4 0 z.toNat ∧ s 4 0 z.toNat ≤ 200) (hp : 0 ≤ s 4 (300 + (s 6 l 0).toNat) z.toNat ∧ s 4 (300 + (s 6 l 0).toNat) z.toNat ≤ 100000000) (ht : ∀ m, m < 121 → i32 (s 4 (400 + l) m)) (hi : 0 ≤ incn (s 4 (400 + l)) (z.toNat + 1) ∧ incn (s 4 (400 + l)) (z.toNat + 1) ≤ 100000000)
    (kk : ∀ t, RR ad q lo (settle s l z.toNat b) u co t → K t) : V_X7_settle_0 K (ad 0 0) (ad 6 l) (I z) (ad 10 b) t := by
  have h0 : 0 ≤ s 6 l 8 * s 4 0 z.toNat := Int.mul_nonneg hr.1 hx.1
  have h1 : s 6 l 8 * s 4 0 z.toNat ≤ 500000 * 200 := Int.mul_le_mul hr.2 hx.2 hx.1 (by decide)
  have hlow := low_rng (r := s 6 l 8 * s 4 0 z.toNat / 100) (p := s 4 (300 + (s 6 l 0).toNat) z.toNat) (by omega) hp.1
  unfold V_X7_settle_0
  refine xgR_R hR (by simp only [clv, eq_self_iff_true, true_or, or_true, false_or, or_false, true_and, and_true, false_and, and_false] <;> omega) rfl rfl ?_
  refine ⟨xis_R hR (by simp only [clv, eq_self_iff_true, true_or, or_true, false_or, or_false, true_and, and_true, false_and, and_false] <;> omega) rfl, ?_⟩
  refine sp_in hR (by simp only [clv, eq_self_iff_true, true_or, or_true, false_or, or_false, true_and, and_true, false_and, and_false] <;> omega) hz ?_
  refine ⟨xis_R hR (by simp only [clv, eq_self_iff_true, true_or, or_true, false_or, or_false, true_and, and_true, false_and, and_false] <;> omega) rfl, ?_⟩
  refine sp_rentAt hR hl (by omega) ?_
  refine xpF_I hR hb (by decide) rfl (Nat.le_of_ble_eq_true rfl) rfl (fun t hR => ?_)
  refine xgI_R hR hb rfl rfl ?_
  refine xgR_R hR (p := 6) hl rfl rfl ?_
  simp (config := { decide := true }) only [su_r, su_f, sup_n, not_false_eq_true, eq_self_iff_true, true_or, or_true, false_or, or_false, true_and, and_true, false_and, and_false, if_true, if_false, ite_true, ite_false]
  refine xgR_R hR (p := 5) hh rfl rfl ?_
  refine ⟨xis_R hR (by simp only [clv, eq_self_iff_true, true_or, or_true, false_or, or_false, true_and, and_true, false_and, and_false] <;> omega) rfl, ?_⟩
  refine sp_in hR (by simp only [clv, eq_self_iff_true, true_or, or_true, false_or, or_false, true_and, and_true, false_and, and_false] <;> omega) hz ?_
  simp (config := { decide := true }) only [su_r, su_f, sup_n, not_false_eq_true, eq_self_iff_true, true_or, or_true, false_or, or_false, true_and, and_true, false_and, and_false, if_true, if_false, ite_true, ite_false]
  refine sp_lowered (by omega) (by omega) ?_
  refine xpF_I hR hb (by decide) rfl (Nat.le_of_ble_eq_true rfl) rfl (fun t hR => ?_)
  refine xgI_R hR hb rfl rfl ?_
  refine xgI_R hR hb rfl rfl ?_
  simp (config := { decide := true }) only [su_r, su_f, sup_n, not_false_eq_true, eq_self_iff_true, true_or, or_true, false_or, or_false, true_and, and_true, false_and, and_false, if_true, if_false, ite_true, ite_false]
  refine ⟨xis_R hR (by simp only [clv, eq_self_iff_true, true_or, or_true, false_or, or_false, true_and, and_true, false_and, and_false] <;> omega) rfl, ?_⟩
  refine sp_incomeIn hR hl (fun m hm => by simp (config := { decide := true }) only [su_r, su_f, sup_n, not_false_eq_true, eq_self_iff_true, true_or, or_true, false_or, or_false, true_and, and_true, false_and, and_false, if_true, if_false, ite_true, ite_false]; exact ht m hm) hz ?_
  rw [I_sub]
  refine sp_benefit (by omega) (by simp (config := { decide := true }) only [su_r, su_f, sup_n, not_false_eq_true, eq_self_iff_true, true_or, or_true, false_or, or_false, true_and, and_true, false_and, and_false, if_true, if_false, ite_true, ite_false]; exact hi) ?_
  refine xpF_I hR hb (by decide) rfl (Nat.le_of_ble_eq_true rfl) rfl (fun t hR => ?_)
  refine xgR_R hR (p := 6) hl rfl rfl ?_
  refine xgI_R hR (p := 8) hl rfl rfl ?_
  refine xpF_I hR hb (by decide) rfl (Nat.le_of_ble_eq_true rfl) rfl (fun t hR => ?_)
  refine kk t ?_
  simp only [settle, cBill]
  simp (config := { decide := true }) only [su_r, su_f, sup_n, not_false_eq_true, eq_self_iff_true, true_or, or_true, false_or, or_false, true_and, and_true, false_and, and_false, if_true, if_false, ite_true, ite_false] at hR
  exact hR
end CLS1
