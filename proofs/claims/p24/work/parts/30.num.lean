/-! ===== numbers: ints and longs as whole numbers ===== -/
abbrev I (z : Int) : Int32 := Int32.ofInt z
abbrev J (z : Int) : Int64 := Int64.ofInt z
theorem I_lit (n : Nat) : (OfNat.ofNat n : Int32) = I (OfNat.ofNat n : Nat) := rfl
theorem J_lit (n : Nat) : (OfNat.ofNat n : Int64) = J (OfNat.ofNat n : Nat) := rfl
theorem I_ofNat (n : Nat) : Int32.ofNat n = I n := rfl
theorem I_neg (a : Int) : -(I a) = I (-a) := (Int32.ofInt_neg a).symm
theorem J_neg (a : Int) : -(J a) = J (-a) := (Int64.ofInt_neg a).symm
theorem I_add (a b : Int) : I a + I b = I (a + b) := (Int32.ofInt_add a b).symm
theorem I_sub (a b : Int) : I a - I b = I (a - b) := (Int32.ofInt_sub a b).symm
theorem I_mul (a b : Int) : I a * I b = I (a * b) := (Int32.ofInt_mul a b).symm
theorem J_add (a b : Int) : J a + J b = J (a + b) := (Int64.ofInt_add a b).symm
theorem J_sub (a b : Int) : J a - J b = J (a - b) := (Int64.ofInt_sub a b).symm
theorem J_mul (a b : Int) : J a * J b = J (a * b) := (Int64.ofInt_mul a b).symm
def i32 (z : Int) : Prop := -2147483648 ≤ z ∧ z < 2147483648
def i64 (z : Int) : Prop := -9223372036854775808 ≤ z ∧ z < 9223372036854775808
theorem I_toInt {a : Int} (h : i32 a) : (I a).toInt = a := Int32.toInt_ofInt_of_le (by unfold i32 at h; omega) (by unfold i32 at h; omega)
theorem J_toInt {a : Int} (h : i64 a) : (J a).toInt = a := Int64.toInt_ofInt_of_le (by unfold i64 at h; omega) (by unfold i64 at h; omega)
theorem I_of (x : Int32) : x = I x.toInt := by simp [I]
theorem I_rng (x : Int32) : i32 x.toInt := ⟨by have := Int32.le_toInt x; omega, by have := Int32.toInt_lt x; omega⟩
theorem I_lt {a b : Int} (ha : i32 a) (hb : i32 b) : (I a < I b) ↔ a < b := by rw [Int32.lt_iff_toInt_lt, I_toInt ha, I_toInt hb]
theorem I_le {a b : Int} (ha : i32 a) (hb : i32 b) : (I a ≤ I b) ↔ a ≤ b := by rw [Int32.le_iff_toInt_le, I_toInt ha, I_toInt hb]
theorem I_eq {a b : Int} (ha : i32 a) (hb : i32 b) : (I a = I b) ↔ a = b := by rw [← Int32.toInt_inj, I_toInt ha, I_toInt hb]
theorem J_lt {a b : Int} (ha : i64 a) (hb : i64 b) : (J a < J b) ↔ a < b := by rw [Int64.lt_iff_toInt_lt, J_toInt ha, J_toInt hb]
theorem J_le {a b : Int} (ha : i64 a) (hb : i64 b) : (J a ≤ J b) ↔ a ≤ b := by rw [Int64.le_iff_toInt_le, J_toInt ha, J_toInt hb]
theorem J_eq {a b : Int} (ha : i64 a) (hb : i64 b) : (J a = J b) ↔ a = b := by rw [← Int64.toInt_inj, J_toInt ha, J_toInt hb]
theorem I_nat {a : Int} (h : i32 a) : (I a).toNatClampNeg = a.toNat := by
  show (I a).toInt.toNat = _
  rw [I_toInt h]
theorem I_in {a : Int} {n : Nat} (h : i32 a) : vp_in (I a) n ↔ 0 ≤ a ∧ a < n := by rw [vp_in_iff, I_toInt h]
theorem I_long {a : Int} (h : i32 a) : (I a).toInt64 = J a := by
  rw [← Int64.toInt_inj, Int32.toInt_toInt64, I_toInt h, J_toInt ⟨by unfold i32 at h; omega, by unfold i32 at h; omega⟩]
theorem J_int (a : Int) : (J a).toInt32 = I a := by simp [I, J]
theorem I_div {a b : Int} (ha : i32 a) (hb : i32 b) (h0 : 0 ≤ a) (h1 : 0 < b) : I a / I b = I (a / b) := by
  have hq : a / b ≤ a := Int.ediv_le_self _ h0
  have hq0 : 0 ≤ a / b := Int.ediv_nonneg h0 (by omega)
  rw [← Int32.toInt_inj, Int32.toInt_div, I_toInt ha, I_toInt hb, I_toInt ⟨by omega, by unfold i32 at ha; omega⟩, Int.tdiv_eq_ediv_of_nonneg h0]
  unfold i32 at ha
  rw [Int.bmod_eq_of_le (by omega) (by omega)]
theorem J_div {a b : Int} (ha : i64 a) (hb : i64 b) (h0 : 0 ≤ a) (h1 : 0 < b) : J a / J b = J (a / b) := by
  have hq : a / b ≤ a := Int.ediv_le_self _ h0
  have hq0 : 0 ≤ a / b := Int.ediv_nonneg h0 (by omega)
  rw [← Int64.toInt_inj, Int64.toInt_div, J_toInt ha, J_toInt hb, J_toInt ⟨by omega, by unfold i64 at ha; omega⟩, Int.tdiv_eq_ediv_of_nonneg h0]
  unfold i64 at ha
  rw [Int.bmod_eq_of_le (by omega) (by omega)]
theorem I_rem {a b : Int} (ha : i32 a) (hb : i32 b) (h0 : 0 ≤ a) (h1 : 0 < b) : xrem (I a) (I b) = I (a % b) := by
  unfold xrem
  rw [I_div ha hb h0 h1, I_mul, I_sub, Int.emod_def, Int.mul_comm]
theorem J_rem {a b : Int} (ha : i64 a) (hb : i64 b) (h0 : 0 ≤ a) (h1 : 0 < b) : xlrem (J a) (J b) = J (a % b) := by
  unfold xlrem
  rw [J_div ha hb h0 h1, J_mul, J_sub, Int.emod_def, Int.mul_comm]
