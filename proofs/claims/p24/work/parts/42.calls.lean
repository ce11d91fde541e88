/-! ===== the class's calls that make nothing ===== -/
section CLS10
variable {ad : xAd} {q : xL} {lo : Nat → Nat → Prop} {s u : xS} {co : Nat → Nat → xE} {t : xT} {KX : String → xT → Prop} {rc rs nf n nr : Nat}
abbrev IAE : String := "java/lang/IllegalArgumentException"
abbrev ISE : String := "java/lang/IllegalStateException"
abbrev IOB : String := "java/lang/IndexOutOfBoundsException"
/-- the month of now -/
def nowN (s : xS) : Nat := (s 0 0 8 / 30).toNat
def okT (s : xS) : Prop := 0 ≤ s 0 0 8 ∧ s 0 0 8 ≤ 3600
theorem sp_index {K : Int32 → xT → Prop} {z : Int} (hR : RR ad q lo s u co t) (hT : okT s) (hz : i32 z) (h1 : 1 ≤ rc) (h2 : 6 ≤ rs) (kx : ¬ (50 ≤ z ∧ z ≤ 200) → KX IAE t) (kk : 50 ≤ z ∧ z ≤ 200 → ∀ t, RR ad q lo (su s 0 0 7 z) u co t → K (I (s 4 0 (nowN s))) t) : V_X7_index_0 KX K (ad 0 0) (I z) t rc rs := by
  unfold okT at hT
  unfold i32 at hz
  unfold V_X7_index_0
  by_cases c1 : z < 50
  · exact xbt (by (try simp only [I_lit, J_lit, I_ofNat, I_neg, I_add, I_sub, I_mul, J_neg, J_add, J_sub, J_mul]); first | (rw [I_lt ⟨by omega, by omega⟩ ⟨by omega, by omega⟩]; omega) | (rw [I_le ⟨by omega, by omega⟩ ⟨by omega, by omega⟩]; omega) | (rw [I_eq ⟨by omega, by omega⟩ ⟨by omega, by omega⟩]; omega) | (rw [J_lt ⟨by omega, by omega⟩ ⟨by omega, by omega⟩]; omega) | (rw [J_le ⟨by omega, by omega⟩ ⟨by omega, by omega⟩]; omega) | (rw [J_eq ⟨by omega, by omega⟩ ⟨by omega, by omega⟩]; omega)) ⟨h1, h2, kx (by omega)⟩
  · refine xbf (by (try simp only [I_lit, J_lit, I_ofNat, I_neg, I_add, I_sub, I_mul, J_neg, J_add, J_sub, J_mul]); first | (rw [I_lt ⟨by omega, by omega⟩ ⟨by omega, by omega⟩]; omega) | (rw [I_le ⟨by omega, by omega⟩ ⟨by omega, by omega⟩]; omega) | (rw [I_eq ⟨by omega, by omega⟩ ⟨by omega, by omega⟩]; omega) | (rw [J_lt ⟨by omega, by omega⟩ ⟨by omega, by omega⟩]; omega) | (rw [J_le ⟨by omega, by omega⟩ ⟨by omega, by omega⟩]; omega) | (rw [J_eq ⟨by omega, by omega⟩ ⟨by omega, by omega⟩]; omega)) ?_
    by_cases c2 : z ≤ 200
    · refine xbt (by (try simp only [I_lit, J_lit, I_ofNat, I_neg, I_add, I_sub, I_mul, J_neg, J_add, J_sub, J_mul]); first | (rw [I_lt ⟨by omega, by omega⟩ ⟨by omega, by omega⟩]; omega) | (rw [I_le ⟨by omega, by omega⟩ ⟨by omega, by omega⟩]; omega) | (rw [I_eq ⟨by omega, by omega⟩ ⟨by omega, by omega⟩]; omega) | (rw [J_lt ⟨by omega, by omega⟩ ⟨by omega, by omega⟩]; omega) | (rw [J_le ⟨by omega, by omega⟩ ⟨by omega, by omega⟩]; omega) | (rw [J_eq ⟨by omega, by omega⟩ ⟨by omega, by omega⟩]; omega)) ?_
      refine xpF_I hR (by simp only [clv, eq_self_iff_true, true_or, or_true, false_or, or_false, true_and, and_true, false_and, and_false] <;> omega) (by decide) rfl (Nat.le_of_ble_eq_true rfl) rfl (fun t hR => ?_)
      refine xgR_R hR (by simp only [clv, eq_self_iff_true, true_or, or_true, false_or, or_false, true_and, and_true, false_and, and_false] <;> omega) rfl rfl ?_
      refine ⟨xis_R hR (by simp only [clv, eq_self_iff_true, true_or, or_true, false_or, or_false, true_and, and_true, false_and, and_false] <;> omega) rfl, ?_⟩
      refine sp_now hR (by simp (config := { decide := true }) only [su_r, su_f, sup_n, not_false_eq_true, eq_self_iff_true, true_or, or_true, false_or, or_false, true_and, and_true, false_and, and_false, if_true, if_false, ite_true, ite_false]; omega) ?_
      simp (config := { decide := true }) only [su_r, su_f, sup_n, not_false_eq_true, eq_self_iff_true, true_or, or_true, false_or, or_false, true_and, and_true, false_and, and_false, if_true, if_false, ite_true, ite_false]
      refine ⟨xis_R hR (by simp only [clv, eq_self_iff_true, true_or, or_true, false_or, or_false, true_and, and_true, false_and, and_false] <;> omega) rfl, ?_⟩
      refine sp_in hR (by simp only [clv, eq_self_iff_true, true_or, or_true, false_or, or_false, true_and, and_true, false_and, and_false] <;> omega) (by omega) ?_
      exact kk (by omega) _ hR
    · exact xbf (by (try simp only [I_lit, J_lit, I_ofNat, I_neg, I_add, I_sub, I_mul, J_neg, J_add, J_sub, J_mul]); first | (rw [I_lt ⟨by omega, by omega⟩ ⟨by omega, by omega⟩]; omega) | (rw [I_le ⟨by omega, by omega⟩ ⟨by omega, by omega⟩]; omega) | (rw [I_eq ⟨by omega, by omega⟩ ⟨by omega, by omega⟩]; omega) | (rw [J_lt ⟨by omega, by omega⟩ ⟨by omega, by omega⟩]; omega) | (rw [J_le ⟨by omega, by omega⟩ ⟨by omega, by omega⟩]; omega) | (rw [J_eq ⟨by omega, by omega⟩ ⟨by omega, by omega⟩]; omega)) ⟨h1, h2, kx (by omega)⟩
theorem sp_end {K : Int32 → xT → Prop} {z : Int} (hR : RR ad q lo s u co t) (hT : okT s) (hL : LI q s 1 n) (hn : n ≤ q.2.1) (hz : i32 z) (hl : ∀ l, l < n → okL q s l) (h1 : 3 ≤ rc) (h2 : 18 ≤ rs) (kx : ¬ (0 ≤ z ∧ z < n) → KX IOB t) (ky : 0 ≤ z ∧ z < n → s 6 z.toNat 1 ≠ -1 → KX ISE t) (kk : 0 ≤ z ∧ z < n → s 6 z.toNat 1 = -1 → ∀ t, RR ad q lo (su s 6 z.toNat 1 (s 0 0 8 / 30)) u co t → K (I (s 0 0 8 / 30)) t) : V_X7_end_0 KX K (ad 0 0) (I z) t rc rs := by
  unfold okT at hT
  unfold V_X7_end_0
  refine ⟨xis_R hR (by simp only [clv, eq_self_iff_true, true_or, or_true, false_or, or_false, true_and, and_true, false_and, and_false] <;> omega) rfl, ?_⟩
  refine ⟨1, 6, by omega, by omega, ?_⟩
  refine sp_leaseAt hR hL hn hz (by omega) (by omega) kx (fun hc => ⟨_, rfl, ?_⟩)
  have h9 := (hl z.toNat (by omega)).2.2.2.1
  refine xgI_R hR (p := 6) (show z.toNat < q.2.1 by omega) rfl rfl ?_
  by_cases c : s 6 z.toNat 1 = -1
  · refine xbt (by rw [c]; rfl) ?_
    refine ⟨xis_R hR (by simp only [clv, eq_self_iff_true, true_or, or_true, false_or, or_false, true_and, and_true, false_and, and_false] <;> omega) rfl, ?_⟩
    refine sp_now hR (by omega) ?_
    refine xpF_I hR (p := 6) (show z.toNat < q.2.1 by omega) (by decide) rfl (Nat.le_of_ble_eq_true rfl) rfl (fun t hR => ?_)
    refine xgI_R hR (p := 6) (show z.toNat < q.2.1 by omega) rfl rfl ?_
    simp (config := { decide := true }) only [su_r, su_f, sup_n, not_false_eq_true, eq_self_iff_true, true_or, or_true, false_or, or_false, true_and, and_true, false_and, and_false, if_true, if_false, ite_true, ite_false]
    exact kk hc c _ hR
  · refine xbf (by (try simp only [I_lit, J_lit, I_ofNat, I_neg, I_add, I_sub, I_mul, J_neg, J_add, J_sub, J_mul]); first | (rw [I_lt ⟨by omega, by omega⟩ ⟨by omega, by omega⟩]; omega) | (rw [I_le ⟨by omega, by omega⟩ ⟨by omega, by omega⟩]; omega) | (rw [I_eq ⟨by omega, by omega⟩ ⟨by omega, by omega⟩]; omega) | (rw [J_lt ⟨by omega, by omega⟩ ⟨by omega, by omega⟩]; omega) | (rw [J_le ⟨by omega, by omega⟩ ⟨by omega, by omega⟩]; omega) | (rw [J_eq ⟨by omega, by omega⟩ ⟨by omega, by omega⟩]; omega)) ⟨by omega, by omega, ky hc c⟩
theorem sp_read {K : Int32 → xT → Prop} {z x : Int} (hR : RR ad q lo s u co t) (hT : okT s) (hL : LI q s 0 nf) (hn : nf ≤ q.1) (hz : i32 z) (hx : i32 x) (hf : ∀ f, f < nf → okF q s f) (h1 : 3 ≤ rc) (h2 : 18 ≤ rs) (kx : ¬ (0 ≤ z ∧ z < nf) → KX IOB t) (ky : 0 ≤ z ∧ z < nf → ¬ (s 5 z.toNat 3 ≤ x ∧ x ≤ 1000000) → KX IAE t) (kk : 0 ≤ z ∧ z < nf → s 5 z.toNat 3 ≤ x ∧ x ≤ 1000000 → ∀ t, RR ad q lo (su (su s 5 z.toNat 3 x) 5 z.toNat 5 (s 0 0 8 / 30)) u co t → K (I (x - s 5 z.toNat 3)) t) : V_X7_read_0 KX K (ad 0 0) (I z) (I x) t rc rs := by
  unfold okT at hT
  unfold i32 at hx
  unfold V_X7_read_0
  refine ⟨xis_R hR (by simp only [clv, eq_self_iff_true, true_or, or_true, false_or, or_false, true_and, and_true, false_and, and_false] <;> omega) rfl, ?_⟩
  refine ⟨1, 6, by omega, by omega, ?_⟩
  refine sp_flatAt hR hL hn hz (by omega) (by omega) kx (fun hc => ⟨_, rfl, ?_⟩)
  have hl : clv q lo 5 z.toNat := show z.toNat < q.1 by omega
  have h9 := (hf z.toNat (by omega)).2.2.2.1
  refine xgI_R hR hl rfl rfl ?_
  by_cases c : x < s 5 z.toNat 3
  · exact xbt (by (try simp only [I_lit, J_lit, I_ofNat, I_neg, I_add, I_sub, I_mul, J_neg, J_add, J_sub, J_mul]); first | (rw [I_lt ⟨by omega, by omega⟩ ⟨by omega, by omega⟩]; omega) | (rw [I_le ⟨by omega, by omega⟩ ⟨by omega, by omega⟩]; omega) | (rw [I_eq ⟨by omega, by omega⟩ ⟨by omega, by omega⟩]; omega) | (rw [J_lt ⟨by omega, by omega⟩ ⟨by omega, by omega⟩]; omega) | (rw [J_le ⟨by omega, by omega⟩ ⟨by omega, by omega⟩]; omega) | (rw [J_eq ⟨by omega, by omega⟩ ⟨by omega, by omega⟩]; omega)) ⟨by omega, by omega, ky hc (by omega)⟩
  · refine xbf (by (try simp only [I_lit, J_lit, I_ofNat, I_neg, I_add, I_sub, I_mul, J_neg, J_add, J_sub, J_mul]); first | (rw [I_lt ⟨by omega, by omega⟩ ⟨by omega, by omega⟩]; omega) | (rw [I_le ⟨by omega, by omega⟩ ⟨by omega, by omega⟩]; omega) | (rw [I_eq ⟨by omega, by omega⟩ ⟨by omega, by omega⟩]; omega) | (rw [J_lt ⟨by omega, by omega⟩ ⟨by omega, by omega⟩]; omega) | (rw [J_le ⟨by omega, by omega⟩ ⟨by omega, by omega⟩]; omega) | (rw [J_eq ⟨by omega, by omega⟩ ⟨by omega, by omega⟩]; omega)) ?_
    by_cases c2 : x ≤ 1000000
    · refine xbt (by (try simp only [I_lit, J_lit, I_ofNat, I_neg, I_add, I_sub, I_mul, J_neg, J_add, J_sub, J_mul]); first | (rw [I_lt ⟨by omega, by omega⟩ ⟨by omega, by omega⟩]; omega) | (rw [I_le ⟨by omega, by omega⟩ ⟨by omega, by omega⟩]; omega) | (rw [I_eq ⟨by omega, by omega⟩ ⟨by omega, by omega⟩]; omega) | (rw [J_lt ⟨by omega, by omega⟩ ⟨by omega, by omega⟩]; omega) | (rw [J_le ⟨by omega, by omega⟩ ⟨by omega, by omega⟩]; omega) | (rw [J_eq ⟨by omega, by omega⟩ ⟨by omega, by omega⟩]; omega)) ?_
      refine ⟨xis_R hR (by simp only [clv, eq_self_iff_true, true_or, or_true, false_or, or_false, true_and, and_true, false_and, and_false] <;> omega) rfl, ?_⟩
      refine sp_now hR (by omega) ?_
      refine ⟨xis_R hR hl rfl, ?_⟩
      unfold V_X1_readMeter_0
      refine xgI_R hR hl rfl rfl ?_
      refine xpF_I hR hl (by decide) rfl (Nat.le_of_ble_eq_true rfl) rfl (fun t hR => ?_)
      refine xpF_I hR hl (by decide) rfl (Nat.le_of_ble_eq_true rfl) rfl (fun t hR => ?_)
      rw [I_sub]
      exact kk hc (by omega) _ hR
    · exact xbf (by (try simp only [I_lit, J_lit, I_ofNat, I_neg, I_add, I_sub, I_mul, J_neg, J_add, J_sub, J_mul]); first | (rw [I_lt ⟨by omega, by omega⟩ ⟨by omega, by omega⟩]; omega) | (rw [I_le ⟨by omega, by omega⟩ ⟨by omega, by omega⟩]; omega) | (rw [I_eq ⟨by omega, by omega⟩ ⟨by omega, by omega⟩]; omega) | (rw [J_lt ⟨by omega, by omega⟩ ⟨by omega, by omega⟩]; omega) | (rw [J_le ⟨by omega, by omega⟩ ⟨by omega, by omega⟩]; omega) | (rw [J_eq ⟨by omega, by omega⟩ ⟨by omega, by omega⟩]; omega)) ⟨by omega, by omega, ky hc (by omega)⟩
theorem sp_heat {K : Int32 → xT → Prop} {z : Int} (hR : RR ad q lo s u co t) (hT : okT s) (hz : i32 z) (hc : 0 ≤ s 4 100 (nowN s) ∧ s 4 100 (nowN s) ≤ 10000000) (h1 : 1 ≤ rc) (h2 : 6 ≤ rs) (kx : ¬ (1 ≤ z ∧ z ≤ 1000000) → KX IAE t) (ky : 1 ≤ z ∧ z ≤ 1000000 → ¬ s 4 100 (nowN s) + z ≤ 10000000 → KX ISE t) (kk : 1 ≤ z ∧ z ≤ 1000000 → s 4 100 (nowN s) + z ≤ 10000000 → ∀ t, RR ad q lo (su s 4 100 (nowN s) (s 4 100 (nowN s) + z)) u co t → K (I (s 4 100 (nowN s) + z)) t) : V_X7_heat_0 KX K (ad 0 0) (I z) t rc rs := by
  unfold okT at hT
  unfold i32 at hz
  unfold nowN at *
  unfold V_X7_heat_0
  by_cases c1 : z < 1
  · exact xbt (by (try simp only [I_lit, J_lit, I_ofNat, I_neg, I_add, I_sub, I_mul, J_neg, J_add, J_sub, J_mul]); first | (rw [I_lt ⟨by omega, by omega⟩ ⟨by omega, by omega⟩]; omega) | (rw [I_le ⟨by omega, by omega⟩ ⟨by omega, by omega⟩]; omega) | (rw [I_eq ⟨by omega, by omega⟩ ⟨by omega, by omega⟩]; omega) | (rw [J_lt ⟨by omega, by omega⟩ ⟨by omega, by omega⟩]; omega) | (rw [J_le ⟨by omega, by omega⟩ ⟨by omega, by omega⟩]; omega) | (rw [J_eq ⟨by omega, by omega⟩ ⟨by omega, by omega⟩]; omega)) ⟨h1, h2, kx (by omega)⟩
  · refine xbf (by (try simp only [I_lit, J_lit, I_ofNat, I_neg, I_add, I_sub, I_mul, J_neg, J_add, J_sub, J_mul]); first | (rw [I_lt ⟨by omega, by omega⟩ ⟨by omega, by omega⟩]; omega) | (rw [I_le ⟨by omega, by omega⟩ ⟨by omega, by omega⟩]; omega) | (rw [I_eq ⟨by omega, by omega⟩ ⟨by omega, by omega⟩]; omega) | (rw [J_lt ⟨by omega, by omega⟩ ⟨by omega, by omega⟩]; omega) | (rw [J_le ⟨by omega, by omega⟩ ⟨by omega, by omega⟩]; omega) | (rw [J_eq ⟨by omega, by omega⟩ ⟨by omega, by omega⟩]; omega)) ?_
    by_cases c2 : z ≤ 1000000
    · refine xbt (by (try simp only [I_lit, J_lit, I_ofNat, I_neg, I_add, I_sub, I_mul, J_neg, J_add, J_sub, J_mul]); first | (rw [I_lt ⟨by omega, by omega⟩ ⟨by omega, by omega⟩]; omega) | (rw [I_le ⟨by omega, by omega⟩ ⟨by omega, by omega⟩]; omega) | (rw [I_eq ⟨by omega, by omega⟩ ⟨by omega, by omega⟩]; omega) | (rw [J_lt ⟨by omega, by omega⟩ ⟨by omega, by omega⟩]; omega) | (rw [J_le ⟨by omega, by omega⟩ ⟨by omega, by omega⟩]; omega) | (rw [J_eq ⟨by omega, by omega⟩ ⟨by omega, by omega⟩]; omega)) ?_
      refine ⟨xis_R hR (by simp only [clv, eq_self_iff_true, true_or, or_true, false_or, or_false, true_and, and_true, false_and, and_false] <;> omega) rfl, ?_⟩
      refine sp_now hR (by omega) ?_
      refine xgR_R hR (by simp only [clv, eq_self_iff_true, true_or, or_true, false_or, or_false, true_and, and_true, false_and, and_false] <;> omega) rfl rfl ?_
      refine ⟨xis_R hR (by simp only [clv, eq_self_iff_true, true_or, or_true, false_or, or_false, true_and, and_true, false_and, and_false] <;> omega) rfl, ?_⟩
      refine sp_in hR (by simp only [clv, eq_self_iff_true, true_or, or_true, false_or, or_false, true_and, and_true, false_and, and_false] <;> omega) (by omega) ?_
      rw [I_add]
      by_cases c3 : s 4 100 (s 0 0 8 / 30).toNat + z ≤ 10000000
      · refine xbt (by (try simp only [I_lit, J_lit, I_ofNat, I_neg, I_add, I_sub, I_mul, J_neg, J_add, J_sub, J_mul]); first | (rw [I_lt ⟨by omega, by omega⟩ ⟨by omega, by omega⟩]; omega) | (rw [I_le ⟨by omega, by omega⟩ ⟨by omega, by omega⟩]; omega) | (rw [I_eq ⟨by omega, by omega⟩ ⟨by omega, by omega⟩]; omega) | (rw [J_lt ⟨by omega, by omega⟩ ⟨by omega, by omega⟩]; omega) | (rw [J_le ⟨by omega, by omega⟩ ⟨by omega, by omega⟩]; omega) | (rw [J_eq ⟨by omega, by omega⟩ ⟨by omega, by omega⟩]; omega)) ?_
        refine xgR_R hR (by simp only [clv, eq_self_iff_true, true_or, or_true, false_or, or_false, true_and, and_true, false_and, and_false] <;> omega) rfl rfl ?_
        refine ⟨xis_R hR (by simp only [clv, eq_self_iff_true, true_or, or_true, false_or, or_false, true_and, and_true, false_and, and_false] <;> omega) rfl, ?_⟩
        refine sp_put hR (by simp only [clv, eq_self_iff_true, true_or, or_true, false_or, or_false, true_and, and_true, false_and, and_false] <;> omega) (by omega) (fun t hR => ?_)
        exact kk (by omega) c3 _ hR
      · exact xbf (by (try simp only [I_lit, J_lit, I_ofNat, I_neg, I_add, I_sub, I_mul, J_neg, J_add, J_sub, J_mul]); first | (rw [I_lt ⟨by omega, by omega⟩ ⟨by omega, by omega⟩]; omega) | (rw [I_le ⟨by omega, by omega⟩ ⟨by omega, by omega⟩]; omega) | (rw [I_eq ⟨by omega, by omega⟩ ⟨by omega, by omega⟩]; omega) | (rw [J_lt ⟨by omega, by omega⟩ ⟨by omega, by omega⟩]; omega) | (rw [J_le ⟨by omega, by omega⟩ ⟨by omega, by omega⟩]; omega) | (rw [J_eq ⟨by omega, by omega⟩ ⟨by omega, by omega⟩]; omega)) ⟨h1, h2, ky (by omega) c3⟩
    · exact xbf (by (try simp only [I_lit, J_lit, I_ofNat, I_neg, I_add, I_sub, I_mul, J_neg, J_add, J_sub, J_mul]); first | (rw [I_lt ⟨by omega, by omega⟩ ⟨by omega, by omega⟩]; omega) | (rw [I_le ⟨by omega, by omega⟩ ⟨by omega, by omega⟩]; omega) | (rw [I_eq ⟨by omega, by omega⟩ ⟨by omega, by omega⟩]; omega) | (rw [J_lt ⟨by omega, by omega⟩ ⟨by omega, by omega⟩]; omega) | (rw [J_le ⟨by omega, by omega⟩ ⟨by omega, by omega⟩]; omega) | (rw [J_eq ⟨by omega, by omega⟩ ⟨by omega, by omega⟩]; omega)) ⟨h1, h2, kx (by omega)⟩
theorem sp_mend {K : Int32 → xT → Prop} {z : Int} (hR : RR ad q lo s u co t) (hL : LI q s 2 nr) (hn : nr ≤ q.2.2.1) (hz : i32 z) (hr : ∀ r, r < nr → okR q s r) (h1 : 1 ≤ rc) (h2 : 6 ≤ rs) (kx : ¬ (0 ≤ z ∧ z < nr) → KX IOB t) (ky : 0 ≤ z ∧ z < nr → s 11 z.toNat 0 ≠ 0 → KX ISE t) (kk : 0 ≤ z ∧ z < nr → s 11 z.toNat 0 = 0 → ∀ t, RR ad q lo (su s 11 z.toNat 0 1) u co t → K (I (s 11 z.toNat 1)) t) : V_X7_mend_0 KX K (ad 0 0) (I z) t rc rs := by
  unfold V_X7_mend_0
  unfold i32 at hz
  have hb : (nr : Int) ≤ 1000 := by have := hL.2.1; have := hL.2.2.1; omega
  by_cases c : z < 0
  · exact xbt (by (try simp only [I_lit, J_lit, I_ofNat, I_neg, I_add, I_sub, I_mul, J_neg, J_add, J_sub, J_mul]); first | (rw [I_lt ⟨by omega, by omega⟩ ⟨by omega, by omega⟩]; omega) | (rw [I_le ⟨by omega, by omega⟩ ⟨by omega, by omega⟩]; omega) | (rw [I_eq ⟨by omega, by omega⟩ ⟨by omega, by omega⟩]; omega) | (rw [J_lt ⟨by omega, by omega⟩ ⟨by omega, by omega⟩]; omega) | (rw [J_le ⟨by omega, by omega⟩ ⟨by omega, by omega⟩]; omega) | (rw [J_eq ⟨by omega, by omega⟩ ⟨by omega, by omega⟩]; omega)) ⟨h1, h2, kx (by omega)⟩
  · refine xbf (by (try simp only [I_lit, J_lit, I_ofNat, I_neg, I_add, I_sub, I_mul, J_neg, J_add, J_sub, J_mul]); first | (rw [I_lt ⟨by omega, by omega⟩ ⟨by omega, by omega⟩]; omega) | (rw [I_le ⟨by omega, by omega⟩ ⟨by omega, by omega⟩]; omega) | (rw [I_eq ⟨by omega, by omega⟩ ⟨by omega, by omega⟩]; omega) | (rw [J_lt ⟨by omega, by omega⟩ ⟨by omega, by omega⟩]; omega) | (rw [J_le ⟨by omega, by omega⟩ ⟨by omega, by omega⟩]; omega) | (rw [J_eq ⟨by omega, by omega⟩ ⟨by omega, by omega⟩]; omega)) ?_
    refine xgR_R hR (by simp only [clv, eq_self_iff_true, true_or, or_true, false_or, or_false, true_and, and_true, false_and, and_false] <;> omega) rfl rfl ?_
    refine ⟨xis_R hR (by simp only [clv, eq_self_iff_true, true_or, or_true, false_or, or_false, true_and, and_true, false_and, and_false] <;> omega) rfl, ?_⟩
    refine sp_size hR (by decide) hL ?_
    by_cases c2 : z < nr
    · refine xbt (by (try simp only [I_lit, J_lit, I_ofNat, I_neg, I_add, I_sub, I_mul, J_neg, J_add, J_sub, J_mul]); first | (rw [I_lt ⟨by omega, by omega⟩ ⟨by omega, by omega⟩]; omega) | (rw [I_le ⟨by omega, by omega⟩ ⟨by omega, by omega⟩]; omega) | (rw [I_eq ⟨by omega, by omega⟩ ⟨by omega, by omega⟩]; omega) | (rw [J_lt ⟨by omega, by omega⟩ ⟨by omega, by omega⟩]; omega) | (rw [J_le ⟨by omega, by omega⟩ ⟨by omega, by omega⟩]; omega) | (rw [J_eq ⟨by omega, by omega⟩ ⟨by omega, by omega⟩]; omega)) ?_
      refine xgR_R hR (by simp only [clv, eq_self_iff_true, true_or, or_true, false_or, or_false, true_and, and_true, false_and, and_false] <;> omega) rfl rfl ?_
      refine ⟨xis_R hR (by simp only [clv, eq_self_iff_true, true_or, or_true, false_or, or_false, true_and, and_true, false_and, and_false] <;> omega) rfl, ?_⟩
      refine sp_get hR (by decide) hL (by omega) ⟨_, rfl, ?_⟩
      have hl : clv q lo 11 z.toNat := show z.toNat < q.2.2.1 by omega
      have h9 := (hr z.toNat (by omega)).2.2.1
      unfold i32 at h9
      refine ⟨xis_R hR (p := 11) hl rfl, ?_⟩
      refine xgI_R hR (p := 11) hl rfl rfl ?_
      by_cases c3 : s 11 z.toNat 0 = 0
      · refine xbt (by rw [c3]; rfl) ?_
        rw [show (1 : Int32) = I 1 from rfl]
        refine xpF_I hR (p := 11) hl (by decide) rfl (Nat.le_of_ble_eq_true rfl) rfl (fun t hR => ?_)
        refine xgI_R hR (p := 11) hl rfl rfl ?_
        simp (config := { decide := true }) only [su_r, su_f, sup_n, not_false_eq_true, eq_self_iff_true, true_or, or_true, false_or, or_false, true_and, and_true, false_and, and_false, if_true, if_false, ite_true, ite_false]
        exact kk (by omega) c3 _ hR
      · exact xbf (by (try simp only [I_lit, J_lit, I_ofNat, I_neg, I_add, I_sub, I_mul, J_neg, J_add, J_sub, J_mul]); first | (rw [I_lt ⟨by omega, by omega⟩ ⟨by omega, by omega⟩]; omega) | (rw [I_le ⟨by omega, by omega⟩ ⟨by omega, by omega⟩]; omega) | (rw [I_eq ⟨by omega, by omega⟩ ⟨by omega, by omega⟩]; omega) | (rw [J_lt ⟨by omega, by omega⟩ ⟨by omega, by omega⟩]; omega) | (rw [J_le ⟨by omega, by omega⟩ ⟨by omega, by omega⟩]; omega) | (rw [J_eq ⟨by omega, by omega⟩ ⟨by omega, by omega⟩]; omega)) ⟨h1, h2, ky (by omega) c3⟩
    · exact xbf (by (try simp only [I_lit, J_lit, I_ofNat, I_neg, I_add, I_sub, I_mul, J_neg, J_add, J_sub, J_mul]); first | (rw [I_lt ⟨by omega, by omega⟩ ⟨by omega, by omega⟩]; omega) | (rw [I_le ⟨by omega, by omega⟩ ⟨by omega, by omega⟩]; omega) | (rw [I_eq ⟨by omega, by omega⟩ ⟨by omega, by omega⟩]; omega) | (rw [J_lt ⟨by omega, by omega⟩ ⟨by omega, by omega⟩]; omega) | (rw [J_le ⟨by omega, by omega⟩ ⟨by omega, by omega⟩]; omega) | (rw [J_eq ⟨by omega, by omega⟩ ⟨by omega, by omega⟩]; omega)) ⟨h1, h2, kx (by omega)⟩
theorem sp_pay {K : Int64 → xT → Prop} {z x : Int} (hR : RR ad q lo s u co t) (hL : LI q s 1 n) (hn : n ≤ q.2.1) (hz : i32 z) (hx : i32 x) (h1 : 3 ≤ rc) (h2 : 18 ≤ rs) (kx : ¬ (0 ≤ z ∧ z < n) → KX IOB t) (ky : 0 ≤ z ∧ z < n → ¬ (1 ≤ x ∧ x ≤ 1000000) → KX IAE t) (kk : 0 ≤ z ∧ z < n → 1 ≤ x ∧ x ≤ 1000000 → ∀ t, RR ad q lo (toTen z.toNat (-x) (su s 6 z.toNat 7 (s 6 z.toNat 7 + x))) u co t → K (J (s 6 z.toNat 5 + -x)) t) : V_X7_pay_0 KX K (ad 0 0) (I z) (I x) t rc rs := by
  unfold i32 at hx
  unfold V_X7_pay_0
  refine ⟨xis_R hR (by simp only [clv, eq_self_iff_true, true_or, or_true, false_or, or_false, true_and, and_true, false_and, and_false] <;> omega) rfl, ?_⟩
  refine ⟨1, 6, by omega, by omega, ?_⟩
  refine sp_leaseAt hR hL hn hz (by omega) (by omega) kx (fun hc => ?_)
  have hl : z.toNat < q.2.1 := by omega
  by_cases c : x < 1
  · exact xbt (by (try simp only [I_lit, J_lit, I_ofNat, I_neg, I_add, I_sub, I_mul, J_neg, J_add, J_sub, J_mul]); first | (rw [I_lt ⟨by omega, by omega⟩ ⟨by omega, by omega⟩]; omega) | (rw [I_le ⟨by omega, by omega⟩ ⟨by omega, by omega⟩]; omega) | (rw [I_eq ⟨by omega, by omega⟩ ⟨by omega, by omega⟩]; omega) | (rw [J_lt ⟨by omega, by omega⟩ ⟨by omega, by omega⟩]; omega) | (rw [J_le ⟨by omega, by omega⟩ ⟨by omega, by omega⟩]; omega) | (rw [J_eq ⟨by omega, by omega⟩ ⟨by omega, by omega⟩]; omega)) ⟨by omega, by omega, ky hc (by omega)⟩
  · refine xbf (by (try simp only [I_lit, J_lit, I_ofNat, I_neg, I_add, I_sub, I_mul, J_neg, J_add, J_sub, J_mul]); first | (rw [I_lt ⟨by omega, by omega⟩ ⟨by omega, by omega⟩]; omega) | (rw [I_le ⟨by omega, by omega⟩ ⟨by omega, by omega⟩]; omega) | (rw [I_eq ⟨by omega, by omega⟩ ⟨by omega, by omega⟩]; omega) | (rw [J_lt ⟨by omega, by omega⟩ ⟨by omega, by omega⟩]; omega) | (rw [J_le ⟨by omega, by omega⟩ ⟨by omega, by omega⟩]; omega) | (rw [J_eq ⟨by omega, by omega⟩ ⟨by omega, by omega⟩]; omega)) ?_
    by_cases c2 : x ≤ 1000000
    · refine xbt (by (try simp only [I_lit, J_lit, I_ofNat, I_neg, I_add, I_sub, I_mul, J_neg, J_add, J_sub, J_mul]); first | (rw [I_lt ⟨by omega, by omega⟩ ⟨by omega, by omega⟩]; omega) | (rw [I_le ⟨by omega, by omega⟩ ⟨by omega, by omega⟩]; omega) | (rw [I_eq ⟨by omega, by omega⟩ ⟨by omega, by omega⟩]; omega) | (rw [J_lt ⟨by omega, by omega⟩ ⟨by omega, by omega⟩]; omega) | (rw [J_le ⟨by omega, by omega⟩ ⟨by omega, by omega⟩]; omega) | (rw [J_eq ⟨by omega, by omega⟩ ⟨by omega, by omega⟩]; omega)) ⟨_, rfl, ?_⟩
      refine xgJ_R hR (p := 6) hl rfl rfl ?_
      rw [I_long ⟨by omega, by omega⟩, J_add]
      refine xpF_J hR (p := 6) hl (by decide) rfl (Nat.le_of_ble_eq_true rfl) rfl (fun t hR => ?_)
      refine ⟨xis_R hR (by simp only [clv, eq_self_iff_true, true_or, or_true, false_or, or_false, true_and, and_true, false_and, and_false] <;> omega) rfl, ?_⟩
      rw [I_neg, I_long ⟨by omega, by omega⟩]
      refine sp_toTenant hR hl (fun t hR => ?_)
      refine xgJ_R hR (p := 6) hl rfl rfl ?_
      simp (config := { decide := true }) only [su_r, su_f, sup_n, not_false_eq_true, eq_self_iff_true, true_or, or_true, false_or, or_false, true_and, and_true, false_and, and_false, if_true, if_false, ite_true, ite_false]
      exact kk hc (by omega) _ hR
    · exact xbf (by (try simp only [I_lit, J_lit, I_ofNat, I_neg, I_add, I_sub, I_mul, J_neg, J_add, J_sub, J_mul]); first | (rw [I_lt ⟨by omega, by omega⟩ ⟨by omega, by omega⟩]; omega) | (rw [I_le ⟨by omega, by omega⟩ ⟨by omega, by omega⟩]; omega) | (rw [I_eq ⟨by omega, by omega⟩ ⟨by omega, by omega⟩]; omega) | (rw [J_lt ⟨by omega, by omega⟩ ⟨by omega, by omega⟩]; omega) | (rw [J_le ⟨by omega, by omega⟩ ⟨by omega, by omega⟩]; omega) | (rw [J_eq ⟨by omega, by omega⟩ ⟨by omega, by omega⟩]; omega)) ⟨by omega, by omega, ky hc (by omega)⟩
def plnS (l : Nat) (x : Int) (s : xS) : xS := su (su (su (su s 7 l 0 1) 7 l 1 (s 6 l 5)) 7 l 2 ((s 6 l 5 + x - 1) / x)) 7 l 3 0
theorem sp_plan {K : Int64 → xT → Prop} {z x : Int} (hR : RR ad q lo s u co t) (hL : LI q s 1 n) (hn : n ≤ q.2.1) (hz : i32 z) (hx : i32 x) (hP : ∀ l, l < n → okP s l) (h1 : 3 ≤ rc) (h2 : 18 ≤ rs) (kx : ¬ (0 ≤ z ∧ z < n) → KX IOB t) (ky : 0 ≤ z ∧ z < n → ¬ (1 ≤ x ∧ x ≤ 12) → KX IAE t) (kz : 0 ≤ z ∧ z < n → 1 ≤ x ∧ x ≤ 12 → s 7 z.toNat 0 = 1 ∨ s 6 z.toNat 5 ≤ 0 → KX ISE t) (kk : 0 ≤ z ∧ z < n → 1 ≤ x ∧ x ≤ 12 → ¬ (s 7 z.toNat 0 = 1 ∨ s 6 z.toNat 5 ≤ 0) → ∀ t, RR ad q lo (plnS z.toNat x s) u co t → K (J ((s 6 z.toNat 5 + x - 1) / x)) t) : V_X7_plan_0 KX K (ad 0 0) (I z) (I x) t rc rs := by
  unfold i32 at hx
  unfold V_X7_plan_0
  refine ⟨xis_R hR (by simp only [clv, eq_self_iff_true, true_or, or_true, false_or, or_false, true_and, and_true, false_and, and_false] <;> omega) rfl, ?_⟩
  refine ⟨1, 6, by omega, by omega, ?_⟩
  refine sp_leaseAt hR hL hn hz (by omega) (by omega) kx (fun hc => ?_)
  have hl : z.toNat < q.2.1 := by omega
  obtain ⟨p0, p5, -⟩ := hP z.toNat (by omega)
  unfold i32 at p0
  by_cases c : x < 1
  · exact xbt (by (try simp only [I_lit, J_lit, I_ofNat, I_neg, I_add, I_sub, I_mul, J_neg, J_add, J_sub, J_mul]); first | (rw [I_lt ⟨by omega, by omega⟩ ⟨by omega, by omega⟩]; omega) | (rw [I_le ⟨by omega, by omega⟩ ⟨by omega, by omega⟩]; omega) | (rw [I_eq ⟨by omega, by omega⟩ ⟨by omega, by omega⟩]; omega) | (rw [J_lt ⟨by omega, by omega⟩ ⟨by omega, by omega⟩]; omega) | (rw [J_le ⟨by omega, by omega⟩ ⟨by omega, by omega⟩]; omega) | (rw [J_eq ⟨by omega, by omega⟩ ⟨by omega, by omega⟩]; omega)) ⟨by omega, by omega, ky hc (by omega)⟩
  · refine xbf (by (try simp only [I_lit, J_lit, I_ofNat, I_neg, I_add, I_sub, I_mul, J_neg, J_add, J_sub, J_mul]); first | (rw [I_lt ⟨by omega, by omega⟩ ⟨by omega, by omega⟩]; omega) | (rw [I_le ⟨by omega, by omega⟩ ⟨by omega, by omega⟩]; omega) | (rw [I_eq ⟨by omega, by omega⟩ ⟨by omega, by omega⟩]; omega) | (rw [J_lt ⟨by omega, by omega⟩ ⟨by omega, by omega⟩]; omega) | (rw [J_le ⟨by omega, by omega⟩ ⟨by omega, by omega⟩]; omega) | (rw [J_eq ⟨by omega, by omega⟩ ⟨by omega, by omega⟩]; omega)) ?_
    by_cases c2 : x ≤ 12
    · refine xbt (by (try simp only [I_lit, J_lit, I_ofNat, I_neg, I_add, I_sub, I_mul, J_neg, J_add, J_sub, J_mul]); first | (rw [I_lt ⟨by omega, by omega⟩ ⟨by omega, by omega⟩]; omega) | (rw [I_le ⟨by omega, by omega⟩ ⟨by omega, by omega⟩]; omega) | (rw [I_eq ⟨by omega, by omega⟩ ⟨by omega, by omega⟩]; omega) | (rw [J_lt ⟨by omega, by omega⟩ ⟨by omega, by omega⟩]; omega) | (rw [J_le ⟨by omega, by omega⟩ ⟨by omega, by omega⟩]; omega) | (rw [J_eq ⟨by omega, by omega⟩ ⟨by omega, by omega⟩]; omega)) ⟨_, rfl, ?_⟩
      refine xgR_R hR (p := 6) hl rfl rfl ?_
      refine xgI_R hR (p := 7) hl rfl rfl ?_
      by_cases c3 : s 7 z.toNat 0 = 1
      · exact xbt (by rw [c3]; rfl) ⟨by omega, by omega, kz hc (by omega) (Or.inl c3)⟩
      · refine xbf (by (try simp only [I_lit, J_lit, I_ofNat, I_neg, I_add, I_sub, I_mul, J_neg, J_add, J_sub, J_mul]); first | (rw [I_lt ⟨by omega, by omega⟩ ⟨by omega, by omega⟩]; omega) | (rw [I_le ⟨by omega, by omega⟩ ⟨by omega, by omega⟩]; omega) | (rw [I_eq ⟨by omega, by omega⟩ ⟨by omega, by omega⟩]; omega) | (rw [J_lt ⟨by omega, by omega⟩ ⟨by omega, by omega⟩]; omega) | (rw [J_le ⟨by omega, by omega⟩ ⟨by omega, by omega⟩]; omega) | (rw [J_eq ⟨by omega, by omega⟩ ⟨by omega, by omega⟩]; omega)) ?_
        refine xgJ_R hR (p := 6) hl rfl rfl ?_
        by_cases c4 : 0 < s 6 z.toNat 5
        · refine xbt (by (try simp only [I_lit, J_lit, I_ofNat, I_neg, I_add, I_sub, I_mul, J_neg, J_add, J_sub, J_mul]); first | (rw [I_lt ⟨by omega, by omega⟩ ⟨by omega, by omega⟩]; omega) | (rw [I_le ⟨by omega, by omega⟩ ⟨by omega, by omega⟩]; omega) | (rw [I_eq ⟨by omega, by omega⟩ ⟨by omega, by omega⟩]; omega) | (rw [J_lt ⟨by omega, by omega⟩ ⟨by omega, by omega⟩]; omega) | (rw [J_le ⟨by omega, by omega⟩ ⟨by omega, by omega⟩]; omega) | (rw [J_eq ⟨by omega, by omega⟩ ⟨by omega, by omega⟩]; omega)) ?_
          refine xgJ_R hR (p := 6) hl rfl rfl ?_
          have hx0 : ¬ (I x).toInt64 = (0 : Int64) := by
            rw [I_long ⟨by omega, by omega⟩, show (0 : Int64) = J 0 from rfl, J_eq ⟨by omega, by omega⟩ ⟨by omega, by omega⟩]
            omega
          refine ⟨hx0, ?_⟩
          rw [I_long ⟨by omega, by omega⟩, J_add, show (1 : Int64) = J 1 from rfl, J_sub, J_div ⟨by omega, by omega⟩ ⟨by omega, by omega⟩ (by omega) (by omega)]
          refine xgR_R hR (p := 6) hl rfl rfl ?_
          refine xgJ_R hR (p := 6) hl rfl rfl ?_
          refine ⟨xis_R hR (p := 7) hl rfl, ?_⟩
          unfold V_X5_begin_0
          rw [show (1 : Int32) = I 1 from rfl, show (0 : Int32) = I 0 from rfl]
          refine xpF_I hR (p := 7) hl (by decide) rfl (Nat.le_of_ble_eq_true rfl) rfl (fun t hR => ?_)
          refine xpF_J hR (p := 7) hl (by decide) rfl (Nat.le_of_ble_eq_true rfl) rfl (fun t hR => ?_)
          refine xpF_J hR (p := 7) hl (by decide) rfl (Nat.le_of_ble_eq_true rfl) rfl (fun t hR => ?_)
          refine xpF_I hR (p := 7) hl (by decide) rfl (Nat.le_of_ble_eq_true rfl) rfl (fun t hR => ?_)
          exact kk hc (by omega) (by omega) _ hR
        · exact xbf (by (try simp only [I_lit, J_lit, I_ofNat, I_neg, I_add, I_sub, I_mul, J_neg, J_add, J_sub, J_mul]); first | (rw [I_lt ⟨by omega, by omega⟩ ⟨by omega, by omega⟩]; omega) | (rw [I_le ⟨by omega, by omega⟩ ⟨by omega, by omega⟩]; omega) | (rw [I_eq ⟨by omega, by omega⟩ ⟨by omega, by omega⟩]; omega) | (rw [J_lt ⟨by omega, by omega⟩ ⟨by omega, by omega⟩]; omega) | (rw [J_le ⟨by omega, by omega⟩ ⟨by omega, by omega⟩]; omega) | (rw [J_eq ⟨by omega, by omega⟩ ⟨by omega, by omega⟩]; omega)) ⟨by omega, by omega, kz hc (by omega) (Or.inr (by omega))⟩
    · exact xbf (by (try simp only [I_lit, J_lit, I_ofNat, I_neg, I_add, I_sub, I_mul, J_neg, J_add, J_sub, J_mul]); first | (rw [I_lt ⟨by omega, by omega⟩ ⟨by omega, by omega⟩]; omega) | (rw [I_le ⟨by omega, by omega⟩ ⟨by omega, by omega⟩]; omega) | (rw [I_eq ⟨by omega, by omega⟩ ⟨by omega, by omega⟩]; omega) | (rw [J_lt ⟨by omega, by omega⟩ ⟨by omega, by omega⟩]; omega) | (rw [J_le ⟨by omega, by omega⟩ ⟨by omega, by omega⟩]; omega) | (rw [J_eq ⟨by omega, by omega⟩ ⟨by omega, by omega⟩]; omega)) ⟨by omega, by omega, ky hc (by omega)⟩
theorem sp_desk {K : Int64 → xT → Prop} {z : Int} (hR : RR ad q lo s u co t) (hL : LI q s 1 n) (hn : n ≤ q.2.1) (hz : i32 z) (h1 : 3 ≤ rc) (h2 : 18 ≤ rs) (kx : ¬ (0 ≤ z ∧ z < n) → KX IOB t) (kk : 0 ≤ z ∧ z < n → K (J (s 6 z.toNat 6)) t) : V_X7_desk_0 KX K (ad 0 0) (I z) t rc rs := by
  unfold V_X7_desk_0
  refine ⟨xis_R hR (by simp only [clv, eq_self_iff_true, true_or, or_true, false_or, or_false, true_and, and_true, false_and, and_false] <;> omega) rfl, ?_⟩
  refine ⟨1, 6, by omega, by omega, ?_⟩
  refine sp_leaseAt hR hL hn hz (by omega) (by omega) kx (fun hc => ⟨_, rfl, ?_⟩)
  exact xgJ_R hR (p := 6) (show z.toNat < q.2.1 by omega) rfl rfl (kk hc)
theorem sp_owes {K : Int64 → xT → Prop} {z : Int} (hR : RR ad q lo s u co t) (hL : LI q s 1 n) (hn : n ≤ q.2.1) (hz : i32 z) (h1 : 3 ≤ rc) (h2 : 18 ≤ rs) (kx : ¬ (0 ≤ z ∧ z < n) → KX IOB t) (kk : 0 ≤ z ∧ z < n → K (J (s 6 z.toNat 5)) t) : V_X7_owes_0 KX K (ad 0 0) (I z) t rc rs := by
  unfold V_X7_owes_0
  refine ⟨xis_R hR (by simp only [clv, eq_self_iff_true, true_or, or_true, false_or, or_false, true_and, and_true, false_and, and_false] <;> omega) rfl, ?_⟩
  refine ⟨1, 6, by omega, by omega, ?_⟩
  refine sp_leaseAt hR hL hn hz (by omega) (by omega) kx (fun hc => ⟨_, rfl, ?_⟩)
  exact xgJ_R hR (p := 6) (show z.toNat < q.2.1 by omega) rfl rfl (kk hc)
theorem sp_planOf {K : Int32 → xT → Prop} {z : Int} (hR : RR ad q lo s u co t) (hL : LI q s 1 n) (hn : n ≤ q.2.1) (hz : i32 z) (h1 : 3 ≤ rc) (h2 : 18 ≤ rs) (kx : ¬ (0 ≤ z ∧ z < n) → KX IOB t) (kk : 0 ≤ z ∧ z < n → K (I (s 7 z.toNat 0)) t) : V_X7_planOf_0 KX K (ad 0 0) (I z) t rc rs := by
  unfold V_X7_planOf_0
  refine ⟨xis_R hR (by simp only [clv, eq_self_iff_true, true_or, or_true, false_or, or_false, true_and, and_true, false_and, and_false] <;> omega) rfl, ?_⟩
  refine ⟨1, 6, by omega, by omega, ?_⟩
  refine sp_leaseAt hR hL hn hz (by omega) (by omega) kx (fun hc => ⟨_, rfl, ?_⟩)
  refine xgR_R hR (p := 6) (show z.toNat < q.2.1 by omega) rfl rfl ?_
  exact xgI_R hR (p := 7) (show z.toNat < q.2.1 by omega) rfl rfl (kk hc)
theorem sp_owner {K : Int64 → xT → Prop} (hR : RR ad q lo s u co t) (kk : K (J (s 0 0 9)) t) : V_X7_owner_0 K (ad 0 0) t := by
  unfold V_X7_owner_0
  refine xgJ_R hR (by simp only [clv, eq_self_iff_true, true_or, or_true, false_or, or_false, true_and, and_true, false_and, and_false] <;> omega) rfl rfl ?_
  exact kk
theorem sp_use {K : Int32 → xT → Prop} {z m : Int} (hR : RR ad q lo s u co t) (hT : okT s) (hL : LI q s 0 nf) (hn : nf ≤ q.1) (hz : i32 z) (hm : i32 m) (h1 : 3 ≤ rc) (h2 : 18 ≤ rs) (kx : ¬ ((0 ≤ z ∧ z < nf) ∧ 0 ≤ m ∧ m ≤ s 0 0 8 / 30) → KX IOB t) (kk : (0 ≤ z ∧ z < nf) ∧ 0 ≤ m ∧ m ≤ s 0 0 8 / 30 → K (I (s 4 (200 + z.toNat) m.toNat)) t) : V_X7_use_0 KX K (ad 0 0) (I z) (I m) t rc rs := by
  unfold okT at hT
  unfold V_X7_use_0
  refine ⟨xis_R hR (by simp only [clv, eq_self_iff_true, true_or, or_true, false_or, or_false, true_and, and_true, false_and, and_false] <;> omega) rfl, ?_⟩
  refine ⟨1, 6, by omega, by omega, ?_⟩
  refine sp_flatAt hR hL hn hz (by omega) (by omega) (fun hc => kx (by omega)) (fun hc => ?_)
  refine ⟨xis_R hR (by simp only [clv, eq_self_iff_true, true_or, or_true, false_or, or_false, true_and, and_true, false_and, and_false] <;> omega) rfl, ?_⟩
  refine ⟨1, 6, by omega, by omega, ?_⟩
  refine sp_needMonth hR (by omega) hm (by omega) (by omega) (fun hd => kx (by omega)) (fun hd => ⟨_, rfl, ?_⟩)
  refine xgR_R hR (p := 5) (show z.toNat < q.1 by omega) rfl rfl ?_
  refine ⟨xis_R hR (by simp only [clv, eq_self_iff_true, true_or, or_true, false_or, or_false, true_and, and_true, false_and, and_false] <;> omega) rfl, ?_⟩
  exact sp_in hR (by simp only [clv, eq_self_iff_true, true_or, or_true, false_or, or_false, true_and, and_true, false_and, and_false] <;> omega) (by omega) (kk ⟨hc, hd⟩)
theorem sp_points {K : Int32 → xT → Prop} {z : Int} (hR : RR ad q lo s u co t) (hT : okT s) (hL : LI q s 0 nf) (hn : nf ≤ q.1) (hz : i32 z) (h1 : 3 ≤ rc) (h2 : 18 ≤ rs) (kx : ¬ (0 ≤ z ∧ z < nf) → KX IOB t) (kk : 0 ≤ z ∧ z < nf → K (I (s 4 (300 + z.toNat) (nowN s))) t) : V_X7_points_0 KX K (ad 0 0) (I z) t rc rs := by
  unfold okT at hT
  unfold V_X7_points_0
  refine ⟨xis_R hR (by simp only [clv, eq_self_iff_true, true_or, or_true, false_or, or_false, true_and, and_true, false_and, and_false] <;> omega) rfl, ?_⟩
  refine ⟨1, 6, by omega, by omega, ?_⟩
  refine sp_flatAt hR hL hn hz (by omega) (by omega) kx (fun hc => ⟨_, rfl, ?_⟩)
  refine xgR_R hR (p := 5) (show z.toNat < q.1 by omega) rfl rfl ?_
  refine ⟨xis_R hR (by simp only [clv, eq_self_iff_true, true_or, or_true, false_or, or_false, true_and, and_true, false_and, and_false] <;> omega) rfl, ?_⟩
  refine sp_now hR (by omega) ?_
  refine ⟨xis_R hR (by simp only [clv, eq_self_iff_true, true_or, or_true, false_or, or_false, true_and, and_true, false_and, and_false] <;> omega) rfl, ?_⟩
  exact sp_in hR (by simp only [clv, eq_self_iff_true, true_or, or_true, false_or, or_false, true_and, and_true, false_and, and_false] <;> omega) (by omega) (kk hc)
end CLS10
