/-! ===== the model's small methods ===== -/
section MC
variable {ad : xAd} {q : xL} {lo : Nat → Nat → Prop} {s u : xS} {co : Nat → Nat → xE} {t : xT} {nf n nr : Nat}
theorem mm_in {K : Int32 → xT → Prop} {v a b : Int} (hv : i32 v) (ha : i32 a) (hb : i32 b) (k1 : a ≤ v ∧ v ≤ b → K 1 t) (k0 : ¬ (a ≤ v ∧ v ≤ b) → K 0 t) : V_X8_in_0 K (I v) (I a) (I b) t := by
  unfold i32 at hv ha hb
  unfold V_X8_in_0
  by_cases c1 : v < a
  · exact xbt (by (try simp only [I_lit, J_lit, I_ofNat, I_neg, I_add, I_sub, I_mul, J_neg, J_add, J_sub, J_mul]); first | (rw [I_lt ⟨by omega, by omega⟩ ⟨by omega, by omega⟩]; omega) | (rw [I_le ⟨by omega, by omega⟩ ⟨by omega, by omega⟩]; omega) | (rw [I_eq ⟨by omega, by omega⟩ ⟨by omega, by omega⟩]; omega) | (rw [J_lt ⟨by omega, by omega⟩ ⟨by omega, by omega⟩]; omega) | (rw [J_le ⟨by omega, by omega⟩ ⟨by omega, by omega⟩]; omega) | (rw [J_eq ⟨by omega, by omega⟩ ⟨by omega, by omega⟩]; omega)) (k0 (by omega))
  · refine xbf (by (try simp only [I_lit, J_lit, I_ofNat, I_neg, I_add, I_sub, I_mul, J_neg, J_add, J_sub, J_mul]); first | (rw [I_lt ⟨by omega, by omega⟩ ⟨by omega, by omega⟩]; omega) | (rw [I_le ⟨by omega, by omega⟩ ⟨by omega, by omega⟩]; omega) | (rw [I_eq ⟨by omega, by omega⟩ ⟨by omega, by omega⟩]; omega) | (rw [J_lt ⟨by omega, by omega⟩ ⟨by omega, by omega⟩]; omega) | (rw [J_le ⟨by omega, by omega⟩ ⟨by omega, by omega⟩]; omega) | (rw [J_eq ⟨by omega, by omega⟩ ⟨by omega, by omega⟩]; omega)) ?_
    by_cases c2 : b < v
    · exact xbt (by (try simp only [I_lit, J_lit, I_ofNat, I_neg, I_add, I_sub, I_mul, J_neg, J_add, J_sub, J_mul]); first | (rw [I_lt ⟨by omega, by omega⟩ ⟨by omega, by omega⟩]; omega) | (rw [I_le ⟨by omega, by omega⟩ ⟨by omega, by omega⟩]; omega) | (rw [I_eq ⟨by omega, by omega⟩ ⟨by omega, by omega⟩]; omega) | (rw [J_lt ⟨by omega, by omega⟩ ⟨by omega, by omega⟩]; omega) | (rw [J_le ⟨by omega, by omega⟩ ⟨by omega, by omega⟩]; omega) | (rw [J_eq ⟨by omega, by omega⟩ ⟨by omega, by omega⟩]; omega)) (k0 (by omega))
    · exact xbf (by (try simp only [I_lit, J_lit, I_ofNat, I_neg, I_add, I_sub, I_mul, J_neg, J_add, J_sub, J_mul]); first | (rw [I_lt ⟨by omega, by omega⟩ ⟨by omega, by omega⟩]; omega) | (rw [I_le ⟨by omega, by omega⟩ ⟨by omega, by omega⟩]; omega) | (rw [I_eq ⟨by omega, by omega⟩ ⟨by omega, by omega⟩]; omega) | (rw [J_lt ⟨by omega, by omega⟩ ⟨by omega, by omega⟩]; omega) | (rw [J_le ⟨by omega, by omega⟩ ⟨by omega, by omega⟩]; omega) | (rw [J_eq ⟨by omega, by omega⟩ ⟨by omega, by omega⟩]; omega)) (k1 (by omega))
theorem mm_ok {K : Int32 → xT → Prop} (hR : RR ad q lo s u co t) (kk : ∀ t, RR ad q lo s (su u 20 0 0 0) co t → K 1 t) : V_X8_holds_0 K (ad 20 0) (0 : Int32) t := by
  unfold V_X8_holds_0
  rw [show (.int (0 : Int32) : Value) = .int (I 0) from rfl]
  exact mpF (p := 20) (i := 0) (f := 0) hR (by decide) rfl (Nat.le_of_ble_eq_true rfl) rfl (fun t hR => xst rfl (kk t hR))
theorem mm_no {K : Int32 → xT → Prop} {c : Int} (hc : 0 < c ∧ c ≤ 10) (hR : RR ad q lo s u co t) (kk : ∀ t, RR ad q lo s (su u 20 0 0 c) co t → K 0 t) : V_X8_holds_0 K (ad 20 0) (I c) t := by
  unfold V_X8_holds_0
  exact mpF (p := 20) (i := 0) (f := 0) hR (by decide) rfl (Nat.le_of_ble_eq_true rfl) rfl (fun t hR => xsf (by (try simp only [I_lit, J_lit, I_ofNat, I_neg, I_add, I_sub, I_mul, J_neg, J_add, J_sub, J_mul]); first | (rw [I_lt ⟨by omega, by omega⟩ ⟨by omega, by omega⟩]; omega) | (rw [I_le ⟨by omega, by omega⟩ ⟨by omega, by omega⟩]; omega) | (rw [I_eq ⟨by omega, by omega⟩ ⟨by omega, by omega⟩]; omega) | (rw [J_lt ⟨by omega, by omega⟩ ⟨by omega, by omega⟩]; omega) | (rw [J_le ⟨by omega, by omega⟩ ⟨by omega, by omega⟩]; omega) | (rw [J_eq ⟨by omega, by omega⟩ ⟨by omega, by omega⟩]; omega)) (kk t hR))
theorem mm_month {K : Int32 → xT → Prop} (hR : RR ad q lo s u co t) (h0 : 0 ≤ u 0 0 8 ∧ u 0 0 8 ≤ 100000) (kk : K (I (u 0 0 8 / 30)) t) : V_X8_month_0 K (ad 20 0) t := by
  unfold V_X8_month_0
  refine xgI_R hR (p := 20) (i := 0) rfl rfl rfl ?_
  refine ⟨by decide, ?_⟩
  rw [show (30 : Int32) = I 30 from rfl, I_div ⟨by omega, by omega⟩ ⟨by omega, by omega⟩ (by omega) (by omega)]
  exact kk
theorem mm_isFlat {K : Int32 → xT → Prop} {z : Int} (hR : RR ad q lo s u co t) (hn : u 1 0 2 = nf) (hn8 : nf ≤ 1000) (hz : i32 z) (k1 : 0 ≤ z ∧ z < nf → K 1 t) (k0 : ¬ (0 ≤ z ∧ z < nf) → K 0 t) : V_X8_isFlat_0 K (ad 20 0) (I z) t := by
  unfold V_X8_isFlat_0
  refine xgI_R hR (p := 20) (i := 0) rfl rfl rfl ?_
  rw [hn, show (1 : Int32) = I 1 from rfl, I_sub, show (0 : Int32) = I 0 from rfl]
  exact mm_in hz ⟨by omega, by omega⟩ ⟨by omega, by omega⟩ (fun h => ⟨rfl, k1 (by omega)⟩) (fun h => ⟨rfl, k0 (by omega)⟩)
theorem mm_isLease {K : Int32 → xT → Prop} {z : Int} (hR : RR ad q lo s u co t) (hn : u 1 1 2 = n) (hn8 : n ≤ 1000) (hz : i32 z) (k1 : 0 ≤ z ∧ z < n → K 1 t) (k0 : ¬ (0 ≤ z ∧ z < n) → K 0 t) : V_X8_isLease_0 K (ad 20 0) (I z) t := by
  unfold V_X8_isLease_0
  refine xgI_R hR (p := 20) (i := 0) rfl rfl rfl ?_
  rw [hn, show (1 : Int32) = I 1 from rfl, I_sub, show (0 : Int32) = I 0 from rfl]
  exact mm_in hz ⟨by omega, by omega⟩ ⟨by omega, by omega⟩ (fun h => ⟨rfl, k1 (by omega)⟩) (fun h => ⟨rfl, k0 (by omega)⟩)
theorem mm_isMonth {K : Int32 → xT → Prop} {z : Int} (hR : RR ad q lo s u co t) (hT : okT u) (hz : i32 z) (k1 : 0 ≤ z ∧ z ≤ u 0 0 8 / 30 → K 1 t) (k0 : ¬ (0 ≤ z ∧ z ≤ u 0 0 8 / 30) → K 0 t) : V_X8_isMonth_0 K (ad 20 0) (I z) t := by
  unfold okT at hT
  unfold V_X8_isMonth_0
  refine ⟨xis_R hR (p := 20) (i := 0) rfl rfl, ?_⟩
  refine mm_month hR (by omega) ?_
  rw [show (0 : Int32) = I 0 from rfl]
  exact mm_in hz ⟨by omega, by omega⟩ ⟨by omega, by omega⟩ (fun h => ⟨rfl, k1 h⟩) (fun h => ⟨rfl, k0 h⟩)
theorem mm_thrown {K : Int32 → xT → Prop} (hR : RR ad q lo s u co t) (kk : K (I (u 20 0 0)) t) : V_X8_thrown_0 K (ad 20 0) t := by
  unfold V_X8_thrown_0
  refine xgI_R hR (p := 20) (i := 0) rfl rfl rfl ?_
  exact kk
theorem mm_owes {K : Int64 → xT → Prop} {z : Int} (hR : RR ad q lo s u co t) (hn : u 1 1 2 = n) (hn8 : n ≤ 12) (hz : i32 z) (k1 : 0 ≤ z ∧ z < n → ∀ t, RR ad q lo s (su u 20 0 0 0) co t → K (J (u 6 z.toNat 5)) t) (k0 : ¬ (0 ≤ z ∧ z < n) → ∀ t, RR ad q lo s (su u 20 0 0 1) co t → K 0 t) : V_X8_owes_0 K (ad 20 0) (I z) t := by
  unfold V_X8_owes_0
  refine ⟨xis_R hR (p := 20) (i := 0) rfl rfl, ?_⟩
  refine mm_isLease hR hn (by omega) hz (fun h => ?_) (fun h => ?_)
  · refine xbf (by decide) ?_
    refine ⟨xis_R hR (p := 20) (i := 0) rfl rfl, ?_⟩
    refine mm_ok hR (fun t hR => xbf (by decide) ?_)
    refine xgR_R hR (p := 20) (i := 0) rfl rfl rfl ?_
    refine xaJ_R hR (p := 21) (i := 23) (show 23 < 40 by decide) rfl (by decide) (show 0 ≤ z ∧ z < ((12 : Nat) : Int) by omega) ?_
    exact k1 h t hR
  · refine xbt rfl ?_
    refine ⟨xis_R hR (p := 20) (i := 0) rfl rfl, ?_⟩
    exact mm_no (c := 1) (by decide) hR (fun t hR => xbt rfl (k0 h t hR))
theorem mm_owesAnew {K : Int64 → xT → Prop} {z : Int} (hR : RR ad q lo s u co t) (hn : u 1 1 2 = n) (hn8 : n ≤ 12) (hz : i32 z) (k1 : 0 ≤ z ∧ z < n → ∀ t, RR ad q lo s (su u 20 0 0 0) co t → K (J (u 6 z.toNat 5)) t) (k0 : ¬ (0 ≤ z ∧ z < n) → ∀ t, RR ad q lo s (su u 20 0 0 1) co t → K 0 t) : V_X8_owesAnew_0 K (ad 20 0) (I z) t := by
  unfold V_X8_owesAnew_0
  refine ⟨xis_R hR (p := 20) (i := 0) rfl rfl, ?_⟩
  exact mm_owes hR hn hn8 hz k1 k0
theorem mm_desk {K : Int64 → xT → Prop} {z : Int} (hR : RR ad q lo s u co t) (hn : u 1 1 2 = n) (hn8 : n ≤ 12) (hz : i32 z) (k1 : 0 ≤ z ∧ z < n → ∀ t, RR ad q lo s (su u 20 0 0 0) co t → K (J (u 6 z.toNat 6)) t) (k0 : ¬ (0 ≤ z ∧ z < n) → ∀ t, RR ad q lo s (su u 20 0 0 1) co t → K 0 t) : V_X8_desk_0 K (ad 20 0) (I z) t := by
  unfold V_X8_desk_0
  refine ⟨xis_R hR (p := 20) (i := 0) rfl rfl, ?_⟩
  refine mm_isLease hR hn (by omega) hz (fun h => ?_) (fun h => ?_)
  · refine xbf (by decide) ?_
    refine ⟨xis_R hR (p := 20) (i := 0) rfl rfl, ?_⟩
    refine mm_ok hR (fun t hR => xbf (by decide) ?_)
    refine xgR_R hR (p := 20) (i := 0) rfl rfl rfl ?_
    refine xaJ_R hR (p := 21) (i := 24) (show 24 < 40 by decide) rfl (by decide) (show 0 ≤ z ∧ z < ((12 : Nat) : Int) by omega) ?_
    exact k1 h t hR
  · refine xbt rfl ?_
    refine ⟨xis_R hR (p := 20) (i := 0) rfl rfl, ?_⟩
    exact mm_no (c := 1) (by decide) hR (fun t hR => xbt rfl (k0 h t hR))
theorem mm_points {K : Int32 → xT → Prop} {z : Int} (hR : RR ad q lo s u co t) (hn : u 1 0 2 = nf) (hn8 : nf ≤ 8) (hz : i32 z) (k1 : 0 ≤ z ∧ z < nf → ∀ t, RR ad q lo s (su u 20 0 0 0) co t → K (I (u 21 8 z.toNat)) t) (k0 : ¬ (0 ≤ z ∧ z < nf) → ∀ t, RR ad q lo s (su u 20 0 0 1) co t → K 0 t) : V_X8_points_0 K (ad 20 0) (I z) t := by
  unfold V_X8_points_0
  refine ⟨xis_R hR (p := 20) (i := 0) rfl rfl, ?_⟩
  refine mm_isFlat hR hn (by omega) hz (fun h => ?_) (fun h => ?_)
  · refine xbf (by decide) ?_
    refine ⟨xis_R hR (p := 20) (i := 0) rfl rfl, ?_⟩
    refine mm_ok hR (fun t hR => xbf (by decide) ?_)
    refine xgR_R hR (p := 20) (i := 0) rfl rfl rfl ?_
    refine xaI_R hR (p := 21) (i := 8) (show 8 < 40 by decide) rfl (by decide) (show 0 ≤ z ∧ z < ((8 : Nat) : Int) by omega) ?_
    exact k1 h t hR
  · refine xbt rfl ?_
    refine ⟨xis_R hR (p := 20) (i := 0) rfl rfl, ?_⟩
    exact mm_no (c := 1) (by decide) hR (fun t hR => xbt rfl (k0 h t hR))
theorem mm_planOf {K : Int32 → xT → Prop} {z : Int} (hR : RR ad q lo s u co t) (hn : u 1 1 2 = n) (hn8 : n ≤ 12) (hz : i32 z) (k1 : 0 ≤ z ∧ z < n → ∀ t, RR ad q lo s (su u 20 0 0 0) co t → K (I (u 7 z.toNat 0)) t) (k0 : ¬ (0 ≤ z ∧ z < n) → ∀ t, RR ad q lo s (su u 20 0 0 1) co t → K 0 t) : V_X8_planOf_0 K (ad 20 0) (I z) t := by
  unfold V_X8_planOf_0
  refine ⟨xis_R hR (p := 20) (i := 0) rfl rfl, ?_⟩
  refine mm_isLease hR hn (by omega) hz (fun h => ?_) (fun h => ?_)
  · refine xbf (by decide) ?_
    refine ⟨xis_R hR (p := 20) (i := 0) rfl rfl, ?_⟩
    refine mm_ok hR (fun t hR => xbf (by decide) ?_)
    refine xgR_R hR (p := 20) (i := 0) rfl rfl rfl ?_
    refine xaI_R hR (p := 21) (i := 31) (show 31 < 40 by decide) rfl (by decide) (show 0 ≤ z ∧ z < ((12 : Nat) : Int) by omega) ?_
    exact k1 h t hR
  · refine xbt rfl ?_
    refine ⟨xis_R hR (p := 20) (i := 0) rfl rfl, ?_⟩
    exact mm_no (c := 1) (by decide) hR (fun t hR => xbt rfl (k0 h t hR))
end MC
