section MC2
variable {ad : xAd} {q : xL} {lo : Nat → Nat → Prop} {s u : xS} {co : Nat → Nat → xE} {t : xT} {nf n nr : Nat}
/-- the model writes an int of one of its arrays, any names of the kind -/
theorem mpI0 {K : xT → Prop} (k : Nat) {j p i f : Nat} {x z : Int} (hR : RR ad q lo s u co t) (hk40 : k < 40) (hk1 : (mkd k).1 = 0) (hz : 0 ≤ z ∧ z.toNat = j) (hj : j < (mkd k).2) (hv : mvr k j = (p, i, f)) (kk : ∀ t, RR ad q lo s (su u p i f x) co t → K t) : xsI 0 t (ad 21 k) (I z) (I x) K := by
  have h := mpI (K := K) hR hk40 (by rw [hk1]; decide) hj hv kk
  rw [hk1, show ((j : Nat) : Int) = z by omega] at h
  exact h
/-- a flat's numbers in the model -/
def mFl (nf : Nat) (many now : Int) (u : xS) : xS := su (su (su (su (su u 20 0 0 0) 5 nf 0 many) 21 4 nf now) 5 nf 5 (-1)) 1 0 2 (nf + 1)
theorem mm_flat {K : Int32 → xT → Prop} {z : Int} (hR : RR ad q lo s u co t) (hT : okT u) (hn : u 1 0 2 = nf) (hn8 : nf ≤ 8) (hz : i32 z) (k1 : ¬ (1 ≤ z ∧ z ≤ 9) → ∀ t, RR ad q lo s (su u 20 0 0 1) co t → K 0 t) (k2 : 1 ≤ z ∧ z ≤ 9 → ¬ nf < 8 → ∀ t, RR ad q lo s (su u 20 0 0 2) co t → K 0 t) (k0 : 1 ≤ z ∧ z ≤ 9 → nf < 8 → ∀ t, RR ad q lo s (mFl nf z (u 0 0 8 / 30) u) co t → K (I nf) t) : V_X8_flat_0 K (ad 20 0) (I z) t := by
  unfold okT at hT
  unfold V_X8_flat_0
  rw [show (1 : Int32) = I 1 from rfl, show (9 : Int32) = I 9 from rfl]
  refine mm_in hz ⟨by decide, by decide⟩ ⟨by decide, by decide⟩ (fun h => ?_) (fun h => ?_)
  · refine xsf (by decide) ?_
    refine xgI_R hR (p := 20) (i := 0) rfl rfl rfl ?_
    rw [hn]
    by_cases c : nf < 8
    · refine xsf (by (try simp only [I_lit, J_lit, I_ofNat, I_neg, I_add, I_sub, I_mul, J_neg, J_add, J_sub, J_mul]); first | (rw [I_lt ⟨by omega, by omega⟩ ⟨by omega, by omega⟩]; omega) | (rw [I_le ⟨by omega, by omega⟩ ⟨by omega, by omega⟩]; omega) | (rw [I_eq ⟨by omega, by omega⟩ ⟨by omega, by omega⟩]; omega) | (rw [J_lt ⟨by omega, by omega⟩ ⟨by omega, by omega⟩]; omega) | (rw [J_le ⟨by omega, by omega⟩ ⟨by omega, by omega⟩]; omega) | (rw [J_eq ⟨by omega, by omega⟩ ⟨by omega, by omega⟩]; omega)) ?_
      unfold V_X8_flat_29
      refine ⟨xis_R hR (p := 20) (i := 0) rfl rfl, ?_⟩
      refine mm_ok hR (fun t hR => xsf (by decide) ?_)
      refine xgR_R hR (p := 20) (i := 0) rfl rfl rfl ?_
      refine xgI_R hR (p := 20) (i := 0) rfl rfl rfl ?_
      simp (config := { decide := true }) only [su_r, su_f, sup_n, not_false_eq_true, eq_self_iff_true, true_or, or_true, false_or, or_false, true_and, and_true, false_and, and_false, if_true, if_false, ite_true, ite_false]
      rw [hn]
      refine mpI0 3 hR (by decide) rfl (j := nf) (by omega) (show nf < 8 by omega) rfl (fun t hR => ?_)
      refine xgR_R hR (p := 20) (i := 0) rfl rfl rfl ?_
      refine xgI_R hR (p := 20) (i := 0) rfl rfl rfl ?_
      simp (config := { decide := true }) only [su_r, su_f, sup_n, not_false_eq_true, eq_self_iff_true, true_or, or_true, false_or, or_false, true_and, and_true, false_and, and_false, if_true, if_false, ite_true, ite_false]
      rw [hn]
      refine ⟨xis_R hR (p := 20) (i := 0) rfl rfl, ?_⟩
      refine mm_month hR (by simp (config := { decide := true }) only [su_r, su_f, sup_n, not_false_eq_true, eq_self_iff_true, true_or, or_true, false_or, or_false, true_and, and_true, false_and, and_false, if_true, if_false, ite_true, ite_false]; omega) ?_
      simp (config := { decide := true }) only [su_r, su_f, sup_n, not_false_eq_true, eq_self_iff_true, true_or, or_true, false_or, or_false, true_and, and_true, false_and, and_false, if_true, if_false, ite_true, ite_false]
      refine mpI0 4 hR (by decide) rfl (j := nf) (by omega) (show nf < 8 by omega) rfl (fun t hR => ?_)
      refine xgR_R hR (p := 20) (i := 0) rfl rfl rfl ?_
      refine xgI_R hR (p := 20) (i := 0) rfl rfl rfl ?_
      simp (config := { decide := true }) only [su_r, su_f, sup_n, not_false_eq_true, eq_self_iff_true, true_or, or_true, false_or, or_false, true_and, and_true, false_and, and_false, if_true, if_false, ite_true, ite_false]
      rw [hn, show (-1 : Int32) = I (-1) from rfl]
      refine mpI0 6 hR (by decide) rfl (j := nf) (by omega) (show nf < 8 by omega) rfl (fun t hR => ?_)
      refine xgI_R hR (p := 20) (i := 0) rfl rfl rfl ?_
      simp (config := { decide := true }) only [su_r, su_f, sup_n, not_false_eq_true, eq_self_iff_true, true_or, or_true, false_or, or_false, true_and, and_true, false_and, and_false, if_true, if_false, ite_true, ite_false]
      rw [hn, show (I (nf : Int) + (1 : Int32)) = I ((nf : Int) + 1) from I_add _ 1]
      refine mpF (p := 1) (i := 0) (f := 2) hR (by decide) rfl (Nat.le_of_ble_eq_true rfl) rfl (fun t hR => ?_)
      refine xgI_R hR (p := 20) (i := 0) rfl rfl rfl ?_
      simp (config := { decide := true }) only [su_r, su_f, sup_n, not_false_eq_true, eq_self_iff_true, true_or, or_true, false_or, or_false, true_and, and_true, false_and, and_false, if_true, if_false, ite_true, ite_false]
      rw [show (I ((nf : Int) + 1) - (1 : Int32)) = I (nf : Int) by rw [show (1 : Int32) = I 1 from rfl, I_sub]; congr 1; omega]
      exact k0 h c t hR
    · refine xst (by rw [show (nf : Int) = 8 by omega]; rfl) ?_
      unfold V_X8_flat_29
      refine ⟨xis_R hR (p := 20) (i := 0) rfl rfl, ?_⟩
      exact mm_no (c := 2) (by decide) hR (fun t hR => xst rfl (k2 h c t hR))
  · refine xst rfl ?_
    unfold V_X8_flat_29
    refine ⟨xis_R hR (p := 20) (i := 0) rfl rfl, ?_⟩
    exact mm_no (c := 1) (by decide) hR (fun t hR => xst rfl (k1 h t hR))
theorem mm_index {K : Int32 → xT → Prop} {z : Int} (hR : RR ad q lo s u co t) (hT : okT u) (hz : i32 z) (k1 : ¬ (50 ≤ z ∧ z ≤ 200) → ∀ t, RR ad q lo s (su u 20 0 0 1) co t → K 0 t) (k0 : 50 ≤ z ∧ z ≤ 200 → ∀ t, RR ad q lo s (su (su u 20 0 0 0) 21 10 (nowN u + 1) z) co t → K (I (u 21 10 (nowN u))) t) : V_X8_index_0 K (ad 20 0) (I z) t := by
  unfold okT at hT
  unfold nowN at k0
  unfold V_X8_index_0
  rw [show (50 : Int32) = I 50 from rfl, show (200 : Int32) = I 200 from rfl]
  refine mm_in hz ⟨by decide, by decide⟩ ⟨by decide, by decide⟩ (fun h => ?_) (fun h => ?_)
  · refine xbf (by decide) ?_
    unfold V_X8_index_18
    refine ⟨xis_R hR (p := 20) (i := 0) rfl rfl, ?_⟩
    refine mm_ok hR (fun t hR => xsf (by decide) ?_)
    refine xgR_R hR (p := 20) (i := 0) rfl rfl rfl ?_
    refine ⟨xis_R hR (p := 20) (i := 0) rfl rfl, ?_⟩
    refine mm_month hR (by simp (config := { decide := true }) only [su_r, su_f, sup_n, not_false_eq_true, eq_self_iff_true, true_or, or_true, false_or, or_false, true_and, and_true, false_and, and_false, if_true, if_false, ite_true, ite_false]; omega) ?_
    simp (config := { decide := true }) only [su_r, su_f, sup_n, not_false_eq_true, eq_self_iff_true, true_or, or_true, false_or, or_false, true_and, and_true, false_and, and_false, if_true, if_false, ite_true, ite_false]
    rw [show (I (u 0 0 8 / 30) + (1 : Int32)) = I (u 0 0 8 / 30 + 1) from I_add _ 1]
    refine mpI0 10 hR (by decide) rfl (j := (u 0 0 8 / 30).toNat + 1) (by omega) (show (u 0 0 8 / 30).toNat + 1 < 122 by omega) rfl (fun t hR => ?_)
    refine xgR_R hR (p := 20) (i := 0) rfl rfl rfl ?_
    refine ⟨xis_R hR (p := 20) (i := 0) rfl rfl, ?_⟩
    refine mm_month hR (by simp (config := { decide := true }) only [su_r, su_f, sup_n, not_false_eq_true, eq_self_iff_true, true_or, or_true, false_or, or_false, true_and, and_true, false_and, and_false, if_true, if_false, ite_true, ite_false]; omega) ?_
    simp (config := { decide := true }) only [su_r, su_f, sup_n, not_false_eq_true, eq_self_iff_true, true_or, or_true, false_or, or_false, true_and, and_true, false_and, and_false, if_true, if_false, ite_true, ite_false]
    refine xaI_R hR (p := 21) (i := 10) (show 10 < 40 by decide) rfl (by decide) (show 0 ≤ u 0 0 8 / 30 ∧ u 0 0 8 / 30 < ((122 : Nat) : Int) by omega) ?_
    have := k0 h t hR
    show K (I (su (su u 20 0 0 0) 21 10 ((u 0 0 8 / 30).toNat + 1) z 21 10 (u 0 0 8 / 30).toNat)) t
    rw [su_r, if_neg (by omega), su_r, if_neg (by omega)]
    exact this
  · refine xbt rfl ?_
    unfold V_X8_index_18
    refine ⟨xis_R hR (p := 20) (i := 0) rfl rfl, ?_⟩
    exact mm_no (c := 1) (by decide) hR (fun t hR => xst rfl (k1 h t hR))
theorem mm_heat {K : Int32 → xT → Prop} {z : Int} (hR : RR ad q lo s u co t) (hc : 0 ≤ u 20 0 11 ∧ u 20 0 11 ≤ 10000000) (hz : i32 z) (k1 : ¬ (1 ≤ z ∧ z ≤ 1000000) → ∀ t, RR ad q lo s (su u 20 0 0 1) co t → K 0 t) (k2 : 1 ≤ z ∧ z ≤ 1000000 → ¬ u 20 0 11 + z ≤ 10000000 → ∀ t, RR ad q lo s (su u 20 0 0 2) co t → K 0 t) (k0 : 1 ≤ z ∧ z ≤ 1000000 → u 20 0 11 + z ≤ 10000000 → ∀ t, RR ad q lo s (su (su u 20 0 0 0) 20 0 11 (u 20 0 11 + z)) co t → K (I (u 20 0 11 + z)) t) : V_X8_heat_0 K (ad 20 0) (I z) t := by
  unfold V_X8_heat_0
  rw [show (1000000 : Int32) = I 1000000 from rfl]
  refine mm_in (a := 1) hz ⟨by decide, by decide⟩ ⟨by decide, by decide⟩ (fun h => ?_) (fun h => ?_)
  · refine xsf (by decide) ?_
    refine xgI_R hR (p := 20) (i := 0) rfl rfl rfl ?_
    rw [I_add]
    by_cases c : u 20 0 11 + z ≤ 10000000
    · refine xbt (by (try simp only [I_lit, J_lit, I_ofNat, I_neg, I_add, I_sub, I_mul, J_neg, J_add, J_sub, J_mul]); first | (rw [I_lt ⟨by omega, by omega⟩ ⟨by omega, by omega⟩]; omega) | (rw [I_le ⟨by omega, by omega⟩ ⟨by omega, by omega⟩]; omega) | (rw [I_eq ⟨by omega, by omega⟩ ⟨by omega, by omega⟩]; omega) | (rw [J_lt ⟨by omega, by omega⟩ ⟨by omega, by omega⟩]; omega) | (rw [J_le ⟨by omega, by omega⟩ ⟨by omega, by omega⟩]; omega) | (rw [J_eq ⟨by omega, by omega⟩ ⟨by omega, by omega⟩]; omega)) ?_
      refine ⟨xis_R hR (p := 20) (i := 0) rfl rfl, ?_⟩
      refine mm_ok hR (fun t hR => xsf (by decide) ?_)
      refine xgI_R hR (p := 20) (i := 0) rfl rfl rfl ?_
      simp (config := { decide := true }) only [su_r, su_f, sup_n, not_false_eq_true, eq_self_iff_true, true_or, or_true, false_or, or_false, true_and, and_true, false_and, and_false, if_true, if_false, ite_true, ite_false]
      rw [I_add]
      refine mpF (p := 20) (i := 0) (f := 11) hR (by decide) rfl (Nat.le_of_ble_eq_true rfl) rfl (fun t hR => ?_)
      refine xgI_R hR (p := 20) (i := 0) rfl rfl rfl ?_
      simp (config := { decide := true }) only [su_r, su_f, sup_n, not_false_eq_true, eq_self_iff_true, true_or, or_true, false_or, or_false, true_and, and_true, false_and, and_false, if_true, if_false, ite_true, ite_false]
      exact k0 h c t hR
    · refine xbf (by (try simp only [I_lit, J_lit, I_ofNat, I_neg, I_add, I_sub, I_mul, J_neg, J_add, J_sub, J_mul]); first | (rw [I_lt ⟨by omega, by omega⟩ ⟨by omega, by omega⟩]; omega) | (rw [I_le ⟨by omega, by omega⟩ ⟨by omega, by omega⟩]; omega) | (rw [I_eq ⟨by omega, by omega⟩ ⟨by omega, by omega⟩]; omega) | (rw [J_lt ⟨by omega, by omega⟩ ⟨by omega, by omega⟩]; omega) | (rw [J_le ⟨by omega, by omega⟩ ⟨by omega, by omega⟩]; omega) | (rw [J_eq ⟨by omega, by omega⟩ ⟨by omega, by omega⟩]; omega)) ?_
      refine ⟨xis_R hR (p := 20) (i := 0) rfl rfl, ?_⟩
      exact mm_no (c := 2) (by decide) hR (fun t hR => xst rfl (k2 h c t hR))
  · refine xst rfl ?_
    refine ⟨xis_R hR (p := 20) (i := 0) rfl rfl, ?_⟩
    exact mm_no (c := 1) (by decide) hR (fun t hR => xst rfl (k1 h t hR))
theorem mm_end {K : Int32 → xT → Prop} {z : Int} (hR : RR ad q lo s u co t) (hT : okT u) (hn : u 1 1 2 = n) (hn12 : n ≤ 12) (hz : i32 z) (hl : ∀ l, l < n → i32 (u 21 22 l)) (k1 : ¬ (0 ≤ z ∧ z < n) → ∀ t, RR ad q lo s (su u 20 0 0 1) co t → K 0 t) (k2 : 0 ≤ z ∧ z < n → u 21 22 z.toNat ≠ 1000 → ∀ t, RR ad q lo s (su u 20 0 0 2) co t → K 0 t) (k0 : 0 ≤ z ∧ z < n → u 21 22 z.toNat = 1000 → ∀ t, RR ad q lo s (su (su u 20 0 0 0) 21 22 z.toNat (u 0 0 8 / 30)) co t → K (I (u 0 0 8 / 30)) t) : V_X8_end_0 K (ad 20 0) (I z) t := by
  unfold okT at hT
  unfold V_X8_end_0
  refine ⟨xis_R hR (p := 20) (i := 0) rfl rfl, ?_⟩
  refine mm_isLease hR hn (by omega) hz (fun h => ?_) (fun h => ?_)
  · have h9 := hl z.toNat (by omega)
    unfold i32 at h9
    refine xsf (by decide) ?_
    refine xgR_R hR (p := 20) (i := 0) rfl rfl rfl ?_
    refine xaI_R hR (p := 21) (i := 22) (show 22 < 40 by decide) rfl (by decide) (show 0 ≤ z ∧ z < ((12 : Nat) : Int) by omega) ?_
    show (I (u 21 22 z.toNat) = (1000 : Int32) → _) ∧ (¬ I (u 21 22 z.toNat) = (1000 : Int32) → _)
    by_cases c : u 21 22 z.toNat = 1000
    · refine xbt (by rw [c]; rfl) ?_
      refine ⟨xis_R hR (p := 20) (i := 0) rfl rfl, ?_⟩
      refine mm_ok hR (fun t hR => xsf (by decide) ?_)
      refine xgR_R hR (p := 20) (i := 0) rfl rfl rfl ?_
      refine ⟨xis_R hR (p := 20) (i := 0) rfl rfl, ?_⟩
      refine mm_month hR (by simp (config := { decide := true }) only [su_r, su_f, sup_n, not_false_eq_true, eq_self_iff_true, true_or, or_true, false_or, or_false, true_and, and_true, false_and, and_false, if_true, if_false, ite_true, ite_false]; omega) ?_
      simp (config := { decide := true }) only [su_r, su_f, sup_n, not_false_eq_true, eq_self_iff_true, true_or, or_true, false_or, or_false, true_and, and_true, false_and, and_false, if_true, if_false, ite_true, ite_false]
      refine mpI0 22 hR (by decide) rfl (j := z.toNat) (by omega) (show z.toNat < 12 by omega) rfl (fun t hR => ?_)
      refine ⟨xis_R hR (p := 20) (i := 0) rfl rfl, ?_⟩
      refine mm_month hR (by simp (config := { decide := true }) only [su_r, su_f, sup_n, not_false_eq_true, eq_self_iff_true, true_or, or_true, false_or, or_false, true_and, and_true, false_and, and_false, if_true, if_false, ite_true, ite_false]; omega) ?_
      simp (config := { decide := true }) only [su_r, su_f, sup_n, not_false_eq_true, eq_self_iff_true, true_or, or_true, false_or, or_false, true_and, and_true, false_and, and_false, if_true, if_false, ite_true, ite_false]
      exact k0 h c t hR
    · refine xbf (by (try simp only [I_lit, J_lit, I_ofNat, I_neg, I_add, I_sub, I_mul, J_neg, J_add, J_sub, J_mul]); first | (rw [I_lt ⟨by omega, by omega⟩ ⟨by omega, by omega⟩]; omega) | (rw [I_le ⟨by omega, by omega⟩ ⟨by omega, by omega⟩]; omega) | (rw [I_eq ⟨by omega, by omega⟩ ⟨by omega, by omega⟩]; omega) | (rw [J_lt ⟨by omega, by omega⟩ ⟨by omega, by omega⟩]; omega) | (rw [J_le ⟨by omega, by omega⟩ ⟨by omega, by omega⟩]; omega) | (rw [J_eq ⟨by omega, by omega⟩ ⟨by omega, by omega⟩]; omega)) ?_
      refine ⟨xis_R hR (p := 20) (i := 0) rfl rfl, ?_⟩
      exact mm_no (c := 2) (by decide) hR (fun t hR => xst rfl (k2 h c t hR))
  · refine xst rfl ?_
    refine ⟨xis_R hR (p := 20) (i := 0) rfl rfl, ?_⟩
    exact mm_no (c := 1) (by decide) hR (fun t hR => xst rfl (k1 h t hR))
end MC2
