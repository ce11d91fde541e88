section MC6
variable {ad : xAd} {q : xL} {lo : Nat → Nat → Prop} {s u : xS} {co : Nat → Nat → xE} {t : xT} {nf n nr : Nat}
def mLe (n : Nat) (f rent first : Int) (u : xS) : xS := su (su (su (su (su (su u 20 0 0 0) 6 n 0 f) 6 n 8 rent) 6 n 9 first) 21 22 n 1000) 1 1 2 (n + 1)
theorem mm_lease {K : Int32 → xT → Prop} {z x : Int} (hR : RR ad q lo s u co t) (hT : okT u) (hnf : u 1 0 2 = nf) (hn8 : nf ≤ 8) (hn : u 1 1 2 = n) (hn12 : n ≤ 12) (ho : ∀ l, l < n → okml u l) (hz : i32 z) (hx : i32 x) (k1 : ¬ (0 ≤ z ∧ z < nf) → ∀ t, RR ad q lo s (su u 20 0 0 1) co t → K 0 t) (k2 : 0 ≤ z ∧ z < nf → ¬ (0 ≤ x ∧ x ≤ 500000) → ∀ t, RR ad q lo s (su u 20 0 0 2) co t → K 0 t) (k3 : 0 ≤ z ∧ z < nf → 0 ≤ x ∧ x ≤ 500000 → (¬ n < 12 ∨ mLet u n z) → ∀ t, RR ad q lo s (su u 20 0 0 3) co t → K 0 t) (k0 : 0 ≤ z ∧ z < nf → 0 ≤ x ∧ x ≤ 500000 → n < 12 → ¬ mLet u n z → ∀ t, RR ad q lo s (mLe n z x (u 0 0 8 / 30 + 1) u) co t → K (I n) t) : V_X8_lease_0 K (ad 20 0) (I z) (I x) t := by
  have hT' := hT
  unfold okT at hT
  unfold V_X8_lease_0
  refine ⟨xis_R hR (p := 20) (i := 0) rfl rfl, ?_⟩
  refine mm_isFlat hR hnf (by omega) hz (fun h => ?_) (fun h => ?_)
  · refine xsf (by decide) ?_
    rw [show (500000 : Int32) = I 500000 from rfl]
    refine mm_in (a := 0) hx ⟨by decide, by decide⟩ ⟨by decide, by decide⟩ (fun h2 => ?_) (fun h2 => ?_)
    · refine xsf (by decide) ?_
      refine xgI_R hR (p := 20) (i := 0) rfl rfl rfl ?_
      rw [hn]
      by_cases c : n < 12
      · refine xbf (by (try simp only [I_lit, J_lit, I_ofNat, I_neg, I_add, I_sub, I_mul, J_neg, J_add, J_sub, J_mul]); first | (rw [I_lt ⟨by omega, by omega⟩ ⟨by omega, by omega⟩]; omega) | (rw [I_le ⟨by omega, by omega⟩ ⟨by omega, by omega⟩]; omega) | (rw [I_eq ⟨by omega, by omega⟩ ⟨by omega, by omega⟩]; omega) | (rw [J_lt ⟨by omega, by omega⟩ ⟨by omega, by omega⟩]; omega) | (rw [J_le ⟨by omega, by omega⟩ ⟨by omega, by omega⟩]; omega) | (rw [J_eq ⟨by omega, by omega⟩ ⟨by omega, by omega⟩]; omega)) ?_
        refine ⟨xis_R hR (p := 20) (i := 0) rfl rfl, ?_⟩
        refine mm_isLet hR hT' hn hn12 hz ho (fun hl => ?_) (fun hl => ?_)
        · refine xbf (by decide) ?_
          unfold V_X8_lease_51
          refine ⟨xis_R hR (p := 20) (i := 0) rfl rfl, ?_⟩
          exact mm_no (c := 3) (by decide) hR (fun t hR => xst rfl (k3 h h2 (Or.inr hl) t hR))
        · refine xbt rfl ?_
          unfold V_X8_lease_51
          refine ⟨xis_R hR (p := 20) (i := 0) rfl rfl, ?_⟩
          refine mm_ok hR (fun t hR => xsf (by decide) ?_)
          refine xgR_R hR (p := 20) (i := 0) rfl rfl rfl ?_
          refine xgI_R hR (p := 20) (i := 0) rfl rfl rfl ?_
          simp (config := { decide := true }) only [su_r, su_f, sup_n, not_false_eq_true, eq_self_iff_true, true_or, or_true, false_or, or_false, true_and, and_true, false_and, and_false, if_true, if_false, ite_true, ite_false]
          rw [hn]
          refine mpI0 19 hR (by decide) rfl (j := n) (by omega) (show n < 12 by omega) rfl (fun t hR => ?_)
          refine xgR_R hR (p := 20) (i := 0) rfl rfl rfl ?_
          refine xgI_R hR (p := 20) (i := 0) rfl rfl rfl ?_
          simp (config := { decide := true }) only [su_r, su_f, sup_n, not_false_eq_true, eq_self_iff_true, true_or, or_true, false_or, or_false, true_and, and_true, false_and, and_false, if_true, if_false, ite_true, ite_false]
          rw [hn]
          refine mpI0 20 hR (by decide) rfl (j := n) (by omega) (show n < 12 by omega) rfl (fun t hR => ?_)
          refine xgR_R hR (p := 20) (i := 0) rfl rfl rfl ?_
          refine xgI_R hR (p := 20) (i := 0) rfl rfl rfl ?_
          simp (config := { decide := true }) only [su_r, su_f, sup_n, not_false_eq_true, eq_self_iff_true, true_or, or_true, false_or, or_false, true_and, and_true, false_and, and_false, if_true, if_false, ite_true, ite_false]
          rw [hn]
          refine ⟨xis_R hR (p := 20) (i := 0) rfl rfl, ?_⟩
          refine mm_month hR (by simp (config := { decide := true }) only [su_r, su_f, sup_n, not_false_eq_true, eq_self_iff_true, true_or, or_true, false_or, or_false, true_and, and_true, false_and, and_false, if_true, if_false, ite_true, ite_false]; omega) ?_
          simp (config := { decide := true }) only [su_r, su_f, sup_n, not_false_eq_true, eq_self_iff_true, true_or, or_true, false_or, or_false, true_and, and_true, false_and, and_false, if_true, if_false, ite_true, ite_false]
          rw [show (I (u 0 0 8 / 30) + (1 : Int32)) = I (u 0 0 8 / 30 + 1) from I_add _ 1]
          refine mpI0 21 hR (by decide) rfl (j := n) (by omega) (show n < 12 by omega) rfl (fun t hR => ?_)
          refine xgR_R hR (p := 20) (i := 0) rfl rfl rfl ?_
          refine xgI_R hR (p := 20) (i := 0) rfl rfl rfl ?_
          simp (config := { decide := true }) only [su_r, su_f, sup_n, not_false_eq_true, eq_self_iff_true, true_or, or_true, false_or, or_false, true_and, and_true, false_and, and_false, if_true, if_false, ite_true, ite_false]
          rw [hn, show (1000 : Int32) = I 1000 from rfl]
          refine mpI0 22 hR (by decide) rfl (j := n) (by omega) (show n < 12 by omega) rfl (fun t hR => ?_)
          refine xgI_R hR (p := 20) (i := 0) rfl rfl rfl ?_
          simp (config := { decide := true }) only [su_r, su_f, sup_n, not_false_eq_true, eq_self_iff_true, true_or, or_true, false_or, or_false, true_and, and_true, false_and, and_false, if_true, if_false, ite_true, ite_false]
          rw [hn, show (I (n : Int) + (1 : Int32)) = I ((n : Int) + 1) from I_add _ 1]
          refine mpF (p := 1) (i := 1) (f := 2) hR (by decide) rfl (Nat.le_of_ble_eq_true rfl) rfl (fun t hR => ?_)
          refine xgI_R hR (p := 20) (i := 0) rfl rfl rfl ?_
          simp (config := { decide := true }) only [su_r, su_f, sup_n, not_false_eq_true, eq_self_iff_true, true_or, or_true, false_or, or_false, true_and, and_true, false_and, and_false, if_true, if_false, ite_true, ite_false]
          rw [show (I ((n : Int) + 1) - (1 : Int32)) = I (n : Int) by rw [show (1 : Int32) = I 1 from rfl, I_sub]; congr 1; omega]
          exact k0 h h2 c hl t hR
      · refine xbt (by rw [show (n : Int) = 12 by omega]; rfl) ?_
        unfold V_X8_lease_51
        refine ⟨xis_R hR (p := 20) (i := 0) rfl rfl, ?_⟩
        exact mm_no (c := 3) (by decide) hR (fun t hR => xst rfl (k3 h h2 (Or.inl c) t hR))
    · refine xst rfl ?_
      unfold V_X8_lease_51
      refine ⟨xis_R hR (p := 20) (i := 0) rfl rfl, ?_⟩
      exact mm_no (c := 2) (by decide) hR (fun t hR => xst rfl (k2 h h2 t hR))
  · refine xst rfl ?_
    unfold V_X8_lease_51
    refine ⟨xis_R hR (p := 20) (i := 0) rfl rfl, ?_⟩
    exact mm_no (c := 1) (by decide) hR (fun t hR => xst rfl (k1 h t hR))
end MC6
