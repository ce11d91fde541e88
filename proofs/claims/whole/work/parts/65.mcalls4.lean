section MC4
variable {ad : xAd} {q : xL} {lo : Nat → Nat → Prop} {s u : xS} {co : Nat → Nat → xE} {t : xT} {nf n nr : Nat}
theorem mm_use {K : Int32 → xT → Prop} {z m : Int} (hR : RR ad q lo s u co t) (hT : okT u) (hn : u 1 0 2 = nf) (hn8 : nf ≤ 8) (hz : i32 z) (hm : i32 m) (k1 : ¬ ((0 ≤ z ∧ z < nf) ∧ 0 ≤ m ∧ m ≤ u 0 0 8 / 30) → ∀ t, RR ad q lo s (su u 20 0 0 1) co t → K 0 t) (k0 : ((0 ≤ z ∧ z < nf) ∧ 0 ≤ m ∧ m ≤ u 0 0 8 / 30) → ∀ t, RR ad q lo s (su u 20 0 0 0) co t → K (I (u 4 (200 + z.toNat) m.toNat)) t) : V_X8_use_0 K (ad 20 0) (I z) (I m) t := by
  unfold V_X8_use_0
  refine ⟨xis_R hR (p := 20) (i := 0) rfl rfl, ?_⟩
  have no : ¬ ((0 ≤ z ∧ z < nf) ∧ 0 ≤ m ∧ m ≤ u 0 0 8 / 30) → V_X8_use_21 K (ad 20 0) (I z) (I m) (0 : Int32) t := fun h => by
    unfold V_X8_use_21
    refine xbt rfl ?_
    refine ⟨xis_R hR (p := 20) (i := 0) rfl rfl, ?_⟩
    exact mm_no (c := 1) (by decide) hR (fun t hR => xbt rfl (k1 h t hR))
  refine mm_isFlat hR hn (by omega) hz (fun h => ?_) (fun h => ?_)
  · refine xbf (by decide) ?_
    refine ⟨xis_R hR (p := 20) (i := 0) rfl rfl, ?_⟩
    refine mm_isMonth hR hT hm (fun h2 => ?_) (fun h2 => ?_)
    · refine xbf (by decide) ?_
      unfold okT at hT
      unfold V_X8_use_21
      refine xbf (by decide) ?_
      refine ⟨xis_R hR (p := 20) (i := 0) rfl rfl, ?_⟩
      refine mm_ok hR (fun t hR => xbf (by decide) ?_)
      refine xgR_R hR (p := 20) (i := 0) rfl rfl rfl ?_
      rw [show (121 : Int32) = I 121 from rfl, I_mul, I_add]
      refine xaI_R hR (p := 21) (i := 9) (show 9 < 40 by decide) rfl (by decide) (show 0 ≤ 121 * z + m ∧ 121 * z + m < ((968 : Nat) : Int) by omega) ?_
      show K (I (su u 20 0 0 0 4 (200 + (121 * z + m).toNat / 121) ((121 * z + m).toNat % 121))) t
      rw [su_r, if_neg (by omega), show (121 * z + m).toNat / 121 = z.toNat by omega, show (121 * z + m).toNat % 121 = m.toNat by omega]
      exact k0 ⟨h, h2⟩ t hR
    · exact xbt rfl (no (fun h => h2 h.2))
  · exact xbt rfl (no (fun h3 => h h3.1))
theorem mm_mend {K : Int32 → xT → Prop} {z : Int} (hR : RR ad q lo s u co t) (hn : u 1 2 2 = nr) (hn60 : nr ≤ 60) (hz : i32 z) (hb : ∀ r, r < nr → i32 (u 11 r 0)) (k1 : ¬ (0 ≤ z ∧ z < nr) → ∀ t, RR ad q lo s (su u 20 0 0 1) co t → K 0 t) (k2 : 0 ≤ z ∧ z < nr → u 11 z.toNat 0 ≠ 0 → ∀ t, RR ad q lo s (su u 20 0 0 2) co t → K 0 t) (k0 : 0 ≤ z ∧ z < nr → u 11 z.toNat 0 = 0 → ∀ t, RR ad q lo s (su (su u 20 0 0 0) 11 z.toNat 0 1) co t → K (I (u 11 z.toNat 1)) t) : V_X8_mend_0 K (ad 20 0) (I z) t := by
  unfold V_X8_mend_0
  refine xgI_R hR (p := 20) (i := 0) rfl rfl rfl ?_
  rw [hn, show (I (nr : Int) - (1 : Int32)) = I ((nr : Int) - 1) from I_sub _ 1]
  refine mm_in (a := 0) hz ⟨by decide, by decide⟩ ⟨by omega, by omega⟩ (fun h => ?_) (fun h => ?_)
  · have h9 := hb z.toNat (by omega)
    unfold i32 at h9
    refine xsf (by decide) ?_
    refine xgR_R hR (p := 20) (i := 0) rfl rfl rfl ?_
    refine xaI_R hR (p := 21) (i := 17) (show 17 < 40 by decide) rfl (by decide) (show 0 ≤ z ∧ z < ((60 : Nat) : Int) by omega) ?_
    show (I (u 11 z.toNat 0) = (0 : Int32) → _) ∧ (¬ I (u 11 z.toNat 0) = (0 : Int32) → _)
    by_cases c : u 11 z.toNat 0 = 0
    · refine xbt (by rw [c]; rfl) ?_
      refine ⟨xis_R hR (p := 20) (i := 0) rfl rfl, ?_⟩
      refine mm_ok hR (fun t hR => xsf (by decide) ?_)
      refine xgR_R hR (p := 20) (i := 0) rfl rfl rfl ?_
      refine mpZ 17 hR (by decide) rfl (j := z.toNat) (by omega) (show z.toNat < 60 by omega) rfl (fun t hR => ?_)
      refine xgR_R hR (p := 20) (i := 0) rfl rfl rfl ?_
      refine xaI_R hR (p := 21) (i := 16) (show 16 < 40 by decide) rfl (by decide) (show 0 ≤ z ∧ z < ((60 : Nat) : Int) by omega) ?_
      show K (I (su (su u 20 0 0 0) 11 z.toNat 0 1 11 z.toNat 1)) t
      rw [su_r, if_neg (by omega), su_r, if_neg (by omega)]
      exact k0 (by omega) c t hR
    · refine xbf (by (try simp only [I_lit, J_lit, I_ofNat, I_neg, I_add, I_sub, I_mul, J_neg, J_add, J_sub, J_mul]); first | (rw [I_lt ⟨by omega, by omega⟩ ⟨by omega, by omega⟩]; omega) | (rw [I_le ⟨by omega, by omega⟩ ⟨by omega, by omega⟩]; omega) | (rw [I_eq ⟨by omega, by omega⟩ ⟨by omega, by omega⟩]; omega) | (rw [J_lt ⟨by omega, by omega⟩ ⟨by omega, by omega⟩]; omega) | (rw [J_le ⟨by omega, by omega⟩ ⟨by omega, by omega⟩]; omega) | (rw [J_eq ⟨by omega, by omega⟩ ⟨by omega, by omega⟩]; omega)) ?_
      refine ⟨xis_R hR (p := 20) (i := 0) rfl rfl, ?_⟩
      exact mm_no (c := 2) (by decide) hR (fun t hR => xst rfl (k2 (by omega) c t hR))
  · refine xst rfl ?_
    refine ⟨xis_R hR (p := 20) (i := 0) rfl rfl, ?_⟩
    exact mm_no (c := 1) (by decide) hR (fun t hR => xst rfl (k1 (by omega) t hR))
def mRe (nr : Nat) (f g : Int) (u : xS) : xS := su (su (su (su (su u 20 0 0 0) 11 nr 2 f) 11 nr 3 g) 11 nr 4 (u 0 0 8)) 1 2 2 (nr + 1)
theorem mm_report {K : Int32 → xT → Prop} {z x : Int} (hR : RR ad q lo s u co t) (hn : u 1 0 2 = nf) (hn8 : nf ≤ 8) (hnr : u 1 2 2 = nr) (hn60 : nr ≤ 60) (hz : i32 z) (hx : i32 x) (k1 : ¬ (0 ≤ z ∧ z < nf) → ∀ t, RR ad q lo s (su u 20 0 0 1) co t → K 0 t) (k2 : 0 ≤ z ∧ z < nf → ¬ (0 ≤ x ∧ x ≤ 2) → ∀ t, RR ad q lo s (su u 20 0 0 2) co t → K 0 t) (k3 : 0 ≤ z ∧ z < nf → 0 ≤ x ∧ x ≤ 2 → ¬ nr < 60 → ∀ t, RR ad q lo s (su u 20 0 0 3) co t → K 0 t) (k0 : 0 ≤ z ∧ z < nf → 0 ≤ x ∧ x ≤ 2 → nr < 60 → ∀ t, RR ad q lo s (mRe nr z x u) co t → K (I nr) t) : V_X8_report_0 K (ad 20 0) (I z) (I x) t := by
  unfold V_X8_report_0
  refine ⟨xis_R hR (p := 20) (i := 0) rfl rfl, ?_⟩
  refine mm_isFlat hR hn (by omega) hz (fun h => ?_) (fun h => ?_)
  · refine xsf (by decide) ?_
    refine mm_in (a := 0) (b := 2) hx ⟨by decide, by decide⟩ ⟨by decide, by decide⟩ (fun h2 => ?_) (fun h2 => ?_)
    · refine xsf (by decide) ?_
      refine xgI_R hR (p := 20) (i := 0) rfl rfl rfl ?_
      rw [hnr]
      by_cases c : nr < 60
      · refine xsf (by (try simp only [I_lit, J_lit, I_ofNat, I_neg, I_add, I_sub, I_mul, J_neg, J_add, J_sub, J_mul]); first | (rw [I_lt ⟨by omega, by omega⟩ ⟨by omega, by omega⟩]; omega) | (rw [I_le ⟨by omega, by omega⟩ ⟨by omega, by omega⟩]; omega) | (rw [I_eq ⟨by omega, by omega⟩ ⟨by omega, by omega⟩]; omega) | (rw [J_lt ⟨by omega, by omega⟩ ⟨by omega, by omega⟩]; omega) | (rw [J_le ⟨by omega, by omega⟩ ⟨by omega, by omega⟩]; omega) | (rw [J_eq ⟨by omega, by omega⟩ ⟨by omega, by omega⟩]; omega)) ?_
        unfold V_X8_report_42
        refine ⟨xis_R hR (p := 20) (i := 0) rfl rfl, ?_⟩
        refine mm_ok hR (fun t hR => xsf (by decide) ?_)
        refine xgR_R hR (p := 20) (i := 0) rfl rfl rfl ?_
        refine xgI_R hR (p := 20) (i := 0) rfl rfl rfl ?_
        simp (config := { decide := true }) only [su_r, su_f, sup_n, not_false_eq_true, eq_self_iff_true, true_or, or_true, false_or, or_false, true_and, and_true, false_and, and_false, if_true, if_false, ite_true, ite_false]
        rw [hnr]
        refine mpI0 13 hR (by decide) rfl (j := nr) (by omega) (show nr < 60 by omega) rfl (fun t hR => ?_)
        refine xgR_R hR (p := 20) (i := 0) rfl rfl rfl ?_
        refine xgI_R hR (p := 20) (i := 0) rfl rfl rfl ?_
        simp (config := { decide := true }) only [su_r, su_f, sup_n, not_false_eq_true, eq_self_iff_true, true_or, or_true, false_or, or_false, true_and, and_true, false_and, and_false, if_true, if_false, ite_true, ite_false]
        rw [hnr]
        refine mpI0 14 hR (by decide) rfl (j := nr) (by omega) (show nr < 60 by omega) rfl (fun t hR => ?_)
        refine xgR_R hR (p := 20) (i := 0) rfl rfl rfl ?_
        refine xgI_R hR (p := 20) (i := 0) rfl rfl rfl ?_
        refine xgI_R hR (p := 20) (i := 0) rfl rfl rfl ?_
        simp (config := { decide := true }) only [su_r, su_f, sup_n, not_false_eq_true, eq_self_iff_true, true_or, or_true, false_or, or_false, true_and, and_true, false_and, and_false, if_true, if_false, ite_true, ite_false]
        rw [hnr]
        refine mpI0 15 hR (by decide) rfl (j := nr) (by omega) (show nr < 60 by omega) rfl (fun t hR => ?_)
        refine xgI_R hR (p := 20) (i := 0) rfl rfl rfl ?_
        simp (config := { decide := true }) only [su_r, su_f, sup_n, not_false_eq_true, eq_self_iff_true, true_or, or_true, false_or, or_false, true_and, and_true, false_and, and_false, if_true, if_false, ite_true, ite_false]
        rw [hnr, show (I (nr : Int) + (1 : Int32)) = I ((nr : Int) + 1) from I_add _ 1]
        refine mpF (p := 1) (i := 2) (f := 2) hR (by decide) rfl (Nat.le_of_ble_eq_true rfl) rfl (fun t hR => ?_)
        refine xgI_R hR (p := 20) (i := 0) rfl rfl rfl ?_
        simp (config := { decide := true }) only [su_r, su_f, sup_n, not_false_eq_true, eq_self_iff_true, true_or, or_true, false_or, or_false, true_and, and_true, false_and, and_false, if_true, if_false, ite_true, ite_false]
        rw [show (I ((nr : Int) + 1) - (1 : Int32)) = I (nr : Int) by rw [show (1 : Int32) = I 1 from rfl, I_sub]; congr 1; omega]
        exact k0 h h2 c t hR
      · refine xst (by rw [show (nr : Int) = 60 by omega]; rfl) ?_
        unfold V_X8_report_42
        refine ⟨xis_R hR (p := 20) (i := 0) rfl rfl, ?_⟩
        exact mm_no (c := 3) (by decide) hR (fun t hR => xst rfl (k3 h h2 c t hR))
    · refine xst rfl ?_
      unfold V_X8_report_42
      refine ⟨xis_R hR (p := 20) (i := 0) rfl rfl, ?_⟩
      exact mm_no (c := 2) (by decide) hR (fun t hR => xst rfl (k2 h h2 t hR))
  · refine xst rfl ?_
    unfold V_X8_report_42
    refine ⟨xis_R hR (p := 20) (i := 0) rfl rfl, ?_⟩
    exact mm_no (c := 1) (by decide) hR (fun t hR => xst rfl (k1 h t hR))
end MC4
