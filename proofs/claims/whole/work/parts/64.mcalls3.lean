section MC3
variable {ad : xAd} {q : xL} {lo : Nat → Nat → Prop} {s u : xS} {co : Nat → Nat → xE} {t : xT} {nf n nr : Nat}
theorem mpJ0 {K : xT → Prop} (k : Nat) {j p i f : Nat} {x z : Int} (hR : RR ad q lo s u co t) (hk40 : k < 40) (hk1 : (mkd k).1 = 1) (hz : 0 ≤ z ∧ z.toNat = j) (hj : j < (mkd k).2) (hv : mvr k j = (p, i, f)) (kk : ∀ t, RR ad q lo s (su u p i f x) co t → K t) : xsJ t (ad 21 k) (I z) (J x) K := by
  have h := mpJ (K := K) hR hk40 hk1 hj hv kk
  rw [show ((j : Nat) : Int) = z by omega] at h
  exact h
theorem mpZ {K : xT → Prop} (k : Nat) {j p i f : Nat} {z : Int} (hR : RR ad q lo s u co t) (hk40 : k < 40) (hk1 : (mkd k).1 = 2) (hz : 0 ≤ z ∧ z.toNat = j) (hj : j < (mkd k).2) (hv : mvr k j = (p, i, f)) (kk : ∀ t, RR ad q lo s (su u p i f 1) co t → K t) : xsI 2 t (ad 21 k) (I z) (vp_nar .boolean (1 : Int32)) K := by
  have h := mpI (K := K) (x := 1) hR hk40 (by rw [hk1]; decide) hj hv kk
  rw [hk1, show ((j : Nat) : Int) = z by omega] at h
  exact h
theorem mm_read {K : Int32 → xT → Prop} {z x : Int} (hR : RR ad q lo s u co t) (hT : okT u) (hn : u 1 0 2 = nf) (hn8 : nf ≤ 8) (hz : i32 z) (hx : i32 x) (hs : ∀ f, f < nf → 0 ≤ u 5 f 3 ∧ u 5 f 3 ≤ 1000000) (k1 : ¬ (0 ≤ z ∧ z < nf) → ∀ t, RR ad q lo s (su u 20 0 0 1) co t → K 0 t) (k2 : 0 ≤ z ∧ z < nf → ¬ (u 5 z.toNat 3 ≤ x ∧ x ≤ 1000000) → ∀ t, RR ad q lo s (su u 20 0 0 2) co t → K 0 t) (k0 : 0 ≤ z ∧ z < nf → u 5 z.toNat 3 ≤ x ∧ x ≤ 1000000 → ∀ t, RR ad q lo s (su (su (su u 20 0 0 0) 5 z.toNat 3 x) 5 z.toNat 5 (u 0 0 8 / 30)) co t → K (I (x - u 5 z.toNat 3)) t) : V_X8_read_0 K (ad 20 0) (I z) (I x) t := by
  unfold okT at hT
  unfold V_X8_read_0
  refine ⟨xis_R hR (p := 20) (i := 0) rfl rfl, ?_⟩
  refine mm_isFlat hR hn (by omega) hz (fun h => ?_) (fun h => ?_)
  · have hsz := hs z.toNat (by omega)
    unfold i32 at hx
    refine xsf (by decide) ?_
    rw [show (0 : Int32) = I 0 from rfl, show (1000000 : Int32) = I 1000000 from rfl]
    refine mm_in ⟨by omega, by omega⟩ ⟨by decide, by decide⟩ ⟨by decide, by decide⟩ (fun h2 => ?_) (fun h2 => ?_)
    · refine xbf (by decide) ?_
      refine xgR_R hR (p := 20) (i := 0) rfl rfl rfl ?_
      refine xaI_R hR (p := 21) (i := 5) (show 5 < 40 by decide) rfl (by decide) (show 0 ≤ z ∧ z < ((8 : Nat) : Int) by omega) ?_
      show (I (u 5 z.toNat 3) ≤ I x → _) ∧ (¬ I (u 5 z.toNat 3) ≤ I x → _)
      by_cases c : u 5 z.toNat 3 ≤ x
      · refine xbt (by (try simp only [I_lit, J_lit, I_ofNat, I_neg, I_add, I_sub, I_mul, J_neg, J_add, J_sub, J_mul]); first | (rw [I_lt ⟨by omega, by omega⟩ ⟨by omega, by omega⟩]; omega) | (rw [I_le ⟨by omega, by omega⟩ ⟨by omega, by omega⟩]; omega) | (rw [I_eq ⟨by omega, by omega⟩ ⟨by omega, by omega⟩]; omega) | (rw [J_lt ⟨by omega, by omega⟩ ⟨by omega, by omega⟩]; omega) | (rw [J_le ⟨by omega, by omega⟩ ⟨by omega, by omega⟩]; omega) | (rw [J_eq ⟨by omega, by omega⟩ ⟨by omega, by omega⟩]; omega)) ?_
        unfold V_X8_read_40
        refine ⟨xis_R hR (p := 20) (i := 0) rfl rfl, ?_⟩
        refine mm_ok hR (fun t hR => xsf (by decide) ?_)
        refine xgR_R hR (p := 20) (i := 0) rfl rfl rfl ?_
        refine xaI_R hR (p := 21) (i := 5) (show 5 < 40 by decide) rfl (by decide) (show 0 ≤ z ∧ z < ((8 : Nat) : Int) by omega) ?_
        refine xgR_R hR (p := 20) (i := 0) rfl rfl rfl ?_
        refine mpI0 5 hR (by decide) rfl (j := z.toNat) (by omega) (show z.toNat < 8 by omega) rfl (fun t hR => ?_)
        refine xgR_R hR (p := 20) (i := 0) rfl rfl rfl ?_
        refine ⟨xis_R hR (p := 20) (i := 0) rfl rfl, ?_⟩
        refine mm_month hR (by simp (config := { decide := true }) only [su_r, su_f, sup_n, not_false_eq_true, eq_self_iff_true, true_or, or_true, false_or, or_false, true_and, and_true, false_and, and_false, if_true, if_false, ite_true, ite_false]; omega) ?_
        simp (config := { decide := true }) only [su_r, su_f, sup_n, not_false_eq_true, eq_self_iff_true, true_or, or_true, false_or, or_false, true_and, and_true, false_and, and_false, if_true, if_false, ite_true, ite_false]
        refine mpI0 6 hR (by decide) rfl (j := z.toNat) (by omega) (show z.toNat < 8 by omega) rfl (fun t hR => ?_)
        rw [show mva (su u 20 0 0 0) 5 z.toNat = u 5 z.toNat 3 by show su u 20 0 0 0 5 z.toNat 3 = _; rw [su_r, if_neg (by omega)], I_sub]
        exact k0 h ⟨c, h2.2⟩ t hR
      · refine xbf (by (try simp only [I_lit, J_lit, I_ofNat, I_neg, I_add, I_sub, I_mul, J_neg, J_add, J_sub, J_mul]); first | (rw [I_lt ⟨by omega, by omega⟩ ⟨by omega, by omega⟩]; omega) | (rw [I_le ⟨by omega, by omega⟩ ⟨by omega, by omega⟩]; omega) | (rw [I_eq ⟨by omega, by omega⟩ ⟨by omega, by omega⟩]; omega) | (rw [J_lt ⟨by omega, by omega⟩ ⟨by omega, by omega⟩]; omega) | (rw [J_le ⟨by omega, by omega⟩ ⟨by omega, by omega⟩]; omega) | (rw [J_eq ⟨by omega, by omega⟩ ⟨by omega, by omega⟩]; omega)) ?_
        unfold V_X8_read_40
        refine ⟨xis_R hR (p := 20) (i := 0) rfl rfl, ?_⟩
        exact mm_no (c := 2) (by decide) hR (fun t hR => xst rfl (k2 h (fun h => c h.1) t hR))
    · refine xbt rfl ?_
      unfold V_X8_read_40
      refine ⟨xis_R hR (p := 20) (i := 0) rfl rfl, ?_⟩
      exact mm_no (c := 2) (by decide) hR (fun t hR => xst rfl (k2 h (fun h => h2 ⟨by omega, h.2⟩) t hR))
  · refine xst rfl ?_
    unfold V_X8_read_40
    refine ⟨xis_R hR (p := 20) (i := 0) rfl rfl, ?_⟩
    exact mm_no (c := 1) (by decide) hR (fun t hR => xst rfl (k1 h t hR))
theorem mm_pay {K : Int64 → xT → Prop} {z x : Int} (hR : RR ad q lo s u co t) (hn : u 1 1 2 = n) (hn8 : n ≤ 12) (hz : i32 z) (hx : i32 x) (k1 : ¬ (0 ≤ z ∧ z < n) → ∀ t, RR ad q lo s (su u 20 0 0 1) co t → K 0 t) (k2 : 0 ≤ z ∧ z < n → ¬ (1 ≤ x ∧ x ≤ 1000000) → ∀ t, RR ad q lo s (su u 20 0 0 2) co t → K 0 t) (k0 : 0 ≤ z ∧ z < n → 1 ≤ x ∧ x ≤ 1000000 → ∀ t, RR ad q lo s (su (su u 20 0 0 0) 6 z.toNat 5 (u 6 z.toNat 5 - x)) co t → K (J (u 6 z.toNat 5 - x)) t) : V_X8_pay_0 K (ad 20 0) (I z) (I x) t := by
  unfold V_X8_pay_0
  refine ⟨xis_R hR (p := 20) (i := 0) rfl rfl, ?_⟩
  refine mm_isLease hR hn (by omega) hz (fun h => ?_) (fun h => ?_)
  · refine xsf (by decide) ?_
    rw [show (1000000 : Int32) = I 1000000 from rfl]
    refine mm_in (a := 1) hx ⟨by decide, by decide⟩ ⟨by decide, by decide⟩ (fun h2 => ?_) (fun h2 => ?_)
    · refine xbf (by decide) ?_
      unfold V_X8_pay_28
      refine ⟨xis_R hR (p := 20) (i := 0) rfl rfl, ?_⟩
      refine mm_ok hR (fun t hR => xsf (by decide) ?_)
      refine xgR_R hR (p := 20) (i := 0) rfl rfl rfl ?_
      refine xaJ_R hR (p := 21) (i := 23) (show 23 < 40 by decide) rfl (by decide) (show 0 ≤ z ∧ z < ((12 : Nat) : Int) by omega) ?_
      rw [I_long ⟨by omega, by omega⟩, show mva (su u 20 0 0 0) 23 z.toNat = u 6 z.toNat 5 by show su u 20 0 0 0 6 z.toNat 5 = _; rw [su_r, if_neg (by omega)], J_sub]
      refine mpJ0 23 hR (by decide) rfl (j := z.toNat) (by omega) (show z.toNat < 12 by omega) rfl (fun t hR => ?_)
      refine xgR_R hR (p := 20) (i := 0) rfl rfl rfl ?_
      refine xaJ_R hR (p := 21) (i := 23) (show 23 < 40 by decide) rfl (by decide) (show 0 ≤ z ∧ z < ((12 : Nat) : Int) by omega) ?_
      show K (J (su (su u 20 0 0 0) 6 z.toNat 5 (u 6 z.toNat 5 - x) 6 z.toNat 5)) t
      rw [su_r, if_pos ⟨rfl, rfl, rfl⟩]
      exact k0 h h2 t hR
    · refine xbt rfl ?_
      unfold V_X8_pay_28
      refine ⟨xis_R hR (p := 20) (i := 0) rfl rfl, ?_⟩
      exact mm_no (c := 2) (by decide) hR (fun t hR => xst rfl (k2 h h2 t hR))
  · refine xst rfl ?_
    unfold V_X8_pay_28
    refine ⟨xis_R hR (p := 20) (i := 0) rfl rfl, ?_⟩
    exact mm_no (c := 1) (by decide) hR (fun t hR => xst rfl (k1 h t hR))
end MC3
