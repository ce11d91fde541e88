section MC8
variable {ad : xAd} {q : xL} {lo : Nat → Nat → Prop} {s u : xS} {co : Nat → Nat → xE} {t : xT} {nf n nr : Nat}
theorem mm_bill {K : Int64 → xT → Prop} {z m x : Int} (hR : RR ad q lo s u co t) (hT : okT u) (hn : u 1 1 2 = n) (hn8 : n ≤ 12) (hz : i32 z) (hm : i32 m) (hx : i32 x) (hbl : ∀ l m, l < n → m < 121 → (u 9 l m = 0 ∨ u 9 l m = 1) ∧ okBl u l m) (k1 : ¬ ((0 ≤ z ∧ z < n) ∧ 0 ≤ m ∧ m ≤ u 0 0 8 / 30) → ∀ t, RR ad q lo s (su u 20 0 0 1) co t → K 0 t) (k2 : ((0 ≤ z ∧ z < n) ∧ 0 ≤ m ∧ m ≤ u 0 0 8 / 30) → ¬ (0 ≤ x ∧ x ≤ 3) → ∀ t, RR ad q lo s (su u 20 0 0 2) co t → K 0 t) (k0 : ((0 ≤ z ∧ z < n) ∧ 0 ≤ m ∧ m ≤ u 0 0 8 / 30) → (0 ≤ x ∧ x ≤ 3) → ∀ t, RR ad q lo s (su u 20 0 0 0) co t → K (J (if u 9 z.toNat m.toNat = 0 then -1 else u 10 (200 * z.toNat + m.toNat) x.toNat)) t) : V_X8_bill_0 K (ad 20 0) (I z) (I m) (I x) t := by
  have hT' := hT
  unfold okT at hT
  unfold V_X8_bill_0
  refine ⟨xis_R hR (p := 20) (i := 0) rfl rfl, ?_⟩
  have no : ¬ ((0 ≤ z ∧ z < n) ∧ 0 ≤ m ∧ m ≤ u 0 0 8 / 30) → V_X8_bill_21 K (ad 20 0) (I z) (I m) (I x) (0 : Int32) t := fun h => by
    unfold V_X8_bill_21 V_X8_bill_47
    refine xst rfl ?_
    refine ⟨xis_R hR (p := 20) (i := 0) rfl rfl, ?_⟩
    exact mm_no (c := 1) (by decide) hR (fun t hR => xst rfl (k1 h t hR))
  refine mm_isLease hR hn (by omega) hz (fun h => ?_) (fun h => ?_)
  · refine xbf (by decide) ?_
    refine ⟨xis_R hR (p := 20) (i := 0) rfl rfl, ?_⟩
    refine mm_isMonth hR hT' hm (fun h2 => ?_) (fun h2 => ?_)
    · refine xbf (by decide) ?_
      unfold V_X8_bill_21
      refine xsf (by decide) ?_
      refine mm_in (a := 0) (b := 3) hx ⟨by decide, by decide⟩ ⟨by decide, by decide⟩ (fun h3 => ?_) (fun h3 => ?_)
      · refine xbf (by decide) ?_
        unfold V_X8_bill_47
        refine ⟨xis_R hR (p := 20) (i := 0) rfl rfl, ?_⟩
        refine mm_ok hR (fun t hR => xsf (by decide) ?_)
        unfold V_X8_at_0
        refine xgR_R hR (p := 20) (i := 0) rfl rfl rfl ?_
        rw [show (121 : Int32) = I 121 from rfl, I_mul, I_add]
        obtain ⟨h01, hb⟩ := hbl z.toNat m.toNat (by omega) (by omega)
        have kk := k0 ⟨h, h2⟩ h3 t hR
        have hz2 : 0 ≤ 121 * z + m ∧ 121 * z + m < ((1452 : Nat) : Int) := by omega
        have d1 : (121 * z + m).toNat / 121 = z.toNat := by omega
        have d2 : (121 * z + m).toNat % 121 = m.toNat := by omega
        refine xaI_R hR (p := 21) (i := 26) (show 26 < 40 by decide) rfl (by decide) hz2 ?_
        have e26 : mva (su u 20 0 0 0) 26 (121 * z + m).toNat = u 9 z.toNat m.toNat := by
          show su u 20 0 0 0 9 ((121 * z + m).toNat / 121) ((121 * z + m).toNat % 121) = _
          rw [su_r, if_neg (by omega), d1, d2]
        rw [e26]
        by_cases c : u 9 z.toNat m.toNat = 0
        · rw [if_pos c] at kk
          exact xst (by rw [c]; rfl) kk
        · rw [if_neg c] at kk
          refine xsf (by (try simp only [I_lit, J_lit, I_ofNat, I_neg, I_add, I_sub, I_mul, J_neg, J_add, J_sub, J_mul]); first | (rw [I_lt ⟨by omega, by omega⟩ ⟨by omega, by omega⟩]; omega) | (rw [I_le ⟨by omega, by omega⟩ ⟨by omega, by omega⟩]; omega) | (rw [I_eq ⟨by omega, by omega⟩ ⟨by omega, by omega⟩]; omega) | (rw [J_lt ⟨by omega, by omega⟩ ⟨by omega, by omega⟩]; omega) | (rw [J_le ⟨by omega, by omega⟩ ⟨by omega, by omega⟩]; omega) | (rw [J_eq ⟨by omega, by omega⟩ ⟨by omega, by omega⟩]; omega)) ?_
          have fin : ∀ k : Nat, k < 4 → K (J (u 10 (200 * z.toNat + m.toNat) k)) t → K (I (u 10 (200 * z.toNat + m.toNat) k)).toInt64 t := fun k hk h => by
            have := okBl_k hb c hk
            rw [I_long ⟨by omega, by omega⟩]
            exact h
          have rd : ∀ k, k < 4 → ∀ a : Nat, (mvr (27 + k) a) = (10, 200 * (a / 121) + a % 121, k) → mva (su u 20 0 0 0) (27 + k) (121 * z + m).toNat = u 10 (200 * z.toNat + m.toNat) k := fun k hk a _ => by
            obtain rfl | rfl | rfl | rfl : k = 0 ∨ k = 1 ∨ k = 2 ∨ k = 3 := by omega
            · show su u 20 0 0 0 10 (200 * ((121 * z + m).toNat / 121) + (121 * z + m).toNat % 121) 0 = _
              rw [su_r, if_neg (by omega), d1, d2]
            · show su u 20 0 0 0 10 (200 * ((121 * z + m).toNat / 121) + (121 * z + m).toNat % 121) 1 = _
              rw [su_r, if_neg (by omega), d1, d2]
            · show su u 20 0 0 0 10 (200 * ((121 * z + m).toNat / 121) + (121 * z + m).toNat % 121) 2 = _
              rw [su_r, if_neg (by omega), d1, d2]
            · show su u 20 0 0 0 10 (200 * ((121 * z + m).toNat / 121) + (121 * z + m).toNat % 121) 3 = _
              rw [su_r, if_neg (by omega), d1, d2]
          by_cases x0 : x = 0
          · refine xst (by rw [x0]; rfl) ?_
            refine xgR_R hR (p := 20) (i := 0) rfl rfl rfl ?_
            refine xaI_R hR (p := 21) (i := 27) (show 27 < 40 by decide) rfl (by decide) hz2 ?_
            rw [rd 0 (by decide) 0 rfl]
            rw [show x.toNat = 0 by omega] at kk
            exact fin 0 (by decide) kk
          · refine xsf (by (try simp only [I_lit, J_lit, I_ofNat, I_neg, I_add, I_sub, I_mul, J_neg, J_add, J_sub, J_mul]); first | (rw [I_lt ⟨by omega, by omega⟩ ⟨by omega, by omega⟩]; omega) | (rw [I_le ⟨by omega, by omega⟩ ⟨by omega, by omega⟩]; omega) | (rw [I_eq ⟨by omega, by omega⟩ ⟨by omega, by omega⟩]; omega) | (rw [J_lt ⟨by omega, by omega⟩ ⟨by omega, by omega⟩]; omega) | (rw [J_le ⟨by omega, by omega⟩ ⟨by omega, by omega⟩]; omega) | (rw [J_eq ⟨by omega, by omega⟩ ⟨by omega, by omega⟩]; omega)) ?_
            by_cases x1 : x = 1
            · refine xst (by rw [x1]; rfl) ?_
              refine xgR_R hR (p := 20) (i := 0) rfl rfl rfl ?_
              refine xaI_R hR (p := 21) (i := 28) (show 28 < 40 by decide) rfl (by decide) hz2 ?_
              rw [rd 1 (by decide) 0 rfl]
              rw [show x.toNat = 1 by omega] at kk
              exact fin 1 (by decide) kk
            · refine xsf (by (try simp only [I_lit, J_lit, I_ofNat, I_neg, I_add, I_sub, I_mul, J_neg, J_add, J_sub, J_mul]); first | (rw [I_lt ⟨by omega, by omega⟩ ⟨by omega, by omega⟩]; omega) | (rw [I_le ⟨by omega, by omega⟩ ⟨by omega, by omega⟩]; omega) | (rw [I_eq ⟨by omega, by omega⟩ ⟨by omega, by omega⟩]; omega) | (rw [J_lt ⟨by omega, by omega⟩ ⟨by omega, by omega⟩]; omega) | (rw [J_le ⟨by omega, by omega⟩ ⟨by omega, by omega⟩]; omega) | (rw [J_eq ⟨by omega, by omega⟩ ⟨by omega, by omega⟩]; omega)) ?_
              by_cases x2 : x = 2
              · refine xst (by rw [x2]; rfl) ?_
                refine xgR_R hR (p := 20) (i := 0) rfl rfl rfl ?_
                refine xaI_R hR (p := 21) (i := 29) (show 29 < 40 by decide) rfl (by decide) hz2 ?_
                rw [rd 2 (by decide) 0 rfl]
                rw [show x.toNat = 2 by omega] at kk
                exact fin 2 (by decide) kk
              · refine xsf (by (try simp only [I_lit, J_lit, I_ofNat, I_neg, I_add, I_sub, I_mul, J_neg, J_add, J_sub, J_mul]); first | (rw [I_lt ⟨by omega, by omega⟩ ⟨by omega, by omega⟩]; omega) | (rw [I_le ⟨by omega, by omega⟩ ⟨by omega, by omega⟩]; omega) | (rw [I_eq ⟨by omega, by omega⟩ ⟨by omega, by omega⟩]; omega) | (rw [J_lt ⟨by omega, by omega⟩ ⟨by omega, by omega⟩]; omega) | (rw [J_le ⟨by omega, by omega⟩ ⟨by omega, by omega⟩]; omega) | (rw [J_eq ⟨by omega, by omega⟩ ⟨by omega, by omega⟩]; omega)) ?_
                refine xgR_R hR (p := 20) (i := 0) rfl rfl rfl ?_
                refine xaI_R hR (p := 21) (i := 30) (show 30 < 40 by decide) rfl (by decide) hz2 ?_
                rw [rd 3 (by decide) 0 rfl]
                rw [show x.toNat = 3 by omega] at kk
                exact fin 3 (by decide) kk
      · refine xbt rfl ?_
        unfold V_X8_bill_47
        refine ⟨xis_R hR (p := 20) (i := 0) rfl rfl, ?_⟩
        exact mm_no (c := 2) (by decide) hR (fun t hR => xst rfl (k2 ⟨h, h2⟩ h3 t hR))
    · exact xbt rfl (no (fun h3 => h2 h3.2))
  · exact xbt rfl (no (fun h3 => h h3.1))
end MC8
