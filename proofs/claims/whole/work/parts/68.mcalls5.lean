section MC7
variable {ad : xAd} {q : xL} {lo : Nat → Nat → Prop} {s u : xS} {co : Nat → Nat → xE} {t : xT} {nf n nr : Nat}
theorem mm_ownLoop {K : Int64 → xT → Prop} (hR : RR ad q lo s u co t) (hn : u 1 1 2 = n) (hn12 : n ≤ 12) (kk : K (J (-sumn (fun l => u 6 l 5 + u 6 l 6) n)) t) : ∀ (r i : Nat), i + r = n → V_X8_owner_9 K (r + 1) (ad 20 0) (J (-sumn (fun l => u 6 l 5 + u 6 l 6) i)) (I i) t := by
  intro r
  induction r with
  | zero =>
    intro i hi
    show VS_X8_owner_9 (V_X8_owner_9 K 0) K _ _ _ _
    unfold VS_X8_owner_9
    refine xgI_R hR (p := 20) (i := 0) rfl rfl rfl ?_
    rw [hn]
    have hin : i = n := by omega
    subst hin
    exact xbt (by (try simp only [I_lit, J_lit, I_ofNat, I_neg, I_add, I_sub, I_mul, J_neg, J_add, J_sub, J_mul]); first | (rw [I_lt ⟨by omega, by omega⟩ ⟨by omega, by omega⟩]; omega) | (rw [I_le ⟨by omega, by omega⟩ ⟨by omega, by omega⟩]; omega) | (rw [I_eq ⟨by omega, by omega⟩ ⟨by omega, by omega⟩]; omega) | (rw [J_lt ⟨by omega, by omega⟩ ⟨by omega, by omega⟩]; omega) | (rw [J_le ⟨by omega, by omega⟩ ⟨by omega, by omega⟩]; omega) | (rw [J_eq ⟨by omega, by omega⟩ ⟨by omega, by omega⟩]; omega)) kk
  | succ r ih =>
    intro i hi
    show VS_X8_owner_9 (V_X8_owner_9 K (r + 1)) K _ _ _ _
    unfold VS_X8_owner_9
    refine xgI_R hR (p := 20) (i := 0) rfl rfl rfl ?_
    rw [hn]
    refine xbf (by (try simp only [I_lit, J_lit, I_ofNat, I_neg, I_add, I_sub, I_mul, J_neg, J_add, J_sub, J_mul]); first | (rw [I_lt ⟨by omega, by omega⟩ ⟨by omega, by omega⟩]; omega) | (rw [I_le ⟨by omega, by omega⟩ ⟨by omega, by omega⟩]; omega) | (rw [I_eq ⟨by omega, by omega⟩ ⟨by omega, by omega⟩]; omega) | (rw [J_lt ⟨by omega, by omega⟩ ⟨by omega, by omega⟩]; omega) | (rw [J_le ⟨by omega, by omega⟩ ⟨by omega, by omega⟩]; omega) | (rw [J_eq ⟨by omega, by omega⟩ ⟨by omega, by omega⟩]; omega)) ?_
    refine xgR_R hR (p := 20) (i := 0) rfl rfl rfl ?_
    refine xaJ_R hR (p := 21) (i := 23) (show 23 < 40 by decide) rfl (by decide) (show 0 ≤ (i : Int) ∧ (i : Int) < ((12 : Nat) : Int) by omega) ?_
    refine xgR_R hR (p := 20) (i := 0) rfl rfl rfl ?_
    refine xaJ_R hR (p := 21) (i := 24) (show 24 < 40 by decide) rfl (by decide) (show 0 ≤ (i : Int) ∧ (i : Int) < ((12 : Nat) : Int) by omega) ?_
    show V_X8_owner_9 K (r + 1) (ad 20 0) (J (-sumn (fun l => u 6 l 5 + u 6 l 6) i) - (J (u 6 (i : Int).toNat 5) + J (u 6 (i : Int).toNat 6))) (I i + 1) t
    rw [show ((i : Int).toNat) = i by omega, J_add, J_sub, show (I (i : Int) + 1 : Int32) = I ((i + 1 : Nat) : Int) from I_add _ 1, show -sumn (fun l => u 6 l 5 + u 6 l 6) i - (u 6 i 5 + u 6 i 6) = -sumn (fun l => u 6 l 5 + u 6 l 6) (i + 1) by show _ = -(sumn (fun l => u 6 l 5 + u 6 l 6) i + (u 6 i 5 + u 6 i 6)); omega]
    exact ih (i + 1) (by omega)
theorem mm_owner {K : Int64 → xT → Prop} (hR : RR ad q lo s u co t) (hn : u 1 1 2 = n) (hn12 : n ≤ 12) (kk : ∀ t, RR ad q lo s (su u 20 0 0 0) co t → K (J (-sumn (fun l => u 6 l 5 + u 6 l 6) n)) t) : V_X8_owner_0 K (ad 20 0) t := by
  unfold V_X8_owner_0
  rw [show (.int (0 : Int32) : Value) = .int (I 0) from rfl]
  refine mpF (p := 20) (i := 0) (f := 0) hR (by decide) rfl (Nat.le_of_ble_eq_true rfl) rfl (fun t hR => ⟨n + 1, ?_⟩)
  have e : (fun l => su u 20 0 0 0 6 l 5 + su u 20 0 0 0 6 l 6) = fun l => u 6 l 5 + u 6 l 6 := funext fun l => by rw [su_r, if_neg (by omega), su_r, if_neg (by omega)]
  exact mm_ownLoop (n := n) hR (by simp (config := { decide := true }) only [su_r, su_f, sup_n, not_false_eq_true, eq_self_iff_true, true_or, or_true, false_or, or_false, true_and, and_true, false_and, and_false, if_true, if_false, ite_true, ite_false]; exact hn) hn12 (by rw [e]; exact kk t hR) n 0 (by omega)
def mPl (l : Nat) (x : Int) (u : xS) : xS := su (su (su (su (su u 20 0 0 0) 7 l 0 1) 7 l 1 (u 6 l 5)) 7 l 2 ((u 6 l 5 + x - 1) / x)) 7 l 3 0
theorem mm_plan {K : Int64 → xT → Prop} {z x : Int} (hR : RR ad q lo s u co t) (hn : u 1 1 2 = n) (hn8 : n ≤ 12) (hz : i32 z) (hx : i32 x) (hP : ∀ l, l < n → i32 (u 7 l 0) ∧ -1000000000000 ≤ u 6 l 5 ∧ u 6 l 5 ≤ 1000000000000) (k1 : ¬ (0 ≤ z ∧ z < n) → ∀ t, RR ad q lo s (su u 20 0 0 1) co t → K 0 t) (k2 : 0 ≤ z ∧ z < n → ¬ (1 ≤ x ∧ x ≤ 12) → ∀ t, RR ad q lo s (su u 20 0 0 2) co t → K 0 t) (k3 : 0 ≤ z ∧ z < n → 1 ≤ x ∧ x ≤ 12 → (u 7 z.toNat 0 = 1 ∨ u 6 z.toNat 5 ≤ 0) → ∀ t, RR ad q lo s (su u 20 0 0 3) co t → K 0 t) (k0 : 0 ≤ z ∧ z < n → 1 ≤ x ∧ x ≤ 12 → ¬ (u 7 z.toNat 0 = 1 ∨ u 6 z.toNat 5 ≤ 0) → ∀ t, RR ad q lo s (mPl z.toNat x u) co t → K (J ((u 6 z.toNat 5 + x - 1) / x)) t) : V_X8_plan_0 K (ad 20 0) (I z) (I x) t := by
  unfold V_X8_plan_0
  refine ⟨xis_R hR (p := 20) (i := 0) rfl rfl, ?_⟩
  refine mm_isLease hR hn (by omega) hz (fun h => ?_) (fun h => ?_)
  · obtain ⟨p0, p1, p2⟩ := hP z.toNat (by omega)
    unfold i32 at p0
    have bad : (u 7 z.toNat 0 = 1 ∨ u 6 z.toNat 5 ≤ 0) → 1 ≤ x ∧ x ≤ 12 → V_X8_plan_55 K (ad 20 0) (I z) (I x) (3 : Int32) (ad 20 0) t := fun hb h2 => by
      unfold V_X8_plan_55
      refine ⟨xis_R hR (p := 20) (i := 0) rfl rfl, ?_⟩
      exact mm_no (c := 3) (by decide) hR (fun t hR => xst rfl (k3 h h2 hb t hR))
    refine xsf (by decide) ?_
    refine mm_in (a := 1) (b := 12) hx ⟨by decide, by decide⟩ ⟨by decide, by decide⟩ (fun h2 => ?_) (fun h2 => ?_)
    · refine xsf (by decide) ?_
      refine xgR_R hR (p := 20) (i := 0) rfl rfl rfl ?_
      refine xaI_R hR (p := 21) (i := 31) (show 31 < 40 by decide) rfl (by decide) (show 0 ≤ z ∧ z < ((12 : Nat) : Int) by omega) ?_
      show (I (u 7 z.toNat 0) = (1 : Int32) → _) ∧ (¬ I (u 7 z.toNat 0) = (1 : Int32) → _)
      by_cases c : u 7 z.toNat 0 = 1
      · exact xbt (by rw [c]; rfl) (bad (Or.inl c) h2)
      · refine xbf (by (try simp only [I_lit, J_lit, I_ofNat, I_neg, I_add, I_sub, I_mul, J_neg, J_add, J_sub, J_mul]); first | (rw [I_lt ⟨by omega, by omega⟩ ⟨by omega, by omega⟩]; omega) | (rw [I_le ⟨by omega, by omega⟩ ⟨by omega, by omega⟩]; omega) | (rw [I_eq ⟨by omega, by omega⟩ ⟨by omega, by omega⟩]; omega) | (rw [J_lt ⟨by omega, by omega⟩ ⟨by omega, by omega⟩]; omega) | (rw [J_le ⟨by omega, by omega⟩ ⟨by omega, by omega⟩]; omega) | (rw [J_eq ⟨by omega, by omega⟩ ⟨by omega, by omega⟩]; omega)) ?_
        refine xgR_R hR (p := 20) (i := 0) rfl rfl rfl ?_
        refine xaJ_R hR (p := 21) (i := 23) (show 23 < 40 by decide) rfl (by decide) (show 0 ≤ z ∧ z < ((12 : Nat) : Int) by omega) ?_
        show ((0 : Int64) < J (u 6 z.toNat 5) → _) ∧ (¬ (0 : Int64) < J (u 6 z.toNat 5) → _)
        by_cases c2 : 0 < u 6 z.toNat 5
        · refine xbt (by (try simp only [I_lit, J_lit, I_ofNat, I_neg, I_add, I_sub, I_mul, J_neg, J_add, J_sub, J_mul]); first | (rw [I_lt ⟨by omega, by omega⟩ ⟨by omega, by omega⟩]; omega) | (rw [I_le ⟨by omega, by omega⟩ ⟨by omega, by omega⟩]; omega) | (rw [I_eq ⟨by omega, by omega⟩ ⟨by omega, by omega⟩]; omega) | (rw [J_lt ⟨by omega, by omega⟩ ⟨by omega, by omega⟩]; omega) | (rw [J_le ⟨by omega, by omega⟩ ⟨by omega, by omega⟩]; omega) | (rw [J_eq ⟨by omega, by omega⟩ ⟨by omega, by omega⟩]; omega)) ?_
          unfold V_X8_plan_55
          refine ⟨xis_R hR (p := 20) (i := 0) rfl rfl, ?_⟩
          refine mm_ok hR (fun t hR => xsf (by decide) ?_)
          refine xgR_R hR (p := 20) (i := 0) rfl rfl rfl ?_
          rw [show (1 : Int32) = I 1 from rfl]
          refine mpI0 31 hR (by decide) rfl (j := z.toNat) (by omega) (show z.toNat < 12 by omega) rfl (fun t hR => ?_)
          refine xgR_R hR (p := 20) (i := 0) rfl rfl rfl ?_
          refine xgR_R hR (p := 20) (i := 0) rfl rfl rfl ?_
          refine xaJ_R hR (p := 21) (i := 23) (show 23 < 40 by decide) rfl (by decide) (show 0 ≤ z ∧ z < ((12 : Nat) : Int) by omega) ?_
          rw [show mva (su (su u 20 0 0 0) 7 z.toNat 0 1) 23 z.toNat = u 6 z.toNat 5 by show su (su u 20 0 0 0) 7 z.toNat 0 1 6 z.toNat 5 = _; rw [su_r, if_neg (by omega), su_r, if_neg (by omega)]]
          refine mpJ0 32 hR (by decide) rfl (j := z.toNat) (by omega) (show z.toNat < 12 by omega) rfl (fun t hR => ?_)
          refine xgR_R hR (p := 20) (i := 0) rfl rfl rfl ?_
          refine xgR_R hR (p := 20) (i := 0) rfl rfl rfl ?_
          refine xaJ_R hR (p := 21) (i := 23) (show 23 < 40 by decide) rfl (by decide) (show 0 ≤ z ∧ z < ((12 : Nat) : Int) by omega) ?_
          rw [show mva (su (su (su u 20 0 0 0) 7 z.toNat 0 1) 7 z.toNat 1 (u 6 z.toNat 5)) 23 z.toNat = u 6 z.toNat 5 by show su (su (su u 20 0 0 0) 7 z.toNat 0 1) 7 z.toNat 1 (u 6 z.toNat 5) 6 z.toNat 5 = _; rw [su_r, if_neg (by omega), su_r, if_neg (by omega), su_r, if_neg (by omega)]]
          have hx0 : ¬ (I x).toInt64 = (0 : Int64) := by
            rw [I_long ⟨by omega, by omega⟩, show (0 : Int64) = J 0 from rfl, J_eq ⟨by omega, by omega⟩ ⟨by omega, by omega⟩]
            omega
          refine ⟨hx0, ?_⟩
          rw [I_long ⟨by omega, by omega⟩, J_add, show (1 : Int64) = J 1 from rfl, J_sub, J_div ⟨by omega, by omega⟩ ⟨by omega, by omega⟩ (by omega) (by omega)]
          refine mpJ0 33 hR (by decide) rfl (j := z.toNat) (by omega) (show z.toNat < 12 by omega) rfl (fun t hR => ?_)
          refine xgR_R hR (p := 20) (i := 0) rfl rfl rfl ?_
          rw [show (0 : Int32) = I 0 from rfl]
          refine mpI0 34 hR (by decide) rfl (j := z.toNat) (by omega) (show z.toNat < 12 by omega) rfl (fun t hR => ?_)
          refine xgR_R hR (p := 20) (i := 0) rfl rfl rfl ?_
          refine xaJ_R hR (p := 21) (i := 33) (show 33 < 40 by decide) rfl (by decide) (show 0 ≤ z ∧ z < ((12 : Nat) : Int) by omega) ?_
          have := k0 h h2 (by omega) t hR
          show K (J (su (su (su (su (su u 20 0 0 0) 7 z.toNat 0 1) 7 z.toNat 1 (u 6 z.toNat 5)) 7 z.toNat 2 ((u 6 z.toNat 5 + x - 1) / x)) 7 z.toNat 3 0 7 z.toNat 2)) t
          rw [su_r, if_neg (by omega), su_r, if_pos ⟨rfl, rfl, rfl⟩]
          exact this
        · exact xbf (by (try simp only [I_lit, J_lit, I_ofNat, I_neg, I_add, I_sub, I_mul, J_neg, J_add, J_sub, J_mul]); first | (rw [I_lt ⟨by omega, by omega⟩ ⟨by omega, by omega⟩]; omega) | (rw [I_le ⟨by omega, by omega⟩ ⟨by omega, by omega⟩]; omega) | (rw [I_eq ⟨by omega, by omega⟩ ⟨by omega, by omega⟩]; omega) | (rw [J_lt ⟨by omega, by omega⟩ ⟨by omega, by omega⟩]; omega) | (rw [J_le ⟨by omega, by omega⟩ ⟨by omega, by omega⟩]; omega) | (rw [J_eq ⟨by omega, by omega⟩ ⟨by omega, by omega⟩]; omega)) (bad (Or.inr (by omega)) h2)
    · refine xst rfl ?_
      unfold V_X8_plan_55
      refine ⟨xis_R hR (p := 20) (i := 0) rfl rfl, ?_⟩
      exact mm_no (c := 2) (by decide) hR (fun t hR => xst rfl (k2 h h2 t hR))
  · refine xst rfl ?_
    unfold V_X8_plan_55
    refine ⟨xis_R hR (p := 20) (i := 0) rfl rfl, ?_⟩
    exact mm_no (c := 1) (by decide) hR (fun t hR => xst rfl (k1 h t hR))
end MC7
