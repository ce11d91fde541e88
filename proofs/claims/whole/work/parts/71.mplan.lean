section MM2
variable {ad : xAd} {q : xL} {lo : Nat → Nat → Prop} {s u : xS} {co : Nat → Nat → xE} {t : xT} {nf n nr : Nat}
theorem mm_plan54 {K : xT → Prop} {l : Nat} {b : Int} (hR : RR ad q lo s u co t) (hl : l < 12) (hb : 0 ≤ b ∧ b ≤ 1000000000000000) (ho : -1000000000000 ≤ u 6 l 5 ∧ u 6 l 5 ≤ 1000000000000) (k1 : u 6 l 5 ≤ b → b ≠ 0 → ∀ t, RR ad q lo s (su u 7 l 0 1) co t → K t) (k3 : u 6 l 5 ≤ b → b = 0 → ∀ t, RR ad q lo s (su u 7 l 0 3) co t → K t) (k2 : ¬ u 6 l 5 ≤ b → ∀ t, RR ad q lo s (su u 7 l 0 2) co t → K t) : V_X8_looksAtPlan_54 K (ad 20 0) (I l) (J b) t := by
  unfold V_X8_looksAtPlan_54
  refine xgR_R hR (p := 20) (i := 0) rfl rfl rfl ?_
  refine xgR_R hR (p := 20) (i := 0) rfl rfl rfl ?_
  refine xaJ_R hR (p := 21) (i := 23) (show 23 < 40 by decide) rfl (by decide) (show 0 ≤ (l : Int) ∧ (l : Int) < ((12 : Nat) : Int) by omega) ?_
  rw [show mva u 23 (l : Int).toNat = u 6 l 5 by show u 6 (l : Int).toNat 5 = _; rw [show ((l : Int).toNat) = l by omega], show (1 : Int32) = I 1 from rfl, show (2 : Int32) = I 2 from rfl, show (3 : Int32) = I 3 from rfl]
  by_cases c : u 6 l 5 ≤ b
  · refine xbt (by (try simp only [I_lit, J_lit, I_ofNat, I_neg, I_add, I_sub, I_mul, J_neg, J_add, J_sub, J_mul]); first | (rw [I_lt ⟨by omega, by omega⟩ ⟨by omega, by omega⟩]; omega) | (rw [I_le ⟨by omega, by omega⟩ ⟨by omega, by omega⟩]; omega) | (rw [I_eq ⟨by omega, by omega⟩ ⟨by omega, by omega⟩]; omega) | (rw [J_lt ⟨by omega, by omega⟩ ⟨by omega, by omega⟩]; omega) | (rw [J_le ⟨by omega, by omega⟩ ⟨by omega, by omega⟩]; omega) | (rw [J_eq ⟨by omega, by omega⟩ ⟨by omega, by omega⟩]; omega)) ?_
    by_cases c2 : b = 0
    · refine xst (by rw [c2]; rfl) ?_
      exact mpI0 31 hR (by decide) rfl (j := l) (by omega) (show l < 12 by omega) rfl (k3 c c2)
    · refine xsf ?_ ?_
      · rw [show (0 : Int64) = J 0 from rfl, J_eq ⟨by omega, by omega⟩ ⟨by omega, by omega⟩]
        exact c2
      · exact mpI0 31 hR (by decide) rfl (j := l) (by omega) (show l < 12 by omega) rfl (k1 c c2)
  · refine xbf (by (try simp only [I_lit, J_lit, I_ofNat, I_neg, I_add, I_sub, I_mul, J_neg, J_add, J_sub, J_mul]); first | (rw [I_lt ⟨by omega, by omega⟩ ⟨by omega, by omega⟩]; omega) | (rw [I_le ⟨by omega, by omega⟩ ⟨by omega, by omega⟩]; omega) | (rw [I_eq ⟨by omega, by omega⟩ ⟨by omega, by omega⟩]; omega) | (rw [J_lt ⟨by omega, by omega⟩ ⟨by omega, by omega⟩]; omega) | (rw [J_le ⟨by omega, by omega⟩ ⟨by omega, by omega⟩]; omega) | (rw [J_eq ⟨by omega, by omega⟩ ⟨by omega, by omega⟩]; omega)) ?_
    exact mpI0 31 hR (by decide) rfl (j := l) (by omega) (show l < 12 by omega) rfl (k2 c)
theorem mm_looks {K : xT → Prop} {l : Nat} (hR : RR ad q lo s u co t) (hl : l < 12) (hP : okP u l) (kk : ∀ t, RR ad q lo s (planM l u) co t → K t) : V_X8_looksAtPlan_0 K (ad 20 0) (I l) t := by
  obtain ⟨p0, p5, p1, p2, p3⟩ := hP
  unfold i32 at p0
  have el : ((l : Int).toNat) = l := by omega
  have hl2 : 0 ≤ (l : Int) ∧ (l : Int) < ((12 : Nat) : Int) := by omega
  unfold V_X8_looksAtPlan_0
  unfold planM at kk
  refine xgR_R hR (p := 20) (i := 0) rfl rfl rfl ?_
  refine xaI_R hR (p := 21) (i := 31) (show 31 < 40 by decide) rfl (by decide) hl2 ?_
  rw [show mva u 31 (l : Int).toNat = u 7 l 0 by show u 7 (l : Int).toNat 0 = _; rw [el]]
  by_cases c : u 7 l 0 = 1
  · rw [if_pos c] at kk
    refine xbt (by rw [c]; rfl) ?_
    refine xgR_R hR (p := 20) (i := 0) rfl rfl rfl ?_
    refine xaI_R hR (p := 21) (i := 34) (show 34 < 40 by decide) rfl (by decide) hl2 ?_
    rw [show mva u 34 (l : Int).toNat = u 7 l 3 by show u 7 (l : Int).toNat 3 = _; rw [el], show (I (u 7 l 3) + (1 : Int32)) = I (u 7 l 3 + 1) from I_add _ 1]
    refine mpI0 34 hR (by decide) rfl (j := l) (by omega) (show l < 12 by omega) rfl (fun t hR => ?_)
    refine xgR_R hR (p := 20) (i := 0) rfl rfl rfl ?_
    refine xaJ_R hR (p := 21) (i := 32) (show 32 < 40 by decide) rfl (by decide) hl2 ?_
    refine xgR_R hR (p := 20) (i := 0) rfl rfl rfl ?_
    refine xaI_R hR (p := 21) (i := 34) (show 34 < 40 by decide) rfl (by decide) hl2 ?_
    refine xgR_R hR (p := 20) (i := 0) rfl rfl rfl ?_
    refine xaJ_R hR (p := 21) (i := 33) (show 33 < 40 by decide) rfl (by decide) hl2 ?_
    rw [show mva (su u 7 l 3 (u 7 l 3 + 1)) 32 (l : Int).toNat = u 7 l 1 by show su u 7 l 3 (u 7 l 3 + 1) 7 (l : Int).toNat 1 = _; rw [el, su_r, if_neg (by omega)], show mva (su u 7 l 3 (u 7 l 3 + 1)) 34 (l : Int).toNat = u 7 l 3 + 1 by show su u 7 l 3 (u 7 l 3 + 1) 7 (l : Int).toNat 3 = _; rw [el, su_r, if_pos ⟨rfl, rfl, rfl⟩], show mva (su u 7 l 3 (u 7 l 3 + 1)) 33 (l : Int).toNat = u 7 l 2 by show su u 7 l 3 (u 7 l 3 + 1) 7 (l : Int).toNat 2 = _; rw [el, su_r, if_neg (by omega)]]
    have m0 : 0 ≤ u 7 l 2 * (u 7 l 3 + 1) := Int.mul_nonneg p2.1 (by omega)
    have m1 : u 7 l 2 * (u 7 l 3 + 1) ≤ 1000000000000 * 1001 := Int.mul_le_mul p2.2 (by omega) (by omega) (by decide)
    rw [I_long ⟨by omega, by omega⟩, J_mul, J_sub, Int.mul_comm (u 7 l 3 + 1) (u 7 l 2)]
    have eo : su u 7 l 3 (u 7 l 3 + 1) 6 l 5 = u 6 l 5 := by rw [su_r, if_neg (by omega)]
    have fin : ∀ b : Int, b = bnd u l → (0 ≤ b ∧ b ≤ 1000000000000000) → V_X8_looksAtPlan_54 K (ad 20 0) (I l) (J b) t := by
      intro b hbe hbr
      subst hbe
      refine mm_plan54 hR hl hbr (by rw [eo]; exact p5) (fun g1 g2 t hR => ?_) (fun g1 g2 t hR => ?_) (fun g1 t hR => ?_)
      · rw [eo] at g1
        rw [if_pos g1, if_neg g2] at kk
        rw [su_same (by rw [su_r, if_neg (by omega)]; exact c)] at hR
        exact kk t hR
      · rw [eo] at g1
        rw [if_pos g1, if_pos g2] at kk
        exact kk t hR
      · rw [eo] at g1
        rw [if_neg g1] at kk
        exact kk t hR
    by_cases cc : u 7 l 1 - u 7 l 2 * (u 7 l 3 + 1) < 0
    · refine xbf (by (try simp only [I_lit, J_lit, I_ofNat, I_neg, I_add, I_sub, I_mul, J_neg, J_add, J_sub, J_mul]); first | (rw [I_lt ⟨by omega, by omega⟩ ⟨by omega, by omega⟩]; omega) | (rw [I_le ⟨by omega, by omega⟩ ⟨by omega, by omega⟩]; omega) | (rw [I_eq ⟨by omega, by omega⟩ ⟨by omega, by omega⟩]; omega) | (rw [J_lt ⟨by omega, by omega⟩ ⟨by omega, by omega⟩]; omega) | (rw [J_le ⟨by omega, by omega⟩ ⟨by omega, by omega⟩]; omega) | (rw [J_eq ⟨by omega, by omega⟩ ⟨by omega, by omega⟩]; omega)) ?_
      refine fin 0 ?_ (by decide)
      unfold bnd
      rw [if_pos cc]
    · refine xbt (by (try simp only [I_lit, J_lit, I_ofNat, I_neg, I_add, I_sub, I_mul, J_neg, J_add, J_sub, J_mul]); first | (rw [I_lt ⟨by omega, by omega⟩ ⟨by omega, by omega⟩]; omega) | (rw [I_le ⟨by omega, by omega⟩ ⟨by omega, by omega⟩]; omega) | (rw [I_eq ⟨by omega, by omega⟩ ⟨by omega, by omega⟩]; omega) | (rw [J_lt ⟨by omega, by omega⟩ ⟨by omega, by omega⟩]; omega) | (rw [J_le ⟨by omega, by omega⟩ ⟨by omega, by omega⟩]; omega) | (rw [J_eq ⟨by omega, by omega⟩ ⟨by omega, by omega⟩]; omega)) ?_
      refine fin _ ?_ (by omega)
      unfold bnd
      rw [if_neg cc]
  · rw [if_neg c] at kk
    exact xbf (by (try simp only [I_lit, J_lit, I_ofNat, I_neg, I_add, I_sub, I_mul, J_neg, J_add, J_sub, J_mul]); first | (rw [I_lt ⟨by omega, by omega⟩ ⟨by omega, by omega⟩]; omega) | (rw [I_le ⟨by omega, by omega⟩ ⟨by omega, by omega⟩]; omega) | (rw [I_eq ⟨by omega, by omega⟩ ⟨by omega, by omega⟩]; omega) | (rw [J_lt ⟨by omega, by omega⟩ ⟨by omega, by omega⟩]; omega) | (rw [J_le ⟨by omega, by omega⟩ ⟨by omega, by omega⟩]; omega) | (rw [J_eq ⟨by omega, by omega⟩ ⟨by omega, by omega⟩]; omega)) (kk _ hR)
end MM2
