section MM8
variable {ad : xAd} {q : xL} {lo : Nat → Nat → Prop} {s u : xS} {co : Nat → Nat → xE} {t : xT} {nf n nr : Nat}
def mtw (S A : Int) (l : Nat) (u : xS) : xS := su (su u 21 37 l (S * u 21 35 l % A)) 21 36 l (u 21 36 l + S * u 21 35 l / A)
def msb (n : Nat) (S A : Int) : Nat → Nat → xS → Int → xS
  | _, 0, u, left => itn (mgv n) left.toNat u
  | i, r + 1, u, left => msb n S A (i + 1) r (mtw S A i u) (left - S * u 21 35 i / A)
theorem mm_takeLoop {K : xT → Prop} {S A : Int} (h0 : 0 < n) (hn12 : n ≤ 12) (hS : 0 ≤ S ∧ S ≤ 100000000) (hA : 0 < A ∧ A ≤ 10000000000) : ∀ (r i : Nat) (u : xS) (t : xT) (left : Int), i + r = n → RR ad q lo s u co t → u 1 1 2 = n → (∀ l, l < n → 0 ≤ u 21 35 l ∧ u 21 35 l ≤ 100000000 ∧ u 21 35 l ≤ A) → (∀ l, l < n → l < i → 0 ≤ u 21 37 l ∧ u 21 37 l < A) → (S - i * S ≤ left ∧ left ≤ S) → (∀ t, RR ad q lo s (msb n S A i r u left) co t → K t) → V_X8_sharesBy_46 K (r + 1) (ad 20 0) (J S) (J A) (J left) (I i) t := by
  intro r
  induction r with
  | zero =>
    intro i u t left hi hR hn hw hb hl kk
    show VS_X8_sharesBy_46 (V_X8_sharesBy_46 K 0) K _ _ _ _ _ _
    unfold VS_X8_sharesBy_46
    have hi12 : (i : Int) * S ≤ 12 * S := Int.mul_le_mul_of_nonneg_right (by omega) hS.1
    refine xgI_R hR (p := 20) (i := 0) rfl rfl rfl ?_
    rw [hn]
    refine xbt (by (try simp only [I_lit, J_lit, I_ofNat, I_neg, I_add, I_sub, I_mul, J_neg, J_add, J_sub, J_mul]); first | (rw [I_lt ⟨by omega, by omega⟩ ⟨by omega, by omega⟩]; omega) | (rw [I_le ⟨by omega, by omega⟩ ⟨by omega, by omega⟩]; omega) | (rw [I_eq ⟨by omega, by omega⟩ ⟨by omega, by omega⟩]; omega) | (rw [J_lt ⟨by omega, by omega⟩ ⟨by omega, by omega⟩]; omega) | (rw [J_le ⟨by omega, by omega⟩ ⟨by omega, by omega⟩]; omega) | (rw [J_eq ⟨by omega, by omega⟩ ⟨by omega, by omega⟩]; omega)) ⟨left.toNat + 1, ?_⟩
    exact mm_give h0 hn12 _ left u t ⟨by omega, by omega⟩ rfl hR hn (fun l hl => by have := hb l hl (by omega); exact ⟨by omega, by omega⟩) kk
  | succ r ih =>
    intro i u t left hi hR hn hw hb hl kk
    show VS_X8_sharesBy_46 (V_X8_sharesBy_46 K (r + 1)) K _ _ _ _ _ _
    unfold VS_X8_sharesBy_46
    have ei : ((i : Int).toNat) = i := by omega
    have hi2 : 0 ≤ (i : Int) ∧ (i : Int) < ((12 : Nat) : Int) := by omega
    have hwi := hw i (by omega)
    have hp0 : 0 ≤ S * u 21 35 i := Int.mul_nonneg hS.1 hwi.1
    have hp1 : S * u 21 35 i ≤ 100000000 * 100000000 := Int.mul_le_mul hS.2 hwi.2.1 hwi.1 (by decide)
    have hq0 : 0 ≤ S * u 21 35 i / A := Int.ediv_nonneg hp0 (by omega)
    have hq1 : S * u 21 35 i / A ≤ S := Int.ediv_le_of_le_mul hA.1 (Int.mul_le_mul_of_nonneg_left hwi.2.2 hS.1)
    have hr0 : 0 ≤ S * u 21 35 i % A := Int.emod_nonneg _ (by omega)
    have hr1 : S * u 21 35 i % A < A := Int.emod_lt_of_pos _ hA.1
    refine xgI_R hR (p := 20) (i := 0) rfl rfl rfl ?_
    rw [hn]
    refine xbf (by (try simp only [I_lit, J_lit, I_ofNat, I_neg, I_add, I_sub, I_mul, J_neg, J_add, J_sub, J_mul]); first | (rw [I_lt ⟨by omega, by omega⟩ ⟨by omega, by omega⟩]; omega) | (rw [I_le ⟨by omega, by omega⟩ ⟨by omega, by omega⟩]; omega) | (rw [I_eq ⟨by omega, by omega⟩ ⟨by omega, by omega⟩]; omega) | (rw [J_lt ⟨by omega, by omega⟩ ⟨by omega, by omega⟩]; omega) | (rw [J_le ⟨by omega, by omega⟩ ⟨by omega, by omega⟩]; omega) | (rw [J_eq ⟨by omega, by omega⟩ ⟨by omega, by omega⟩]; omega)) (xbf (by (try simp only [I_lit, J_lit, I_ofNat, I_neg, I_add, I_sub, I_mul, J_neg, J_add, J_sub, J_mul]); first | (rw [I_lt ⟨by omega, by omega⟩ ⟨by omega, by omega⟩]; omega) | (rw [I_le ⟨by omega, by omega⟩ ⟨by omega, by omega⟩]; omega) | (rw [I_eq ⟨by omega, by omega⟩ ⟨by omega, by omega⟩]; omega) | (rw [J_lt ⟨by omega, by omega⟩ ⟨by omega, by omega⟩]; omega) | (rw [J_le ⟨by omega, by omega⟩ ⟨by omega, by omega⟩]; omega) | (rw [J_eq ⟨by omega, by omega⟩ ⟨by omega, by omega⟩]; omega)) ?_)
    have hA0 : ¬ J A = 0 := by
      rw [show (0 : Int64) = J 0 from rfl, J_eq ⟨by omega, by omega⟩ ⟨by omega, by omega⟩]
      omega
    refine xgR_R hR (p := 20) (i := 0) rfl rfl rfl ?_
    refine xaJ_R hR (p := 21) (i := 35) (show 35 < 40 by decide) rfl (by decide) hi2 ?_
    refine ⟨hA0, ?_⟩
    refine xgR_R hR (p := 20) (i := 0) rfl rfl rfl ?_
    refine xgR_R hR (p := 20) (i := 0) rfl rfl rfl ?_
    refine xaJ_R hR (p := 21) (i := 35) (show 35 < 40 by decide) rfl (by decide) hi2 ?_
    refine ⟨hA0, ?_⟩
    rw [show mva u 35 (i : Int).toNat = u 21 35 i by show u 21 35 (i : Int).toNat = _; rw [ei], J_mul, J_rem ⟨by omega, by omega⟩ ⟨by omega, by omega⟩ hp0 hA.1, J_div ⟨by omega, by omega⟩ ⟨by omega, by omega⟩ hp0 hA.1]
    refine mpJ0 37 hR (by decide) rfl (j := i) (by omega) (show i < 12 by omega) rfl (fun t hR => ?_)
    refine xgR_R hR (p := 20) (i := 0) rfl rfl rfl ?_
    refine xaJ_R hR (p := 21) (i := 36) (show 36 < 40 by decide) rfl (by decide) hi2 ?_
    rw [show mva (su u 21 37 i (S * u 21 35 i % A)) 36 (i : Int).toNat = u 21 36 i by show su u 21 37 i (S * u 21 35 i % A) 21 36 (i : Int).toNat = _; rw [ei, su_r, if_neg (by omega)], J_add, J_sub, show (I (i : Int) + 1 : Int32) = I ((i + 1 : Nat) : Int) from I_add _ 1]
    refine mpJ0 36 hR (by decide) rfl (j := i) (by omega) (show i < 12 by omega) rfl (fun t hR => ?_)
    have em : ((i + 1 : Nat) : Int) * S = i * S + S := by rw [Int.natCast_add, Int.add_mul]; simp
    have e35 : ∀ l, mtw S A i u 21 35 l = u 21 35 l := fun l => by
      unfold mtw
      rw [su_r, if_neg (by omega), su_r, if_neg (by omega)]
    refine ih (i + 1) (mtw S A i u) t _ (by omega) hR (by unfold mtw; rw [su_r, if_neg (by omega), su_r, if_neg (by omega)]; exact hn) (fun l hl => by rw [e35]; exact hw l hl) (fun l g1 g2 => ?_) (by rw [em]; omega) kk
    unfold mtw
    rw [su_r, if_neg (by omega), su_r]
    by_cases e : l = i
    · rw [if_pos ⟨rfl, rfl, e⟩]
      exact ⟨hr0, hr1⟩
    · rw [if_neg (fun h => e h.2.2)]
      exact hb l g1 (by omega)
end MM8
