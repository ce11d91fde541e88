section MM9
variable {ad : xAd} {q : xL} {lo : Nat → Nat → Prop} {s u : xS} {co : Nat → Nat → xE} {t : xT} {nf n nr : Nat}
def msw (n : Nat) (S : Int) (u : xS) : xS := if 0 < sumn (fun l => u 21 35 l) n then msb n S (sumn (fun l => u 21 35 l) n) 0 n u S else u
theorem mm_sumLoop {K : xT → Prop} {S : Int} (hR : RR ad q lo s u co t) (hn : u 1 1 2 = n) (hn12 : n ≤ 12) (hS : 0 ≤ S ∧ S ≤ 100000000) (hw : ∀ l, l < n → 0 ≤ u 21 35 l ∧ u 21 35 l ≤ 100000000) (kk : ∀ t, RR ad q lo s (msw n S u) co t → K t) : ∀ (r i : Nat), i + r = n → V_X8_sharesBy_5 K (r + 1) (ad 20 0) (J S) (J (sumn (fun l => u 21 35 l) i)) (I i) t := by
  intro r
  have hsum : ∀ i, i ≤ n → 0 ≤ sumn (fun l => u 21 35 l) i ∧ sumn (fun l => u 21 35 l) i ≤ i * 100000000 := fun i hi => sumn_rng (fun l hl => hw l (by omega))
  induction r with
  | zero =>
    intro i hi
    show VS_X8_sharesBy_5 (V_X8_sharesBy_5 K 0) K _ _ _ _ _
    unfold VS_X8_sharesBy_5
    have e : i = n := by omega
    subst e
    have hs := hsum i (by omega)
    refine xgI_R hR (p := 20) (i := 0) rfl rfl rfl ?_
    rw [hn]
    refine xbt (by (try simp only [I_lit, J_lit, I_ofNat, I_neg, I_add, I_sub, I_mul, J_neg, J_add, J_sub, J_mul]); first | (rw [I_lt ⟨by omega, by omega⟩ ⟨by omega, by omega⟩]; omega) | (rw [I_le ⟨by omega, by omega⟩ ⟨by omega, by omega⟩]; omega) | (rw [I_eq ⟨by omega, by omega⟩ ⟨by omega, by omega⟩]; omega) | (rw [J_lt ⟨by omega, by omega⟩ ⟨by omega, by omega⟩]; omega) | (rw [J_le ⟨by omega, by omega⟩ ⟨by omega, by omega⟩]; omega) | (rw [J_eq ⟨by omega, by omega⟩ ⟨by omega, by omega⟩]; omega)) ?_
    unfold msw at kk
    by_cases c : 0 < sumn (fun l => u 21 35 l) i
    · rw [if_pos c] at kk
      have h0 : 0 < i := by
        rcases Nat.eq_zero_or_pos i with e | e
        · subst e
          exact absurd c (Int.lt_irrefl 0)
        · exact e
      refine xsf ?_ ⟨i + 1, ?_⟩
      · rw [show (0 : Int64) = J 0 from rfl, J_eq ⟨by omega, by omega⟩ ⟨by omega, by omega⟩]
        omega
      · exact mm_takeLoop h0 hn12 hS ⟨c, by omega⟩ i 0 u t S (by omega) hR hn (fun l hl => ⟨(hw l hl).1, (hw l hl).2, sumn_ge (g := fun l => u 21 35 l) (fun l hl => (hw l hl).1) hl⟩) (fun l _ h => by omega) (by simp) kk
    · rw [if_neg c] at kk
      have hz : sumn (fun l => u 21 35 l) i = 0 := by omega
      rw [hz]
      have fin : V_X8_sharesBy_117 K 1 (ad 20 0) (0 : Int64) t := by
        show VS_X8_sharesBy_117 (V_X8_sharesBy_117 K 0) K _ _ _
        unfold VS_X8_sharesBy_117
        exact xbt (by decide) (kk t hR)
      refine xst rfl ⟨1, ?_⟩
      show VS_X8_sharesBy_46 (V_X8_sharesBy_46 K 0) K _ _ _ _ _ _
      unfold VS_X8_sharesBy_46
      refine xgI_R hR (p := 20) (i := 0) rfl rfl rfl ?_
      exact ⟨fun _ => ⟨1, fin⟩, fun _ => xbt (by decide) ⟨1, fin⟩⟩
  | succ r ih =>
    intro i hi
    show VS_X8_sharesBy_5 (V_X8_sharesBy_5 K (r + 1)) K _ _ _ _ _
    unfold VS_X8_sharesBy_5
    refine xgI_R hR (p := 20) (i := 0) rfl rfl rfl ?_
    rw [hn]
    refine xbf (by (try simp only [I_lit, J_lit, I_ofNat, I_neg, I_add, I_sub, I_mul, J_neg, J_add, J_sub, J_mul]); first | (rw [I_lt ⟨by omega, by omega⟩ ⟨by omega, by omega⟩]; omega) | (rw [I_le ⟨by omega, by omega⟩ ⟨by omega, by omega⟩]; omega) | (rw [I_eq ⟨by omega, by omega⟩ ⟨by omega, by omega⟩]; omega) | (rw [J_lt ⟨by omega, by omega⟩ ⟨by omega, by omega⟩]; omega) | (rw [J_le ⟨by omega, by omega⟩ ⟨by omega, by omega⟩]; omega) | (rw [J_eq ⟨by omega, by omega⟩ ⟨by omega, by omega⟩]; omega)) ?_
    refine xgR_R hR (p := 20) (i := 0) rfl rfl rfl ?_
    refine xaJ_R hR (p := 21) (i := 35) (show 35 < 40 by decide) rfl (by decide) (show 0 ≤ (i : Int) ∧ (i : Int) < ((12 : Nat) : Int) by omega) ?_
    rw [show mva u 35 (i : Int).toNat = u 21 35 i by show u 21 35 (i : Int).toNat = _; rw [show ((i : Int).toNat) = i by omega], J_add, show (I (i : Int) + 1 : Int32) = I ((i + 1 : Nat) : Int) from I_add _ 1]
    exact ih (i + 1) (by omega)
theorem mm_sharesBy {K : xT → Prop} {S : Int} (hR : RR ad q lo s u co t) (hn : u 1 1 2 = n) (hn12 : n ≤ 12) (hS : 0 ≤ S ∧ S ≤ 100000000) (hw : ∀ l, l < n → 0 ≤ u 21 35 l ∧ u 21 35 l ≤ 100000000) (kk : ∀ t, RR ad q lo s (msw n S u) co t → K t) : V_X8_sharesBy_0 K (ad 20 0) (J S) t := ⟨n + 1, mm_sumLoop hR hn hn12 hS hw kk n 0 (by omega)⟩
end MM9
