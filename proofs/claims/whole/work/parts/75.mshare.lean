section MM6
variable {ad : xAd} {q : xL} {lo : Nat → Nat → Prop} {s u : xS} {co : Nat → Nat → xE} {t : xT} {nf n nr : Nat}
/-- the model gives one more -/
def mgv (n : Nat) (u : xS) : xS := su (su u 21 36 (gpk (fun l => u 21 37 l) n) (u 21 36 (gpk (fun l => u 21 37 l) n) + 1)) 21 37 (gpk (fun l => u 21 37 l) n) (-1)
theorem mm_pick {K : xT → Prop} {R117 : Nat → Int64 → xT → Prop} {left : Int} (hR : RR ad q lo s u co t) (hn : u 1 1 2 = n) (hn12 : n ≤ 12) (hb : ∀ l, l < n → i64 (u 21 37 l)) (kk : ∀ t, RR ad q lo s (mgv n u) co t → R117 (ad 20 0) (J (left - 1)) t) : ∀ (r i : Nat), i + r = n → 0 < i → V_X8_sharesBy_130 R117 K (r + 1) (ad 20 0) (J left) (I (gpk (fun l => u 21 37 l) i : Nat)) (I i) t := by
  intro r
  induction r with
  | zero =>
    intro i hi h0
    show VS_X8_sharesBy_130 R117 (V_X8_sharesBy_130 R117 K 0) K _ _ _ _ _
    unfold VS_X8_sharesBy_130
    have hg : gpk (fun l => u 21 37 l) n < n := by
      have := gpk_lt (fun l => u 21 37 l) (n - 1)
      rw [show n - 1 + 1 = n by omega] at this
      exact this
    have e : i = n := by omega
    subst e
    unfold mgv at kk
    generalize gpk (fun l => u 21 37 l) i = g at hg kk ⊢
    have eg : ((g : Int).toNat) = g := by omega
    refine xgI_R hR (p := 20) (i := 0) rfl rfl rfl ?_
    rw [hn]
    refine xbt (by (try simp only [I_lit, J_lit, I_ofNat, I_neg, I_add, I_sub, I_mul, J_neg, J_add, J_sub, J_mul]); first | (rw [I_lt ⟨by omega, by omega⟩ ⟨by omega, by omega⟩]; omega) | (rw [I_le ⟨by omega, by omega⟩ ⟨by omega, by omega⟩]; omega) | (rw [I_eq ⟨by omega, by omega⟩ ⟨by omega, by omega⟩]; omega) | (rw [J_lt ⟨by omega, by omega⟩ ⟨by omega, by omega⟩]; omega) | (rw [J_le ⟨by omega, by omega⟩ ⟨by omega, by omega⟩]; omega) | (rw [J_eq ⟨by omega, by omega⟩ ⟨by omega, by omega⟩]; omega)) ?_
    refine xgR_R hR (p := 20) (i := 0) rfl rfl rfl ?_
    refine xaJ_R hR (p := 21) (i := 36) (show 36 < 40 by decide) rfl (by decide) (show 0 ≤ (g : Int) ∧ (g : Int) < ((12 : Nat) : Int) by omega) ?_
    rw [show mva u 36 (g : Int).toNat = u 21 36 g by show u 21 36 (g : Int).toNat = _; rw [eg], show (1 : Int64) = J 1 from rfl, J_add, J_sub, J_neg]
    refine mpJ0 36 hR (by decide) rfl (j := g) (by omega) (show g < 12 by omega) rfl (fun t hR => ?_)
    refine xgR_R hR (p := 20) (i := 0) rfl rfl rfl ?_
    exact mpJ0 37 hR (by decide) rfl (j := g) (by omega) (show g < 12 by omega) rfl kk
  | succ r ih =>
    intro i hi h0
    show VS_X8_sharesBy_130 R117 (V_X8_sharesBy_130 R117 K (r + 1)) K _ _ _ _ _
    unfold VS_X8_sharesBy_130
    have hg : gpk (fun l => u 21 37 l) i < i := by
      have := gpk_lt (fun l => u 21 37 l) (i - 1)
      rw [show i - 1 + 1 = i by omega] at this
      exact this
    have hnext := ih (i + 1) (by omega) (by omega)
    have hpk : gpk (fun l => u 21 37 l) (i + 1) = if u 21 37 (gpk (fun l => u 21 37 l) i) < u 21 37 i then i else gpk (fun l => u 21 37 l) i := by
      obtain ⟨j, rfl⟩ : ∃ j, i = j + 1 := ⟨i - 1, by omega⟩
      rfl
    rw [hpk] at hnext
    generalize gpk (fun l => u 21 37 l) i = g at hg hnext ⊢
    have eg : ((g : Int).toNat) = g := by omega
    have ei : ((i : Int).toNat) = i := by omega
    have b1 := hb i (by omega)
    have b2 := hb g (by omega)
    unfold i64 at b1 b2
    refine xgI_R hR (p := 20) (i := 0) rfl rfl rfl ?_
    rw [hn]
    refine xbf (by (try simp only [I_lit, J_lit, I_ofNat, I_neg, I_add, I_sub, I_mul, J_neg, J_add, J_sub, J_mul]); first | (rw [I_lt ⟨by omega, by omega⟩ ⟨by omega, by omega⟩]; omega) | (rw [I_le ⟨by omega, by omega⟩ ⟨by omega, by omega⟩]; omega) | (rw [I_eq ⟨by omega, by omega⟩ ⟨by omega, by omega⟩]; omega) | (rw [J_lt ⟨by omega, by omega⟩ ⟨by omega, by omega⟩]; omega) | (rw [J_le ⟨by omega, by omega⟩ ⟨by omega, by omega⟩]; omega) | (rw [J_eq ⟨by omega, by omega⟩ ⟨by omega, by omega⟩]; omega)) ?_
    refine xgR_R hR (p := 20) (i := 0) rfl rfl rfl ?_
    refine xaJ_R hR (p := 21) (i := 37) (show 37 < 40 by decide) rfl (by decide) (show 0 ≤ (i : Int) ∧ (i : Int) < ((12 : Nat) : Int) by omega) ?_
    refine xgR_R hR (p := 20) (i := 0) rfl rfl rfl ?_
    refine xaJ_R hR (p := 21) (i := 37) (show 37 < 40 by decide) rfl (by decide) (show 0 ≤ (g : Int) ∧ (g : Int) < ((12 : Nat) : Int) by omega) ?_
    rw [show mva u 37 (g : Int).toNat = u 21 37 g by show u 21 37 (g : Int).toNat = _; rw [eg], show mva u 37 (i : Int).toNat = u 21 37 i by show u 21 37 (i : Int).toNat = _; rw [ei], show (I (i : Int) + 1 : Int32) = I ((i + 1 : Nat) : Int) from I_add _ 1]
    by_cases c : u 21 37 g < u 21 37 i
    · rw [if_pos c] at hnext
      exact xbf (by (try simp only [I_lit, J_lit, I_ofNat, I_neg, I_add, I_sub, I_mul, J_neg, J_add, J_sub, J_mul]); first | (rw [I_lt ⟨by omega, by omega⟩ ⟨by omega, by omega⟩]; omega) | (rw [I_le ⟨by omega, by omega⟩ ⟨by omega, by omega⟩]; omega) | (rw [I_eq ⟨by omega, by omega⟩ ⟨by omega, by omega⟩]; omega) | (rw [J_lt ⟨by omega, by omega⟩ ⟨by omega, by omega⟩]; omega) | (rw [J_le ⟨by omega, by omega⟩ ⟨by omega, by omega⟩]; omega) | (rw [J_eq ⟨by omega, by omega⟩ ⟨by omega, by omega⟩]; omega)) hnext
    · rw [if_neg c] at hnext
      exact xbt (by (try simp only [I_lit, J_lit, I_ofNat, I_neg, I_add, I_sub, I_mul, J_neg, J_add, J_sub, J_mul]); first | (rw [I_lt ⟨by omega, by omega⟩ ⟨by omega, by omega⟩]; omega) | (rw [I_le ⟨by omega, by omega⟩ ⟨by omega, by omega⟩]; omega) | (rw [I_eq ⟨by omega, by omega⟩ ⟨by omega, by omega⟩]; omega) | (rw [J_lt ⟨by omega, by omega⟩ ⟨by omega, by omega⟩]; omega) | (rw [J_le ⟨by omega, by omega⟩ ⟨by omega, by omega⟩]; omega) | (rw [J_eq ⟨by omega, by omega⟩ ⟨by omega, by omega⟩]; omega)) hnext
end MM6
