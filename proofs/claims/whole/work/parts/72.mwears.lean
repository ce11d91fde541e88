section MM3
variable {ad : xAd} {q : xL} {lo : Nat → Nat → Prop} {s u : xS} {co : Nat → Nat → xE} {t : xT} {nf n nr : Nat}
def mtk (r : Nat) (u : xS) : xS := if u 11 r 0 = 0 ∧ clk (u 11 r 3) < u 0 0 8 - u 11 r 4 then su (su u 21 8 (u 11 r 2).toNat (u 21 8 (u 11 r 2).toNat + ppd (u 11 r 3))) 11 r 1 (u 11 r 1 + 1) else u
def okmr (u : xS) (r : Nat) : Prop := r < 60 ∧ (0 ≤ u 11 r 2 ∧ u 11 r 2 < 8) ∧ i32 (u 11 r 0) ∧ i32 (u 11 r 3) ∧ (0 ≤ u 11 r 4 ∧ u 11 r 4 ≤ 100000)
theorem mtk_o {r p i : Nat} (h8 : ¬ p = 21) (h11 : ¬ (p = 11 ∧ i = r)) : mtk r u p i = u p i := by
  unfold mtk
  split
  · rw [su_f _ h11, su_f _ (fun h => h8 h.1)]
  · rfl
theorem mm_wear40 {K : xT → Prop} {R2 : Nat → Int32 → xT → Prop} {r : Nat} (hR : RR ad q lo s u co t) (hr : okmr u r) (hd : 0 ≤ u 0 0 8 ∧ u 0 0 8 ≤ 100000) (kk : ∀ t, RR ad q lo s (mtk r u) co t → R2 (ad 20 0) (I ((r + 1 : Nat) : Int)) t) : V_X8_wears_40 R2 K (ad 20 0) (I r) (I (clk (u 11 r 3))) t := by
  obtain ⟨h1, h2, h3, h4, h5⟩ := hr
  have hc := clk_rng (u 11 r 3)
  have er : ((r : Int).toNat) = r := by omega
  have hr2 : 0 ≤ (r : Int) ∧ (r : Int) < ((60 : Nat) : Int) := by omega
  unfold i32 at h3 h4
  unfold mtk at kk
  unfold V_X8_wears_40
  rw [show (I (r : Int) + 1 : Int32) = I ((r + 1 : Nat) : Int) from I_add _ 1]
  refine xgR_R hR (p := 20) (i := 0) rfl rfl rfl ?_
  refine xaI_R hR (p := 21) (i := 17) (show 17 < 40 by decide) rfl (by decide) hr2 ?_
  rw [show mva u 17 (r : Int).toNat = u 11 r 0 by show u 11 (r : Int).toNat 0 = _; rw [er]]
  by_cases c : u 11 r 0 = 0
  · refine xst (by rw [c]; rfl) ?_
    refine xgI_R hR (p := 20) (i := 0) rfl rfl rfl ?_
    refine xgR_R hR (p := 20) (i := 0) rfl rfl rfl ?_
    refine xaI_R hR (p := 21) (i := 15) (show 15 < 40 by decide) rfl (by decide) hr2 ?_
    rw [show mva u 15 (r : Int).toNat = u 11 r 4 by show u 11 (r : Int).toNat 4 = _; rw [er], I_sub]
    by_cases c2 : clk (u 11 r 3) < u 0 0 8 - u 11 r 4
    · rw [if_pos ⟨c, c2⟩] at kk
      refine xbf (by (try simp only [I_lit, J_lit, I_ofNat, I_neg, I_add, I_sub, I_mul, J_neg, J_add, J_sub, J_mul]); first | (rw [I_lt ⟨by omega, by omega⟩ ⟨by omega, by omega⟩]; omega) | (rw [I_le ⟨by omega, by omega⟩ ⟨by omega, by omega⟩]; omega) | (rw [I_eq ⟨by omega, by omega⟩ ⟨by omega, by omega⟩]; omega) | (rw [J_lt ⟨by omega, by omega⟩ ⟨by omega, by omega⟩]; omega) | (rw [J_le ⟨by omega, by omega⟩ ⟨by omega, by omega⟩]; omega) | (rw [J_eq ⟨by omega, by omega⟩ ⟨by omega, by omega⟩]; omega)) ?_
      refine xgR_R hR (p := 20) (i := 0) rfl rfl rfl ?_
      refine xgR_R hR (p := 20) (i := 0) rfl rfl rfl ?_
      refine xaI_R hR (p := 21) (i := 13) (show 13 < 40 by decide) rfl (by decide) hr2 ?_
      rw [show mva u 13 (r : Int).toNat = u 11 r 2 by show u 11 (r : Int).toNat 2 = _; rw [er]]
      refine xaI_R hR (p := 21) (i := 8) (show 8 < 40 by decide) rfl (by decide) (show 0 ≤ u 11 r 2 ∧ u 11 r 2 < ((8 : Nat) : Int) by omega) ?_
      refine xgR_R hR (p := 20) (i := 0) rfl rfl rfl ?_
      refine xaI_R hR (p := 21) (i := 14) (show 14 < 40 by decide) rfl (by decide) hr2 ?_
      rw [show mva u 14 (r : Int).toNat = u 11 r 3 by show u 11 (r : Int).toNat 3 = _; rw [er], show mva u 8 (u 11 r 2).toNat = u 21 8 (u 11 r 2).toNat from rfl]
      have fin : ∀ t, RR ad q lo s (su u 21 8 (u 11 r 2).toNat (u 21 8 (u 11 r 2).toNat + ppd (u 11 r 3))) co t → xgR t (ad 20 0) 8 16 fun a_15 => xaI 0 t a_15 (I r) fun x_16 => xsI 0 t a_15 (I r) (x_16 + (1 : Int32)) fun t_17 => R2 (ad 20 0) (I ((r + 1 : Nat) : Int)) t_17 := fun t hR => by
        refine xgR_R hR (p := 20) (i := 0) rfl rfl rfl ?_
        refine xaI_R hR (p := 21) (i := 16) (show 16 < 40 by decide) rfl (by decide) hr2 ?_
        rw [show mva (su u 21 8 (u 11 r 2).toNat (u 21 8 (u 11 r 2).toNat + ppd (u 11 r 3))) 16 (r : Int).toNat = u 11 r 1 by show su u 21 8 (u 11 r 2).toNat (u 21 8 (u 11 r 2).toNat + ppd (u 11 r 3)) 11 (r : Int).toNat 1 = _; rw [er, su_r, if_neg (by omega)], show (I (u 11 r 1) + (1 : Int32)) = I (u 11 r 1 + 1) from I_add _ 1]
        exact mpI0 16 hR (by decide) rfl (j := r) (by omega) (show r < 60 by omega) rfl kk
      unfold ppd at fin
      by_cases g0 : u 11 r 3 = 0
      · rw [if_pos g0] at fin
        refine xst (by rw [g0]; rfl) ?_
        rw [show (I (u 21 8 (u 11 r 2).toNat) + (30 : Int32)) = I (u 21 8 (u 11 r 2).toNat + 30) from I_add _ 30]
        exact mpI0 8 hR (by decide) rfl (j := (u 11 r 2).toNat) (by omega) (show (u 11 r 2).toNat < 8 by omega) rfl fin
      · rw [if_neg g0] at fin
        refine xsf (by (try simp only [I_lit, J_lit, I_ofNat, I_neg, I_add, I_sub, I_mul, J_neg, J_add, J_sub, J_mul]); first | (rw [I_lt ⟨by omega, by omega⟩ ⟨by omega, by omega⟩]; omega) | (rw [I_le ⟨by omega, by omega⟩ ⟨by omega, by omega⟩]; omega) | (rw [I_eq ⟨by omega, by omega⟩ ⟨by omega, by omega⟩]; omega) | (rw [J_lt ⟨by omega, by omega⟩ ⟨by omega, by omega⟩]; omega) | (rw [J_le ⟨by omega, by omega⟩ ⟨by omega, by omega⟩]; omega) | (rw [J_eq ⟨by omega, by omega⟩ ⟨by omega, by omega⟩]; omega)) ?_
        refine xgR_R hR (p := 20) (i := 0) rfl rfl rfl ?_
        refine xaI_R hR (p := 21) (i := 14) (show 14 < 40 by decide) rfl (by decide) hr2 ?_
        rw [show mva u 14 (r : Int).toNat = u 11 r 3 by show u 11 (r : Int).toNat 3 = _; rw [er]]
        by_cases g1 : u 11 r 3 = 1
        · rw [if_pos g1] at fin
          refine xst (by rw [g1]; rfl) ?_
          rw [show (I (u 21 8 (u 11 r 2).toNat) + (10 : Int32)) = I (u 21 8 (u 11 r 2).toNat + 10) from I_add _ 10]
          exact mpI0 8 hR (by decide) rfl (j := (u 11 r 2).toNat) (by omega) (show (u 11 r 2).toNat < 8 by omega) rfl fin
        · rw [if_neg g1] at fin
          refine xsf (by (try simp only [I_lit, J_lit, I_ofNat, I_neg, I_add, I_sub, I_mul, J_neg, J_add, J_sub, J_mul]); first | (rw [I_lt ⟨by omega, by omega⟩ ⟨by omega, by omega⟩]; omega) | (rw [I_le ⟨by omega, by omega⟩ ⟨by omega, by omega⟩]; omega) | (rw [I_eq ⟨by omega, by omega⟩ ⟨by omega, by omega⟩]; omega) | (rw [J_lt ⟨by omega, by omega⟩ ⟨by omega, by omega⟩]; omega) | (rw [J_le ⟨by omega, by omega⟩ ⟨by omega, by omega⟩]; omega) | (rw [J_eq ⟨by omega, by omega⟩ ⟨by omega, by omega⟩]; omega)) ?_
          rw [show (I (u 21 8 (u 11 r 2).toNat) + (5 : Int32)) = I (u 21 8 (u 11 r 2).toNat + 5) from I_add _ 5]
          exact mpI0 8 hR (by decide) rfl (j := (u 11 r 2).toNat) (by omega) (show (u 11 r 2).toNat < 8 by omega) rfl fin
    · rw [if_neg (fun h => c2 h.2)] at kk
      exact xbt (by (try simp only [I_lit, J_lit, I_ofNat, I_neg, I_add, I_sub, I_mul, J_neg, J_add, J_sub, J_mul]); first | (rw [I_lt ⟨by omega, by omega⟩ ⟨by omega, by omega⟩]; omega) | (rw [I_le ⟨by omega, by omega⟩ ⟨by omega, by omega⟩]; omega) | (rw [I_eq ⟨by omega, by omega⟩ ⟨by omega, by omega⟩]; omega) | (rw [J_lt ⟨by omega, by omega⟩ ⟨by omega, by omega⟩]; omega) | (rw [J_le ⟨by omega, by omega⟩ ⟨by omega, by omega⟩]; omega) | (rw [J_eq ⟨by omega, by omega⟩ ⟨by omega, by omega⟩]; omega)) (kk _ hR)
  · rw [if_neg (fun h => c h.1)] at kk
    exact xsf (by (try simp only [I_lit, J_lit, I_ofNat, I_neg, I_add, I_sub, I_mul, J_neg, J_add, J_sub, J_mul]); first | (rw [I_lt ⟨by omega, by omega⟩ ⟨by omega, by omega⟩]; omega) | (rw [I_le ⟨by omega, by omega⟩ ⟨by omega, by omega⟩]; omega) | (rw [I_eq ⟨by omega, by omega⟩ ⟨by omega, by omega⟩]; omega) | (rw [J_lt ⟨by omega, by omega⟩ ⟨by omega, by omega⟩]; omega) | (rw [J_le ⟨by omega, by omega⟩ ⟨by omega, by omega⟩]; omega) | (rw [J_eq ⟨by omega, by omega⟩ ⟨by omega, by omega⟩]; omega)) (kk _ hR)
theorem okmr_of {u' : xS} {r : Nat} (h : okmr u r) (e : u' 11 r = u 11 r) : okmr u' r := by
  unfold okmr at h ⊢
  rw [e]
  exact h
theorem mm_wearLoop {K : xT → Prop} : ∀ (r i : Nat) (u : xS) (t : xT), i + r = nr → RR ad q lo s u co t → u 1 2 2 = nr → (0 ≤ u 0 0 8 ∧ u 0 0 8 ≤ 100000) → (∀ j, i ≤ j → j < nr → okmr u j) → nr ≤ 60 → (∀ t, RR ad q lo s (lp mtk i r u) co t → K t) → V_X8_wears_2 K (r + 1) (ad 20 0) (I i) t := by
  intro r
  induction r with
  | zero =>
    intro i u t hi hR hn hd ho h60 kk
    show VS_X8_wears_2 (V_X8_wears_2 K 0) K _ _ _
    unfold VS_X8_wears_2
    refine xgI_R hR (p := 20) (i := 0) rfl rfl rfl ?_
    rw [hn]
    exact xbt (by (try simp only [I_lit, J_lit, I_ofNat, I_neg, I_add, I_sub, I_mul, J_neg, J_add, J_sub, J_mul]); first | (rw [I_lt ⟨by omega, by omega⟩ ⟨by omega, by omega⟩]; omega) | (rw [I_le ⟨by omega, by omega⟩ ⟨by omega, by omega⟩]; omega) | (rw [I_eq ⟨by omega, by omega⟩ ⟨by omega, by omega⟩]; omega) | (rw [J_lt ⟨by omega, by omega⟩ ⟨by omega, by omega⟩]; omega) | (rw [J_le ⟨by omega, by omega⟩ ⟨by omega, by omega⟩]; omega) | (rw [J_eq ⟨by omega, by omega⟩ ⟨by omega, by omega⟩]; omega)) (kk t hR)
  | succ r ih =>
    intro i u t hi hR hn hd ho h60 kk
    show VS_X8_wears_2 (V_X8_wears_2 K (r + 1)) K _ _ _
    unfold VS_X8_wears_2
    refine xgI_R hR (p := 20) (i := 0) rfl rfl rfl ?_
    rw [hn]
    refine xbf (by (try simp only [I_lit, J_lit, I_ofNat, I_neg, I_add, I_sub, I_mul, J_neg, J_add, J_sub, J_mul]); first | (rw [I_lt ⟨by omega, by omega⟩ ⟨by omega, by omega⟩]; omega) | (rw [I_le ⟨by omega, by omega⟩ ⟨by omega, by omega⟩]; omega) | (rw [I_eq ⟨by omega, by omega⟩ ⟨by omega, by omega⟩]; omega) | (rw [J_lt ⟨by omega, by omega⟩ ⟨by omega, by omega⟩]; omega) | (rw [J_le ⟨by omega, by omega⟩ ⟨by omega, by omega⟩]; omega) | (rw [J_eq ⟨by omega, by omega⟩ ⟨by omega, by omega⟩]; omega)) ?_
    have hoi := ho i (Nat.le_refl _) (by omega)
    have hr2 : 0 ≤ (i : Int) ∧ (i : Int) < ((60 : Nat) : Int) := by omega
    have er : ((i : Int).toNat) = i := by omega
    have h4 := hoi.2.2.2.1
    unfold i32 at h4
    have go := mm_wear40 (K := K) (R2 := V_X8_wears_2 K (r + 1)) hR hoi hd (fun t hR => ih (i + 1) (mtk i u) t (by omega) hR (by rw [mtk_o (by decide) (by omega)]; exact hn) (by rw [mtk_o (p := 0) (by decide) (by omega)]; exact hd) (fun j g1 g2 => okmr_of (ho j (by omega) g2) (mtk_o (by decide) (by omega))) h60 kk)
    unfold clk at go
    refine xgR_R hR (p := 20) (i := 0) rfl rfl rfl ?_
    refine xaI_R hR (p := 21) (i := 14) (show 14 < 40 by decide) rfl (by decide) hr2 ?_
    rw [show mva u 14 (i : Int).toNat = u 11 i 3 by show u 11 (i : Int).toNat 3 = _; rw [er]]
    by_cases g0 : u 11 i 3 = 0
    · rw [if_pos g0] at go
      exact xst (by rw [g0]; rfl) go
    · rw [if_neg g0] at go
      refine xsf (by (try simp only [I_lit, J_lit, I_ofNat, I_neg, I_add, I_sub, I_mul, J_neg, J_add, J_sub, J_mul]); first | (rw [I_lt ⟨by omega, by omega⟩ ⟨by omega, by omega⟩]; omega) | (rw [I_le ⟨by omega, by omega⟩ ⟨by omega, by omega⟩]; omega) | (rw [I_eq ⟨by omega, by omega⟩ ⟨by omega, by omega⟩]; omega) | (rw [J_lt ⟨by omega, by omega⟩ ⟨by omega, by omega⟩]; omega) | (rw [J_le ⟨by omega, by omega⟩ ⟨by omega, by omega⟩]; omega) | (rw [J_eq ⟨by omega, by omega⟩ ⟨by omega, by omega⟩]; omega)) ?_
      refine xgR_R hR (p := 20) (i := 0) rfl rfl rfl ?_
      refine xaI_R hR (p := 21) (i := 14) (show 14 < 40 by decide) rfl (by decide) hr2 ?_
      rw [show mva u 14 (i : Int).toNat = u 11 i 3 by show u 11 (i : Int).toNat 3 = _; rw [er]]
      by_cases g1 : u 11 i 3 = 1
      · rw [if_pos g1] at go
        exact xst (by rw [g1]; rfl) go
      · rw [if_neg g1] at go
        exact xsf (by (try simp only [I_lit, J_lit, I_ofNat, I_neg, I_add, I_sub, I_mul, J_neg, J_add, J_sub, J_mul]); first | (rw [I_lt ⟨by omega, by omega⟩ ⟨by omega, by omega⟩]; omega) | (rw [I_le ⟨by omega, by omega⟩ ⟨by omega, by omega⟩]; omega) | (rw [I_eq ⟨by omega, by omega⟩ ⟨by omega, by omega⟩]; omega) | (rw [J_lt ⟨by omega, by omega⟩ ⟨by omega, by omega⟩]; omega) | (rw [J_le ⟨by omega, by omega⟩ ⟨by omega, by omega⟩]; omega) | (rw [J_eq ⟨by omega, by omega⟩ ⟨by omega, by omega⟩]; omega)) go
theorem mm_wears {K : xT → Prop} (hR : RR ad q lo s u co t) (hn : u 1 2 2 = nr) (h60 : nr ≤ 60) (hd : 0 ≤ u 0 0 8 ∧ u 0 0 8 ≤ 100000) (ho : ∀ j, j < nr → okmr u j) (kk : ∀ t, RR ad q lo s (lp mtk 0 nr u) co t → K t) : V_X8_wears_0 K (ad 20 0) t := ⟨nr + 1, mm_wearLoop nr 0 u t (by omega) hR hn hd (fun j _ hj => ho j hj) h60 kk⟩
end MM3
