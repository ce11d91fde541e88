/-! ===== the model shares the heat ===== -/
section MM5
variable {ad : xAd} {q : xL} {lo : Nat → Nat → Prop} {s u : xS} {co : Nat → Nat → xE} {t : xT} {nf n nr : Nat}
/-- what a lease weighs, by use or by rooms -/
def mwg (m : Nat) (by1 : Int) (u : xS) (l : Nat) : Int := if mrunb u l m = 0 then 0 else if by1 = 0 then u 5 (u 6 l 0).toNat 0 else u 4 (200 + (u 6 l 0).toNat) m
def mwS (m : Nat) (by1 : Int) (l : Nat) (u : xS) : xS := su u 21 35 l (mwg m by1 u l)
def okmw (m : Nat) (u : xS) (l : Nat) : Prop := okml u l ∧ (0 ≤ u 6 l 0 ∧ u 6 l 0 < 8) ∧ i32 (u 5 (u 6 l 0).toNat 0) ∧ i32 (u 4 (200 + (u 6 l 0).toNat) m)
theorem mwg_o {m : Nat} {by1 x : Int} {l j : Nat} : mwg m by1 (su u 21 35 j x) l = mwg m by1 u l := by
  unfold mwg mrunb
  have e : ∀ p i k, ¬ (p = 21 ∧ i = 35 ∧ k = j) → su u 21 35 j x p i k = u p i k := fun p i k h => by rw [su_r, if_neg h]
  rw [e 6 l 9 (by omega), e 21 22 l (by omega), e 6 l 0 (by omega), e 5 _ 0 (by omega), e 4 _ m (by omega)]
theorem mm_weighOne {R5 : Int64 → xT → Prop} {m l : Nat} {by1 : Int} {y : Int} (hR : RR ad q lo s u co t) (hm : m < 121) (ho : okmw m u l) (hby : by1 = 0 ∨ by1 = 1) (kk : ∀ t, RR ad q lo s (mwS m by1 l u) co t → R5 (J (y + mwg m by1 u l)) t) :
    xgR t (ad 20 0) 8 19 fun a_2 => xaI 0 t a_2 (I l) fun x_3 => xgR t (ad 20 0) 8 35 fun a_4 => (xis t (ad 20 0) 8 ∧ V_X8_runs_0 (fun x_6 t_5 => ((¬ x_6 = 0 → ((I by1 = 0 → xgR t_5 (ad 20 0) 8 3 fun a_7 => xaI 0 t_5 a_7 x_3 fun x_8 => xsJ t_5 a_4 (I l) x_8.toInt64 fun t_9 => xgR t_9 (ad 20 0) 8 35 fun a_10 => xaJ t_9 a_10 (I l) fun y_11 => R5 (J y + y_11) t_9) ∧ (¬ I by1 = 0 → xgR t_5 (ad 20 0) 8 9 fun a_12 => xaI 0 t_5 a_12 (((121 : Int32) * x_3) + I m) fun x_13 => xsJ t_5 a_4 (I l) x_13.toInt64 fun t_14 => xgR t_14 (ad 20 0) 8 35 fun a_15 => xaJ t_14 a_15 (I l) fun y_16 => R5 (J y + y_16) t_14))) ∧ (x_6 = 0 → xsJ t_5 a_4 (I l) (0 : Int64) fun t_17 => xgR t_17 (ad 20 0) 8 35 fun a_18 => xaJ t_17 a_18 (I l) fun y_19 => R5 (J y + y_19) t_17))) (ad 20 0) (I l) (I m) t) := by
  obtain ⟨hl, h0, h5, h4⟩ := ho
  have hl12 := hl.1
  have el : ((l : Int).toNat) = l := by omega
  have hl2 : 0 ≤ (l : Int) ∧ (l : Int) < ((12 : Nat) : Int) := by omega
  refine xgR_R hR (p := 20) (i := 0) rfl rfl rfl ?_
  refine xaI_R hR (p := 21) (i := 19) (show 19 < 40 by decide) rfl (by decide) hl2 ?_
  rw [show mva u 19 (l : Int).toNat = u 6 l 0 by show u 6 (l : Int).toNat 0 = _; rw [el]]
  refine xgR_R hR (p := 20) (i := 0) rfl rfl rfl ?_
  refine ⟨xis_R hR (p := 20) (i := 0) rfl rfl, ?_⟩
  refine mm_runs hR hl ⟨by omega, by omega⟩ ?_
  have tail : ∀ x : Int, x = mwg m by1 u l → xsJ t (ad 21 35) (I l) (J x) fun t_9 => xgR t_9 (ad 20 0) 8 35 fun a_10 => xaJ t_9 a_10 (I l) fun y_11 => R5 (J y + y_11) t_9 := fun x hx => by
    subst hx
    refine mpJ0 35 hR (by decide) rfl (j := l) (by omega) (show l < 12 by omega) rfl (fun t hR => ?_)
    refine xgR_R hR (p := 20) (i := 0) rfl rfl rfl ?_
    refine xaJ_R hR (p := 21) (i := 35) (show 35 < 40 by decide) rfl (by decide) hl2 ?_
    rw [show mva (su u 21 35 l (mwg m by1 u l)) 35 (l : Int).toNat = mwg m by1 u l by show su u 21 35 l (mwg m by1 u l) 21 35 (l : Int).toNat = _; rw [el, su_r, if_pos ⟨rfl, rfl, rfl⟩], J_add]
    exact kk t hR
  rcases mrunb_01 u l m with hr | hr
  · rw [hr]
    refine xst rfl ?_
    rw [show (0 : Int64) = J 0 from rfl]
    exact tail 0 (by unfold mwg; rw [if_pos hr])
  · rw [hr]
    refine xsf (by decide) ?_
    rcases hby with rfl | rfl
    · refine xbt rfl ?_
      refine xgR_R hR (p := 20) (i := 0) rfl rfl rfl ?_
      refine xaI_R hR (p := 21) (i := 3) (show 3 < 40 by decide) rfl (by decide) (show 0 ≤ u 6 l 0 ∧ u 6 l 0 < ((8 : Nat) : Int) by omega) ?_
      rw [show mva u 3 (u 6 l 0).toNat = u 5 (u 6 l 0).toNat 0 from rfl, I_long h5]
      exact tail _ (by unfold mwg; rw [if_neg (by omega), if_pos rfl])
    · refine xbf (by decide) ?_
      refine xgR_R hR (p := 20) (i := 0) rfl rfl rfl ?_
      rw [show (121 : Int32) = I 121 from rfl, I_mul, I_add]
      refine xaI_R hR (p := 21) (i := 9) (show 9 < 40 by decide) rfl (by decide) (show 0 ≤ 121 * u 6 l 0 + m ∧ 121 * u 6 l 0 + m < ((968 : Nat) : Int) by omega) ?_
      rw [show mva u 9 (121 * u 6 l 0 + m).toNat = u 4 (200 + (u 6 l 0).toNat) m by
        show u 4 (200 + (121 * u 6 l 0 + m).toNat / 121) ((121 * u 6 l 0 + m).toNat % 121) = _
        rw [show (121 * u 6 l 0 + m).toNat / 121 = (u 6 l 0).toNat by omega, show (121 * u 6 l 0 + m).toNat % 121 = m by omega], I_long h4]
      exact tail _ (by unfold mwg; rw [if_neg (by omega), if_neg (by decide)])
theorem mm_weighLoop {K : Int64 → xT → Prop} {m : Nat} {by1 : Int} (hm : m < 121) (hby : by1 = 0 ∨ by1 = 1) (hn12 : n ≤ 12) : ∀ (r i : Nat) (u : xS) (t : xT) (y : Int), i + r = n → RR ad q lo s u co t → u 1 1 2 = n → (∀ l, i ≤ l → l < n → okmw m u l) → (∀ t, RR ad q lo s (lp (mwS m by1) i r u) co t → K (J (y + (sumn (mwg m by1 u) n - sumn (mwg m by1 u) i))) t) → V_X8_weighs_5 K (r + 1) (ad 20 0) (I m) (I by1) (J y) (I i) t := by
  intro r
  induction r with
  | zero =>
    intro i u t y hi hR hn ho kk
    show VS_X8_weighs_5 (V_X8_weighs_5 K 0) K _ _ _ _ _ _
    unfold VS_X8_weighs_5
    refine xgI_R hR (p := 20) (i := 0) rfl rfl rfl ?_
    rw [hn]
    have e : i = n := by omega
    subst e
    have := kk t hR
    rw [Int.sub_self, Int.add_zero] at this
    exact xbt (by (try simp only [I_lit, J_lit, I_ofNat, I_neg, I_add, I_sub, I_mul, J_neg, J_add, J_sub, J_mul]); first | (rw [I_lt ⟨by omega, by omega⟩ ⟨by omega, by omega⟩]; omega) | (rw [I_le ⟨by omega, by omega⟩ ⟨by omega, by omega⟩]; omega) | (rw [I_eq ⟨by omega, by omega⟩ ⟨by omega, by omega⟩]; omega) | (rw [J_lt ⟨by omega, by omega⟩ ⟨by omega, by omega⟩]; omega) | (rw [J_le ⟨by omega, by omega⟩ ⟨by omega, by omega⟩]; omega) | (rw [J_eq ⟨by omega, by omega⟩ ⟨by omega, by omega⟩]; omega)) this
  | succ r ih =>
    intro i u t y hi hR hn ho kk
    show VS_X8_weighs_5 (V_X8_weighs_5 K (r + 1)) K _ _ _ _ _ _
    unfold VS_X8_weighs_5
    refine xgI_R hR (p := 20) (i := 0) rfl rfl rfl ?_
    rw [hn]
    refine xbf (by (try simp only [I_lit, J_lit, I_ofNat, I_neg, I_add, I_sub, I_mul, J_neg, J_add, J_sub, J_mul]); first | (rw [I_lt ⟨by omega, by omega⟩ ⟨by omega, by omega⟩]; omega) | (rw [I_le ⟨by omega, by omega⟩ ⟨by omega, by omega⟩]; omega) | (rw [I_eq ⟨by omega, by omega⟩ ⟨by omega, by omega⟩]; omega) | (rw [J_lt ⟨by omega, by omega⟩ ⟨by omega, by omega⟩]; omega) | (rw [J_le ⟨by omega, by omega⟩ ⟨by omega, by omega⟩]; omega) | (rw [J_eq ⟨by omega, by omega⟩ ⟨by omega, by omega⟩]; omega)) ?_
    have eg : mwg m by1 (mwS m by1 i u) = mwg m by1 u := funext fun l => mwg_o
    refine mm_weighOne (R5 := fun z t => V_X8_weighs_5 K (r + 1) (ad 20 0) (I m) (I by1) z (I (i : Int) + 1) t) hR hm (ho i (Nat.le_refl _) (by omega)) hby (fun t hR => ?_)
    show V_X8_weighs_5 K (r + 1) (ad 20 0) (I m) (I by1) (J (y + mwg m by1 u i)) (I (i : Int) + 1) t
    rw [show (I (i : Int) + 1 : Int32) = I ((i + 1 : Nat) : Int) from I_add _ 1]
    refine ih (i + 1) (mwS m by1 i u) t _ (by omega) hR (by unfold mwS; rw [su_r, if_neg (by omega)]; exact hn) (fun l g1 g2 => ?_) (fun t hR => ?_)
    · have := ho l (by omega) g2
      have e : ∀ p a k, ¬ (p = 21 ∧ a = 35) → mwS m by1 i u p a k = u p a k := fun p a k h => by
        unfold mwS
        rw [su_r, if_neg (fun h2 => h ⟨h2.1, h2.2.1⟩)]
      unfold okmw okml at this ⊢
      rw [e 6 l 0 (by omega), e 6 l 9 (by omega), e 21 22 l (by omega), e 5 _ 0 (by omega), e 4 _ m (by omega)]
      exact this
    · have := kk t hR
      rw [eg, show y + mwg m by1 u i + (sumn (mwg m by1 u) n - sumn (mwg m by1 u) (i + 1)) = y + (sumn (mwg m by1 u) n - sumn (mwg m by1 u) i) by
        show _ + (_ - (sumn (mwg m by1 u) i + mwg m by1 u i)) = _
        omega]
      exact this
theorem mm_weighs {K : Int64 → xT → Prop} {m : Nat} {by1 : Int} (hR : RR ad q lo s u co t) (hm : m < 121) (hby : by1 = 0 ∨ by1 = 1) (hn : u 1 1 2 = n) (hn12 : n ≤ 12) (ho : ∀ l, l < n → okmw m u l) (kk : ∀ t, RR ad q lo s (lp (mwS m by1) 0 n u) co t → K (J (sumn (mwg m by1 u) n)) t) : V_X8_weighs_0 K (ad 20 0) (I m) (I by1) t := ⟨n + 1, mm_weighLoop hm hby hn12 n 0 u t 0 (by omega) hR hn (fun l _ hl => ho l hl) (fun t hR => by
  have := kk t hR
  rw [show (0 : Int) + (sumn (mwg m by1 u) n - sumn (mwg m by1 u) 0) = sumn (mwg m by1 u) n by show (0 : Int) + (_ - 0) = _; omega]
  exact this)⟩
end MM5
