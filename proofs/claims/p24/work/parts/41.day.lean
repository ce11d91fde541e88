/-! ===== a day, days ===== -/
section CLS9
variable {ad : xAd} {q : xL} {lo : Nat → Nat → Prop} {s u : xS} {co : Nat → Nat → xE} {t : xT}
def clk (g : Int) : Int := if g = 0 then 2 else if g = 1 then 7 else 30
def ppd (g : Int) : Int := if g = 0 then 30 else if g = 1 then 10 else 5
def tkP (d : Int) (m r : Nat) (s : xS) : xS := if s 11 r 0 = 0 ∧ clk (s 11 r 3) < d - s 11 r 4 then su (su s 4 (300 + (s 11 r 2).toNat) m (s 4 (300 + (s 11 r 2).toNat) m + ppd (s 11 r 3))) 11 r 1 (s 11 r 1 + 1) else s
def okR (q : xL) (s : xS) (r : Nat) : Prop := r < q.2.2.1 ∧ (s 11 r 2).toNat < q.1 ∧ i32 (s 11 r 0) ∧ i32 (s 11 r 3) ∧ (0 ≤ s 11 r 4 ∧ s 11 r 4 ≤ 100000)
theorem sp_clock {K : Int32 → xT → Prop} {r : Nat} (hR : RR ad q lo s u co t) (hr : okR q s r) (kk : K (I (clk (s 11 r 3))) t) : V_X6_clock_0 K (ad 11 r) t := by
  obtain ⟨h1, h2, h3, h4, h5⟩ := hr
  unfold i32 at h4
  unfold V_X6_clock_0
  unfold clk at kk
  refine xgI_R hR (by simp only [clv, eq_self_iff_true, true_or, or_true, false_or, or_false, true_and, and_true, false_and, and_false] <;> omega) rfl rfl ?_
  by_cases c : s 11 r 3 = 0
  · rw [if_pos c] at kk
    exact xst (by rw [c]; rfl) kk
  · rw [if_neg c] at kk
    refine xsf (by (try simp only [I_lit, J_lit, I_ofNat, I_neg, I_add, I_sub, I_mul, J_neg, J_add, J_sub, J_mul]); first | (rw [I_lt ⟨by omega, by omega⟩ ⟨by omega, by omega⟩]; omega) | (rw [I_le ⟨by omega, by omega⟩ ⟨by omega, by omega⟩]; omega) | (rw [I_eq ⟨by omega, by omega⟩ ⟨by omega, by omega⟩]; omega) | (rw [J_lt ⟨by omega, by omega⟩ ⟨by omega, by omega⟩]; omega) | (rw [J_le ⟨by omega, by omega⟩ ⟨by omega, by omega⟩]; omega) | (rw [J_eq ⟨by omega, by omega⟩ ⟨by omega, by omega⟩]; omega)) ?_
    refine xgI_R hR (by simp only [clv, eq_self_iff_true, true_or, or_true, false_or, or_false, true_and, and_true, false_and, and_false] <;> omega) rfl rfl ?_
    by_cases c1 : s 11 r 3 = 1
    · rw [if_pos c1] at kk
      exact xst (by rw [c1]; rfl) kk
    · rw [if_neg c1] at kk
      exact xsf (by (try simp only [I_lit, J_lit, I_ofNat, I_neg, I_add, I_sub, I_mul, J_neg, J_add, J_sub, J_mul]); first | (rw [I_lt ⟨by omega, by omega⟩ ⟨by omega, by omega⟩]; omega) | (rw [I_le ⟨by omega, by omega⟩ ⟨by omega, by omega⟩]; omega) | (rw [I_eq ⟨by omega, by omega⟩ ⟨by omega, by omega⟩]; omega) | (rw [J_lt ⟨by omega, by omega⟩ ⟨by omega, by omega⟩]; omega) | (rw [J_le ⟨by omega, by omega⟩ ⟨by omega, by omega⟩]; omega) | (rw [J_eq ⟨by omega, by omega⟩ ⟨by omega, by omega⟩]; omega)) kk
theorem sp_ppd {K : Int32 → xT → Prop} {r : Nat} (hR : RR ad q lo s u co t) (hr : okR q s r) (kk : K (I (ppd (s 11 r 3))) t) : V_X6_pointsADay_0 K (ad 11 r) t := by
  obtain ⟨h1, h2, h3, h4, h5⟩ := hr
  unfold i32 at h4
  unfold V_X6_pointsADay_0
  unfold ppd at kk
  refine xgI_R hR (by simp only [clv, eq_self_iff_true, true_or, or_true, false_or, or_false, true_and, and_true, false_and, and_false] <;> omega) rfl rfl ?_
  by_cases c : s 11 r 3 = 0
  · rw [if_pos c] at kk
    exact xst (by rw [c]; rfl) kk
  · rw [if_neg c] at kk
    refine xsf (by (try simp only [I_lit, J_lit, I_ofNat, I_neg, I_add, I_sub, I_mul, J_neg, J_add, J_sub, J_mul]); first | (rw [I_lt ⟨by omega, by omega⟩ ⟨by omega, by omega⟩]; omega) | (rw [I_le ⟨by omega, by omega⟩ ⟨by omega, by omega⟩]; omega) | (rw [I_eq ⟨by omega, by omega⟩ ⟨by omega, by omega⟩]; omega) | (rw [J_lt ⟨by omega, by omega⟩ ⟨by omega, by omega⟩]; omega) | (rw [J_le ⟨by omega, by omega⟩ ⟨by omega, by omega⟩]; omega) | (rw [J_eq ⟨by omega, by omega⟩ ⟨by omega, by omega⟩]; omega)) ?_
    refine xgI_R hR (by simp only [clv, eq_self_iff_true, true_or, or_true, false_or, or_false, true_and, and_true, false_and, and_false] <;> omega) rfl rfl ?_
    by_cases c1 : s 11 r 3 = 1
    · rw [if_pos c1] at kk
      exact xst (by rw [c1]; rfl) kk
    · rw [if_neg c1] at kk
      exact xsf (by (try simp only [I_lit, J_lit, I_ofNat, I_neg, I_add, I_sub, I_mul, J_neg, J_add, J_sub, J_mul]); first | (rw [I_lt ⟨by omega, by omega⟩ ⟨by omega, by omega⟩]; omega) | (rw [I_le ⟨by omega, by omega⟩ ⟨by omega, by omega⟩]; omega) | (rw [I_eq ⟨by omega, by omega⟩ ⟨by omega, by omega⟩]; omega) | (rw [J_lt ⟨by omega, by omega⟩ ⟨by omega, by omega⟩]; omega) | (rw [J_le ⟨by omega, by omega⟩ ⟨by omega, by omega⟩]; omega) | (rw [J_eq ⟨by omega, by omega⟩ ⟨by omega, by omega⟩]; omega)) kk
theorem clk_rng (g : Int) : 0 ≤ clk g ∧ clk g ≤ 30 := by
  unfold clk
  split
  · decide
  · split <;> decide
theorem sp_takePoints {K : xT → Prop} {r m : Nat} {d : Int} (hR : RR ad q lo s u co t) (hr : okR q s r) (hm : m < 121) (hd : 0 ≤ d ∧ d ≤ 100000) (kk : ∀ t, RR ad q lo (tkP d m r s) u co t → K t) : V_X6_takePoints_0 K (ad 11 r) (I d) (I m) t := by
  obtain ⟨h1, h2, h3, h4, h5⟩ := id hr
  have hc := clk_rng (s 11 r 3)
  unfold i32 at h3
  unfold V_X6_takePoints_0
  unfold tkP at kk
  refine xgI_R hR (by simp only [clv, eq_self_iff_true, true_or, or_true, false_or, or_false, true_and, and_true, false_and, and_false] <;> omega) rfl rfl ?_
  by_cases c : s 11 r 0 = 0
  · refine xst (by rw [c]; rfl) ?_
    refine xgI_R hR (by simp only [clv, eq_self_iff_true, true_or, or_true, false_or, or_false, true_and, and_true, false_and, and_false] <;> omega) rfl rfl ?_
    refine ⟨xis_R hR (by simp only [clv, eq_self_iff_true, true_or, or_true, false_or, or_false, true_and, and_true, false_and, and_false] <;> omega) rfl, ?_⟩
    refine sp_clock hR hr ?_
    rw [I_sub]
    by_cases c2 : clk (s 11 r 3) < d - s 11 r 4
    · rw [if_pos ⟨c, c2⟩] at kk
      refine xbf (by (try simp only [I_lit, J_lit, I_ofNat, I_neg, I_add, I_sub, I_mul, J_neg, J_add, J_sub, J_mul]); first | (rw [I_lt ⟨by omega, by omega⟩ ⟨by omega, by omega⟩]; omega) | (rw [I_le ⟨by omega, by omega⟩ ⟨by omega, by omega⟩]; omega) | (rw [I_eq ⟨by omega, by omega⟩ ⟨by omega, by omega⟩]; omega) | (rw [J_lt ⟨by omega, by omega⟩ ⟨by omega, by omega⟩]; omega) | (rw [J_le ⟨by omega, by omega⟩ ⟨by omega, by omega⟩]; omega) | (rw [J_eq ⟨by omega, by omega⟩ ⟨by omega, by omega⟩]; omega)) ?_
      refine xgR_R hR (by simp only [clv, eq_self_iff_true, true_or, or_true, false_or, or_false, true_and, and_true, false_and, and_false] <;> omega) rfl rfl ?_
      refine xgR_R hR (by simp only [clv, eq_self_iff_true, true_or, or_true, false_or, or_false, true_and, and_true, false_and, and_false] <;> omega) rfl rfl ?_
      refine xgR_R hR (by simp only [clv, eq_self_iff_true, true_or, or_true, false_or, or_false, true_and, and_true, false_and, and_false] <;> omega) rfl rfl ?_
      refine xgR_R hR (by simp only [clv, eq_self_iff_true, true_or, or_true, false_or, or_false, true_and, and_true, false_and, and_false] <;> omega) rfl rfl ?_
      refine ⟨xis_R hR (by simp only [clv, eq_self_iff_true, true_or, or_true, false_or, or_false, true_and, and_true, false_and, and_false] <;> omega) rfl, ?_⟩
      refine sp_in hR (by simp only [clv, eq_self_iff_true, true_or, or_true, false_or, or_false, true_and, and_true, false_and, and_false] <;> omega) (by omega) ?_
      rw [show ((m : Int).toNat) = m by omega]
      refine ⟨xis_R hR (by simp only [clv, eq_self_iff_true, true_or, or_true, false_or, or_false, true_and, and_true, false_and, and_false] <;> omega) rfl, ?_⟩
      refine sp_ppd hR hr ?_
      refine ⟨xis_R hR (by simp only [clv, eq_self_iff_true, true_or, or_true, false_or, or_false, true_and, and_true, false_and, and_false] <;> omega) rfl, ?_⟩
      rw [I_add]
      refine sp_put hR (by simp only [clv, eq_self_iff_true, true_or, or_true, false_or, or_false, true_and, and_true, false_and, and_false] <;> omega) (by omega) (fun t hR => ?_)
      rw [show ((m : Int).toNat) = m by omega] at hR
      refine xgI_R hR (by simp only [clv, eq_self_iff_true, true_or, or_true, false_or, or_false, true_and, and_true, false_and, and_false] <;> omega) rfl rfl ?_
      simp (config := { decide := true }) only [su_r, su_f, sup_n, not_false_eq_true, eq_self_iff_true, true_or, or_true, false_or, or_false, true_and, and_true, false_and, and_false, if_true, if_false, ite_true, ite_false]
      rw [show (I (s 11 r 1) + (1 : Int32)) = I (s 11 r 1 + 1) from I_add _ 1]
      refine xpF_I hR (by simp only [clv, eq_self_iff_true, true_or, or_true, false_or, or_false, true_and, and_true, false_and, and_false] <;> omega) (by decide) rfl (Nat.le_of_ble_eq_true rfl) rfl (fun t hR => ?_)
      exact kk _ hR
    · rw [if_neg (fun h => c2 h.2)] at kk
      exact xbt (by (try simp only [I_lit, J_lit, I_ofNat, I_neg, I_add, I_sub, I_mul, J_neg, J_add, J_sub, J_mul]); first | (rw [I_lt ⟨by omega, by omega⟩ ⟨by omega, by omega⟩]; omega) | (rw [I_le ⟨by omega, by omega⟩ ⟨by omega, by omega⟩]; omega) | (rw [I_eq ⟨by omega, by omega⟩ ⟨by omega, by omega⟩]; omega) | (rw [J_lt ⟨by omega, by omega⟩ ⟨by omega, by omega⟩]; omega) | (rw [J_le ⟨by omega, by omega⟩ ⟨by omega, by omega⟩]; omega) | (rw [J_eq ⟨by omega, by omega⟩ ⟨by omega, by omega⟩]; omega)) (kk _ hR)
  · rw [if_neg (fun h => c h.1)] at kk
    exact xsf (by (try simp only [I_lit, J_lit, I_ofNat, I_neg, I_add, I_sub, I_mul, J_neg, J_add, J_sub, J_mul]); first | (rw [I_lt ⟨by omega, by omega⟩ ⟨by omega, by omega⟩]; omega) | (rw [I_le ⟨by omega, by omega⟩ ⟨by omega, by omega⟩]; omega) | (rw [I_eq ⟨by omega, by omega⟩ ⟨by omega, by omega⟩]; omega) | (rw [J_lt ⟨by omega, by omega⟩ ⟨by omega, by omega⟩]; omega) | (rw [J_le ⟨by omega, by omega⟩ ⟨by omega, by omega⟩]; omega) | (rw [J_eq ⟨by omega, by omega⟩ ⟨by omega, by omega⟩]; omega)) (kk _ hR)
theorem tkP_o {d : Int} {m r p i : Nat} {s : xS} (h4 : p ≠ 4 ∨ i < 300) (h11 : ¬ (p = 11 ∧ i = r)) : tkP d m r s p i = s p i := by
  unfold tkP
  split
  · rw [su_f _ h11, su_f _ (by omega)]
  · rfl
def eDay (nf n nr : Nat) (s : xS) : xS :=
  if (s 0 0 8 + 1) / 30 ≤ s 0 0 8 / 30 then su (lp (tkP (s 0 0 8) (s 0 0 8 / 30).toNat) 0 nr s) 0 0 8 (s 0 0 8 + 1)
  else bMon n ((s 0 0 8 / 30).toNat + 1) (eMon nf n (s 0 0 8 / 30).toNat (su (lp (tkP (s 0 0 8) (s 0 0 8 / 30).toNat) 0 nr s) 0 0 8 (s 0 0 8 + 1)))
/-- what a month's end wants -/
def okEnd (q : xL) (nf n m : Nat) (s : xS) : Prop := (∀ f, f < nf → okF q s f) ∧ okW q (lp (fndU m) 0 nf s) n m ∧ (∀ l, l < n → okE q (shHeat n m (lp (fndU m) 0 nf s)) l m) ∧ okM q s m ∧ (∀ l, l < n → okD q (eMon nf n m s) l) ∧ (0 ≤ eMon nf n m s 0 0 7 ∧ eMon nf n m s 0 0 7 ≤ 200) ∧ LI q (eMon nf n m s) 1 n
def okDay (q : xL) (nf n nr : Nat) (s : xS) : Prop := (0 ≤ s 0 0 8 ∧ s 0 0 8 < 3600) ∧ LI q s 0 nf ∧ LI q s 1 n ∧ LI q s 2 nr ∧ (∀ r, r < nr → okR q s r) ∧ (¬ (s 0 0 8 + 1) / 30 ≤ s 0 0 8 / 30 → okEnd q nf n (s 0 0 8 / 30).toNat (su (lp (tkP (s 0 0 8) (s 0 0 8 / 30).toNat) 0 nr s) 0 0 8 (s 0 0 8 + 1)))
theorem sp_dayLoop {K : xT → Prop} {nr m rc rs : Nat} {d : Int} (hn : nr ≤ q.2.2.1) (hm : m < 121) (hd : 0 ≤ d ∧ d ≤ 100000) : ∀ (r i : Nat) (s : xS) (t : xT), i + r = nr → RR ad q lo s u co t → s 0 0 8 = d → LI q s 2 nr → (∀ j, i ≤ j → j < nr → okR q s j) →
    (∀ t, RR ad q lo (su (lp (tkP d m) i r s) 0 0 8 (d + 1)) u co t → (xis t (ad 0 0) 7 ∧ V_X7_monthNow_0 (fun x_7 t_6 => ((x_7 ≤ I m → K t_6) ∧ (¬ x_7 ≤ I m → (xis t_6 (ad 0 0) 7 ∧ ∃ m_9 z_10 : Nat, m_9 ≤ rc ∧ z_10 ≤ rs ∧ V_X7_endMonth_0 (fun t_8 => (xis t_8 (ad 0 0) 7 ∧ V_X7_beginMonth_0 (fun t_11 => K t_11) (ad 0 0) (I m + (1 : Int32)) t_8)) (ad 0 0) (I m) t_6 m_9 z_10)))) (ad 0 0) t)) → V_X7_endDay_7 K (r + 1) (ad 0 0) (I m) (I i) t rc rs := by
  intro r
  induction r with
  | zero =>
    intro i s t hi hR he hL hO kk
    show VS_X7_endDay_7 _ _ _ _ _ _ _ _
    unfold VS_X7_endDay_7
    refine xlist2 hR hL hn (by omega) (fun e => ?_) (fun c => by omega)
    refine xgI_R hR (by simp only [clv, eq_self_iff_true, true_or, or_true, false_or, or_false, true_and, and_true, false_and, and_false] <;> omega) rfl rfl ?_
    rw [he, show (I d + (1 : Int32)) = I (d + 1) from I_add _ 1]
    refine xpF_I hR (by simp only [clv, eq_self_iff_true, true_or, or_true, false_or, or_false, true_and, and_true, false_and, and_false] <;> omega) (by decide) rfl (Nat.le_of_ble_eq_true rfl) rfl (fun t hR => ?_)
    exact kk _ hR
  | succ r ih =>
    intro i s t hi hR he hL hO kk
    show VS_X7_endDay_7 _ _ _ _ _ _ _ _
    unfold VS_X7_endDay_7
    refine xlist2 hR hL hn (by omega) (fun e => by omega) (fun c => ?_)
    have hr := hO i (Nat.le_refl _) c
    refine xgI_R hR (by simp only [clv, eq_self_iff_true, true_or, or_true, false_or, or_false, true_and, and_true, false_and, and_false] <;> omega) rfl rfl ?_
    refine ⟨xis_R hR (p := 11) hr.1 rfl, ?_⟩
    rw [he]
    refine sp_takePoints hR hr hm hd (fun t hR => ?_)
    rw [show (I (i : Int) + 1 : Int32) = I ((i + 1 : Nat) : Int) from I_add _ 1]
    refine ih (i + 1) _ t (by omega) hR (by rw [tkP_o (by omega) (by omega)]; exact he) (LI_of hL (tkP_o (by omega) (by omega)) (tkP_o (by omega) (by omega))) (fun j g1 g2 => ?_) kk
    have := hO j (by omega) g2
    unfold okR at this ⊢
    rw [tkP_o (p := 11) (by omega) (by omega)]
    exact this
theorem sp_endDay {K : xT → Prop} {nf n nr rc rs : Nat} {B : Nat → Prop} (hR : RR ad (qw q B) lo s u co t) (hB : HB (qw q B) s) (hnf : nf ≤ q.1) (hnf8 : nf ≤ 8) (hn : n ≤ q.2.1) (hn12 : q.2.1 ≤ 12) (hnr : nr ≤ q.2.2.1) (hO : okDay q nf n nr s) (h1 : n ≤ rc) (h2 : 4 * n ≤ rs)
    (kk : ∀ ad' B' t', AE2 ad ad' → RR ad' (qw q B') lo (eDay nf n nr s) u co t' → HB (qw q B') (eDay nf n nr s) → K t') : V_X7_endDay_0 K (ad 0 0) t rc rs := by
  obtain ⟨hd, hL0, hL1, hL2, hr, hEnd⟩ := hO
  unfold V_X7_endDay_0
  refine ⟨xis_R hR (by simp only [clv, eq_self_iff_true, true_or, or_true, false_or, or_false, true_and, and_true, false_and, and_false] <;> omega) rfl, ?_⟩
  refine sp_now hR (by omega) ⟨nr + 1, ?_⟩
  have em : (s 0 0 8 / 30) = ((s 0 0 8 / 30).toNat : Int) := by omega
  unfold eDay at kk
  generalize hmm : (s 0 0 8 / 30).toNat = m at kk hEnd em
  have hm : m < 120 := by omega
  rw [em]
  have o1 : ∀ p i, p ≠ 4 → p ≠ 11 → p ≠ 0 → su (lp (tkP (s 0 0 8) m) 0 nr s) 0 0 8 (s 0 0 8 + 1) p i = s p i := fun p i a b c => by rw [su_f _ (by omega), lp_o (fun j s => tkP_o (by omega) (by omega))]
  refine sp_dayLoop (q := qw q B) hnr (by omega) (by omega) nr 0 s t (by omega) hR rfl hL2 (fun j _ hj => hr j hj) (fun t hR => ?_)
  refine ⟨xis_R hR (by simp only [clv, eq_self_iff_true, true_or, or_true, false_or, or_false, true_and, and_true, false_and, and_false] <;> omega) rfl, ?_⟩
  refine sp_now hR (by simp (config := { decide := true }) only [su_r, su_f, sup_n, not_false_eq_true, eq_self_iff_true, true_or, or_true, false_or, or_false, true_and, and_true, false_and, and_false, if_true, if_false, ite_true, ite_false]; omega) ?_
  simp (config := { decide := true }) only [su_r, su_f, sup_n, not_false_eq_true, eq_self_iff_true, true_or, or_true, false_or, or_false, true_and, and_true, false_and, and_false, if_true, if_false, ite_true, ite_false]
  by_cases c : (s 0 0 8 + 1) / 30 ≤ s 0 0 8 / 30
  · rw [if_pos c] at kk
    refine xbt (by (try simp only [I_lit, J_lit, I_ofNat, I_neg, I_add, I_sub, I_mul, J_neg, J_add, J_sub, J_mul]); first | (rw [I_lt ⟨by omega, by omega⟩ ⟨by omega, by omega⟩]; omega) | (rw [I_le ⟨by omega, by omega⟩ ⟨by omega, by omega⟩]; omega) | (rw [I_eq ⟨by omega, by omega⟩ ⟨by omega, by omega⟩]; omega) | (rw [J_lt ⟨by omega, by omega⟩ ⟨by omega, by omega⟩]; omega) | (rw [J_le ⟨by omega, by omega⟩ ⟨by omega, by omega⟩]; omega) | (rw [J_eq ⟨by omega, by omega⟩ ⟨by omega, by omega⟩]; omega)) (kk _ B _ AE2.rf hR (fun l' m' hl' hm' => ?_))
    rw [o1 9 l' (by decide) (by decide) (by decide)]
    exact hB l' m' hl' hm'
  · rw [if_neg c] at kk
    refine xbf (by (try simp only [I_lit, J_lit, I_ofNat, I_neg, I_add, I_sub, I_mul, J_neg, J_add, J_sub, J_mul]); first | (rw [I_lt ⟨by omega, by omega⟩ ⟨by omega, by omega⟩]; omega) | (rw [I_le ⟨by omega, by omega⟩ ⟨by omega, by omega⟩]; omega) | (rw [I_eq ⟨by omega, by omega⟩ ⟨by omega, by omega⟩]; omega) | (rw [J_lt ⟨by omega, by omega⟩ ⟨by omega, by omega⟩]; omega) | (rw [J_le ⟨by omega, by omega⟩ ⟨by omega, by omega⟩]; omega) | (rw [J_eq ⟨by omega, by omega⟩ ⟨by omega, by omega⟩]; omega)) ?_
    refine ⟨xis_R hR (by simp only [clv, eq_self_iff_true, true_or, or_true, false_or, or_false, true_and, and_true, false_and, and_false] <;> omega) rfl, ?_⟩
    refine ⟨n, 4 * n, h1, h2, ?_⟩
    obtain ⟨e1, e2, e3, e4, e5, e6, e7⟩ := hEnd c
    refine sp_endMonth hR (fun l' m' hl' hm' => by rw [o1 9 l' (by decide) (by decide) (by decide)]; exact hB l' m' hl' hm') (LI_of hL0 (o1 _ _ (by decide) (by decide) (by decide)) (o1 _ _ (by decide) (by decide) (by decide))) (LI_of hL1 (o1 _ _ (by decide) (by decide) (by decide)) (o1 _ _ (by decide) (by decide) (by decide))) hnf hnf8 hn hn12 (by omega) e1 e2 e3 e4 (Nat.le_refl _) (Nat.le_refl _) (fun ad' B' t' hA hR hB => ?_)
    rw [← hA.1]
    refine ⟨xis_R hR (by simp only [clv, eq_self_iff_true, true_or, or_true, false_or, or_false, true_and, and_true, false_and, and_false] <;> omega) rfl, ?_⟩
    rw [show (I (m : Int) + (1 : Int32)) = I ((m + 1 : Nat) : Int) from I_add _ 1]
    refine sp_beginMonth hR e7 hn (by omega) e5 e6 (fun t hR => kk _ _ _ hA hR ?_)
    intro l' m' hl' hm'
    have : bMon n (m + 1) (eMon nf n m (su (lp (tkP (s 0 0 8) m) 0 nr s) 0 0 8 (s 0 0 8 + 1))) 9 l' = eMon nf n m (su (lp (tkP (s 0 0 8) m) 0 nr s) 0 0 8 (s 0 0 8 + 1)) 9 l' := by
      unfold bMon
      rw [lp_o (p := 9) (fun j s => bgM_o (by decide) (by omega)), su_f _ (by omega)]
    rw [this]
    exact hB l' m' hl' hm'
def pss (nf n nr k : Nat) (s : xS) : xS := itn (eDay nf n nr) k s
theorem sp_passLoop {KX : String → xT → Prop} {K : Int32 → xT → Prop} {a0 nf n nr k : Nat} (hnf : nf ≤ q.1) (hnf8 : nf ≤ 8) (hn : n ≤ q.2.1) (hn12 : q.2.1 ≤ 12) (hnr : nr ≤ q.2.2.1) (hk : k ≤ 60) : ∀ (r i : Nat) (s : xS) (t : xT) (ad : xAd) (B : Nat → Prop) (rc rs : Nat), i + r = k → RR ad (qw q B) lo s u co t → ad 0 0 = a0 → HB (qw q B) s → (∀ j, j < r → okDay q nf n nr (itn (eDay nf n nr) j s)) → r * n ≤ rc → 4 * (r * n) ≤ rs → (∀ ad' B' t', AE2 ad ad' → RR ad' (qw q B') lo (itn (eDay nf n nr) r s) u co t' → HB (qw q B') (itn (eDay nf n nr) r s) → K (I (itn (eDay nf n nr) r s 0 0 8)) t') → V_X7_pass_45 KX K (r + 1) a0 (I k) (I i) t rc rs := by
  intro r
  induction r with
  | zero =>
    intro i s t ad B rc rs hi hR h0 hB hO h1 h2 kk
    subst h0
    show VS_X7_pass_45 _ KX _ _ _ _ _ _ _
    unfold VS_X7_pass_45
    refine xbt (by (try simp only [I_lit, J_lit, I_ofNat, I_neg, I_add, I_sub, I_mul, J_neg, J_add, J_sub, J_mul]); first | (rw [I_lt ⟨by omega, by omega⟩ ⟨by omega, by omega⟩]; omega) | (rw [I_le ⟨by omega, by omega⟩ ⟨by omega, by omega⟩]; omega) | (rw [I_eq ⟨by omega, by omega⟩ ⟨by omega, by omega⟩]; omega) | (rw [J_lt ⟨by omega, by omega⟩ ⟨by omega, by omega⟩]; omega) | (rw [J_le ⟨by omega, by omega⟩ ⟨by omega, by omega⟩]; omega) | (rw [J_eq ⟨by omega, by omega⟩ ⟨by omega, by omega⟩]; omega)) ?_
    refine xgI_R hR (by simp only [clv, eq_self_iff_true, true_or, or_true, false_or, or_false, true_and, and_true, false_and, and_false] <;> omega) rfl rfl ?_
    exact kk _ _ _ AE2.rf hR hB
  | succ r ih =>
    intro i s t ad B rc rs hi hR h0 hB hO h1 h2 kk
    subst h0
    show VS_X7_pass_45 _ KX _ _ _ _ _ _ _
    unfold VS_X7_pass_45
    refine xbf (by (try simp only [I_lit, J_lit, I_ofNat, I_neg, I_add, I_sub, I_mul, J_neg, J_add, J_sub, J_mul]); first | (rw [I_lt ⟨by omega, by omega⟩ ⟨by omega, by omega⟩]; omega) | (rw [I_le ⟨by omega, by omega⟩ ⟨by omega, by omega⟩]; omega) | (rw [I_eq ⟨by omega, by omega⟩ ⟨by omega, by omega⟩]; omega) | (rw [J_lt ⟨by omega, by omega⟩ ⟨by omega, by omega⟩]; omega) | (rw [J_le ⟨by omega, by omega⟩ ⟨by omega, by omega⟩]; omega) | (rw [J_eq ⟨by omega, by omega⟩ ⟨by omega, by omega⟩]; omega)) ?_
    refine ⟨xis_R hR (by simp only [clv, eq_self_iff_true, true_or, or_true, false_or, or_false, true_and, and_true, false_and, and_false] <;> omega) rfl, ?_⟩
    have hmul : (r + 1) * n = r * n + n := Nat.succ_mul r n
    refine ⟨n, 4 * n, by omega, by omega, ?_⟩
    refine sp_endDay hR hB hnf hnf8 hn hn12 hnr (hO 0 (by omega)) (Nat.le_refl _) (Nat.le_refl _) (fun ad' B' t' hA hR hB => ?_)
    rw [show (I (i : Int) + 1 : Int32) = I ((i + 1 : Nat) : Int) from I_add _ 1]
    exact ih (i + 1) _ t' ad' B' (rc - n) (rs - 4 * n) (by omega) hR hA.1 hB (fun j hj => hO (j + 1) (by omega)) (by omega) (by omega) (fun ad2 B2 t2 hA2 => kk ad2 B2 t2 (AE2.tr hA hA2))
end CLS9
