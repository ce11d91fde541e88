/-! ===== the end of a month, the beginning, a day, days ===== -/
section CLS8
variable {ad : xAd} {q : xL} {lo : Nat → Nat → Prop} {s u : xS} {co : Nat → Nat → xE} {t : xT}
def emB (m l : Nat) (s : xS) : xS := if runb s l m = 0 then planM l s else mkBill m l (planM l s)
theorem planM_o {l p i : Nat} {s : xS} (h : ¬ (p = 7 ∧ i = l)) : planM l s p i = s p i := by
  unfold planM
  split
  · split
    · split
      · rw [su_f _ h, su_f _ h]
      · rw [su_f _ h]
    · rw [su_f _ h, su_f _ h]
  · rfl
theorem mkBill_o {m l p i : Nat} {s : xS} (h0 : p ≠ 0) (h10 : p ≠ 10) (h6 : ¬ (p = 6 ∧ i = l)) (h9 : ¬ (p = 9 ∧ i = l)) : mkBill m l s p i = s p i := by
  unfold mkBill toDsk toTen putB settle
  have a0 : ∀ j, ¬ (p = 0 ∧ i = j) := fun j h => h0 h.1
  have a10 : ∀ j, ¬ (p = 10 ∧ i = j) := fun j h => h10 h.1
  rw [su_f _ (a0 _), su_f _ h6, su_f _ (a0 _), su_f _ h6, su_f _ h9, su_f _ (a10 _), su_f _ (a10 _), su_f _ (a10 _), su_f _ (a10 _), sup_n _ _ (a10 _)]
theorem emB_o {m l p i : Nat} {s : xS} (h0 : p ≠ 0) (h10 : p ≠ 10) (h6 : ¬ (p = 6 ∧ i = l)) (h7 : ¬ (p = 7 ∧ i = l)) (h9 : ¬ (p = 9 ∧ i = l)) : emB m l s p i = s p i := by
  unfold emB
  split
  · exact planM_o h7
  · rw [mkBill_o h0 h10 h6 h9, planM_o h7]
def okE (q : xL) (s : xS) (l m : Nat) : Prop := okL q s l ∧ okP s l ∧ (0 ≤ s 8 l 0 ∧ s 8 l 0 ≤ 100000000) ∧ s 9 l m = 0
theorem okM_of {s s' : xS} {m : Nat} (h : okM q s m) (h4 : s' 4 = s 4) : okM q s' m := by
  unfold okM at h ⊢
  rw [h4]
  exact h
theorem sp_emLoop {K : xT → Prop} {a0 n m : Nat} (hn : n ≤ q.2.1) (hn12 : q.2.1 ≤ 12) (hm : m < 121) : ∀ (r i : Nat) (s : xS) (t : xT) (ad : xAd) (B : Nat → Prop) (rc rs : Nat), i + r = n → RR ad (qw q B) lo s u co t → ad 0 0 = a0 → HB (qw q B) s → LI q s 1 n → (∀ l, i ≤ l → l < n → okE q s l m) → okM q s m → r ≤ rc → 4 * r ≤ rs → (∀ ad' B' t', AE2 ad ad' → RR ad' (qw q B') lo (lp (emB m) i r s) u co t' → HB (qw q B') (lp (emB m) i r s) → K t') → V_X7_endMonth_41 K (r + 1) a0 (I m) (I i) t rc rs := by
  intro r
  induction r with
  | zero =>
    intro i s t ad B rc rs hi hR h0 hB hL hE hM h1 h2 kk
    subst h0
    show VS_X7_endMonth_41 _ _ _ _ _ _ _ _
    unfold VS_X7_endMonth_41
    exact xlist1 hR hL hn (by omega) (fun e => kk _ _ _ AE2.rf hR hB) (fun c => by omega)
  | succ r ih =>
    intro i s t ad B rc rs hi hR h0 hB hL hE hM h1 h2 kk
    subst h0
    show VS_X7_endMonth_41 _ _ _ _ _ _ _ _
    unfold VS_X7_endMonth_41
    refine xlist1 hR hL hn (by omega) (fun e => by omega) (fun c => ?_)
    obtain ⟨hl, hP, hh, h9⟩ := hE i (Nat.le_refl _) c
    have hl1 : i < (qw q B).2.1 := hl.1
    refine xgR_R hR (by simp only [clv, eq_self_iff_true, true_or, or_true, false_or, or_false, true_and, and_true, false_and, and_false] <;> omega) rfl rfl ?_
    refine xgJ_R hR (by simp only [clv, eq_self_iff_true, true_or, or_true, false_or, or_false, true_and, and_true, false_and, and_false] <;> omega) rfl rfl ?_
    refine ⟨xis_R hR (by simp only [clv, eq_self_iff_true, true_or, or_true, false_or, or_false, true_and, and_true, false_and, and_false] <;> omega) rfl, ?_⟩
    refine sp_planM hR hl1 hP (fun t hR => ?_)
    refine ⟨xis_R hR (by simp only [clv, eq_self_iff_true, true_or, or_true, false_or, or_false, true_and, and_true, false_and, and_false] <;> omega) rfl, ?_⟩
    have hlp : okL q (planM i s) i := okL_of hl (planM_o (by omega)) (planM_o (by omega))
    have ew : s 6 i = planM i s 6 i := (planM_o (by omega)).symm
    refine sp_runsIn hR hl1 ?_ ?_ ⟨by omega, by omega⟩ ?_
    · rw [← ew]
      exact ⟨by have := hl.2.2.2.1; omega, by have := hl.2.2.2.1; omega⟩
    · rw [← ew]
      exact ⟨by have := hl.2.2.2.2.1; omega, by have := hl.2.2.2.2.1; omega⟩
    have er : runb (planM i s) i m = runb s i m := by
      unfold runb
      rw [ew]
    rw [er, show (I (i : Int) + 1 : Int32) = I ((i + 1 : Nat) : Int) from I_add _ 1]
    have kk2 : ∀ ad' B' t', AE2 ad ad' → RR ad' (qw q B') lo (lp (emB m) (i + 1) r (emB m i s)) u co t' → HB (qw q B') (lp (emB m) (i + 1) r (emB m i s)) → K t' := kk
    have hE2 : ∀ l, i + 1 ≤ l → l < n → okE q (emB m i s) l m := fun l g1 g2 => by
      obtain ⟨a1, a2, a3, a4⟩ := hE l (by omega) g2
      refine ⟨okL_of a1 (emB_o (by decide) (by decide) (by omega) (by omega) (by omega)) (emB_o (by decide) (by decide) (by omega) (by omega) (by omega)), ?_, ?_, ?_⟩
      · unfold okP at a2 ⊢
        rw [emB_o (p := 7) (by decide) (by decide) (by omega) (by omega) (by omega), emB_o (p := 6) (by decide) (by decide) (by omega) (by omega) (by omega)]
        exact a2
      · rw [emB_o (p := 8) (by decide) (by decide) (by omega) (by omega) (by omega)]
        exact a3
      · rw [emB_o (p := 9) (by decide) (by decide) (by omega) (by omega) (by omega)]
        exact a4
    have hL2 : LI q (emB m i s) 1 n := LI_of hL (emB_o (by decide) (by decide) (by omega) (by omega) (by omega)) (emB_o (by decide) (by decide) (by omega) (by omega) (by omega))
    have hM2 : okM q (emB m i s) m := okM_of hM (funext fun j => emB_o (by decide) (by decide) (by omega) (by omega) (by omega))
    rcases runb_01 s i m with hr | hr
    · rw [hr]
      have ee : emB m i s = planM i s := by unfold emB; rw [if_pos hr]
      rw [ee] at kk2 hE2 hL2 hM2
      refine xbt rfl ?_
      refine ih (i + 1) _ t ad B rc rs (by omega) hR rfl (fun l' m' hl' hm' => ?_) hL2 hE2 hM2 (by omega) (by omega) kk2
      rw [planM_o (by omega)]
      exact hB l' m' hl' hm'
    · rw [hr]
      have ee : emB m i s = mkBill m i (planM i s) := by unfold emB; rw [if_neg (by omega)]
      rw [ee] at kk2 hE2 hL2 hM2
      refine xbf (by decide) ?_
      refine ⟨xis_R hR (by simp only [clv, eq_self_iff_true, true_or, or_true, false_or, or_false, true_and, and_true, false_and, and_false] <;> omega) rfl, ?_⟩
      refine ⟨1, 4, by omega, by omega, ?_⟩
      refine sp_mkBill hR (fun l' m' hl' hm' => by rw [planM_o (by omega)]; exact hB l' m' hl' hm') hlp hm (okM_of hM (funext fun j => planM_o (by omega))) (by rw [planM_o (by omega)]; exact hh) hn12 (by rw [planM_o (by omega)]; exact h9) (Nat.le_refl _) (Nat.le_refl _) (fun ad' B' t' hA hR hB => ?_)
      exact ih (i + 1) _ t' ad' B' (rc - 1) (rs - 4) (by omega) hR hA.1 hB hL2 hE2 hM2 (by omega) (by omega) (fun ad2 B2 t2 hA2 => kk2 ad2 B2 t2 (AE2.tr hA hA2))
def eMon (nf n m : Nat) (s : xS) : xS := lp (emB m) 0 n (shHeat n m (lp (fndU m) 0 nf s))
theorem fndU_o {m f p i : Nat} {s : xS} (h4 : ¬ (p = 4 ∧ i = 200 + f)) (h5 : ¬ (p = 5 ∧ i = f)) : fndU m f s p i = s p i := by
  unfold fndU
  rw [su_f _ h5, su_f _ h4]
theorem okF_of {s s' : xS} {f : Nat} (h : okF q s f) (h4 : s' 4 (200 + f) = s 4 (200 + f)) (h5 : s' 5 f = s 5 f) : okF q s' f := by
  unfold okF okU at h ⊢
  rw [h4, h5]
  exact h
theorem sp_fuLoop {K : xT → Prop} {nf m rc rs : Nat} (hn : nf ≤ q.1) (hm : m < 121) : ∀ (r i : Nat) (s : xS) (t : xT), i + r = nf → RR ad q lo s u co t → LI q s 0 nf → (∀ f, i ≤ f → f < nf → okF q s f) → (∀ t, RR ad q lo (lp (fndU m) i r s) u co t → (xis t (ad 0 0) 7 ∧ V_X7_shareHeat_0 (fun t_4 => ∃ f_5 : Nat, V_X7_endMonth_41 K f_5 (ad 0 0) (I m) (0 : Int32) t_4 rc rs) (ad 0 0) (I m) t)) → V_X7_endMonth_2 K (r + 1) (ad 0 0) (I m) (I i) t rc rs := by
  intro r
  induction r with
  | zero =>
    intro i s t hi hR hL hF kk
    show VS_X7_endMonth_2 _ _ _ _ _ _ _ _
    unfold VS_X7_endMonth_2
    exact xlist0 hR hL hn (by omega) (fun e => kk _ hR) (fun c => by omega)
  | succ r ih =>
    intro i s t hi hR hL hF kk
    show VS_X7_endMonth_2 _ _ _ _ _ _ _ _
    unfold VS_X7_endMonth_2
    refine xlist0 hR hL hn (by omega) (fun e => by omega) (fun c => ?_)
    have hf := hF i (Nat.le_refl _) c
    refine ⟨xis_R hR (p := 5) hf.1 rfl, ?_⟩
    refine sp_findUse hR hf hm (fun t hR => ?_)
    rw [show (I (i : Int) + 1 : Int32) = I ((i + 1 : Nat) : Int) from I_add _ 1]
    refine ih (i + 1) _ t (by omega) hR (LI_of hL (fndU_o (by omega) (by omega)) (fndU_o (by omega) (by omega))) (fun f g1 g2 => okF_of (hF f (by omega) g2) (fndU_o (by omega) (by omega)) (fndU_o (by omega) (by omega))) kk
theorem lp_o {f : Nat → xS → xS} {p i : Nat} (hf : ∀ j s, f j s p i = s p i) : ∀ (k j : Nat) (s : xS), lp f j k s p i = s p i := by
  intro k
  induction k with
  | zero => exact fun _ _ => rfl
  | succ k ih => exact fun j s => (ih (j + 1) (f j s)).trans (hf j s)
theorem lp_ob {f : Nat → xS → xS} {p i b : Nat} (hf : ∀ j s, j < b → f j s p i = s p i) : ∀ (k j : Nat) (s : xS), j + k ≤ b → lp f j k s p i = s p i := by
  intro k
  induction k with
  | zero => exact fun _ _ _ => rfl
  | succ k ih => exact fun j s h => (ih (j + 1) (f j s) (by omega)).trans (hf j s (by omega))
theorem sp_endMonth {K : xT → Prop} {nf n m rc rs : Nat} {B : Nat → Prop} (hR : RR ad (qw q B) lo s u co t) (hB : HB (qw q B) s) (hLf : LI q s 0 nf) (hL : LI q s 1 n) (hnf : nf ≤ q.1) (hnf8 : nf ≤ 8) (hn : n ≤ q.2.1) (hn12 : q.2.1 ≤ 12) (hm : m < 121) (hF : ∀ f, f < nf → okF q s f)
    (hW : okW q (lp (fndU m) 0 nf s) n m) (hE : ∀ l, l < n → okE q (shHeat n m (lp (fndU m) 0 nf s)) l m) (hM : okM q s m) (h1 : n ≤ rc) (h2 : 4 * n ≤ rs)
    (kk : ∀ ad' B' t', AE2 ad ad' → RR ad' (qw q B') lo (eMon nf n m s) u co t' → HB (qw q B') (eMon nf n m s) → K t') : V_X7_endMonth_0 K (ad 0 0) (I m) t rc rs := by
  refine ⟨nf + 1, ?_⟩
  refine sp_fuLoop (q := qw q B) hnf hm nf 0 s t (by omega) hR hLf (fun f _ hf => hF f hf) (fun t hR => ?_)
  refine ⟨xis_R hR (by simp only [clv, eq_self_iff_true, true_or, or_true, false_or, or_false, true_and, and_true, false_and, and_false] <;> omega) rfl, ?_⟩
  have e1 : ∀ i, lp (fndU m) 0 nf s 1 i = s 1 i := fun i => lp_o (fun j s => fndU_o (by omega) (by omega)) _ _ _
  have e2 : ∀ i, lp (fndU m) 0 nf s 2 i = s 2 i := fun i => lp_o (fun j s => fndU_o (by omega) (by omega)) _ _ _
  have e9 : ∀ i, lp (fndU m) 0 nf s 9 i = s 9 i := fun i => lp_o (fun j s => fndU_o (by omega) (by omega)) _ _ _
  have hL1 : LI q (lp (fndU m) 0 nf s) 1 n := LI_of hL (e1 _) (e2 _)
  refine sp_shHeat hR hL1 hn (by omega) hm hW (fun t hR => ⟨n + 1, ?_⟩)
  refine sp_emLoop hn hn12 hm n 0 _ t ad B rc rs (by omega) hR rfl (fun l' m' hl' hm' => ?_) (E8.shHeat.LI hL1) (fun l _ hl => hE l hl) ?_ h1 h2 kk
  · rw [E8.shHeat 9 _ (by decide), e9]
    exact hB l' m' hl' hm'
  · unfold okM at hM ⊢
    rw [E8.shHeat 4 0 (by decide), lp_o (p := 4) (i := 0) (fun j s => fndU_o (by omega) (by omega)) _ _ _]
    refine ⟨hM.1, fun f hf => ?_⟩
    rw [E8.shHeat 4 (300 + f) (by decide), lp_ob (p := 4) (i := 300 + f) (b := 8) (fun j s hj => fndU_o (by omega) (by omega)) _ _ _ (by omega)]
    exact hM.2 f hf
def payDue (m l : Nat) (s : xS) : Int := ben (s 6 l 8 * s 4 0 m / 100) (incn (s 4 (400 + l)) (m + 1)) + s 6 l 6
def payAh (m l : Nat) (s : xS) : xS := if payDue m l s ≤ 0 then s else toDsk l (-payDue m l s) s
def bgM (m l : Nat) (s : xS) : xS := if runb s l m = 0 then s else payAh m l s
def bMon (n m : Nat) (s : xS) : xS := lp (bgM m) 0 n (su s 4 0 m (s 0 0 7))
theorem toDsk_o {l p i : Nat} {z : Int} {s : xS} (h0 : p ≠ 0) (h6 : ¬ (p = 6 ∧ i = l)) : toDsk l z s p i = s p i := by
  unfold toDsk
  rw [su_f _ (fun h => h0 h.1), su_f _ h6]
theorem bgM_o {m l p i : Nat} {s : xS} (h0 : p ≠ 0) (h6 : ¬ (p = 6 ∧ i = l)) : bgM m l s p i = s p i := by
  unfold bgM payAh
  split
  · rfl
  · split
    · rfl
    · exact toDsk_o h0 h6
def okD (q : xL) (s : xS) (l : Nat) : Prop := okL q s l ∧ -1000000000000 ≤ s 6 l 6 ∧ s 6 l 6 ≤ 1000000000000
theorem sp_payAhead {K : xT → Prop} {l m : Nat} (hR : RR ad q lo s u co t) (hl : okD q s l) (hm : m < 121) (hx : 0 ≤ s 4 0 m ∧ s 4 0 m ≤ 200) (kk : ∀ t, RR ad q lo (payAh m l s) u co t → K t) : V_X7_payAhead_0 K (ad 0 0) (ad 6 l) (I m) t := by
  obtain ⟨⟨h1, h2, h3, h4, h5, h6⟩, hd0, hd1⟩ := hl
  have hr := incn_rng (g := s 4 (400 + l)) (n := m + 1) (fun k hk => h6 k (by omega))
  have h0 : 0 ≤ s 6 l 8 * s 4 0 m := Int.mul_nonneg h3.1 hx.1
  have h9 : s 6 l 8 * s 4 0 m ≤ 500000 * 200 := Int.mul_le_mul h3.2 hx.2 hx.1 (by decide)
  have hben := ben_rng (r := s 6 l 8 * s 4 0 m / 100) (i := incn (s 4 (400 + l)) (m + 1)) (by omega)
  have em : ((m : Int).toNat) = m := by omega
  unfold V_X7_payAhead_0
  unfold payAh payDue at kk
  refine xgR_R hR (by simp only [clv, eq_self_iff_true, true_or, or_true, false_or, or_false, true_and, and_true, false_and, and_false] <;> omega) rfl rfl ?_
  refine ⟨xis_R hR (by simp only [clv, eq_self_iff_true, true_or, or_true, false_or, or_false, true_and, and_true, false_and, and_false] <;> omega) rfl, ?_⟩
  refine sp_in hR (by simp only [clv, eq_self_iff_true, true_or, or_true, false_or, or_false, true_and, and_true, false_and, and_false] <;> omega) (by omega) ?_
  rw [em]
  refine ⟨xis_R hR (by simp only [clv, eq_self_iff_true, true_or, or_true, false_or, or_false, true_and, and_true, false_and, and_false] <;> omega) rfl, ?_⟩
  refine sp_rentAt hR h1 (by omega) ?_
  refine ⟨xis_R hR (by simp only [clv, eq_self_iff_true, true_or, or_true, false_or, or_false, true_and, and_true, false_and, and_false] <;> omega) rfl, ?_⟩
  refine sp_incomeIn hR h1 (fun k hk => by have := h6 k hk; exact ⟨by omega, by omega⟩) (by omega) ?_
  rw [em]
  refine sp_benefit (by omega) (by omega) ?_
  refine xgJ_R hR (by simp only [clv, eq_self_iff_true, true_or, or_true, false_or, or_false, true_and, and_true, false_and, and_false] <;> omega) rfl rfl ?_
  have hbr : i32 (ben (s 6 l 8 * s 4 0 m / 100) (incn (s 4 (400 + l)) (m + 1))) := ⟨by omega, by omega⟩
  rw [I_long hbr, J_add, J_neg]
  by_cases c : ben (s 6 l 8 * s 4 0 m / 100) (incn (s 4 (400 + l)) (m + 1)) + s 6 l 6 ≤ 0
  · rw [if_pos c] at kk
    exact xbt (by (try simp only [I_lit, J_lit, I_ofNat, I_neg, I_add, I_sub, I_mul, J_neg, J_add, J_sub, J_mul]); first | (rw [I_lt ⟨by omega, by omega⟩ ⟨by omega, by omega⟩]; omega) | (rw [I_le ⟨by omega, by omega⟩ ⟨by omega, by omega⟩]; omega) | (rw [I_eq ⟨by omega, by omega⟩ ⟨by omega, by omega⟩]; omega) | (rw [J_lt ⟨by omega, by omega⟩ ⟨by omega, by omega⟩]; omega) | (rw [J_le ⟨by omega, by omega⟩ ⟨by omega, by omega⟩]; omega) | (rw [J_eq ⟨by omega, by omega⟩ ⟨by omega, by omega⟩]; omega)) (kk _ hR)
  · rw [if_neg c] at kk
    refine xbf (by (try simp only [I_lit, J_lit, I_ofNat, I_neg, I_add, I_sub, I_mul, J_neg, J_add, J_sub, J_mul]); first | (rw [I_lt ⟨by omega, by omega⟩ ⟨by omega, by omega⟩]; omega) | (rw [I_le ⟨by omega, by omega⟩ ⟨by omega, by omega⟩]; omega) | (rw [I_eq ⟨by omega, by omega⟩ ⟨by omega, by omega⟩]; omega) | (rw [J_lt ⟨by omega, by omega⟩ ⟨by omega, by omega⟩]; omega) | (rw [J_le ⟨by omega, by omega⟩ ⟨by omega, by omega⟩]; omega) | (rw [J_eq ⟨by omega, by omega⟩ ⟨by omega, by omega⟩]; omega)) ?_
    refine ⟨xis_R hR (by simp only [clv, eq_self_iff_true, true_or, or_true, false_or, or_false, true_and, and_true, false_and, and_false] <;> omega) rfl, ?_⟩
    exact sp_toDesk hR h1 (fun t hR => kk _ hR)
theorem sp_bgLoop {K : xT → Prop} {n m : Nat} (hn : n ≤ q.2.1) (hm : m < 121) : ∀ (r i : Nat) (s : xS) (t : xT), i + r = n → RR ad q lo s u co t → LI q s 1 n → (∀ l, i ≤ l → l < n → okD q s l) → (0 ≤ s 4 0 m ∧ s 4 0 m ≤ 200) → (∀ t, RR ad q lo (lp (bgM m) i r s) u co t → K t) → V_X7_beginMonth_14 K (r + 1) (ad 0 0) (I m) (I i) t := by
  intro r
  induction r with
  | zero =>
    intro i s t hi hR hL hD hx kk
    show VS_X7_beginMonth_14 _ _ _ _ _ _
    unfold VS_X7_beginMonth_14
    exact xlist1 hR hL hn (by omega) (fun e => kk _ hR) (fun c => by omega)
  | succ r ih =>
    intro i s t hi hR hL hD hx kk
    show VS_X7_beginMonth_14 _ _ _ _ _ _
    unfold VS_X7_beginMonth_14
    refine xlist1 hR hL hn (by omega) (fun e => by omega) (fun c => ?_)
    have hd := hD i (Nat.le_refl _) c
    have hl1 : i < q.2.1 := hd.1.1
    have h4 := hd.1.2.2.2.1
    have h5 := hd.1.2.2.2.2.1
    refine ⟨xis_R hR (by simp only [clv, eq_self_iff_true, true_or, or_true, false_or, or_false, true_and, and_true, false_and, and_false] <;> omega) rfl, ?_⟩
    refine sp_runsIn hR hl1 ⟨by omega, by omega⟩ ⟨by omega, by omega⟩ ⟨by omega, by omega⟩ ?_
    rw [show (I (i : Int) + 1 : Int32) = I ((i + 1 : Nat) : Int) from I_add _ 1]
    have kk2 : ∀ t, RR ad q lo (lp (bgM m) (i + 1) r (bgM m i s)) u co t → K t := kk
    have go : ∀ t, RR ad q lo (bgM m i s) u co t → V_X7_beginMonth_14 K (r + 1) (ad 0 0) (I m) (I ((i + 1 : Nat) : Int)) t := fun t hR => by
      refine ih (i + 1) _ t (by omega) hR (LI_of hL (bgM_o (by decide) (by omega)) (bgM_o (by decide) (by omega))) (fun l g1 g2 => ?_) (by rw [bgM_o (p := 4) (by decide) (by omega)]; exact hx) kk2
      obtain ⟨a1, a2⟩ := hD l (by omega) g2
      refine ⟨okL_of a1 (bgM_o (by decide) (by omega)) (bgM_o (by decide) (by omega)), ?_⟩
      rw [bgM_o (p := 6) (by decide) (by omega)]
      exact a2
    rcases runb_01 s i m with hr | hr
    · rw [hr]
      refine xbt rfl (go t ?_)
      unfold bgM
      rw [if_pos hr]
      exact hR
    · rw [hr]
      refine xbf (by decide) ?_
      refine ⟨xis_R hR (by simp only [clv, eq_self_iff_true, true_or, or_true, false_or, or_false, true_and, and_true, false_and, and_false] <;> omega) rfl, ?_⟩
      refine sp_payAhead hR hd hm hx (fun t hR => go t ?_)
      unfold bgM
      rw [if_neg (by omega)]
      exact hR
theorem sp_beginMonth {K : xT → Prop} {n m : Nat} (hR : RR ad q lo s u co t) (hL : LI q s 1 n) (hn : n ≤ q.2.1) (hm : m < 121) (hD : ∀ l, l < n → okD q s l) (hx : 0 ≤ s 0 0 7 ∧ s 0 0 7 ≤ 200) (kk : ∀ t, RR ad q lo (bMon n m s) u co t → K t) : V_X7_beginMonth_0 K (ad 0 0) (I m) t := by
  unfold V_X7_beginMonth_0
  refine xgR_R hR (by simp only [clv, eq_self_iff_true, true_or, or_true, false_or, or_false, true_and, and_true, false_and, and_false] <;> omega) rfl rfl ?_
  refine xgI_R hR (by simp only [clv, eq_self_iff_true, true_or, or_true, false_or, or_false, true_and, and_true, false_and, and_false] <;> omega) rfl rfl ?_
  refine ⟨xis_R hR (by simp only [clv, eq_self_iff_true, true_or, or_true, false_or, or_false, true_and, and_true, false_and, and_false] <;> omega) rfl, ?_⟩
  refine sp_put hR (by simp only [clv, eq_self_iff_true, true_or, or_true, false_or, or_false, true_and, and_true, false_and, and_false] <;> omega) (by omega) (fun t hR => ⟨n + 1, ?_⟩)
  rw [show ((m : Int).toNat) = m by omega] at hR
  refine sp_bgLoop hn hm n 0 _ t (by omega) hR (LI_of hL (su_f _ (by omega)) (su_f _ (by omega))) (fun l _ hl => ?_) (by simp (config := { decide := true }) only [su_r, su_f, sup_n, not_false_eq_true, eq_self_iff_true, true_or, or_true, false_or, or_false, true_and, and_true, false_and, and_false, if_true, if_false, ite_true, ite_false]; exact hx) kk
  obtain ⟨a1, a2⟩ := hD l hl
  refine ⟨okL_of a1 (su_f _ (by omega)) (su_f _ (by omega)), ?_⟩
  rw [su_f _ (by omega)]
  exact a2
end CLS8
