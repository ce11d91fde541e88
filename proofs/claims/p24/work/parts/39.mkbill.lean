/-! ===== a bill is made; the end of a month ===== -/
/-- addresses that others hold stay -/
def AE (ad ad' : xAd) : Prop := ad' 0 0 = ad 0 0 ∧ ∀ p i, 20 ≤ p → ad' p i = ad p i
theorem AE.rf {ad : xAd} : AE ad ad := ⟨rfl, fun _ _ _ => rfl⟩
theorem AE.tr {a b c : xAd} (h : AE a b) (g : AE b c) : AE a c := ⟨g.1.trans h.1, fun p i hp => (g.2 p i hp).trans (h.2 p i hp)⟩
theorem AE.bill {ad : xAd} {b a : Nat} : AE ad (adu ad 10 b a) := ⟨adu_n ad a (fun h => by omega), fun p i hp => adu_n ad a (fun h => by omega)⟩
/-- and the lists' arrays too -/
def AE2 (ad ad' : xAd) : Prop := ad' 0 0 = ad 0 0 ∧ (∀ p i, 20 ≤ p → ad' p i = ad p i) ∧ ∀ j, ad' 2 j = ad 2 j
theorem AE2.rf {ad : xAd} : AE2 ad ad := ⟨rfl, fun _ _ _ => rfl, fun _ => rfl⟩
theorem AE2.tr {a b c : xAd} (h : AE2 a b) (g : AE2 b c) : AE2 a c := ⟨g.1.trans h.1, fun p i hp => (g.2.1 p i hp).trans (h.2.1 p i hp), fun j => (g.2.2 j).trans (h.2.2 j)⟩
theorem AE2.bill {ad : xAd} {b a : Nat} : AE2 ad (adu ad 10 b a) := ⟨adu_n ad a (fun h => by omega), fun p i hp => adu_n ad a (fun h => by omega), fun j => adu_n ad a (fun h => by omega)⟩
theorem su_same {s : xS} {p i k : Nat} {x : Int} (h : s p i k = x) : su s p i k x = s := by
  funext p' i' k'
  rw [su_r]
  split
  · rename_i c
    obtain ⟨rfl, rfl, rfl⟩ := c
    exact h.symm
  · rfl
section CLS7
variable {ad : xAd} {q : xL} {lo : Nat → Nat → Prop} {s u : xS} {co : Nat → Nat → xE} {t : xT}
theorem cBill_of {s s' : xS} {l m : Nat} (h6 : s' 6 l = s 6 l) (h4 : s' 4 = s 4) (h8 : s' 8 l = s 8 l) : cBill s' l m = cBill s l m := by
  funext k
  unfold cBill
  rw [h6, h4, h8]
theorem cBill_rng {l m : Nat} (hl : okL q s l) (hm : m < 121) (hM : okM q s m) : (0 ≤ cBill s l m 0 ∧ cBill s l m 0 ≤ 1000000) ∧ (0 ≤ cBill s l m 1 ∧ cBill s l m 1 ≤ cBill s l m 0) ∧ (0 ≤ cBill s l m 2 ∧ cBill s l m 2 ≤ cBill s l m 0 - cBill s l m 1) := by
  obtain ⟨h1, h2, h3, h4, h5, h6⟩ := hl
  obtain ⟨hx, hp⟩ := hM
  have h0 : 0 ≤ s 6 l 8 * s 4 0 m := Int.mul_nonneg h3.1 hx.1
  have h9 : s 6 l 8 * s 4 0 m ≤ 500000 * 200 := Int.mul_le_mul h3.2 hx.2 hx.1 (by decide)
  have hlow := low_rng (r := s 6 l 8 * s 4 0 m / 100) (p := s 4 (300 + (s 6 l 0).toNat) m) (by omega) (hp _ h2).1
  have hben := ben_rng (r := s 6 l 8 * s 4 0 m / 100 - low (s 6 l 8 * s 4 0 m / 100) (s 4 (300 + (s 6 l 0).toNat) m)) (i := incn (s 4 (400 + l)) (m + 1)) (by omega)
  show (0 ≤ s 6 l 8 * s 4 0 m / 100 ∧ s 6 l 8 * s 4 0 m / 100 ≤ 1000000) ∧ (0 ≤ low _ _ ∧ low _ _ ≤ s 6 l 8 * s 4 0 m / 100) ∧ (0 ≤ ben _ _ ∧ ben _ _ ≤ s 6 l 8 * s 4 0 m / 100 - low _ _)
  refine ⟨by omega, hlow, hben.1, ?_⟩
  have := hben.2
  omega
theorem sp_mkBill0 {K : xT → Prop} {l m : Nat} (hR : RR ad q lo s u co t) (hb : clv q lo 10 (200 * l + m)) (hl : okL q s l) (hm : m < 121) (hM : okM q s m) (hh : 0 ≤ s 8 l 0 ∧ s 8 l 0 ≤ 100000000) (kk : ∀ t, RR ad q lo (toDsk l (cBill s l m 2) (toTen l (cBill s l m 0 - cBill s l m 1 - cBill s l m 2 + cBill s l m 3) (putB l m (settle s l m (200 * l + m))))) u co t → K t) :
    V_X7_settle_0 (fun t_4 => (xis t_4 (ad 6 l) 3 ∧ V_X3_putBill_0 (fun t_5 => (xis t_5 (ad 10 (200 * l + m)) 0 ∧ V_X0_ofTenant_0 (fun x_7 t_6 => (xis t_6 (ad 0 0) 7 ∧ V_X7_postToTenant_0 (fun t_8 => xgI t_8 (ad 10 (200 * l + m)) 0 2 fun x_9 => (xis t_8 (ad 0 0) 7 ∧ V_X7_postToDesk_0 (fun t_10 => K t_10) (ad 0 0) (ad 6 l) x_9.toInt64 t_8)) (ad 0 0) (ad 6 l) x_7.toInt64 t_6)) (ad 10 (200 * l + m)) t_5)) (ad 6 l) (I m) (ad 10 (200 * l + m)) t_4)) (ad 0 0) (ad 6 l) (I m) (ad 10 (200 * l + m)) t := by
  have hc := cBill_rng hl hm hM
  obtain ⟨h1, h2, h3, h4, h5, h6⟩ := hl
  obtain ⟨hx, hp⟩ := hM
  have hr := incn_rng (g := s 4 (400 + l)) (n := m + 1) (fun k hk => h6 k (by omega))
  have e3 : cBill s l m 3 = s 8 l 0 := rfl
  have em : ((m : Int).toNat) = m := by omega
  refine sp_settle hR h1 h2 hb (by omega) h3 (by rw [em]; exact hx) (by rw [em]; exact hp _ h2) (fun k hk => by have := h6 k hk; exact ⟨by omega, by omega⟩) (by rw [em]; omega) (fun t hR => ?_)
  rw [em] at hR
  refine ⟨xis_R hR (by simp only [clv, eq_self_iff_true, true_or, or_true, false_or, or_false, true_and, and_true, false_and, and_false] <;> omega) rfl, ?_⟩
  refine sp_putBill hR h1 hm hb (fun t hR => ?_)
  refine ⟨xis_R hR (p := 10) hb rfl, ?_⟩
  refine sp_ofTenant hR hb ?_
  have eT : bT (putB l m (settle s l m (200 * l + m))) (200 * l + m) = cBill s l m 0 - cBill s l m 1 - cBill s l m 2 + cBill s l m 3 := by
    unfold bT putB settle
    simp (config := { decide := true }) only [su_r, su_f, sup_n, not_false_eq_true, eq_self_iff_true, true_or, or_true, false_or, or_false, true_and, and_true, false_and, and_false, if_true, if_false, ite_true, ite_false]
  rw [eT, I_long ⟨by omega, by omega⟩]
  refine ⟨xis_R hR (by simp only [clv, eq_self_iff_true, true_or, or_true, false_or, or_false, true_and, and_true, false_and, and_false] <;> omega) rfl, ?_⟩
  refine sp_toTenant hR h1 (fun t hR => ?_)
  refine xgI_R hR (p := 10) hb rfl rfl ?_
  have eD : su (su (putB l m (settle s l m (200 * l + m))) 6 l 5 (putB l m (settle s l m (200 * l + m)) 6 l 5 + (cBill s l m 0 - cBill s l m 1 - cBill s l m 2 + cBill s l m 3))) 0 0 9 (putB l m (settle s l m (200 * l + m)) 0 0 9 - (cBill s l m 0 - cBill s l m 1 - cBill s l m 2 + cBill s l m 3)) 10 (200 * l + m) 2 = cBill s l m 2 := by
    unfold putB settle
    simp (config := { decide := true }) only [su_r, su_f, sup_n, not_false_eq_true, eq_self_iff_true, true_or, or_true, false_or, or_false, true_and, and_true, false_and, and_false, if_true, if_false, ite_true, ite_false]
  rw [eD, I_long ⟨by omega, by omega⟩]
  refine ⟨xis_R hR (by simp only [clv, eq_self_iff_true, true_or, or_true, false_or, or_false, true_and, and_true, false_and, and_false] <;> omega) rfl, ?_⟩
  refine sp_toDesk hR h1 (fun t hR => ?_)
  exact kk _ hR
theorem sp_mkBill {K : xT → Prop} {l m rc rs : Nat} {B : Nat → Prop} (hR : RR ad (qw q B) lo s u co t) (hB : HB (qw q B) s) (hl : okL q s l) (hm : m < 121) (hM : okM q s m) (hh : 0 ≤ s 8 l 0 ∧ s 8 l 0 ≤ 100000000) (hL12 : q.2.1 ≤ 12) (h9 : s 9 l m = 0) (hrc : 1 ≤ rc) (hrs : 4 ≤ rs) (kk : ∀ ad' B' t', AE2 ad ad' → RR ad' (qw q B') lo (mkBill m l s) u co t' → HB (qw q B') (mkBill m l s) → K t') : V_X7_makeBill_0 K (ad 0 0) (ad 6 l) (I m) t rc rs := by
  have hl1 : l < q.2.1 := hl.1
  unfold V_X7_makeBill_0
  refine ⟨hrc, hrs, fun a ha => ?_⟩
  have hnb : ¬ clv (qw q B) lo 10 (200 * l + m) := by
    rintro (h | h)
    · omega
    · exact (hB l m hl1 hm).mp h h9
  have hR1 := RR_bill hR ha hnb (fun l' m' hl' hm' e => by
    have : q.2.1 ≤ 12 := hL12
    have hl'' : l' < q.2.1 := hl'
    obtain ⟨rfl, rfl⟩ : l' = l ∧ m' = m := by omega
    exact h9)
  generalize hA : adu ad 10 (200 * l + m) a = A at hR1
  have ea : a = A 10 (200 * l + m) := by rw [← hA, adu_s]
  have e0 : ad 0 0 = A 0 0 := by rw [← hA, adu_n]; omega
  have e6 : ad 6 l = A 6 l := by rw [← hA, adu_n]; omega
  have hAE : AE2 ad A := hA ▸ AE2.bill
  generalize hT : xup t a (.inr (0, [.int 0, .int 0, .int 0, .int 0])) = t1 at hR1 ⊢
  rw [e0, e6, ea]
  have hb1 : clv (qB (qw q B) (200 * l + m)) lo 10 (200 * l + m) := Or.inr (Or.inr rfl)
  have z : ∀ k, su (sup s 10 (200 * l + m) (fun _ => 0)) 10 (200 * l + m) k 0 = sup s 10 (200 * l + m) (fun _ => 0) := fun k => su_same (by rw [sup_s])
  have z0 : (.int (0 : Int32) : Value) = .int (I 0) := rfl
  have hR := hR1
  unfold V_X0_init_0
  rw [z0]
  refine xpF_I hR hb1 (by decide) rfl (Nat.le_of_ble_eq_true rfl) rfl (fun t hR => ?_)
  rw [z] at hR
  refine xpF_I hR hb1 (by decide) rfl (Nat.le_of_ble_eq_true rfl) rfl (fun t hR => ?_)
  rw [z] at hR
  refine xpF_I hR hb1 (by decide) rfl (Nat.le_of_ble_eq_true rfl) rfl (fun t hR => ?_)
  rw [z] at hR
  refine xpF_I hR hb1 (by decide) rfl (Nat.le_of_ble_eq_true rfl) rfl (fun t hR => ?_)
  rw [z] at hR
  refine ⟨xis_R hR (p := 0) (i := 0) rfl rfl, ?_⟩
  have ec : cBill (sup s 10 (200 * l + m) (fun _ => 0)) l m = cBill s l m := cBill_of (sup_n _ _ (by omega)) (funext fun i => sup_n _ _ (by omega)) (sup_n _ _ (by omega))
  have e9 : ∀ l' m', mkBill m l s 9 l' m' = if l' = l ∧ m' = m then 1 else s 9 l' m' := by
    intro l' m'
    unfold mkBill toDsk toTen putB settle
    simp (config := { decide := true }) only [su_r, su_f, sup_n, not_false_eq_true, eq_self_iff_true, true_or, or_true, false_or, or_false, true_and, and_true, false_and, and_false, if_true, if_false, ite_true, ite_false]
  refine sp_mkBill0 hR hb1 (okL_of hl (sup_n _ _ (by omega)) (sup_n _ _ (by omega))) hm ?_ ?_ (fun t hR => ?_)
  · unfold okM at hM ⊢
    simp (config := { decide := true }) only [su_r, su_f, sup_n, not_false_eq_true, eq_self_iff_true, true_or, or_true, false_or, or_false, true_and, and_true, false_and, and_false, if_true, if_false, ite_true, ite_false]
    exact hM
  · simp (config := { decide := true }) only [su_r, su_f, sup_n, not_false_eq_true, eq_self_iff_true, true_or, or_true, false_or, or_false, true_and, and_true, false_and, and_false, if_true, if_false, ite_true, ite_false]
    exact hh
  · rw [ec] at hR
    refine kk A (fun i => B i ∨ i = 200 * l + m) t hAE hR (fun l' m' hl' hm' => ?_)
    rw [e9]
    show (B (200 * l' + m') ∨ 200 * l' + m' = 200 * l + m) ↔ _
    have := hB l' m' hl' hm'
    have hB2 : B (200 * l' + m') ↔ s 9 l' m' ≠ 0 := this
    by_cases c : l' = l ∧ m' = m
    · rw [if_pos c]
      exact ⟨fun _ => by decide, fun _ => Or.inr (by omega)⟩
    · rw [if_neg c]
      exact ⟨fun h => by rcases h with h | h; exact hB2.mp h; omega, fun h => Or.inl (hB2.mpr h)⟩
end CLS7
