/-! ===== the model makes a bill ===== -/
theorem mv_b {l m k : Nat} (hm : m < 121) (hk : k < 4) : mvr (27 + k) (121 * l + m) = (10, 200 * l + m, k) := by
  have e1 : (121 * l + m) / 121 = l := by omega
  have e2 : (121 * l + m) % 121 = m := by omega
  obtain rfl | rfl | rfl | rfl : k = 0 ∨ k = 1 ∨ k = 2 ∨ k = 3 := by omega
  · show (10, 200 * ((121 * l + m) / 121) + (121 * l + m) % 121, 0) = _
    rw [e1, e2]
  · show (10, 200 * ((121 * l + m) / 121) + (121 * l + m) % 121, 1) = _
    rw [e1, e2]
  · show (10, 200 * ((121 * l + m) / 121) + (121 * l + m) % 121, 2) = _
    rw [e1, e2]
  · show (10, 200 * ((121 * l + m) / 121) + (121 * l + m) % 121, 3) = _
    rw [e1, e2]
theorem mv_9 {l m : Nat} (hm : m < 121) : mvr 26 (121 * l + m) = (9, l, m) := by
  show (9, (121 * l + m) / 121, (121 * l + m) % 121) = _
  rw [show (121 * l + m) / 121 = l by omega, show (121 * l + m) % 121 = m by omega]
theorem mv_t {l m : Nat} (hm : m < 121) : mvr 25 (121 * l + m) = (4, 400 + l, m) := by
  show (4, 400 + (121 * l + m) / 121, (121 * l + m) % 121) = _
  rw [show (121 * l + m) / 121 = l by omega, show (121 * l + m) % 121 = m by omega]
/-- the numbers of a bill in the model -/
def mBv (l m : Nat) (u : xS) : Nat → Int := fun k => match k with
  | 0 => u 6 l 8 * u 21 10 m / 100
  | 1 => low (u 6 l 8 * u 21 10 m / 100) (u 21 8 (u 6 l 0).toNat)
  | 2 => ben (u 6 l 8 * u 21 10 m / 100 - low (u 6 l 8 * u 21 10 m / 100) (u 21 8 (u 6 l 0).toNat)) (incn (u 4 (400 + l)) (m + 1))
  | _ => u 21 36 l
def mB4 (l m : Nat) (u : xS) (v : Nat → Int) : xS := su (su (su (su (su u 9 l m 1) 10 (200 * l + m) 0 (v 0)) 10 (200 * l + m) 1 (v 1)) 10 (200 * l + m) 3 (v 3)) 10 (200 * l + m) 2 (v 2)
def mBl (m l : Nat) (u : xS) : xS := su (su (mB4 l m u (mBv l m u)) 6 l 5 (u 6 l 5 + (mBv l m u 0 - mBv l m u 1 - mBv l m u 2 + mBv l m u 3))) 6 l 6 (u 6 l 6 + mBv l m u 2)
section MM11
variable {ad : xAd} {q : xL} {lo : Nat → Nat → Prop} {s u : xS} {co : Nat → Nat → xE} {t : xT} {nf n nr : Nat}
theorem mm_bills {K : xT → Prop} {l m : Nat} (hR : RR ad q lo s u co t) (hl : l < 12) (hm : m < 121) (hr : 0 ≤ u 6 l 8 ∧ u 6 l 8 ≤ 500000) (hx : 0 ≤ u 21 10 m ∧ u 21 10 m ≤ 200) (hh : 0 ≤ u 6 l 0 ∧ u 6 l 0 < 8) (hp : 0 ≤ u 21 8 (u 6 l 0).toNat ∧ u 21 8 (u 6 l 0).toNat ≤ 100000000) (ht : ∀ m, m < 121 → -1 ≤ u 4 (400 + l) m ∧ u 4 (400 + l) m ≤ 1000000) (hs : 0 ≤ u 21 36 l ∧ u 21 36 l ≤ 100000000) (kk : ∀ t, RR ad q lo s (mBl m l u) co t → K t) : V_X8_bills_0 K (ad 20 0) (I l) (I m) t := by
  have h0 : 0 ≤ u 6 l 8 * u 21 10 m ∧ u 6 l 8 * u 21 10 m ≤ 100000000 := by
    refine ⟨Int.mul_nonneg hr.1 hx.1, ?_⟩
    have a1 : u 6 l 8 * u 21 10 m ≤ 500000 * u 21 10 m := Int.mul_le_mul_of_nonneg_right hr.2 hx.1
    omega
  have hi := incn_rng (g := u 4 (400 + l)) (n := m + 1) (fun m hm' => ht m (by omega))
  have hz : 0 ≤ 121 * (l : Int) + m ∧ 121 * (l : Int) + m < ((1452 : Nat) : Int) := by omega
  have hzj : 0 ≤ 121 * (l : Int) + m ∧ (121 * (l : Int) + m).toNat = 121 * l + m := by omega
  have hj : 121 * l + m < 1452 := by omega
  have hl2 : 0 ≤ (l : Int) ∧ (l : Int) < ((12 : Nat) : Int) := by omega
  have el : (l : Int).toNat = l := by omega
  have ez : (121 * (l : Int) + m).toNat = 121 * l + m := by omega
  generalize hr0 : u 6 l 8 * u 21 10 m / 100 = r0 at *
  have hr0b : 0 ≤ r0 ∧ r0 ≤ 1000000 := by omega
  generalize hp0 : u 21 8 (u 6 l 0).toNat = p0 at *
  have hlow := low_rng (r := r0) (p := p0) hr0b.1 hp.1
  have hben := ben_rng (r := r0 - low r0 p0) (i := incn (u 4 (400 + l)) (m + 1)) (by omega)
  have b0 : mBv l m u 0 = r0 := hr0
  have b1 : mBv l m u 1 = low r0 p0 := by show low (u 6 l 8 * u 21 10 m / 100) (u 21 8 (u 6 l 0).toNat) = _; rw [hr0, hp0]
  have b2 : mBv l m u 2 = ben (r0 - low r0 p0) (incn (u 4 (400 + l)) (m + 1)) := by show ben (u 6 l 8 * u 21 10 m / 100 - low (u 6 l 8 * u 21 10 m / 100) (u 21 8 (u 6 l 0).toNat)) _ = _; rw [hr0, hp0]
  have b3 : mBv l m u 3 = u 21 36 l := rfl
  have hprod : 0 ≤ r0 * p0 ∧ r0 * p0 ≤ 100000000000000 := by
    refine ⟨Int.mul_nonneg hr0b.1 hp.1, ?_⟩
    have a1 : r0 * p0 ≤ r0 * 100000000 := Int.mul_le_mul_of_nonneg_left hp.2 hr0b.1
    omega
  unfold V_X8_bills_0 V_X8_at_0
  refine ⟨xis_R hR (p := 20) (i := 0) rfl rfl, ?_⟩
  refine mm_rentIn hR hl (by omega) (by omega) ?_
  rw [hr0, show (121 : Int32) = I 121 from rfl, I_mul, I_add]
  refine xgR_R hR (p := 20) (i := 0) rfl rfl rfl ?_
  refine xgR_R hR (p := 20) (i := 0) rfl rfl rfl ?_
  refine xaI_R hR (p := 21) (i := 19) (show 19 < 40 by decide) rfl (by decide) hl2 ?_
  rw [show mva u 19 (l : Int).toNat = u 6 l 0 by show u 6 (l : Int).toNat 0 = _; rw [el]]
  refine xaI_R hR (p := 21) (i := 8) (show 8 < 40 by decide) rfl (by decide) (show 0 ≤ u 6 l 0 ∧ u 6 l 0 < ((8 : Nat) : Int) by omega) ?_
  rw [show mva u 8 (u 6 l 0).toNat = p0 from hp0]
  refine ⟨by decide, ?_⟩
  rw [I_long ⟨by omega, by omega⟩, I_long ⟨by omega, by omega⟩, J_mul, show (3000 : Int64) = J 3000 from rfl, J_div ⟨by omega, by omega⟩ ⟨by omega, by omega⟩ (by omega) (by omega)]
  refine xgR_R hR (p := 20) (i := 0) rfl rfl rfl ?_
  refine mpZ 26 hR (by decide) rfl hzj (show _ < 1452 by omega) (mv_9 hm) (fun t hR => ?_)
  refine xgR_R hR (p := 20) (i := 0) rfl rfl rfl ?_
  refine mpI0 27 hR (by decide) rfl hzj (show _ < 1452 by omega) (mv_b (k := 0) hm (by decide)) (fun t hR => ?_)
  refine xgR_R hR (p := 20) (i := 0) rfl rfl rfl ?_
  have tail : ∀ t, RR ad q lo s (su (su u 9 l m 1) 10 (200 * l + m) 0 r0) co t → V_X8_bills_73 K (ad 20 0) (I l) (I m) (I (121 * (l : Int) + m)) (I r0) (I (low r0 p0)) (I (121 * (l : Int) + m)) (ad 21 28) t := fun t hR => by
    unfold V_X8_bills_73
    refine mpI0 28 hR (by decide) rfl hzj (show _ < 1452 by omega) (mv_b (k := 1) hm (by decide)) (fun t hR => ?_)
    refine xgR_R hR (p := 20) (i := 0) rfl rfl rfl ?_
    refine xgR_R hR (p := 20) (i := 0) rfl rfl rfl ?_
    refine xaJ_R hR (p := 21) (i := 36) (show 36 < 40 by decide) rfl (by decide) hl2 ?_
    rw [show mva (su (su (su u 9 l m 1) 10 (200 * l + m) 0 r0) 10 (200 * l + m) 1 (low r0 p0)) 36 (l : Int).toNat = u 21 36 l by
      show su _ _ _ _ _ 21 36 (l : Int).toNat = _
      rw [el, su_r, if_neg (by omega), su_r, if_neg (by omega), su_r, if_neg (by omega)], J_int]
    refine mpI0 30 hR (by decide) rfl hzj (show _ < 1452 by omega) (mv_b (k := 3) hm (by decide)) (fun t hR => ?_)
    refine xgR_R hR (p := 20) (i := 0) rfl rfl rfl ?_
    refine xgR_R hR (p := 20) (i := 0) rfl rfl rfl ?_
    refine xaI_R hR (p := 21) (i := 28) (show 28 < 40 by decide) rfl (by decide) hz ?_
    rw [show mva (su (su (su (su u 9 l m 1) 10 (200 * l + m) 0 r0) 10 (200 * l + m) 1 (low r0 p0)) 10 (200 * l + m) 3 (u 21 36 l)) 28 (121 * (l : Int) + m).toNat = low r0 p0 by
      unfold mva
      rw [ez, mv_b (k := 1) hm (by decide)]
      show su _ _ _ _ _ 10 (200 * l + m) 1 = _
      rw [su_r, if_neg (by omega), su_r, if_pos ⟨rfl, rfl, rfl⟩]]
    refine ⟨xis_R hR (p := 20) (i := 0) rfl rfl, ?_⟩
    have et : (su (su (su (su u 9 l m 1) 10 (200 * l + m) 0 r0) 10 (200 * l + m) 1 (low r0 p0)) 10 (200 * l + m) 3 (u 21 36 l)) 4 (400 + l) = u 4 (400 + l) := by
      rw [su_f _ (by omega), su_f _ (by omega), su_f _ (by omega), su_f _ (by omega)]
    refine mm_incomeIn hR hl hm (by rw [et]; exact ht) ?_
    rw [et, I_sub]
    refine mm_benefit (by omega) (by omega) ?_
    refine mpI0 29 hR (by decide) rfl hzj (show _ < 1452 by omega) (mv_b (k := 2) hm (by decide)) (fun t hR => ?_)
    have hR' : RR ad q lo s (mB4 l m u (mBv l m u)) co t := by
      unfold mB4
      rw [b0, b1, b2, b3]
      exact hR
    clear hR
    have hR := hR'
    clear hR'
    have rb : ∀ k, k < 4 → mva (mB4 l m u (mBv l m u)) (27 + k) (121 * (l : Int) + m).toNat = mBv l m u k := fun k hk => by
      unfold mva
      rw [ez, mv_b (k := k) hm hk]
      show mB4 l m u (mBv l m u) 10 (200 * l + m) k = _
      unfold mB4
      obtain rfl | rfl | rfl | rfl : k = 0 ∨ k = 1 ∨ k = 2 ∨ k = 3 := by omega
      · rw [su_r, if_neg (by omega), su_r, if_neg (by omega), su_r, if_neg (by omega), su_r, if_pos ⟨rfl, rfl, rfl⟩]
      · rw [su_r, if_neg (by omega), su_r, if_neg (by omega), su_r, if_pos ⟨rfl, rfl, rfl⟩]
      · rw [su_r, if_pos ⟨rfl, rfl, rfl⟩]
      · rw [su_r, if_neg (by omega), su_r, if_pos ⟨rfl, rfl, rfl⟩]
    have r5 : ∀ k, mB4 l m u (mBv l m u) 6 l k = u 6 l k := fun k => by
      unfold mB4
      rw [su_f _ (by omega), su_f _ (by omega), su_f _ (by omega), su_f _ (by omega), su_f _ (by omega)]
    refine xgR_R hR (p := 20) (i := 0) rfl rfl rfl ?_
    refine xaJ_R hR (p := 21) (i := 23) (show 23 < 40 by decide) rfl (by decide) hl2 ?_
    rw [show mva (mB4 l m u (mBv l m u)) 23 (l : Int).toNat = u 6 l 5 by show mB4 l m u (mBv l m u) 6 (l : Int).toNat 5 = _; rw [el, r5]]
    refine xgR_R hR (p := 20) (i := 0) rfl rfl rfl ?_
    refine xaI_R hR (p := 21) (i := 28) (show 28 < 40 by decide) rfl (by decide) hz ?_
    rw [rb 1 (by decide)]
    refine xgR_R hR (p := 20) (i := 0) rfl rfl rfl ?_
    refine xaI_R hR (p := 21) (i := 29) (show 29 < 40 by decide) rfl (by decide) hz ?_
    rw [rb 2 (by decide)]
    refine xgR_R hR (p := 20) (i := 0) rfl rfl rfl ?_
    refine xaI_R hR (p := 21) (i := 30) (show 30 < 40 by decide) rfl (by decide) hz ?_
    rw [rb 3 (by decide), I_sub, I_sub, I_add, I_long ⟨by omega, by omega⟩, J_add]
    refine mpJ0 23 hR (by decide) rfl (j := l) (by omega) (show l < 12 from hl) rfl (fun t hR => ?_)
    have e29 : mva (su (mB4 l m u (mBv l m u)) 6 l 5 (u 6 l 5 + (r0 - mBv l m u 1 - mBv l m u 2 + mBv l m u 3))) 29 (121 * (l : Int) + m).toNat = mBv l m u 2 := by
      have := rb 2 (by decide)
      unfold mva at this ⊢
      rw [ez, mv_b (k := 2) hm (by decide)] at this ⊢
      show su _ _ _ _ _ 10 (200 * l + m) 2 = _
      rw [su_r, if_neg (by omega)]
      exact this
    refine xgR_R hR (p := 20) (i := 0) rfl rfl rfl ?_
    refine xaJ_R hR (p := 21) (i := 24) (show 24 < 40 by decide) rfl (by decide) hl2 ?_
    rw [show mva (su (mB4 l m u (mBv l m u)) 6 l 5 (u 6 l 5 + (r0 - mBv l m u 1 - mBv l m u 2 + mBv l m u 3))) 24 (l : Int).toNat = u 6 l 6 by
      show su _ _ _ _ _ 6 (l : Int).toNat 6 = _
      rw [el, su_r, if_neg (by omega), r5]]
    refine xgR_R hR (p := 20) (i := 0) rfl rfl rfl ?_
    refine xaI_R hR (p := 21) (i := 29) (show 29 < 40 by decide) rfl (by decide) hz ?_
    rw [e29, I_long ⟨by omega, by omega⟩, J_add]
    refine mpJ0 24 hR (by decide) rfl (j := l) (by omega) (show l < 12 from hl) rfl (fun t hR => ?_)
    refine kk t ?_
    unfold mBl
    rw [b0]
    exact hR
  by_cases c : r0 * p0 / 3000 ≤ r0
  · refine xbt (by (try simp only [I_lit, J_lit, I_ofNat, I_neg, I_add, I_sub, I_mul, J_neg, J_add, J_sub, J_mul]); first | (rw [I_lt ⟨by omega, by omega⟩ ⟨by omega, by omega⟩]; omega) | (rw [I_le ⟨by omega, by omega⟩ ⟨by omega, by omega⟩]; omega) | (rw [I_eq ⟨by omega, by omega⟩ ⟨by omega, by omega⟩]; omega) | (rw [J_lt ⟨by omega, by omega⟩ ⟨by omega, by omega⟩]; omega) | (rw [J_le ⟨by omega, by omega⟩ ⟨by omega, by omega⟩]; omega) | (rw [J_eq ⟨by omega, by omega⟩ ⟨by omega, by omega⟩]; omega)) ?_
    rw [J_int]
    have := tail t hR
    unfold low at this
    rw [if_neg (by omega)] at this
    exact this
  · refine xbf (by (try simp only [I_lit, J_lit, I_ofNat, I_neg, I_add, I_sub, I_mul, J_neg, J_add, J_sub, J_mul]); first | (rw [I_lt ⟨by omega, by omega⟩ ⟨by omega, by omega⟩]; omega) | (rw [I_le ⟨by omega, by omega⟩ ⟨by omega, by omega⟩]; omega) | (rw [I_eq ⟨by omega, by omega⟩ ⟨by omega, by omega⟩]; omega) | (rw [J_lt ⟨by omega, by omega⟩ ⟨by omega, by omega⟩]; omega) | (rw [J_le ⟨by omega, by omega⟩ ⟨by omega, by omega⟩]; omega) | (rw [J_eq ⟨by omega, by omega⟩ ⟨by omega, by omega⟩]; omega)) ?_
    have := tail t hR
    unfold low at this
    rw [if_pos (by omega)] at this
    exact this
end MM11
