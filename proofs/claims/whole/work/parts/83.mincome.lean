/-! ===== the model is told an income ===== -/
def mTd (l : Nat) (x : Int) (u : xS) : xS := su (su u 6 l 5 (u 6 l 5 + x)) 6 l 6 (u 6 l 6 - x)
def mInc (l m e : Nat) (x : Int) (u : xS) : xS := mTd l (bnLs l m (e - m) (su (su u 20 0 0 0) 4 (400 + l) m x) 0) (lp (bnA l) m (e - m) (su (su u 20 0 0 0) 4 (400 + l) m x))
section MM13
variable {ad : xAd} {q : xL} {lo : Nat → Nat → Prop} {s u : xS} {co : Nat → Nat → xE} {t : xT} {nf n nr : Nat}
theorem okBl_bnA {l m m' : Nat} (hbl : okBl u l m') (hr : 0 ≤ bnV l m u ∧ bnV l m u ≤ 1000000) : okBl (bnA l m u) l m' := by
  by_cases c : u 9 l m = 0
  · have e1 : bnA l m u = u := by unfold bnA; rw [if_pos c]
    rw [e1]
    exact hbl
  · have e1 : bnA l m u = su u 10 (200 * l + m) 2 (bnV l m u) := by unfold bnA; rw [if_neg c]
    rw [e1]
    unfold okBl at hbl ⊢
    simp (config := { decide := true }) only [su_r, su_f, sup_n, not_false_eq_true, eq_self_iff_true, true_or, or_true, false_or, or_false, true_and, and_true, false_and, and_false, if_true, if_false, ite_true, ite_false]
    intro h9
    have := hbl h9
    by_cases cc : m' = m
    · subst cc
      simp only [eq_self_iff_true, if_true]
      exact ⟨this.1, this.2.1, hr, this.2.2.2⟩
    · simp only [show ¬ (200 * l + m' = 200 * l + m) by omega, if_false]
      exact this
theorem mm_incomeLoop {K : Int64 → xT → Prop} {l e : Nat} (hl : l < 12) (he : e ≤ 121) : ∀ (r m : Nat) (u : xS) (t : xT) (acc : Int), m + r = e → RR ad q lo s u co t → okT u → u 0 0 8 / 30 + 1 = e → (∀ m, m < 121 → okBl u l m ∧ (u 9 l m = 0 ∨ u 9 l m = 1)) → (∀ m, m < 121 → -1 ≤ u 4 (400 + l) m ∧ u 4 (400 + l) m ≤ 1000000) → (∀ t, RR ad q lo s (mTd l (bnLs l m r u acc) (lp (bnA l) m r u)) co t → K (J (bnLs l m r u acc)) t) → V_X8_income_73 K (r + 1) (ad 20 0) (I l) (J acc) (I m) t := by
  have el : (l : Int).toNat = l := by omega
  have hl2 : 0 ≤ (l : Int) ∧ (l : Int) < ((12 : Nat) : Int) := by omega
  intro r
  induction r with
  | zero =>
    intro m u t acc hm hR hT hn hbl ht kk
    show VS_X8_income_73 (V_X8_income_73 K 0) K _ _ _ _ _
    have hT' := hT
    unfold okT at hT
    unfold VS_X8_income_73
    refine ⟨xis_R hR (p := 20) (i := 0) rfl rfl, ?_⟩
    refine mm_month hR (by omega) ?_
    refine xbt (by (try simp only [I_lit, J_lit, I_ofNat, I_neg, I_add, I_sub, I_mul, J_neg, J_add, J_sub, J_mul]); first | (rw [I_lt ⟨by omega, by omega⟩ ⟨by omega, by omega⟩]; omega) | (rw [I_le ⟨by omega, by omega⟩ ⟨by omega, by omega⟩]; omega) | (rw [I_eq ⟨by omega, by omega⟩ ⟨by omega, by omega⟩]; omega) | (rw [J_lt ⟨by omega, by omega⟩ ⟨by omega, by omega⟩]; omega) | (rw [J_le ⟨by omega, by omega⟩ ⟨by omega, by omega⟩]; omega) | (rw [J_eq ⟨by omega, by omega⟩ ⟨by omega, by omega⟩]; omega)) ?_
    have kk2 : ∀ t, RR ad q lo s (mTd l acc u) co t → K (J acc) t := kk
    refine xgR_R hR (p := 20) (i := 0) rfl rfl rfl ?_
    refine xaJ_R hR (p := 21) (i := 23) (show 23 < 40 by decide) rfl (by decide) hl2 ?_
    rw [show mva u 23 (l : Int).toNat = u 6 l 5 by show u 6 (l : Int).toNat 5 = _; rw [el], J_add]
    refine mpJ0 23 hR (by decide) rfl (j := l) (by omega) (show l < 12 from hl) rfl (fun t hR => ?_)
    refine xgR_R hR (p := 20) (i := 0) rfl rfl rfl ?_
    refine xaJ_R hR (p := 21) (i := 24) (show 24 < 40 by decide) rfl (by decide) hl2 ?_
    rw [show mva (su u 6 l 5 (u 6 l 5 + acc)) 24 (l : Int).toNat = u 6 l 6 by
      show su _ _ _ _ _ 6 (l : Int).toNat 6 = _
      rw [el, su_r, if_neg (by omega)], J_sub]
    exact mpJ0 24 hR (by decide) rfl (j := l) (by omega) (show l < 12 from hl) rfl kk2
  | succ r ih =>
    intro m u t acc hm hR hT hn hbl ht kk
    show VS_X8_income_73 (V_X8_income_73 K (r + 1)) K _ _ _ _ _
    have hT' := hT
    unfold okT at hT
    unfold VS_X8_income_73
    refine ⟨xis_R hR (p := 20) (i := 0) rfl rfl, ?_⟩
    refine mm_month hR (by omega) ?_
    refine xbf (by (try simp only [I_lit, J_lit, I_ofNat, I_neg, I_add, I_sub, I_mul, J_neg, J_add, J_sub, J_mul]); first | (rw [I_lt ⟨by omega, by omega⟩ ⟨by omega, by omega⟩]; omega) | (rw [I_le ⟨by omega, by omega⟩ ⟨by omega, by omega⟩]; omega) | (rw [I_eq ⟨by omega, by omega⟩ ⟨by omega, by omega⟩]; omega) | (rw [J_lt ⟨by omega, by omega⟩ ⟨by omega, by omega⟩]; omega) | (rw [J_le ⟨by omega, by omega⟩ ⟨by omega, by omega⟩]; omega) | (rw [J_eq ⟨by omega, by omega⟩ ⟨by omega, by omega⟩]; omega)) ?_
    unfold V_X8_at_0
    rw [show (121 : Int32) = I 121 from rfl, I_mul, I_add, show (I (m : Int) + 1 : Int32) = I ((m + 1 : Nat) : Int) from I_add _ 1]
    have hm121 : m < 121 := by omega
    have hz : 0 ≤ 121 * (l : Int) + m ∧ 121 * (l : Int) + m < ((1452 : Nat) : Int) := by omega
    have ez : (121 * (l : Int) + m).toNat = 121 * l + m := by omega
    have hzj : 0 ≤ 121 * (l : Int) + m ∧ (121 * (l : Int) + m).toNat = 121 * l + m := by omega
    have rb : ∀ k, k < 4 → mva u (27 + k) (121 * (l : Int) + m).toNat = u 10 (200 * l + m) k := fun k hk => by
      unfold mva
      rw [ez, mv_b (k := k) hm121 hk]
    have kk2 : ∀ t, RR ad q lo s (mTd l (bnLs l (m + 1) r (bnA l m u) (acc + bnD l m u)) (lp (bnA l) (m + 1) r (bnA l m u))) co t → K (J (bnLs l (m + 1) r (bnA l m u) (acc + bnD l m u))) t := kk
    obtain ⟨hb, h9⟩ := hbl m hm121
    have hi := incn_rng (g := u 4 (400 + l)) (n := m + 1) (fun m hm' => ht m (by omega))
    refine xgR_R hR (p := 20) (i := 0) rfl rfl rfl ?_
    refine xaI_R hR (p := 21) (i := 26) (show 26 < 40 by decide) rfl (by decide) hz ?_
    rw [show mva u 26 (121 * (l : Int) + m).toNat = u 9 l m by
      unfold mva
      rw [ez, mv_9 hm121]]
    by_cases c : u 9 l m = 0
    · have e1 : bnA l m u = u := by unfold bnA; rw [if_pos c]
      have e2 : bnD l m u = 0 := by unfold bnD; rw [if_pos c]
      rw [e1, e2, Int.add_zero] at kk2
      exact xbt (by rw [c]; rfl) (ih (m + 1) u t acc (by omega) hR hT' hn hbl ht kk2)
    · refine xbf (by (try simp only [I_lit, J_lit, I_ofNat, I_neg, I_add, I_sub, I_mul, J_neg, J_add, J_sub, J_mul]); first | (rw [I_lt ⟨by omega, by omega⟩ ⟨by omega, by omega⟩]; omega) | (rw [I_le ⟨by omega, by omega⟩ ⟨by omega, by omega⟩]; omega) | (rw [I_eq ⟨by omega, by omega⟩ ⟨by omega, by omega⟩]; omega) | (rw [J_lt ⟨by omega, by omega⟩ ⟨by omega, by omega⟩]; omega) | (rw [J_le ⟨by omega, by omega⟩ ⟨by omega, by omega⟩]; omega) | (rw [J_eq ⟨by omega, by omega⟩ ⟨by omega, by omega⟩]; omega)) ?_
      have e1 : bnA l m u = su u 10 (200 * l + m) 2 (bnV l m u) := by unfold bnA; rw [if_neg c]
      have e2 : bnD l m u = u 10 (200 * l + m) 2 - bnV l m u := by unfold bnD; rw [if_neg c]
      have hbV := ben_rng (r := u 10 (200 * l + m) 0 - u 10 (200 * l + m) 1) (i := incn (u 4 (400 + l)) (m + 1)) (by have := hb c; omega)
      have hbl' : ∀ m', m' < 121 → okBl (bnA l m u) l m' ∧ (bnA l m u 9 l m' = 0 ∨ bnA l m u 9 l m' = 1) := fun m' hm' => ⟨okBl_bnA (hbl m' hm').1 ⟨hbV.1, by
        have := hb c
        have h2 := hbV.2
        unfold bnV
        omega⟩, by rw [bnA_o (by omega)]; exact (hbl m' hm').2⟩
      obtain ⟨b0, b1, b2, b3⟩ := hb c
      refine xgR_R hR (p := 20) (i := 0) rfl rfl rfl ?_
      refine xaI_R hR (p := 21) (i := 27) (show 27 < 40 by decide) rfl (by decide) hz ?_
      rw [rb 0 (by decide)]
      refine xgR_R hR (p := 20) (i := 0) rfl rfl rfl ?_
      refine xaI_R hR (p := 21) (i := 28) (show 28 < 40 by decide) rfl (by decide) hz ?_
      rw [rb 1 (by decide), I_sub]
      refine ⟨xis_R hR (p := 20) (i := 0) rfl rfl, ?_⟩
      refine mm_incomeIn hR hl hm121 ht ?_
      refine mm_benefit (by omega) (by omega) ?_
      refine xgR_R hR (p := 20) (i := 0) rfl rfl rfl ?_
      refine xaI_R hR (p := 21) (i := 29) (show 29 < 40 by decide) rfl (by decide) hz ?_
      rw [rb 2 (by decide), I_sub]
      refine xgR_R hR (p := 20) (i := 0) rfl rfl rfl ?_
      refine mpI0 29 hR (by decide) rfl hzj (show _ < 1452 by omega) (mv_b (k := 2) hm121 (by decide)) (fun t hR => ?_)
      rw [I_long ⟨by omega, by omega⟩, J_add]
      have hR' : RR ad q lo s (bnA l m u) co t := by
        rw [e1]
        exact hR
      have go := ih (m + 1) (bnA l m u) t (acc + bnD l m u) (by omega) hR' (by unfold okT; rw [bnA_o (by omega)]; exact hT) (by rw [bnA_o (by omega)]; exact hn) hbl' (fun k hk => by rw [bnA_o (by omega)]; exact ht k hk) kk2
      rw [e2] at go
      exact go
theorem mm_income {K : Int64 → xT → Prop} {z m x : Int} (hR : RR ad q lo s u co t) (hT : okT u) (hn : u 1 1 2 = n) (hn12 : n ≤ 12) (hz : i32 z) (hm : i32 m) (hx : i32 x) (hbl : ∀ l m, l < n → m < 121 → okBl u l m ∧ (u 9 l m = 0 ∨ u 9 l m = 1)) (ht : ∀ l m, l < n → m < 121 → -1 ≤ u 4 (400 + l) m ∧ u 4 (400 + l) m ≤ 1000000) (k1 : ¬ ((0 ≤ z ∧ z < n) ∧ 0 ≤ m ∧ m ≤ u 0 0 8 / 30) → ∀ t, RR ad q lo s (su u 20 0 0 1) co t → K 0 t) (k2 : ((0 ≤ z ∧ z < n) ∧ 0 ≤ m ∧ m ≤ u 0 0 8 / 30) → ¬ (0 ≤ x ∧ x ≤ 1000000) → ∀ t, RR ad q lo s (su u 20 0 0 2) co t → K 0 t) (k0 : ((0 ≤ z ∧ z < n) ∧ 0 ≤ m ∧ m ≤ u 0 0 8 / 30) → (0 ≤ x ∧ x ≤ 1000000) → ∀ t, RR ad q lo s (mInc z.toNat m.toNat (nowN u + 1) x u) co t → K (J (bnLs z.toNat m.toNat (nowN u + 1 - m.toNat) (su (su u 20 0 0 0) 4 (400 + z.toNat) m.toNat x) 0)) t) : V_X8_income_0 K (ad 20 0) (I z) (I m) (I x) t := by
  have hT' := hT
  unfold okT at hT
  unfold V_X8_income_0
  refine ⟨xis_R hR (p := 20) (i := 0) rfl rfl, ?_⟩
  have no : ¬ ((0 ≤ z ∧ z < n) ∧ 0 ≤ m ∧ m ≤ u 0 0 8 / 30) → V_X8_income_21 K (ad 20 0) (I z) (I m) (I x) (0 : Int32) t := fun h => by
    unfold V_X8_income_21 V_X8_income_48
    refine xst rfl ?_
    refine ⟨xis_R hR (p := 20) (i := 0) rfl rfl, ?_⟩
    exact mm_no (c := 1) (by decide) hR (fun t hR => xst rfl (k1 h t hR))
  refine mm_isLease hR hn (by omega) hz (fun h => ?_) (fun h => ?_)
  · refine xbf (by decide) ?_
    refine ⟨xis_R hR (p := 20) (i := 0) rfl rfl, ?_⟩
    refine mm_isMonth hR hT' hm (fun h2 => ?_) (fun h2 => ?_)
    · refine xbf (by decide) ?_
      unfold V_X8_income_21
      refine xsf (by decide) ?_
      rw [show (0 : Int32) = I 0 from rfl, show (1000000 : Int32) = I 1000000 from rfl]
      refine mm_in hx ⟨by decide, by decide⟩ ⟨by decide, by decide⟩ (fun h3 => ?_) (fun h3 => ?_)
      · refine xbf (by decide) ?_
        unfold V_X8_income_48
        refine ⟨xis_R hR (p := 20) (i := 0) rfl rfl, ?_⟩
        refine mm_ok hR (fun t hR => xsf (by decide) ?_)
        refine xgR_R hR (p := 20) (i := 0) rfl rfl rfl ?_
        unfold V_X8_at_0
        rw [show (121 : Int32) = I 121 from rfl, I_mul, I_add]
        have hzj : 0 ≤ 121 * z + m ∧ (121 * z + m).toNat = 121 * z.toNat + m.toNat := by omega
        refine mpI0 25 hR (by decide) rfl hzj (show _ < 1452 by omega) (mv_t (by omega)) (fun t hR => ?_)
        have ez : ((z.toNat : Nat) : Int) = z := by omega
        have em : ((m.toNat : Nat) : Int) = m := by omega
        have o : ∀ p i, ¬ (p = 20 ∧ i = 0) → ¬ (p = 4 ∧ i = 400 + z.toNat) → su (su u 20 0 0 0) 4 (400 + z.toNat) m.toNat x p i = u p i := fun p i g1 g2 => by rw [su_f _ g2, su_f _ g1]
        refine ⟨nowN u + 1 - m.toNat + 1, ?_⟩
        have hnow : nowN u ≤ 120 ∧ m.toNat ≤ nowN u ∧ ((nowN u : Nat) : Int) = u 0 0 8 / 30 := by unfold nowN; omega
        have := mm_incomeLoop (K := K) (l := z.toNat) (e := nowN u + 1) (by omega) (by omega) (nowN u + 1 - m.toNat) m.toNat _ t 0 (by omega) hR (by unfold okT; rw [o 0 0 (by omega) (by omega)]; omega) (by rw [o 0 0 (by omega) (by omega)]; omega) (fun m' hm' => by
          have := hbl z.toNat m' (by omega) hm'
          unfold okBl at this ⊢
          rw [o 9 _ (by omega) (by omega), o 10 _ (by omega) (by omega)]
          exact this) (fun k hk => by
          rw [su_r]
          by_cases c : k = m.toNat
          · rw [if_pos ⟨rfl, rfl, c⟩]
            omega
          · rw [if_neg (fun h => c h.2.2), su_r, if_neg (by omega)]
            exact ht _ _ (by omega) hk) (k0 ⟨h, h2⟩ h3)
        rw [ez, em] at this
        exact this
      · refine xbt rfl ?_
        unfold V_X8_income_48
        refine ⟨xis_R hR (p := 20) (i := 0) rfl rfl, ?_⟩
        exact mm_no (c := 2) (by decide) hR (fun t hR => xst rfl (k2 ⟨h, h2⟩ h3 t hR))
    · exact xbt rfl (no (fun h3 => h2 h3.2))
  · exact xbt rfl (no (fun h3 => h h3.1))
end MM13
