/-! ===== the model's signs ===== -/
/-- the model's text so far -/
def MTx (u : xS) (l : List Int) : Prop := u 20 0 39 = l.length ∧ ∀ j : Nat, j < l.length → u 21 38 j = l.getD j 0
/-- the same but for the signs -/
def EL (u u' : xS) : Prop := ∀ p i k, ¬ (p = 21 ∧ i = 38) → ¬ (p = 20 ∧ i = 0 ∧ k = 39) → u' p i k = u p i k
theorem EL.rf {u : xS} : EL u u := fun _ _ _ _ _ => rfl
theorem EL.tr {a b c : xS} (h : EL a b) (g : EL b c) : EL a c := fun p i k h1 h2 => (g p i k h1 h2).trans (h p i k h1 h2)
theorem nar_char {c : Int} (h : 0 ≤ c ∧ c ≤ 127) : vp_nar .char ((I c).toUInt32 % 65536).toInt32 = I c := by
  rw [chr_id (by omega)]
  unfold vp_nar
  obtain ⟨k, rfl⟩ : ∃ k : Nat, c = k := ⟨c.toNat, by omega⟩
  have hk : k < 128 := by omega
  clear h
  revert k
  decide +kernel
def p10 (k : Nat) : Int := match k with | 0 => 1 | 1 => 10 | 2 => 100 | 3 => 1000 | 4 => 10000 | 5 => 100000 | _ => 1000000
theorem p10_rng (k : Nat) : 1 ≤ p10 k ∧ p10 k ≤ 1000000 := by
  unfold p10
  split <;> omega
theorem p10_s {k : Nat} (h : k < 6) : p10 k * 10 = p10 (k + 1) := by
  obtain rfl | rfl | rfl | rfl | rfl | rfl : k = 0 ∨ k = 1 ∨ k = 2 ∨ k = 3 ∨ k = 4 ∨ k = 5 := by omega
  all_goals rfl
/-- how many digits -/
def nd (v : Int) : Nat := if v < 10 then 1 else if v < 100 then 2 else if v < 1000 then 3 else if v < 10000 then 4 else if v < 100000 then 5 else 6
theorem nd_rng (v : Int) : 1 ≤ nd v ∧ nd v ≤ 6 := by
  unfold nd
  repeat' split
  all_goals omega
theorem nd_in {v : Int} {i : Nat} (hv : 0 ≤ v ∧ v < 1000000) (h1 : 1 ≤ i) (h2 : i < nd v) : 0 < v / p10 i := by
  have h3 := nd_rng v
  obtain rfl | rfl | rfl | rfl | rfl : i = 1 ∨ i = 2 ∨ i = 3 ∨ i = 4 ∨ i = 5 := by omega
  all_goals
    unfold nd at h2
    unfold p10
    simp only
    repeat' split at h2
    all_goals omega
theorem nd_end {v : Int} (hv : 0 ≤ v ∧ v < 1000000) : v / p10 (nd v) = 0 := by
  unfold nd
  repeat' split
  all_goals
    unfold p10
    simp only
    omega
def pd (v : Int) : Nat → List Int
  | 0 => []
  | k + 1 => [48 + v / p10 k % 10] ++ pd v k
def pa (v : Int) : Nat → List Int
  | 0 => []
  | k + 1 => [48 + v / p10 k % 10] ++ ((if 0 < k ∧ k % 3 = 0 then [46] else []) ++ pa v k)
theorem pd_digs {v : Int} (hv : 0 ≤ v ∧ v < 1000) : pd v (nd v) = digs v := by
  unfold nd digs
  by_cases c1 : v < 10
  · rw [if_pos c1, if_pos c1]
    show [48 + v / 1 % 10] ++ [] = _
    rw [List.append_nil]
    congr 1
    omega
  · rw [if_neg c1, if_neg c1]
    by_cases c2 : v < 100
    · rw [if_pos c2, if_pos c2]
      show [48 + v / 10 % 10] ++ ([48 + v / 1 % 10] ++ []) = _
      rw [show v / 10 % 10 = v / 10 by omega, show v / 1 % 10 = v % 10 by omega]
      rfl
    · rw [if_neg c2, if_neg c2, if_pos (by omega)]
      show [48 + v / 100 % 10] ++ ([48 + v / 10 % 10] ++ ([48 + v / 1 % 10] ++ [])) = _
      rw [show v / 100 % 10 = v / 100 by omega, show v / 1 % 10 = v % 10 by omega]
      rfl
theorem pa_wh {v : Int} (hv : 0 ≤ v ∧ v < 1000000) : pa v (nd v) = wh v := by
  unfold nd wh digs dg3
  by_cases c1 : v < 10
  · rw [if_pos c1, if_neg (by omega), if_pos c1]
    show [48 + v / 1 % 10] ++ ([] ++ []) = _
    rw [show v / 1 % 10 = v by omega]
    rfl
  · rw [if_neg c1]
    by_cases c2 : v < 100
    · rw [if_pos c2, if_neg (by omega), if_neg c1, if_pos c2]
      show [48 + v / 10 % 10] ++ ([] ++ ([48 + v / 1 % 10] ++ ([] ++ []))) = _
      rw [show v / 10 % 10 = v / 10 by omega, show v / 1 % 10 = v % 10 by omega]
      rfl
    · rw [if_neg c2]
      by_cases c3 : v < 1000
      · rw [if_pos c3, if_neg (by omega), if_neg c1, if_neg c2]
        show [48 + v / 100 % 10] ++ ([] ++ ([48 + v / 10 % 10] ++ ([] ++ ([48 + v / 1 % 10] ++ ([] ++ []))))) = _
        rw [show v / 100 % 10 = v / 100 by omega, show v / 1 % 10 = v % 10 by omega]
        rfl
      · rw [if_neg c3, if_pos (show 0 < v / 1000 by omega)]
        have t1 : v % 1000 / 100 % 10 = v / 100 % 10 := by omega
        have t2 : v % 1000 / 10 % 10 = v / 10 % 10 := by omega
        have t3 : v % 1000 % 10 = v / 1 % 10 := by omega
        rw [t1, t2, t3]
        by_cases c4 : v < 10000
        · rw [if_pos c4, if_pos (show v / 1000 < 10 by omega)]
          show [48 + v / 1000 % 10] ++ ([46] ++ ([48 + v / 100 % 10] ++ ([] ++ ([48 + v / 10 % 10] ++ ([] ++ ([48 + v / 1 % 10] ++ ([] ++ []))))))) = _
          rw [show v / 1000 % 10 = v / 1000 by omega]
          rfl
        · rw [if_neg c4]
          by_cases c5 : v < 100000
          · rw [if_pos c5, if_neg (show ¬ v / 1000 < 10 by omega), if_pos (show v / 1000 < 100 by omega)]
            show [48 + v / 10000 % 10] ++ ([] ++ ([48 + v / 1000 % 10] ++ ([46] ++ ([48 + v / 100 % 10] ++ ([] ++ ([48 + v / 10 % 10] ++ ([] ++ ([48 + v / 1 % 10] ++ ([] ++ []))))))))) = _
            rw [show v / 10000 % 10 = v / 1000 / 10 by omega, show v / 1000 % 10 = v / 1000 % 10 from rfl]
            rfl
          · rw [if_neg c5, if_neg (show ¬ v / 1000 < 10 by omega), if_neg (show ¬ v / 1000 < 100 by omega)]
            show [48 + v / 100000 % 10] ++ ([] ++ ([48 + v / 10000 % 10] ++ ([] ++ ([48 + v / 1000 % 10] ++ ([46] ++ ([48 + v / 100 % 10] ++ ([] ++ ([48 + v / 10 % 10] ++ ([] ++ ([48 + v / 1 % 10] ++ ([] ++ []))))))))))) = _
            rw [show v / 100000 % 10 = v / 1000 / 100 by omega, show v / 10000 % 10 = v / 1000 / 10 % 10 by omega]
            rfl
section MM14
variable {ad : xAd} {q : xL} {lo : Nat → Nat → Prop} {s u : xS} {co : Nat → Nat → xE} {t : xT} {nf n nr : Nat} {l : List Int}
theorem mm_adds {K : xT → Prop} {c : Int} (hR : RR ad q lo s u co t) (hT : MTx u l) (hc : 0 ≤ c ∧ c ≤ 127) (hl : l.length < 100) (kk : ∀ u' t, RR ad q lo s u' co t → EL u u' → MTx u' (l ++ [c]) → K t) : V_X8_adds_0 K (ad 20 0) (I c) t := by
  obtain ⟨h1, h2⟩ := hT
  unfold V_X8_adds_0
  rw [nar_char hc]
  refine xgR_R hR (p := 20) (i := 0) rfl rfl rfl ?_
  refine xgI_R hR (p := 20) (i := 0) rfl rfl rfl ?_
  rw [h1]
  refine mpI (k := 38) (j := l.length) hR (by decide) (by decide) (show _ < 100 from hl) rfl (fun t hR => ?_)
  refine xgI_R hR (p := 20) (i := 0) rfl rfl rfl ?_
  rw [show su u 21 38 l.length c 20 0 39 = (l.length : Int) by rw [su_r, if_neg (by omega)]; exact h1, show (I ((l.length : Nat) : Int) + (1 : Int32)) = I ((l.length : Int) + 1) from I_add _ 1]
  refine mpF (p := 20) (i := 0) (f := 39) hR (by decide) rfl (Nat.le_of_ble_eq_true rfl) rfl (fun t hR => kk _ t hR ?_ ⟨?_, fun j hj => ?_⟩)
  · intro p i k g1 g2
    rw [su_r, if_neg g2, su_r, if_neg (fun h => g1 ⟨h.1, h.2.1⟩)]
  · rw [su_r, if_pos ⟨rfl, rfl, rfl⟩, List.length_append]
    rfl
  · rw [su_r, if_neg (by omega), su_r]
    rw [List.length_append] at hj
    have hj' : j < l.length + 1 := hj
    by_cases c2 : j = l.length
    · rw [if_pos ⟨rfl, rfl, c2⟩, c2]
      simp [List.getD]
    · rw [if_neg (fun h => c2 h.2.2), h2 j (by omega)]
      simp only [List.getD]
      rw [List.getElem?_append_left (by omega)]
theorem mm_powLoop {K : Int32 → xT → Prop} {k : Nat} (hk : k ≤ 6) (kk : K (I (p10 k)) t) : ∀ (r i : Nat), i + r = k → V_X8_powerOf_4 K (r + 1) (I k) (I (p10 i)) (I i) t := by
  intro r
  induction r with
  | zero =>
    intro i hi
    show VS_X8_powerOf_4 (V_X8_powerOf_4 K 0) K _ _ _ _
    unfold VS_X8_powerOf_4
    have e : i = k := by omega
    subst e
    exact xbt (by (try simp only [I_lit, J_lit, I_ofNat, I_neg, I_add, I_sub, I_mul, J_neg, J_add, J_sub, J_mul]); first | (rw [I_lt ⟨by omega, by omega⟩ ⟨by omega, by omega⟩]; omega) | (rw [I_le ⟨by omega, by omega⟩ ⟨by omega, by omega⟩]; omega) | (rw [I_eq ⟨by omega, by omega⟩ ⟨by omega, by omega⟩]; omega) | (rw [J_lt ⟨by omega, by omega⟩ ⟨by omega, by omega⟩]; omega) | (rw [J_le ⟨by omega, by omega⟩ ⟨by omega, by omega⟩]; omega) | (rw [J_eq ⟨by omega, by omega⟩ ⟨by omega, by omega⟩]; omega)) kk
  | succ r ih =>
    intro i hi
    show VS_X8_powerOf_4 (V_X8_powerOf_4 K (r + 1)) K _ _ _ _
    unfold VS_X8_powerOf_4
    refine xbf (by (try simp only [I_lit, J_lit, I_ofNat, I_neg, I_add, I_sub, I_mul, J_neg, J_add, J_sub, J_mul]); first | (rw [I_lt ⟨by omega, by omega⟩ ⟨by omega, by omega⟩]; omega) | (rw [I_le ⟨by omega, by omega⟩ ⟨by omega, by omega⟩]; omega) | (rw [I_eq ⟨by omega, by omega⟩ ⟨by omega, by omega⟩]; omega) | (rw [J_lt ⟨by omega, by omega⟩ ⟨by omega, by omega⟩]; omega) | (rw [J_le ⟨by omega, by omega⟩ ⟨by omega, by omega⟩]; omega) | (rw [J_eq ⟨by omega, by omega⟩ ⟨by omega, by omega⟩]; omega)) ?_
    rw [show (10 : Int32) = I 10 from rfl, I_mul, p10_s (by omega), show (I (i : Int) + 1 : Int32) = I ((i + 1 : Nat) : Int) from I_add _ 1]
    exact ih (i + 1) (by omega)
theorem mm_power {K : Int32 → xT → Prop} {k : Nat} (hk : k ≤ 6) (kk : K (I (p10 k)) t) : V_X8_powerOf_0 K (I k) t := ⟨k + 1, mm_powLoop hk kk k 0 (by omega)⟩
theorem I_pred {k : Nat} : (I (k : Int) + (-1 : Int32)) = I ((k : Int) - 1) := by
  rw [show (-1 : Int32) = I (-1) from rfl, I_add]
  congr 1
theorem I_dg10 {w : Int} (hw : 0 ≤ w ∧ w < 100000000) : (48 : Int32) + xrem (I w / (10 : Int32)) (10 : Int32) = I (48 + w / 10 % 10) := by
  rw [show (48 : Int32) = I 48 from rfl, show (10 : Int32) = I 10 from rfl, I_div ⟨by omega, by omega⟩ ⟨by omega, by omega⟩ hw.1 (by omega), I_rem ⟨by omega, by omega⟩ ⟨by omega, by omega⟩ (by omega) (by omega), I_add]
theorem I_dg1 {w : Int} (hw : 0 ≤ w ∧ w < 100000000) : (48 : Int32) + xrem (I w) (10 : Int32) = I (48 + w % 10) := by
  rw [show (48 : Int32) = I 48 from rfl, show (10 : Int32) = I 10 from rfl, I_rem ⟨by omega, by omega⟩ ⟨by omega, by omega⟩ hw.1 (by omega), I_add]
theorem I_digit {v : Int} {k : Nat} (hv : 0 ≤ v ∧ v < 1000000) : (48 : Int32) + xrem (I v / I (p10 k)) (10 : Int32) = I (48 + v / p10 k % 10) := by
  have hp := p10_rng k
  have h1 : v / p10 k ≤ v := Int.ediv_le_self _ hv.1
  have h2 : 0 ≤ v / p10 k := Int.ediv_nonneg hv.1 (by omega)
  rw [show (48 : Int32) = I 48 from rfl, show (10 : Int32) = I 10 from rfl, I_div ⟨by omega, by omega⟩ ⟨by omega, by omega⟩ hv.1 (by omega), I_rem ⟨by omega, by omega⟩ ⟨by omega, by omega⟩ h2 (by omega), I_add]
theorem mm_prLoop {K : xT → Prop} {v : Int} (hv : 0 ≤ v ∧ v < 1000000) : ∀ (k : Nat) (u : xS) (t : xT) (l : List Int), k ≤ 6 → RR ad q lo s u co t → MTx u l → l.length + k ≤ 99 → (∀ u' t, RR ad q lo s u' co t → EL u u' → MTx u' (l ++ pd v k) → K t) → V_X8_addsNumber_27 K (k + 1) (ad 20 0) (I v) (I ((k : Int) - 1)) t := by
  intro k
  induction k with
  | zero =>
    intro u t l hk hR hT hl kk
    show VS_X8_addsNumber_27 (V_X8_addsNumber_27 K 0) K _ _ _ _
    unfold VS_X8_addsNumber_27
    exact xbt (by decide) (kk u t hR EL.rf (by rw [show pd v 0 = [] from rfl, List.append_nil]; exact hT))
  | succ k ih =>
    intro u t l hk hR hT hl kk
    show VS_X8_addsNumber_27 (V_X8_addsNumber_27 K (k + 1)) K _ _ _ _
    unfold VS_X8_addsNumber_27
    rw [show ((k + 1 : Nat) : Int) - 1 = k by omega]
    refine xbf (by (try simp only [I_lit, J_lit, I_ofNat, I_neg, I_add, I_sub, I_mul, J_neg, J_add, J_sub, J_mul]); first | (rw [I_lt ⟨by omega, by omega⟩ ⟨by omega, by omega⟩]; omega) | (rw [I_le ⟨by omega, by omega⟩ ⟨by omega, by omega⟩]; omega) | (rw [I_eq ⟨by omega, by omega⟩ ⟨by omega, by omega⟩]; omega) | (rw [J_lt ⟨by omega, by omega⟩ ⟨by omega, by omega⟩]; omega) | (rw [J_le ⟨by omega, by omega⟩ ⟨by omega, by omega⟩]; omega) | (rw [J_eq ⟨by omega, by omega⟩ ⟨by omega, by omega⟩]; omega)) ?_
    refine mm_power (by omega) ?_
    have hp := p10_rng k
    refine ⟨(by (try simp only [I_lit, J_lit, I_ofNat, I_neg, I_add, I_sub, I_mul, J_neg, J_add, J_sub, J_mul]); first | (rw [I_lt ⟨by omega, by omega⟩ ⟨by omega, by omega⟩]; omega) | (rw [I_le ⟨by omega, by omega⟩ ⟨by omega, by omega⟩]; omega) | (rw [I_eq ⟨by omega, by omega⟩ ⟨by omega, by omega⟩]; omega) | (rw [J_lt ⟨by omega, by omega⟩ ⟨by omega, by omega⟩]; omega) | (rw [J_le ⟨by omega, by omega⟩ ⟨by omega, by omega⟩]; omega) | (rw [J_eq ⟨by omega, by omega⟩ ⟨by omega, by omega⟩]; omega)), by decide, ?_⟩
    refine ⟨xis_R hR (p := 20) (i := 0) rfl rfl, ?_⟩
    rw [I_digit hv, I_pred]
    refine mm_adds hR hT (by omega) (by omega) (fun u' t hR hE hT' => ?_)
    refine ih u' t _ (by omega) hR hT' (by rw [List.length_append]; show l.length + 1 + k ≤ 99; omega) (fun u2 t hR hE2 hT2 => kk u2 t hR (EL.tr hE hE2) ?_)
    rw [List.append_assoc] at hT2
    exact hT2
theorem mm_ndLoop {K : xT → Prop} {v : Int} (hv : 0 ≤ v ∧ v < 1000000) (hR : RR ad q lo s u co t) (hT : MTx u l) (hl : l.length + 6 ≤ 99) (kk : ∀ u' t, RR ad q lo s u' co t → EL u u' → MTx u' (l ++ pd v (nd v)) → K t) : ∀ (r i : Nat), i + r = nd v → 1 ≤ i → V_X8_addsNumber_2 K (r + 1) (ad 20 0) (I v) (I i) t := by
  have hn := nd_rng v
  intro r
  induction r with
  | zero =>
    intro i hi h1
    show VS_X8_addsNumber_2 (V_X8_addsNumber_2 K 0) K _ _ _ _
    unfold VS_X8_addsNumber_2
    have e : i = nd v := by omega
    subst e
    refine xbf (by (try simp only [I_lit, J_lit, I_ofNat, I_neg, I_add, I_sub, I_mul, J_neg, J_add, J_sub, J_mul]); first | (rw [I_lt ⟨by omega, by omega⟩ ⟨by omega, by omega⟩]; omega) | (rw [I_le ⟨by omega, by omega⟩ ⟨by omega, by omega⟩]; omega) | (rw [I_eq ⟨by omega, by omega⟩ ⟨by omega, by omega⟩]; omega) | (rw [J_lt ⟨by omega, by omega⟩ ⟨by omega, by omega⟩]; omega) | (rw [J_le ⟨by omega, by omega⟩ ⟨by omega, by omega⟩]; omega) | (rw [J_eq ⟨by omega, by omega⟩ ⟨by omega, by omega⟩]; omega)) ?_
    refine mm_power (by omega) ?_
    have hp := p10_rng (nd v)
    rw [I_div ⟨by omega, by omega⟩ ⟨by omega, by omega⟩ hv.1 (by omega), nd_end hv]
    refine ⟨(by (try simp only [I_lit, J_lit, I_ofNat, I_neg, I_add, I_sub, I_mul, J_neg, J_add, J_sub, J_mul]); first | (rw [I_lt ⟨by omega, by omega⟩ ⟨by omega, by omega⟩]; omega) | (rw [I_le ⟨by omega, by omega⟩ ⟨by omega, by omega⟩]; omega) | (rw [I_eq ⟨by omega, by omega⟩ ⟨by omega, by omega⟩]; omega) | (rw [J_lt ⟨by omega, by omega⟩ ⟨by omega, by omega⟩]; omega) | (rw [J_le ⟨by omega, by omega⟩ ⟨by omega, by omega⟩]; omega) | (rw [J_eq ⟨by omega, by omega⟩ ⟨by omega, by omega⟩]; omega)), xbt (by decide) ⟨nd v + 1, ?_⟩⟩
    rw [show (I ((nd v : Nat) : Int) - (1 : Int32)) = I (((nd v : Nat) : Int) - 1) from I_sub _ 1]
    exact mm_prLoop hv (nd v) u t l (by omega) hR hT (by omega) kk
  | succ r ih =>
    intro i hi h1
    show VS_X8_addsNumber_2 (V_X8_addsNumber_2 K (r + 1)) K _ _ _ _
    unfold VS_X8_addsNumber_2
    refine xbf (by (try simp only [I_lit, J_lit, I_ofNat, I_neg, I_add, I_sub, I_mul, J_neg, J_add, J_sub, J_mul]); first | (rw [I_lt ⟨by omega, by omega⟩ ⟨by omega, by omega⟩]; omega) | (rw [I_le ⟨by omega, by omega⟩ ⟨by omega, by omega⟩]; omega) | (rw [I_eq ⟨by omega, by omega⟩ ⟨by omega, by omega⟩]; omega) | (rw [J_lt ⟨by omega, by omega⟩ ⟨by omega, by omega⟩]; omega) | (rw [J_le ⟨by omega, by omega⟩ ⟨by omega, by omega⟩]; omega) | (rw [J_eq ⟨by omega, by omega⟩ ⟨by omega, by omega⟩]; omega)) ?_
    refine mm_power (by omega) ?_
    have hp := p10_rng i
    have hq := nd_in hv h1 (by omega)
    have hq2 : v / p10 i ≤ v := Int.ediv_le_self _ hv.1
    rw [I_div ⟨by omega, by omega⟩ ⟨by omega, by omega⟩ hv.1 (by omega), show (I (i : Int) + 1 : Int32) = I ((i + 1 : Nat) : Int) from I_add _ 1]
    exact ⟨(by (try simp only [I_lit, J_lit, I_ofNat, I_neg, I_add, I_sub, I_mul, J_neg, J_add, J_sub, J_mul]); first | (rw [I_lt ⟨by omega, by omega⟩ ⟨by omega, by omega⟩]; omega) | (rw [I_le ⟨by omega, by omega⟩ ⟨by omega, by omega⟩]; omega) | (rw [I_eq ⟨by omega, by omega⟩ ⟨by omega, by omega⟩]; omega) | (rw [J_lt ⟨by omega, by omega⟩ ⟨by omega, by omega⟩]; omega) | (rw [J_le ⟨by omega, by omega⟩ ⟨by omega, by omega⟩]; omega) | (rw [J_eq ⟨by omega, by omega⟩ ⟨by omega, by omega⟩]; omega)), xbf (by (try simp only [I_lit, J_lit, I_ofNat, I_neg, I_add, I_sub, I_mul, J_neg, J_add, J_sub, J_mul]); first | (rw [I_lt ⟨by omega, by omega⟩ ⟨by omega, by omega⟩]; omega) | (rw [I_le ⟨by omega, by omega⟩ ⟨by omega, by omega⟩]; omega) | (rw [I_eq ⟨by omega, by omega⟩ ⟨by omega, by omega⟩]; omega) | (rw [J_lt ⟨by omega, by omega⟩ ⟨by omega, by omega⟩]; omega) | (rw [J_le ⟨by omega, by omega⟩ ⟨by omega, by omega⟩]; omega) | (rw [J_eq ⟨by omega, by omega⟩ ⟨by omega, by omega⟩]; omega)) (ih (i + 1) (by omega) (by omega))⟩
theorem mm_number {K : xT → Prop} {v : Int} (hv : 0 ≤ v ∧ v < 1000) (hR : RR ad q lo s u co t) (hT : MTx u l) (hl : l.length + 6 ≤ 99) (kk : ∀ u' t, RR ad q lo s u' co t → EL u u' → MTx u' (l ++ digs v) → K t) : V_X8_addsNumber_0 K (ad 20 0) (I v) t := by
  have hn := nd_rng v
  refine ⟨nd v - 1 + 1, mm_ndLoop ⟨hv.1, by omega⟩ hR hT hl ?_ (nd v - 1) 1 (by omega) (Nat.le_refl _)⟩
  rw [pd_digs hv]
  exact kk
def pz (w : Int) : List Int := [44] ++ ([48 + w / 10 % 10] ++ [48 + w % 10])
theorem mm_paLoop {K : xT → Prop} {v w : Int} (hv : 0 ≤ v ∧ v < 1000000) (hw : 0 ≤ w ∧ w < 100000000) : ∀ (k : Nat) (u : xS) (t : xT) (l : List Int), k ≤ 6 → RR ad q lo s u co t → MTx u l → l.length + 2 * k + 3 ≤ 99 → (∀ u' t, RR ad q lo s u' co t → EL u u' → MTx u' (l ++ (pa v k ++ pz w)) → K t) → V_X8_addsAmount_48 K (k + 1) (ad 20 0) (I w) (I v) (I ((k : Int) - 1)) t := by
  intro k
  induction k with
  | zero =>
    intro u t l hk hR hT hl kk
    show VS_X8_addsAmount_48 (V_X8_addsAmount_48 K 0) K _ _ _ _ _
    unfold VS_X8_addsAmount_48
    refine xbt (by decide) ?_
    refine ⟨xis_R hR (p := 20) (i := 0) rfl rfl, ?_⟩
    rw [show (44 : Int32) = I 44 from rfl]
    refine mm_adds hR hT (by decide) (by omega) (fun u1 t hR hE1 hT1 => ⟨by decide, by decide, ?_⟩)
    refine ⟨xis_R hR (p := 20) (i := 0) rfl rfl, ?_⟩
    rw [I_dg10 hw]
    refine mm_adds hR hT1 (by omega) (by rw [List.length_append]; show l.length + 1 < 100; omega) (fun u2 t hR hE2 hT2 => ⟨by decide, ?_⟩)
    refine ⟨xis_R hR (p := 20) (i := 0) rfl rfl, ?_⟩
    rw [I_dg1 hw]
    refine mm_adds hR hT2 (by omega) (by rw [List.length_append, List.length_append]; show l.length + 1 + 1 < 100; omega) (fun u3 t hR hE3 hT3 => kk u3 t hR (EL.tr hE1 (EL.tr hE2 hE3)) ?_)
    rw [show pa v 0 = [] from rfl, List.nil_append]
    unfold pz
    rw [List.append_assoc, List.append_assoc] at hT3
    exact hT3
  | succ k ih =>
    intro u t l hk hR hT hl kk
    show VS_X8_addsAmount_48 (V_X8_addsAmount_48 K (k + 1)) K _ _ _ _ _
    unfold VS_X8_addsAmount_48
    rw [show ((k + 1 : Nat) : Int) - 1 = k by omega]
    refine xbf (by (try simp only [I_lit, J_lit, I_ofNat, I_neg, I_add, I_sub, I_mul, J_neg, J_add, J_sub, J_mul]); first | (rw [I_lt ⟨by omega, by omega⟩ ⟨by omega, by omega⟩]; omega) | (rw [I_le ⟨by omega, by omega⟩ ⟨by omega, by omega⟩]; omega) | (rw [I_eq ⟨by omega, by omega⟩ ⟨by omega, by omega⟩]; omega) | (rw [J_lt ⟨by omega, by omega⟩ ⟨by omega, by omega⟩]; omega) | (rw [J_le ⟨by omega, by omega⟩ ⟨by omega, by omega⟩]; omega) | (rw [J_eq ⟨by omega, by omega⟩ ⟨by omega, by omega⟩]; omega)) ?_
    refine mm_power (by omega) ?_
    have hp := p10_rng k
    refine ⟨(by (try simp only [I_lit, J_lit, I_ofNat, I_neg, I_add, I_sub, I_mul, J_neg, J_add, J_sub, J_mul]); first | (rw [I_lt ⟨by omega, by omega⟩ ⟨by omega, by omega⟩]; omega) | (rw [I_le ⟨by omega, by omega⟩ ⟨by omega, by omega⟩]; omega) | (rw [I_eq ⟨by omega, by omega⟩ ⟨by omega, by omega⟩]; omega) | (rw [J_lt ⟨by omega, by omega⟩ ⟨by omega, by omega⟩]; omega) | (rw [J_le ⟨by omega, by omega⟩ ⟨by omega, by omega⟩]; omega) | (rw [J_eq ⟨by omega, by omega⟩ ⟨by omega, by omega⟩]; omega)), by decide, ?_⟩
    refine ⟨xis_R hR (p := 20) (i := 0) rfl rfl, ?_⟩
    rw [I_digit hv, I_pred]
    have ep : pa v (k + 1) = [48 + v / p10 k % 10] ++ ((if 0 < k ∧ k % 3 = 0 then [46] else []) ++ pa v k) := rfl
    rw [ep] at kk
    refine mm_adds hR hT (by omega) (by omega) (fun u' t hR hE hT' => ?_)
    have hl' : (l ++ [48 + v / p10 k % 10]).length = l.length + 1 := by rw [List.length_append]; rfl
    by_cases c0 : 0 < k
    · refine xbf (by (try simp only [I_lit, J_lit, I_ofNat, I_neg, I_add, I_sub, I_mul, J_neg, J_add, J_sub, J_mul]); first | (rw [I_lt ⟨by omega, by omega⟩ ⟨by omega, by omega⟩]; omega) | (rw [I_le ⟨by omega, by omega⟩ ⟨by omega, by omega⟩]; omega) | (rw [I_eq ⟨by omega, by omega⟩ ⟨by omega, by omega⟩]; omega) | (rw [J_lt ⟨by omega, by omega⟩ ⟨by omega, by omega⟩]; omega) | (rw [J_le ⟨by omega, by omega⟩ ⟨by omega, by omega⟩]; omega) | (rw [J_eq ⟨by omega, by omega⟩ ⟨by omega, by omega⟩]; omega)) ?_
      refine ⟨by decide, ?_⟩
      rw [show (3 : Int32) = I 3 from rfl, I_rem ⟨by omega, by omega⟩ ⟨by omega, by omega⟩ (by omega) (by omega), show (0 : Int32) = I 0 from rfl]
      by_cases c3 : k % 3 = 0
      · rw [if_pos ⟨c0, c3⟩] at kk
        refine xst (by rw [show (k : Int) % 3 = 0 by omega]) ?_
        refine ⟨xis_R hR (p := 20) (i := 0) rfl rfl, ?_⟩
        rw [show (46 : Int32) = I 46 from rfl]
        refine mm_adds hR hT' (by decide) (by rw [hl']; omega) (fun u2 t hR hE2 hT2 => ?_)
        refine ih u2 t _ (by omega) hR hT2 (by rw [List.length_append, hl']; show l.length + 1 + 1 + 2 * k + 3 ≤ 99; omega) (fun u3 t hR hE3 hT3 => kk u3 t hR (EL.tr hE (EL.tr hE2 hE3)) ?_)
        simp only [List.append_assoc] at hT3 ⊢
        exact hT3
      · rw [if_neg (fun h => c3 h.2)] at kk
        refine xsf (by rw [I_eq ⟨by omega, by omega⟩ ⟨by omega, by omega⟩]; omega) ?_
        refine ih u' t _ (by omega) hR hT' (by rw [hl']; omega) (fun u3 t hR hE3 hT3 => kk u3 t hR (EL.tr hE hE3) ?_)
        simp only [List.append_assoc, List.nil_append] at hT3 ⊢
        exact hT3
    · rw [if_neg (fun h => c0 h.1)] at kk
      refine xbt (by (try simp only [I_lit, J_lit, I_ofNat, I_neg, I_add, I_sub, I_mul, J_neg, J_add, J_sub, J_mul]); first | (rw [I_lt ⟨by omega, by omega⟩ ⟨by omega, by omega⟩]; omega) | (rw [I_le ⟨by omega, by omega⟩ ⟨by omega, by omega⟩]; omega) | (rw [I_eq ⟨by omega, by omega⟩ ⟨by omega, by omega⟩]; omega) | (rw [J_lt ⟨by omega, by omega⟩ ⟨by omega, by omega⟩]; omega) | (rw [J_le ⟨by omega, by omega⟩ ⟨by omega, by omega⟩]; omega) | (rw [J_eq ⟨by omega, by omega⟩ ⟨by omega, by omega⟩]; omega)) ?_
      refine ih u' t _ (by omega) hR hT' (by rw [hl']; omega) (fun u3 t hR hE3 hT3 => kk u3 t hR (EL.tr hE hE3) ?_)
      simp only [List.append_assoc, List.nil_append] at hT3 ⊢
      exact hT3
theorem mm_naLoop {K : xT → Prop} {v w : Int} (hv : 0 ≤ v ∧ v < 1000000) (hw : 0 ≤ w ∧ w < 100000000) (hR : RR ad q lo s u co t) (hT : MTx u l) (hl : l.length + 15 ≤ 99) (kk : ∀ u' t, RR ad q lo s u' co t → EL u u' → MTx u' (l ++ (pa v (nd v) ++ pz w)) → K t) : ∀ (r i : Nat), i + r = nd v → 1 ≤ i → V_X8_addsAmount_19 K (r + 1) (ad 20 0) (I w) (I v) (I i) t := by
  have hn := nd_rng v
  intro r
  induction r with
  | zero =>
    intro i hi h1
    show VS_X8_addsAmount_19 (V_X8_addsAmount_19 K 0) K _ _ _ _ _
    unfold VS_X8_addsAmount_19
    have e : i = nd v := by omega
    subst e
    refine xbf (by (try simp only [I_lit, J_lit, I_ofNat, I_neg, I_add, I_sub, I_mul, J_neg, J_add, J_sub, J_mul]); first | (rw [I_lt ⟨by omega, by omega⟩ ⟨by omega, by omega⟩]; omega) | (rw [I_le ⟨by omega, by omega⟩ ⟨by omega, by omega⟩]; omega) | (rw [I_eq ⟨by omega, by omega⟩ ⟨by omega, by omega⟩]; omega) | (rw [J_lt ⟨by omega, by omega⟩ ⟨by omega, by omega⟩]; omega) | (rw [J_le ⟨by omega, by omega⟩ ⟨by omega, by omega⟩]; omega) | (rw [J_eq ⟨by omega, by omega⟩ ⟨by omega, by omega⟩]; omega)) ?_
    refine mm_power (by omega) ?_
    have hp := p10_rng (nd v)
    rw [I_div ⟨by omega, by omega⟩ ⟨by omega, by omega⟩ hv.1 (by omega), nd_end hv]
    refine ⟨(by (try simp only [I_lit, J_lit, I_ofNat, I_neg, I_add, I_sub, I_mul, J_neg, J_add, J_sub, J_mul]); first | (rw [I_lt ⟨by omega, by omega⟩ ⟨by omega, by omega⟩]; omega) | (rw [I_le ⟨by omega, by omega⟩ ⟨by omega, by omega⟩]; omega) | (rw [I_eq ⟨by omega, by omega⟩ ⟨by omega, by omega⟩]; omega) | (rw [J_lt ⟨by omega, by omega⟩ ⟨by omega, by omega⟩]; omega) | (rw [J_le ⟨by omega, by omega⟩ ⟨by omega, by omega⟩]; omega) | (rw [J_eq ⟨by omega, by omega⟩ ⟨by omega, by omega⟩]; omega)), xbt (by decide) ⟨nd v + 1, ?_⟩⟩
    rw [show (I ((nd v : Nat) : Int) - (1 : Int32)) = I (((nd v : Nat) : Int) - 1) from I_sub _ 1]
    exact mm_paLoop hv hw (nd v) u t l (by omega) hR hT (by omega) kk
  | succ r ih =>
    intro i hi h1
    show VS_X8_addsAmount_19 (V_X8_addsAmount_19 K (r + 1)) K _ _ _ _ _
    unfold VS_X8_addsAmount_19
    refine xbf (by (try simp only [I_lit, J_lit, I_ofNat, I_neg, I_add, I_sub, I_mul, J_neg, J_add, J_sub, J_mul]); first | (rw [I_lt ⟨by omega, by omega⟩ ⟨by omega, by omega⟩]; omega) | (rw [I_le ⟨by omega, by omega⟩ ⟨by omega, by omega⟩]; omega) | (rw [I_eq ⟨by omega, by omega⟩ ⟨by omega, by omega⟩]; omega) | (rw [J_lt ⟨by omega, by omega⟩ ⟨by omega, by omega⟩]; omega) | (rw [J_le ⟨by omega, by omega⟩ ⟨by omega, by omega⟩]; omega) | (rw [J_eq ⟨by omega, by omega⟩ ⟨by omega, by omega⟩]; omega)) ?_
    refine mm_power (by omega) ?_
    have hp := p10_rng i
    have hq := nd_in hv h1 (by omega)
    have hq2 : v / p10 i ≤ v := Int.ediv_le_self _ hv.1
    rw [I_div ⟨by omega, by omega⟩ ⟨by omega, by omega⟩ hv.1 (by omega), show (I (i : Int) + 1 : Int32) = I ((i + 1 : Nat) : Int) from I_add _ 1]
    exact ⟨(by (try simp only [I_lit, J_lit, I_ofNat, I_neg, I_add, I_sub, I_mul, J_neg, J_add, J_sub, J_mul]); first | (rw [I_lt ⟨by omega, by omega⟩ ⟨by omega, by omega⟩]; omega) | (rw [I_le ⟨by omega, by omega⟩ ⟨by omega, by omega⟩]; omega) | (rw [I_eq ⟨by omega, by omega⟩ ⟨by omega, by omega⟩]; omega) | (rw [J_lt ⟨by omega, by omega⟩ ⟨by omega, by omega⟩]; omega) | (rw [J_le ⟨by omega, by omega⟩ ⟨by omega, by omega⟩]; omega) | (rw [J_eq ⟨by omega, by omega⟩ ⟨by omega, by omega⟩]; omega)), xbf (by (try simp only [I_lit, J_lit, I_ofNat, I_neg, I_add, I_sub, I_mul, J_neg, J_add, J_sub, J_mul]); first | (rw [I_lt ⟨by omega, by omega⟩ ⟨by omega, by omega⟩]; omega) | (rw [I_le ⟨by omega, by omega⟩ ⟨by omega, by omega⟩]; omega) | (rw [I_eq ⟨by omega, by omega⟩ ⟨by omega, by omega⟩]; omega) | (rw [J_lt ⟨by omega, by omega⟩ ⟨by omega, by omega⟩]; omega) | (rw [J_le ⟨by omega, by omega⟩ ⟨by omega, by omega⟩]; omega) | (rw [J_eq ⟨by omega, by omega⟩ ⟨by omega, by omega⟩]; omega)) (ih (i + 1) (by omega) (by omega))⟩
theorem mm_amount {K : xT → Prop} {c v : Int} (hc : 0 ≤ c ∧ c ≤ 127) (hv : 0 ≤ v ∧ v < 100000000) (hR : RR ad q lo s u co t) (hT : MTx u l) (hl : l.length + 17 ≤ 99) (kk : ∀ u' t, RR ad q lo s u' co t → EL u u' → MTx u' (l ++ am c v) → K t) : V_X8_addsAmount_0 K (ad 20 0) (I c) (I v) t := by
  unfold V_X8_addsAmount_0
  refine ⟨xis_R hR (p := 20) (i := 0) rfl rfl, ?_⟩
  rw [show (32 : Int32) = I 32 from rfl]
  refine mm_adds hR hT (by decide) (by omega) (fun u1 t hR hE1 hT1 => ?_)
  refine ⟨xis_R hR (p := 20) (i := 0) rfl rfl, ?_⟩
  have l1 : (l ++ [(32 : Int)]).length = l.length + 1 := by rw [List.length_append]; rfl
  refine mm_adds hR hT1 hc (by omega) (fun u2 t hR hE2 hT2 => ⟨by decide, ?_⟩)
  have l2 : (l ++ [(32 : Int)] ++ [c]).length = l.length + 2 := by rw [List.length_append, l1]; rfl
  rw [show (100 : Int32) = I 100 from rfl, I_div ⟨by omega, by omega⟩ ⟨by omega, by omega⟩ hv.1 (by omega)]
  have hn := nd_rng (v / 100)
  refine ⟨nd (v / 100) - 1 + 1, mm_naLoop (v := v / 100) (w := v) (by omega) hv hR hT2 (by omega) (fun u3 t hR hE3 hT3 => kk u3 t hR (EL.tr hE1 (EL.tr hE2 hE3)) ?_) (nd (v / 100) - 1) 1 (by omega) (Nat.le_refl _)⟩
  rw [pa_wh (by omega)] at hT3
  unfold am dg2
  unfold pz at hT3
  rw [show v % 100 / 10 % 10 = v / 10 % 10 by omega, show v % 100 % 10 = v % 10 by omega]
  simp only [List.append_assoc, List.cons_append, List.nil_append] at hT3 ⊢
  exact hT3
end MM14
