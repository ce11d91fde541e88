/-! ===== the line of a bill ===== -/
theorem chr_id {c : Int} (h : 0 ≤ c ∧ c < 65536) : ((I c).toUInt32 % 65536).toInt32 = I c := by
  obtain ⟨n, rfl⟩ : ∃ n : Nat, c = n := ⟨c.toNat, by omega⟩
  have hn : n < 65536 := by omega
  have e : (I (n : Int)).toUInt32 = UInt32.ofNat n := rfl
  rw [e]
  have e2 : UInt32.ofNat n % 65536 = UInt32.ofNat n := by
    apply UInt32.toNat_inj.mp
    rw [UInt32.toNat_mod, UInt32.toNat_ofNat_of_lt' (by show n < 4294967296; omega)]
    exact Nat.mod_eq_of_lt hn
  rw [e2]
  rfl
theorem gr_le {s : xS} {need : Int} (hn : need ≤ 69) : gr s need ≤ pot (s 13 0 0) := by
  unfold gr pot
  repeat' split
  all_goals omega
/-- what may have changed while text was written -/
def SBR (ad : xAd) (s : xS) (ad' : xAd) (s' : xS) : Prop := AS ad ad' ∧ Esb s s' ∧ pot (s' 13 0 0) ≤ pot (s 13 0 0)
theorem SBR.tr {a b c : xAd} {s1 s2 s3 : xS} (h : SBR a s1 b s2) (g : SBR b s2 c s3) : SBR a s1 c s3 := ⟨AS.tr h.1 g.1, Esb.tr h.2.1 g.2.1, Nat.le_trans g.2.2 h.2.2⟩
theorem SBR.rf {a : xAd} {s : xS} : SBR a s a s := ⟨AS.rf, Esb.rf, Nat.le_refl _⟩
section LNS
variable {E : Nat → Nat} {ad : xAd} {q : xL} {lo : Nat → Nat → Prop} {s u : xS} {co : Nat → Nat → xE} {t : xT} {rc rs a0 : Nat} {l : List Int}
theorem ap_c {KK : Nat → Nat → Option Nat → xT → Prop} {c : Int} (hR : RR ad q lo s u co t) (h0 : ad 12 0 = a0) (hT : Txt s l) (hc : 0 ≤ c ∧ c ≤ 127) (hl : l.length + 1 ≤ 69) (h1 : pot (s 13 0 0) ≤ rc) (h2 : 140 * pot (s 13 0 0) ≤ rs) (kk : ∀ m z ad' s' t', SBR ad s ad' s' → RR ad' q lo s' u co t' → ad' 12 0 = a0 → Txt s' (l ++ [c]) → rc + pot (s' 13 0 0) ≤ (rc - m) + pot (s 13 0 0) → rs + 140 * pot (s' 13 0 0) ≤ (rs - z) + 140 * pot (s 13 0 0) → KK m z (some a0) t') : ∃ m z : Nat, m ≤ rc ∧ z ≤ rs ∧ V_J4_append_cf468_0 (KK m z) a0 (I c) t m z := by
  subst h0
  have hg := gr_le (s := s) (need := l.length + 1) (by omega)
  refine ⟨gr s (l.length + 1), 140 * gr s (l.length + 1), by omega, by omega, ?_⟩
  exact sp_appc hR hT hc hl (Nat.le_refl _) (Nat.le_refl _) (fun ad' s' t' hA hR hE hT hp => kk _ _ ad' s' t' ⟨hA, hE, by omega⟩ hR (hA 12 0 (by decide)) hT (by omega) (by omega))
theorem ap_i {KK : Nat → Nat → Option Nat → xT → Prop} {v : Int} (hO : RO E ad lo co) (hR : RR ad q lo s u co t) (h0 : ad 12 0 = a0) (hT : Txt s l) (hv : 0 ≤ v ∧ v ≤ 999) (hl : l.length + 3 ≤ 69) (h1 : pot (s 13 0 0) ≤ rc) (h2 : 140 * pot (s 13 0 0) ≤ rs) (kk : ∀ m z ad' s' t', SBR ad s ad' s' → RR ad' q lo s' u co t' → ad' 12 0 = a0 → Txt s' (l ++ digs v) → rc + pot (s' 13 0 0) ≤ (rc - m) + pot (s 13 0 0) → rs + 140 * pot (s' 13 0 0) ≤ (rs - z) + 140 * pot (s 13 0 0) → KK m z (some a0) t') : ∃ m z : Nat, m ≤ rc ∧ z ≤ rs ∧ V_J4_append_bf812_0 E (KK m z) a0 (I v) t m z := by
  subst h0
  have hd3 : dsz v ≤ 3 := by unfold dsz; split <;> (try split) <;> omega
  have hg := gr_le (s := s) (need := (l.length + dsz v : Nat)) (by omega)
  refine ⟨gr s (l.length + dsz v : Nat), 140 * gr s (l.length + dsz v : Nat), by omega, by omega, ?_⟩
  exact sp_appi hO hR hT hv hl (Nat.le_refl _) (Nat.le_refl _) (fun ad' s' t' hA hR hE hT hp => kk _ _ ad' s' t' ⟨hA, hE, by omega⟩ hR (hA 12 0 (by decide)) hT (by omega) (by omega))
theorem ap_s {KK : Nat → Nat → Option Nat → xT → Prop} (hO : RO E ad lo co) (hR : RR ad q lo s u co t) (h0 : ad 12 0 = a0) (hT : Txt s l) (hl : l.length + 2 ≤ 69) (h1 : pot (s 13 0 0) ≤ rc) (h2 : 140 * pot (s 13 0 0) ≤ rs) (kk : ∀ m z ad' s' t', SBR ad s ad' s' → RR ad' q lo s' u co t' → ad' 12 0 = a0 → Txt s' (l ++ [32, 77]) → rc + pot (s' 13 0 0) ≤ (rc - m) + pot (s 13 0 0) → rs + 140 * pot (s' 13 0 0) ≤ (rs - z) + 140 * pot (s 13 0 0) → KK m z (some a0) t') : ∃ m z : Nat, m ≤ rc ∧ z ≤ rs ∧ V_J4_append_15ec4_0 (KK m z) a0 (E 3) t m z := by
  subst h0
  have hg := gr_le (s := s) (need := (l.length + 2 : Nat)) (by omega)
  refine ⟨gr s (l.length + 2 : Nat), 140 * gr s (l.length + 2 : Nat), by omega, by omega, ?_⟩
  exact sp_apps hO hR hT hl (Nat.le_refl _) (Nat.le_refl _) (fun ad' s' t' hA hR hE hT hp => kk _ _ ad' s' t' ⟨hA, hE, by omega⟩ hR (hA 12 0 (by decide)) hT (by omega) (by omega))
theorem sp_dgStep {K : xT → Prop} {n un : Int} {f : Nat} (hR : RR ad q lo s u co t) (h0 : ad 12 0 = a0) (hT : Txt s l) (hn : 0 ≤ n ∧ n ≤ 1000000000) (hu : 0 < un ∧ un ≤ 1000) (hl : l.length + 1 ≤ 69) (h1 : pot (s 13 0 0) ≤ rc) (h2 : 140 * pot (s 13 0 0) ≤ rs) (kk : ∀ rc' rs' ad' s' t', SBR ad s ad' s' → RR ad' q lo s' u co t' → ad' 12 0 = a0 → Txt s' (l ++ [48 + n / un % 10]) → pot (s' 13 0 0) ≤ rc' → 140 * pot (s' 13 0 0) ≤ rs' → V_X7_writeDigits_2 K f a0 (I n) (I (un / 10)) t' rc' rs') : V_X7_writeDigits_2 K (f + 1) a0 (I n) (I un) t rc rs := by
  show VS_X7_writeDigits_2 (V_X7_writeDigits_2 K f) K _ _ _ _ _ _
  unfold VS_X7_writeDigits_2
  have hq0 : 0 ≤ n / un := Int.ediv_nonneg hn.1 (by omega)
  have hq1 : n / un ≤ n := Int.ediv_le_self _ hn.1
  refine xbf (by (try simp only [I_lit, J_lit, I_ofNat, I_neg, I_add, I_sub, I_mul, J_neg, J_add, J_sub, J_mul]); first | (rw [I_lt ⟨by omega, by omega⟩ ⟨by omega, by omega⟩]; omega) | (rw [I_le ⟨by omega, by omega⟩ ⟨by omega, by omega⟩]; omega) | (rw [I_eq ⟨by omega, by omega⟩ ⟨by omega, by omega⟩]; omega) | (rw [J_lt ⟨by omega, by omega⟩ ⟨by omega, by omega⟩]; omega) | (rw [J_le ⟨by omega, by omega⟩ ⟨by omega, by omega⟩]; omega) | (rw [J_eq ⟨by omega, by omega⟩ ⟨by omega, by omega⟩]; omega)) ⟨(by (try simp only [I_lit, J_lit, I_ofNat, I_neg, I_add, I_sub, I_mul, J_neg, J_add, J_sub, J_mul]); first | (rw [I_lt ⟨by omega, by omega⟩ ⟨by omega, by omega⟩]; omega) | (rw [I_le ⟨by omega, by omega⟩ ⟨by omega, by omega⟩]; omega) | (rw [I_eq ⟨by omega, by omega⟩ ⟨by omega, by omega⟩]; omega) | (rw [J_lt ⟨by omega, by omega⟩ ⟨by omega, by omega⟩]; omega) | (rw [J_le ⟨by omega, by omega⟩ ⟨by omega, by omega⟩]; omega) | (rw [J_eq ⟨by omega, by omega⟩ ⟨by omega, by omega⟩]; omega)), by decide, ?_⟩
  refine ⟨by rw [← h0]; exact xis_R hR (p := 12) (i := 0) rfl rfl, ?_⟩
  rw [show (10 : Int32) = I 10 from rfl, I_div ⟨by omega, by omega⟩ ⟨by omega, by omega⟩ hn.1 hu.1, I_rem ⟨by omega, by omega⟩ ⟨by omega, by omega⟩ hq0 (by omega), show (48 : Int32) = I 48 from rfl, I_add, chr_id (by omega)]
  refine ap_c hR h0 hT (by omega) hl h1 h2 (fun m z ad' s' t' hB hR h0 hT g1 g2 => ⟨by decide, ?_⟩)
  rw [I_div ⟨by omega, by omega⟩ ⟨by omega, by omega⟩ (by omega) (by omega)]
  exact kk _ _ ad' s' t' hB hR h0 hT (by omega) (by omega)
theorem sp_dgEnd {K : xT → Prop} {n : Int} {f : Nat} (kk : K t) : V_X7_writeDigits_2 K (f + 1) a0 (I n) (I 0) t rc rs := by
  show VS_X7_writeDigits_2 _ _ _ _ _ _ _ _
  unfold VS_X7_writeDigits_2
  exact xbt (by decide) kk
def dg2 (n : Int) : List Int := [48 + n / 10 % 10, 48 + n % 10]
def dg3 (n : Int) : List Int := [48 + n / 100 % 10, 48 + n / 10 % 10, 48 + n % 10]
theorem sp_dg2 {K : xT → Prop} {n : Int} (hR : RR ad q lo s u co t) (h0 : ad 12 0 = a0) (hT : Txt s l) (hn : 0 ≤ n ∧ n ≤ 1000000000) (hl : l.length + 2 ≤ 69) (h1 : pot (s 13 0 0) ≤ rc) (h2 : 140 * pot (s 13 0 0) ≤ rs) (kk : ∀ ad' s' t', SBR ad s ad' s' → RR ad' q lo s' u co t' → ad' 12 0 = a0 → Txt s' (l ++ dg2 n) → K t') : V_X7_writeDigits_0 K a0 (I n) (10 : Int32) t rc rs := by
  refine ⟨3, ?_⟩
  refine sp_dgStep (un := 10) hR h0 hT hn (by decide) (by omega) h1 h2 (fun rc rs ad1 s1 t hB1 hR h0 hT1 g1 g2 => ?_)
  refine sp_dgStep (un := 1) hR h0 hT1 hn (by decide) (by simp; omega) g1 g2 (fun rc rs ad2 s2 t hB2 hR h0 hT2 g1 g2 => ?_)
  refine sp_dgEnd (kk ad2 s2 t (SBR.tr hB1 hB2) hR h0 ?_)
  rw [Int.ediv_one, List.append_assoc] at hT2
  exact hT2
theorem sp_dg3 {K : xT → Prop} {n : Int} (hR : RR ad q lo s u co t) (h0 : ad 12 0 = a0) (hT : Txt s l) (hn : 0 ≤ n ∧ n ≤ 1000000000) (hl : l.length + 3 ≤ 69) (h1 : pot (s 13 0 0) ≤ rc) (h2 : 140 * pot (s 13 0 0) ≤ rs) (kk : ∀ ad' s' t', SBR ad s ad' s' → RR ad' q lo s' u co t' → ad' 12 0 = a0 → Txt s' (l ++ dg3 n) → K t') : V_X7_writeDigits_0 K a0 (I n) (100 : Int32) t rc rs := by
  refine ⟨4, ?_⟩
  refine sp_dgStep (un := 100) hR h0 hT hn (by decide) (by omega) h1 h2 (fun rc rs ad1 s1 t hB1 hR h0 hT1 g1 g2 => ?_)
  refine sp_dgStep (un := 10) hR h0 hT1 hn (by decide) (by simp; omega) g1 g2 (fun rc rs ad2 s2 t hB2 hR h0 hT2 g1 g2 => ?_)
  refine sp_dgStep (un := 1) hR h0 hT2 hn (by decide) (by simp; omega) g1 g2 (fun rc rs ad3 s3 t hB3 hR h0 hT3 g1 g2 => ?_)
  refine sp_dgEnd (kk ad3 s3 t (SBR.tr (SBR.tr hB1 hB2) hB3) hR h0 ?_)
  rw [Int.ediv_one, List.append_assoc, List.append_assoc] at hT3
  exact hT3
def wh (w : Int) : List Int := if 0 < w / 1000 then digs (w / 1000) ++ ([46] ++ dg3 (w % 1000)) else digs w
theorem sp_whole {K : xT → Prop} {w : Int} (hO : RO E ad lo co) (hR : RR ad q lo s u co t) (h0 : ad 12 0 = a0) (hT : Txt s l) (hw : 0 ≤ w ∧ w < 1000000) (hl : l.length + 7 ≤ 69) (h1 : pot (s 13 0 0) ≤ rc) (h2 : 140 * pot (s 13 0 0) ≤ rs) (kk : ∀ ad' s' t', SBR ad s ad' s' → RR ad' q lo s' u co t' → ad' 12 0 = a0 → Txt s' (l ++ wh w) → K t') : V_X7_writeWhole_0 E K a0 (I w) t rc rs := by
  refine ⟨4, ?_⟩
  have x12 : ∀ {ad : xAd} {s : xS} {t : xT}, RR ad q lo s u co t → ad 12 0 = a0 → xis t a0 9 := fun hR h0 => by rw [← h0]; exact xis_R hR (p := 12) (i := 0) rfl rfl
  have d1 : I 1000000 / (1000 : Int32) = I 1000 := by decide
  have d2 : I 1000 / (1000 : Int32) = I 1 := by decide
  have d3 : I 1 / (1000 : Int32) = I 0 := by decide
  have r1 : xrem (I w / I 1000000) (1000 : Int32) = I 0 := by
    rw [I_div ⟨by omega, by omega⟩ ⟨by omega, by omega⟩ (by omega) (by omega), show (1000 : Int32) = I 1000 from rfl, I_rem ⟨by omega, by omega⟩ ⟨by omega, by omega⟩ (by omega) (by omega)]
    congr 1
    omega
  have r2 : xrem (I w / I 1000) (1000 : Int32) = I (w / 1000) := by
    rw [I_div ⟨by omega, by omega⟩ ⟨by omega, by omega⟩ (by omega) (by omega), show (1000 : Int32) = I 1000 from rfl, I_rem ⟨by omega, by omega⟩ ⟨by omega, by omega⟩ (by omega) (by omega)]
    congr 1
    omega
  have r3 : xrem (I w / I 1) (1000 : Int32) = I (w % 1000) := by
    rw [I_div ⟨by omega, by omega⟩ ⟨by omega, by omega⟩ (by omega) (by omega), show (1000 : Int32) = I 1000 from rfl, I_rem ⟨by omega, by omega⟩ ⟨by omega, by omega⟩ (by omega) (by omega), Int.ediv_one]
  show VS_X7_writeWhole_5 E (V_X7_writeWhole_5 E K 3) K a0 (I w) (0 : Int32) (I 1000000) t rc rs
  unfold VS_X7_writeWhole_5
  refine xbf (by decide) ⟨by decide, by decide, xbt rfl ?_⟩
  rw [r1]
  refine xbf (by decide) (xsf (by decide) ⟨by decide, ?_⟩)
  rw [d1]
  show VS_X7_writeWhole_5 E (V_X7_writeWhole_5 E K 2) K a0 (I w) (0 : Int32) (I 1000) t rc rs
  unfold VS_X7_writeWhole_5
  refine xbf (by decide) ⟨by decide, by decide, xbt rfl ?_⟩
  rw [r2, d2]
  unfold wh at kk
  by_cases c : 0 < w / 1000
  · rw [if_pos c] at kk
    refine xbt (by (try simp only [I_lit, J_lit, I_ofNat, I_neg, I_add, I_sub, I_mul, J_neg, J_add, J_sub, J_mul]); first | (rw [I_lt ⟨by omega, by omega⟩ ⟨by omega, by omega⟩]; omega) | (rw [I_le ⟨by omega, by omega⟩ ⟨by omega, by omega⟩]; omega) | (rw [I_eq ⟨by omega, by omega⟩ ⟨by omega, by omega⟩]; omega) | (rw [J_lt ⟨by omega, by omega⟩ ⟨by omega, by omega⟩]; omega) | (rw [J_le ⟨by omega, by omega⟩ ⟨by omega, by omega⟩]; omega) | (rw [J_eq ⟨by omega, by omega⟩ ⟨by omega, by omega⟩]; omega)) ⟨x12 hR h0, ?_⟩
    refine ap_i hO hR h0 hT (by omega) (by omega) (by omega) (by omega) (fun m z ad1 s1 t hB1 hR h0 hT1 g1 g2 => ⟨by decide, ?_⟩)
    have hp1 := hB1.2.2
    have hd3 : (digs (w / 1000)).length ≤ 3 := by rw [digs_len]; unfold dsz; split <;> (try split) <;> omega
    show VS_X7_writeWhole_5 E (V_X7_writeWhole_5 E K 1) K a0 (I w) (1 : Int32) (I 1) t _ _
    unfold VS_X7_writeWhole_5
    refine xbf (by decide) ⟨by decide, by decide, xbf (by decide) ⟨x12 hR h0, ?_⟩⟩
    rw [r3, d3, show (46 : Int32) = I 46 from rfl]
    refine ap_c hR h0 hT1 (by decide) (by simp; omega) (by omega) (by omega) (fun m2 z2 ad2 s2 t hB2 hR h0 hT2 g3 g4 => ?_)
    have hp2 := hB2.2.2
    have hO2 := hO
    refine ⟨_, _, Nat.le_refl _, Nat.le_refl _, ?_⟩
    refine sp_dg3 hR h0 hT2 (by omega) (by simp; omega) (by omega) (by omega) (fun ad3 s3 t hB3 hR h0 hT3 => ⟨by decide, ?_⟩)
    show VS_X7_writeWhole_5 E (V_X7_writeWhole_5 E K 0) K a0 (I w) (1 : Int32) (I 0) t _ _
    unfold VS_X7_writeWhole_5
    refine xbt (by decide) (kk _ _ _ (SBR.tr (SBR.tr hB1 hB2) hB3) hR h0 ?_)
    rw [List.append_assoc, List.append_assoc] at hT3
    exact hT3
  · rw [if_neg c] at kk
    refine xbf (by (try simp only [I_lit, J_lit, I_ofNat, I_neg, I_add, I_sub, I_mul, J_neg, J_add, J_sub, J_mul]); first | (rw [I_lt ⟨by omega, by omega⟩ ⟨by omega, by omega⟩]; omega) | (rw [I_le ⟨by omega, by omega⟩ ⟨by omega, by omega⟩]; omega) | (rw [I_eq ⟨by omega, by omega⟩ ⟨by omega, by omega⟩]; omega) | (rw [J_lt ⟨by omega, by omega⟩ ⟨by omega, by omega⟩]; omega) | (rw [J_le ⟨by omega, by omega⟩ ⟨by omega, by omega⟩]; omega) | (rw [J_eq ⟨by omega, by omega⟩ ⟨by omega, by omega⟩]; omega)) (xsf (by decide) ⟨by decide, ?_⟩)
    show VS_X7_writeWhole_5 E (V_X7_writeWhole_5 E K 1) K a0 (I w) (0 : Int32) (I 1) t rc rs
    unfold VS_X7_writeWhole_5
    refine xbf (by decide) ⟨by decide, by decide, xbt rfl ?_⟩
    rw [r3, show w % 1000 = w by omega]
    have fin : ∀ {t : xT} {rc rs : Nat}, K t → V_X7_writeWhole_5 E K 1 a0 (I w) (1 : Int32) (I 0) t rc rs := fun {t rc rs} h => by
      show VS_X7_writeWhole_5 E (V_X7_writeWhole_5 E K 0) K a0 (I w) (1 : Int32) (I 0) t rc rs
      unfold VS_X7_writeWhole_5
      exact xbt (by decide) h
    have go : ∃ m z : Nat, m ≤ rc ∧ z ≤ rs ∧ V_J4_append_bf812_0 E (fun o_2 t_1 => (¬ (1000 : Int32) = 0 ∧ V_X7_writeWhole_5 E K 1 a0 (I w) (1 : Int32) (I 1 / (1000 : Int32)) t_1 (rc - m) (rs - z))) a0 (I w) t m z := by
      refine ap_i hO hR h0 hT (by omega) (by omega) (by omega) (by omega) (fun m z ad1 s1 t hB1 hR h0 hT1 g1 g2 => ⟨by decide, ?_⟩)
      rw [d3]
      exact fin (kk _ _ _ hB1 hR h0 hT1)
    by_cases c0 : 0 < w
    · exact xbt (by (try simp only [I_lit, J_lit, I_ofNat, I_neg, I_add, I_sub, I_mul, J_neg, J_add, J_sub, J_mul]); first | (rw [I_lt ⟨by omega, by omega⟩ ⟨by omega, by omega⟩]; omega) | (rw [I_le ⟨by omega, by omega⟩ ⟨by omega, by omega⟩]; omega) | (rw [I_eq ⟨by omega, by omega⟩ ⟨by omega, by omega⟩]; omega) | (rw [J_lt ⟨by omega, by omega⟩ ⟨by omega, by omega⟩]; omega) | (rw [J_le ⟨by omega, by omega⟩ ⟨by omega, by omega⟩]; omega) | (rw [J_eq ⟨by omega, by omega⟩ ⟨by omega, by omega⟩]; omega)) ⟨x12 hR h0, go⟩
    · exact xbf (by (try simp only [I_lit, J_lit, I_ofNat, I_neg, I_add, I_sub, I_mul, J_neg, J_add, J_sub, J_mul]); first | (rw [I_lt ⟨by omega, by omega⟩ ⟨by omega, by omega⟩]; omega) | (rw [I_le ⟨by omega, by omega⟩ ⟨by omega, by omega⟩]; omega) | (rw [I_eq ⟨by omega, by omega⟩ ⟨by omega, by omega⟩]; omega) | (rw [J_lt ⟨by omega, by omega⟩ ⟨by omega, by omega⟩]; omega) | (rw [J_le ⟨by omega, by omega⟩ ⟨by omega, by omega⟩]; omega) | (rw [J_eq ⟨by omega, by omega⟩ ⟨by omega, by omega⟩]; omega)) (xst (by decide) ⟨x12 hR h0, go⟩)
theorem wh_len {w : Int} : (wh w).length ≤ 7 := by
  have h : ∀ v, (digs v).length ≤ 3 := fun v => by rw [digs_len]; unfold dsz; split <;> (try split) <;> omega
  unfold wh
  split
  · have := h (w / 1000)
    simp [dg3]
    omega
  · have := h w
    omega
def am (c v : Int) : List Int := [32] ++ ([c] ++ (wh (v / 100) ++ ([44] ++ dg2 (v % 100))))
theorem am_len {c v : Int} : (am c v).length ≤ 12 := by
  have := wh_len (w := v / 100)
  unfold am
  simp [dg2]
  omega
theorem sp_amount1 {K : xT → Prop} {c v : Int} (hO : RO E ad lo co) (hR : RR ad q lo s u co t) (h0 : ad 12 0 = a0) (hT : Txt s l) (hc : 0 ≤ c ∧ c ≤ 127) (hv : 0 ≤ v ∧ v < 100000000) (hl : l.length + 12 ≤ 69) (h1 : 2 * pot (s 13 0 0) ≤ rc) (h2 : 280 * pot (s 13 0 0) ≤ rs) (kk : ∀ ad' s' t', SBR ad s ad' s' → RR ad' q lo s' u co t' → ad' 12 0 = a0 → Txt s' (l ++ am c v) → K t') : V_X7_writeAmount_0 E K a0 (I c) (I v) t rc rs := by
  have x12 : ∀ {ad : xAd} {s : xS} {t : xT}, RR ad q lo s u co t → ad 12 0 = a0 → xis t a0 9 := fun hR h0 => by rw [← h0]; exact xis_R hR (p := 12) (i := 0) rfl rfl
  unfold V_X7_writeAmount_0
  rw [show (32 : Int32) = I 32 from rfl, show (44 : Int32) = I 44 from rfl, show (100 : Int32) = I 100 from rfl, I_div ⟨by omega, by omega⟩ ⟨by omega, by omega⟩ (by omega) (by omega), I_rem ⟨by omega, by omega⟩ ⟨by omega, by omega⟩ (by omega) (by omega)]
  refine ⟨x12 hR h0, ?_⟩
  refine ap_c hR h0 hT (by decide) (by omega) (by omega) (by omega) (fun m1 z1 ad1 s1 t hB1 hR h0 hT1 g1 g2 => ⟨x12 hR h0, ?_⟩)
  have p1 := hB1.2.2
  refine ap_c hR h0 hT1 hc (by simp; omega) (by omega) (by omega) (fun m2 z2 ad2 s2 t hB2 hR h0 hT2 g3 g4 => ⟨by decide, ?_⟩)
  have p2 := hB2.2.2
  have w7 := wh_len (w := v / 100)
  refine ⟨pot (s2 13 0 0), 140 * pot (s2 13 0 0), by omega, by omega, ?_⟩
  refine sp_whole ((hO.of hB1.1.ge).of hB2.1.ge) hR h0 hT2 (by omega) (by simp; omega) (Nat.le_refl _) (Nat.le_refl _) (fun ad3 s3 t hB3 hR h0 hT3 => ⟨x12 hR h0, ?_⟩)
  have p3 := hB3.2.2
  refine ap_c hR h0 hT3 (by decide) (by simp; omega) (by omega) (by omega) (fun m4 z4 ad4 s4 t hB4 hR h0 hT4 g5 g6 => ⟨by decide, ?_⟩)
  have p4 := hB4.2.2
  refine ⟨_, _, Nat.le_refl _, Nat.le_refl _, ?_⟩
  refine sp_dg2 hR h0 hT4 (by omega) (by simp; omega) (by omega) (by omega) (fun ad5 s5 t hB5 hR h0 hT5 => ?_)
  refine kk _ _ _ (SBR.tr (SBR.tr (SBR.tr (SBR.tr hB1 hB2) hB3) hB4) hB5) hR h0 ?_
  rw [List.append_assoc, List.append_assoc, List.append_assoc, List.append_assoc] at hT5
  exact hT5
end LNS
