/-! ===== what is appended ===== -/
def Txt (s : xS) (l : List Int) : Prop := SBk s ∧ s 12 0 3 = l.length ∧ ∀ j : Nat, j < l.length → s 13 0 (j + 1) = l.getD j 0
def Esb (s s' : xS) : Prop := ∀ p i, p ≠ 12 → p ≠ 13 → s' p i = s p i
theorem Esb.rf {s : xS} : Esb s s := fun _ _ _ _ => rfl
theorem Esb.tr {a b c : xS} (h : Esb a b) (g : Esb b c) : Esb a c := fun p i h1 h2 => (g p i h1 h2).trans (h p i h1 h2)
def AS (ad ad' : xAd) : Prop := ∀ p i, p ≠ 13 → ad' p i = ad p i
theorem AS.rf {ad : xAd} : AS ad ad := fun _ _ _ => rfl
theorem AS.tr {a b c : xAd} (h : AS a b) (g : AS b c) : AS a c := fun p i h1 => (g p i h1).trans (h p i h1)
def pot (c : Int) : Nat := if c < 34 then 2 else if c < 70 then 1 else 0
def gr (s : xS) (need : Int) : Nat := if s 13 0 0 < need then 1 else 0
theorem byte_id {c : Int} (h : 0 ≤ c ∧ c ≤ 127) : (I c).toInt8.toInt32 = I c := by
  rw [← Int32.toInt_inj, Int8.toInt_toInt32, Int32.toInt_toInt8, I_toInt ⟨by omega, by omega⟩, Int.bmod_eq_of_le (by omega) (by omega)]
theorem nar_byte {c : Int} (h : 0 ≤ c ∧ c ≤ 127) : vp_nar .byte (I c) = I c := by
  unfold vp_nar
  simp only [narrow, byte_id h]
theorem grown_c (s : xS) (need : Int) : grown s need 13 0 0 = ncap (s 13 0 0) need := by
  unfold grown
  rw [sup_s]
  exact if_pos rfl
theorem grown_b (s : xS) (need : Int) (j : Nat) : grown s need 13 0 (j + 1) = if ((j + 1 : Nat) : Int) ≤ s 13 0 0 then s 13 0 (j + 1) else 0 := by
  unfold grown
  rw [sup_s]
  exact if_neg (by omega)
theorem grown_o (s : xS) (need : Int) {p i : Nat} (h : p ≠ 13) : grown s need p i = s p i := by
  unfold grown
  exact sup_n _ _ (fun q => h q.1)
theorem grown_txt {s : xS} {l : List Int} {need : Int} (h : Txt s l) (h1 : s 13 0 0 < need) (h2 : need ≤ 69) (h3 : need ≤ l.length + 3) : Txt (grown s need) l ∧ need ≤ grown s need 13 0 0 ∧ pot (grown s need 13 0 0) + 1 ≤ pot (s 13 0 0) := by
  obtain ⟨⟨hc, hC, hB⟩, hl, hj⟩ := h
  have hN : need ≤ ncap (s 13 0 0) need ∧ s 13 0 0 < ncap (s 13 0 0) need ∧ ncap (s 13 0 0) need ≤ 300 ∧ 2 * s 13 0 0 + 2 ≤ ncap (s 13 0 0) need ∧ (s 13 0 0 = 16 ∨ s 13 0 0 = 34 → ncap (s 13 0 0) need = 2 * s 13 0 0 + 2) := by
    unfold ncap
    split <;> omega
  unfold Txt SBk
  rw [grown_c, grown_o s need (p := 12) (by decide)]
  refine ⟨⟨⟨⟨by omega, by omega⟩, by omega, fun j hj2 => ?_⟩, hl, fun j hj2 => ?_⟩, hN.1, ?_⟩
  · rw [grown_b]
    split
    · exact hB j (by omega)
    · omega
  · rw [grown_b, if_pos (by omega)]
    exact hj j hj2
  · unfold pot
    repeat' split
    all_goals omega
theorem txt_app {s : xS} {l : List Int} {c : Int} (h : Txt s l) (hc : 0 ≤ c ∧ c ≤ 127) (h1 : (l.length : Int) + 1 ≤ s 13 0 0) : Txt (su (su s 12 0 3 (l.length + 1)) 13 0 (l.length + 1) c) (l ++ [c]) := by
  obtain ⟨⟨hc0, hC, hB⟩, hl, hj⟩ := h
  unfold Txt SBk
  simp (config := { decide := true }) only [su_r, su_f, sup_n, not_false_eq_true, eq_self_iff_true, true_or, or_true, false_or, or_false, true_and, and_true, false_and, and_false, if_true, if_false, ite_true, ite_false]
  simp only [show ¬ (0 = l.length + 1) by omega, if_false, List.length_append, List.length_singleton]
  refine ⟨⟨by omega, hC, fun j hj2 => ?_⟩, by omega, fun j hj2 => ?_⟩
  · split
    · omega
    · exact hB j hj2
  · by_cases e : j = l.length
    · subst e
      simp
    · rw [if_neg (by omega), hj j (by omega)]
      rw [List.getD_eq_getElem?_getD, List.getD_eq_getElem?_getD, List.getElem?_append_left (by omega)]
section APS
variable {ad : xAd} {q : xL} {lo : Nat → Nat → Prop} {s u : xS} {co : Nat → Nat → xE} {t : xT} {rc rs : Nat}
theorem AS.sb {a : Nat} : AS ad (adu ad 13 0 a) := fun p i h => adu_n ad a (fun q => h q.1)
/-- after the room is made -/
theorem sp_room {K : xT → Prop} {l : List Int} {need : Int} (hR : RR ad q lo s u co t) (hT : Txt s l) (hn : 0 ≤ need ∧ need ≤ 69) (hn3 : need ≤ l.length + 3) (h1 : gr s need ≤ rc) (h2 : 140 * gr s need ≤ rs) (kk : ∀ ad' s' t', AS ad ad' → RR ad' q lo s' u co t' → Esb s s' → Txt s' l → need ≤ s' 13 0 0 → pot (s' 13 0 0) + gr s need ≤ pot (s 13 0 0) → K t') : V_J5_ensureCapacityInternal_d00df_0 K (ad 12 0) (I need) t rc rs := by
  unfold gr at *
  refine sp_ensure hR hT.1 hn (fun c => ?_) (fun c => ?_) (fun c a t' hR => ?_)
  · rw [if_pos c] at h1 h2
    omega
  · rw [if_neg (by omega)] at kk
    exact kk ad s t AS.rf hR Esb.rf hT c (Nat.le_refl _)
  · rw [if_pos c] at kk
    obtain ⟨g1, g2, g3⟩ := grown_txt hT c hn.2 hn3
    exact kk _ _ _ AS.sb hR (fun p i _ h => grown_o s need h) g1 g2 g3
theorem sp_latin {K : Int32 → xT → Prop} (hR : RR ad q lo s u co t) (kk : K (I 1) t) : V_J5_isLatin1_aae02_0 K (ad 12 0) t := by
  unfold V_J5_isLatin1_aae02_0
  refine xbf (by decide) ?_
  refine xgI_R hR (by simp only [clv, eq_self_iff_true, true_or, or_true, false_or, or_false, true_and, and_true, false_and, and_false] <;> omega) rfl rfl ?_
  exact xst rfl kk
/-- a sign -/
theorem sp_appc {K : Option Nat → xT → Prop} {l : List Int} {c : Int} (hR : RR ad q lo s u co t) (hT : Txt s l) (hc : 0 ≤ c ∧ c ≤ 127) (hl : l.length + 1 ≤ 69) (h1 : gr s (l.length + 1) ≤ rc) (h2 : 140 * gr s (l.length + 1) ≤ rs) (kk : ∀ ad' s' t', AS ad ad' → RR ad' q lo s' u co t' → Esb s s' → Txt s' (l ++ [c]) → pot (s' 13 0 0) + gr s (l.length + 1) ≤ pot (s 13 0 0) → K (some (ad 12 0)) t') : V_J4_append_cf468_0 K (ad 12 0) (I c) t rc rs := by
  unfold V_J4_append_cf468_0
  refine ⟨xis_R hR (by simp only [clv, eq_self_iff_true, true_or, or_true, false_or, or_false, true_and, and_true, false_and, and_false] <;> omega) rfl, ?_⟩
  refine ⟨rc, rs, Nat.le_refl _, Nat.le_refl _, ?_⟩
  unfold V_J5_append_3fe6f_0
  refine xgI_R hR (by simp only [clv, eq_self_iff_true, true_or, or_true, false_or, or_false, true_and, and_true, false_and, and_false] <;> omega) rfl rfl ?_
  rw [hT.2.1, show (I (l.length : Int) + (1 : Int32)) = I (l.length + 1) from I_add _ 1]
  refine ⟨xis_R hR (by simp only [clv, eq_self_iff_true, true_or, or_true, false_or, or_false, true_and, and_true, false_and, and_false] <;> omega) rfl, ?_⟩
  refine ⟨rc, rs, Nat.le_refl _, Nat.le_refl _, ?_⟩
  refine sp_room hR hT (by omega) (by omega) h1 h2 (fun ad' s' t hA hR hE hT' hcap hp => ?_)
  rw [← hA 12 0 (by decide)]
  refine ⟨xis_R hR (by simp only [clv, eq_self_iff_true, true_or, or_true, false_or, or_false, true_and, and_true, false_and, and_false] <;> omega) rfl, ?_⟩
  refine sp_latin hR (xbf (by decide) ?_)
  unfold V_J1_canEncode_fc78d_0
  refine xbf (by (try simp only [I_lit, J_lit, I_ofNat, I_neg, I_add, I_sub, I_mul, J_neg, J_add, J_sub, J_mul]); first | (rw [I_lt ⟨by omega, by omega⟩ ⟨by omega, by omega⟩]; omega) | (rw [I_le ⟨by omega, by omega⟩ ⟨by omega, by omega⟩]; omega) | (rw [I_eq ⟨by omega, by omega⟩ ⟨by omega, by omega⟩]; omega) | (rw [J_lt ⟨by omega, by omega⟩ ⟨by omega, by omega⟩]; omega) | (rw [J_le ⟨by omega, by omega⟩ ⟨by omega, by omega⟩]; omega) | (rw [J_eq ⟨by omega, by omega⟩ ⟨by omega, by omega⟩]; omega)) (xbf (by decide) ?_)
  refine xgR_R hR (by simp only [clv, eq_self_iff_true, true_or, or_true, false_or, or_false, true_and, and_true, false_and, and_false] <;> omega) rfl rfl ?_
  refine xgI_R hR (by simp only [clv, eq_self_iff_true, true_or, or_true, false_or, or_false, true_and, and_true, false_and, and_false] <;> omega) rfl rfl ?_
  rw [hT'.2.1, show (I (l.length : Int) + (1 : Int32)) = I (l.length + 1) from I_add _ 1]
  refine xpF_I hR (by simp only [clv, eq_self_iff_true, true_or, or_true, false_or, or_false, true_and, and_true, false_and, and_false] <;> omega) (by decide) rfl (Nat.le_of_ble_eq_true rfl) rfl (fun t hR => ?_)
  rw [byte_id hc, nar_byte hc]
  have hb := hT'.1.2.1
  refine xsI_R (p := 13) (i := 0) (k := l.length + 1) hR rfl (by decide) rfl (by simp (config := { decide := true }) only [su_r, su_f, sup_n, not_false_eq_true, eq_self_iff_true, true_or, or_true, false_or, or_false, true_and, and_true, false_and, and_false, if_true, if_false, ite_true, ite_false]; omega) (by simp (config := { decide := true }) only [su_r, su_f, sup_n, not_false_eq_true, eq_self_iff_true, true_or, or_true, false_or, or_false, true_and, and_true, false_and, and_false, if_true, if_false, ite_true, ite_false]; omega) ⟨_, rfl, fun j hj => ?_⟩ (fun t hR => ?_)
  · show I (fup _ _ _ (j + 1)) = _
    unfold fup
    by_cases e : j = l.length
    · subst e
      rw [if_pos rfl, if_pos (by omega)]
    · rw [if_neg (by omega), if_neg (by omega)]
  · rw [hA 12 0 (by decide)]
    refine kk ad' _ t hA hR (Esb.tr hE (fun p i h12 h13 => ?_)) (txt_app hT' hc hcap) ?_
    · rw [su_f _ (fun h => h13 h.1), su_f _ (fun h => h12 h.1)]
    · simp (config := { decide := true }) only [su_r, su_f, sup_n, not_false_eq_true, eq_self_iff_true, true_or, or_true, false_or, or_false, true_and, and_true, false_and, and_false, if_true, if_false, ite_true, ite_false]
      simp only [show ¬ (0 = l.length + 1) by omega, if_false]
      exact hp
end APS
