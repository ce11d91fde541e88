section API2
variable {E : Nat → Nat} {ad : xAd} {q : xL} {lo : Nat → Nat → Prop} {s u : xS} {co : Nat → Nat → xE} {t : xT} {rc rs : Nat}
/-- digits are written ahead of e; then the count is set to e -/
theorem sp_chars {K : Int32 → xT → Prop} {l : List Int} {v : Int} (hO : RO E ad lo co) (hR : RR ad q lo s u co t) (hT : Txt s l) (hv : 0 ≤ v ∧ v ≤ 999) (hec : ((l.length + dsz v : Nat) : Int) ≤ s 13 0 0)
    (kk : ∀ s' t, RR ad q lo s' u co t → Esb s s' → s' 12 = s 12 → s' 13 0 0 = s 13 0 0 → Txt s' l → (∀ j : Nat, j < dsz v → s' 13 0 (l.length + j + 1) = (digs v).getD j 0) → ∀ x, K x t) : V_J6_getChars_ba4f3_0 E K (I v) (I ((l.length + dsz v : Nat) : Int)) (ad 13 0) t := by
  unfold V_J6_getChars_ba4f3_0
  refine xbt (by (try simp only [I_lit, J_lit, I_ofNat, I_neg, I_add, I_sub, I_mul, J_neg, J_add, J_sub, J_mul]); first | (rw [I_lt ⟨by omega, by omega⟩ ⟨by omega, by omega⟩]; omega) | (rw [I_le ⟨by omega, by omega⟩ ⟨by omega, by omega⟩]; omega) | (rw [I_eq ⟨by omega, by omega⟩ ⟨by omega, by omega⟩]; omega) | (rw [J_lt ⟨by omega, by omega⟩ ⟨by omega, by omega⟩]; omega) | (rw [J_le ⟨by omega, by omega⟩ ⟨by omega, by omega⟩]; omega) | (rw [J_eq ⟨by omega, by omega⟩ ⟨by omega, by omega⟩]; omega)) ?_
  refine ⟨fun h => absurd rfl h, fun _ => ⟨2, ?_⟩⟩
  rw [I_neg]
  unfold dsz at hec
  have hE1 : ∀ (j : Nat) (x : Int), Esb s (su s 13 0 (j + 1) x) := fun j x p i h12 h13 => su_f _ (fun h => h13 h.1)
  have e12 : ∀ (s : xS) (j : Nat) (x : Int), su s 13 0 (j + 1) x 12 = s 12 := fun s j x => funext fun i => su_f _ (by omega)
  have e130 : ∀ (s : xS) (j : Nat) (x : Int), su s 13 0 (j + 1) x 13 0 0 = s 13 0 0 := fun s j x => by
    rw [su_r]
    exact if_neg (by omega)
  by_cases c1 : v < 10
  · have hd : dsz v = 1 := by unfold dsz; rw [if_pos c1]
    rw [if_pos c1] at hec
    rw [hd] at kk ⊢
    refine sp_chars2 hO hR hT (by omega) (by rw [if_pos c1]; exact Nat.le_refl _) hec (fun _ t hR hT => ?_) (fun h => absurd c1 h)
    refine kk _ t hR (hE1 _ _) (e12 _ _ _) (e130 _ _ _) hT (fun j hj => ?_) _
    have : j = 0 := by omega
    subst this
    unfold digs
    rw [if_pos c1, su_r]
    simp
  · by_cases c2 : v < 100
    · have hd : dsz v = 2 := by unfold dsz; rw [if_neg c1, if_pos c2]
      rw [if_neg c1, if_pos c2] at hec
      rw [hd] at kk ⊢
      refine sp_chars2 hO hR hT (by omega) (by rw [if_neg c1]; exact Nat.le_refl _) hec (fun h => absurd h c1) (fun _ t hR hT => ?_)
      refine kk _ t hR (Esb.tr (hE1 _ _) (fun p i h12 h13 => su_f _ (fun h => h13 h.1))) ((e12 _ _ _).trans (e12 _ _ _)) ((e130 _ _ _).trans (e130 _ _ _)) hT (fun j hj => ?_) _
      unfold digs
      rw [if_neg c1, if_pos c2, su_r, su_r]
      have : j = 0 ∨ j = 1 := by omega
      rcases this with rfl | rfl
      · simp
      · simp
    · have hd : dsz v = 3 := by unfold dsz; rw [if_neg c1, if_neg c2]
      rw [if_neg c1, if_neg c2] at hec
      rw [hd] at kk ⊢
      obtain ⟨-, ⟨o1, o2, o3⟩, ⟨o4, o5, o6⟩, -⟩ := id hO
      show VS_J6_getChars_ba4f3_22 E (V_J6_getChars_ba4f3_22 E K 1) K _ _ _ _ _
      unfold VS_J6_getChars_ba4f3_22
      refine xbf (by (try simp only [I_lit, J_lit, I_ofNat, I_neg, I_add, I_sub, I_mul, J_neg, J_add, J_sub, J_mul]); first | (rw [I_lt ⟨by omega, by omega⟩ ⟨by omega, by omega⟩]; omega) | (rw [I_le ⟨by omega, by omega⟩ ⟨by omega, by omega⟩]; omega) | (rw [I_eq ⟨by omega, by omega⟩ ⟨by omega, by omega⟩]; omega) | (rw [J_lt ⟨by omega, by omega⟩ ⟨by omega, by omega⟩]; omega) | (rw [J_le ⟨by omega, by omega⟩ ⟨by omega, by omega⟩]; omega) | (rw [J_eq ⟨by omega, by omega⟩ ⟨by omega, by omega⟩]; omega)) ⟨by decide, ?_⟩
      rw [show (100 : Int32) = I 100 from rfl, I_divN (by omega), I_mul, I_sub, show (-(v / 100) * 100 - -v) = v % 100 by omega, o1]
      refine xaB_R (p := 31) hR o2 o3 (Or.inr rfl) (by decide) (by omega) ?_
      have hC := hT.1.2.1
      rw [show (I ((l.length + 3 : Nat) : Int) + (-1 : Int32)) = I ((l.length + 2 : Nat) : Int) by simp only [I_lit, J_lit, I_ofNat, I_neg, I_add, I_sub, I_mul, J_neg, J_add, J_sub, J_mul]; congr 1; omega, show (48 + (((v % 100).toNat : Nat) : Int) % 10) = 48 + v % 10 by omega]
      refine sp_wr hR hT (by omega) (by omega) (by omega) (fun t hR hT => ?_)
      rw [o4]
      refine xaB_R (p := 32) hR o5 o6 (Or.inr rfl) (by decide) (by omega) ?_
      rw [show (I ((l.length + 2 : Nat) : Int) + (-1 : Int32)) = I ((l.length + 1 : Nat) : Int) by simp only [I_lit, J_lit, I_ofNat, I_neg, I_add, I_sub, I_mul, J_neg, J_add, J_sub, J_mul]; congr 1; omega, show (48 + (((v % 100).toNat : Nat) : Int) / 10) = 48 + v / 10 % 10 by omega]
      refine sp_wr hR hT (by omega) (by rw [e130]; omega) (by omega) (fun t hR hT => ?_)
      refine sp_chars2 (v := v / 100) hO hR hT (by omega) (by rw [if_pos (by omega)]; exact Nat.le_refl _) (by rw [e130, e130]; omega) (fun _ t hR hT => ?_) (fun h => absurd (by omega) h)
      refine kk _ t hR (Esb.tr (hE1 _ _) (Esb.tr (fun p i h12 h13 => su_f _ (fun h => h13 h.1)) (fun p i h12 h13 => su_f _ (fun h => h13 h.1)))) (((e12 _ _ _).trans (e12 _ _ _)).trans (e12 _ _ _)) (((e130 _ _ _).trans (e130 _ _ _)).trans (e130 _ _ _)) hT (fun j hj => ?_) _
      unfold digs
      rw [if_neg c1, if_neg c2, su_r, su_r, su_r]
      have : j = 0 ∨ j = 1 ∨ j = 2 := by omega
      rcases this with rfl | rfl | rfl
      · simp
      · simp
      · simp
/-- a number -/
theorem sp_appi {K : Option Nat → xT → Prop} {l : List Int} {v : Int} (hO : RO E ad lo co) (hR : RR ad q lo s u co t) (hT : Txt s l) (hv : 0 ≤ v ∧ v ≤ 999) (hl : l.length + 3 ≤ 69) (h1 : gr s (l.length + dsz v : Nat) ≤ rc) (h2 : 140 * gr s (l.length + dsz v : Nat) ≤ rs) (kk : ∀ ad' s' t', AS ad ad' → RR ad' q lo s' u co t' → Esb s s' → Txt s' (l ++ digs v) → pot (s' 13 0 0) + gr s (l.length + dsz v : Nat) ≤ pot (s 13 0 0) → K (some (ad 12 0)) t') : V_J4_append_bf812_0 E K (ad 12 0) (I v) t rc rs := by
  unfold V_J4_append_bf812_0
  have hd3 : dsz v ≤ 3 := by unfold dsz; split <;> (try split) <;> omega
  refine ⟨xis_R hR (by simp only [clv, eq_self_iff_true, true_or, or_true, false_or, or_false, true_and, and_true, false_and, and_false] <;> omega) rfl, ?_⟩
  refine ⟨rc, rs, Nat.le_refl _, Nat.le_refl _, ?_⟩
  unfold V_J5_append_c97b9_0
  refine xgI_R hR (by simp only [clv, eq_self_iff_true, true_or, or_true, false_or, or_false, true_and, and_true, false_and, and_false] <;> omega) rfl rfl ?_
  refine sp_size10 hv ?_
  rw [hT.2.1, I_add, ← Int.natCast_add]
  refine ⟨xis_R hR (by simp only [clv, eq_self_iff_true, true_or, or_true, false_or, or_false, true_and, and_true, false_and, and_false] <;> omega) rfl, ?_⟩
  refine ⟨rc, rs, Nat.le_refl _, Nat.le_refl _, ?_⟩
  refine sp_room hR hT (by omega) (by omega) h1 h2 (fun ad' s' t hA hR hE hT' hcap hp => ?_)
  rw [← hA 12 0 (by decide)]
  refine ⟨xis_R hR (by simp only [clv, eq_self_iff_true, true_or, or_true, false_or, or_false, true_and, and_true, false_and, and_false] <;> omega) rfl, ?_⟩
  refine sp_latin hR (xbf (by decide) ?_)
  refine xgR_R hR (by simp only [clv, eq_self_iff_true, true_or, or_true, false_or, or_false, true_and, and_true, false_and, and_false] <;> omega) rfl rfl ?_
  refine sp_chars (hO.of hA.ge) hR hT' hv hcap (fun s2 t hR hE2 e12 e130 hT2 hw x => ?_)
  refine xpF_I hR (by simp only [clv, eq_self_iff_true, true_or, or_true, false_or, or_false, true_and, and_true, false_and, and_false] <;> omega) (by decide) rfl (Nat.le_of_ble_eq_true rfl) rfl (fun t hR => ?_)
  rw [hA 12 0 (by decide)]
  refine kk ad' _ t hA hR (Esb.tr hE (Esb.tr hE2 (fun p i h12 h13 => su_f _ (fun h => h12 h.1)))) ?_ ?_
  · have := txt_fin hT2 (w := digs v) (by rw [digs_len, e130]; omega) (fun j hj => hw j (by rw [digs_len] at hj; exact hj))
    rw [digs_len, ← Int.natCast_add] at this
    exact this
  · simp (config := { decide := true }) only [su_r, su_f, sup_n, not_false_eq_true, eq_self_iff_true, true_or, or_true, false_or, or_false, true_and, and_true, false_and, and_false, if_true, if_false, ite_true, ite_false]
    rw [e130]
    exact hp
theorem xgS_R {p i : Nat} {v : Nat} {K : Nat → Int32 → Prop} {lv : Nat → Nat → Prop} {ce : Nat → Nat → xE} (h : Rel ad lv ce t) (hl : lv p i) (hc : ce p i = .inr (11, [.ref v, .int 0])) (kk : K v 0) : xgS t (ad p i) K := ⟨v, 0, h.obj hl hc, kk⟩
/-- " M" -/
theorem sp_apps {K : Option Nat → xT → Prop} {l : List Int} (hO : RO E ad lo co) (hR : RR ad q lo s u co t) (hT : Txt s l) (hl : l.length + 2 ≤ 69) (h1 : gr s (l.length + 2 : Nat) ≤ rc) (h2 : 140 * gr s (l.length + 2 : Nat) ≤ rs) (kk : ∀ ad' s' t', AS ad ad' → RR ad' q lo s' u co t' → Esb s s' → Txt s' (l ++ [32, 77]) → pot (s' 13 0 0) + gr s (l.length + 2 : Nat) ≤ pot (s 13 0 0) → K (some (ad 12 0)) t') : V_J4_append_15ec4_0 K (ad 12 0) (E 3) t rc rs := by
  unfold V_J4_append_15ec4_0
  refine ⟨xis_R hR (by simp only [clv, eq_self_iff_true, true_or, or_true, false_or, or_false, true_and, and_true, false_and, and_false] <;> omega) rfl, ?_⟩
  refine ⟨rc, rs, Nat.le_refl _, Nat.le_refl _, ?_⟩
  unfold V_J5_append_cf1ce_0
  obtain ⟨-, -, -, ⟨p1, p2, p3⟩, ⟨p4, p5, p6⟩⟩ := id hO
  have nb : narrow .byte (.int (0 : Int32)) = .int 0 := rfl
  have len : ∀ {K : Int32 → xT → Prop} {ad : xAd} {s : xS} {t : xT}, RO E ad lo co → RR ad q lo s u co t → K (I 2) t → V_J0_length_8abf5_0 K (ad 33 0) t := by
    intro K ad s t hO hR k
    obtain ⟨-, -, -, ⟨p1, p2, p3⟩, ⟨p4, p5, p6⟩⟩ := hO
    unfold V_J0_length_8abf5_0 V_J0_coder_7d493_0
    refine xgS_R hR p2 p3 ?_
    rw [p4]
    refine xal_I hR (p := 34) p5 p6 ?_
    refine ⟨xis_R hR (p := 33) p2 p3, ?_⟩
    refine xbf (by decide) ?_
    refine xgS_R hR p2 p3 ⟨nb, ?_⟩
    show K (I ((2 : Nat) : Int) >>> ((0 : Int32) &&& 31)) t
    rw [sh0r]
    exact k
  rw [p1]
  refine ⟨xis_R hR (p := 33) p2 p3, len hO hR ?_⟩
  refine xgI_R hR (by simp only [clv, eq_self_iff_true, true_or, or_true, false_or, or_false, true_and, and_true, false_and, and_false] <;> omega) rfl rfl ?_
  rw [hT.2.1, I_add, show ((l.length : Int) + 2) = ((l.length + 2 : Nat) : Int) by omega]
  refine ⟨xis_R hR (by simp only [clv, eq_self_iff_true, true_or, or_true, false_or, or_false, true_and, and_true, false_and, and_false] <;> omega) rfl, ?_⟩
  refine ⟨rc, rs, Nat.le_refl _, Nat.le_refl _, ?_⟩
  refine sp_room hR hT (by omega) (by omega) h1 h2 (fun ad' s' t hA hR hE hT' hcap hp => ?_)
  rw [← hA 12 0 (by decide), ← hA 33 0 (by decide)]
  have hO' := hO.of hA.ge
  obtain ⟨-, -, -, ⟨p1, p2, p3⟩, ⟨p4, p5, p6⟩⟩ := id hO'
  refine xgI_R hR (by simp only [clv, eq_self_iff_true, true_or, or_true, false_or, or_false, true_and, and_true, false_and, and_false] <;> omega) rfl rfl ?_
  rw [hT'.2.1]
  refine ⟨xis_R hR (by simp only [clv, eq_self_iff_true, true_or, or_true, false_or, or_false, true_and, and_true, false_and, and_false] <;> omega) rfl, ?_⟩
  unfold V_J5_putStringAt_47b60_0
  refine ⟨xis_R hR (by simp only [clv, eq_self_iff_true, true_or, or_true, false_or, or_false, true_and, and_true, false_and, and_false] <;> omega) rfl, ?_⟩
  unfold V_J5_inflateIfNeededFor_a7421_0 V_J0_coder_7d493_0
  refine xbf (by decide) ?_
  refine xgI_R hR (by simp only [clv, eq_self_iff_true, true_or, or_true, false_or, or_false, true_and, and_true, false_and, and_false] <;> omega) rfl rfl ?_
  refine ⟨xis_R hR (p := 33) p2 p3, ?_⟩
  refine xbf (by decide) ?_
  refine xgS_R hR p2 p3 ⟨nb, xbt rfl ?_⟩
  refine xgR_R hR (by simp only [clv, eq_self_iff_true, true_or, or_true, false_or, or_false, true_and, and_true, false_and, and_false] <;> omega) rfl rfl ?_
  refine xgI_R hR (by simp only [clv, eq_self_iff_true, true_or, or_true, false_or, or_false, true_and, and_true, false_and, and_false] <;> omega) rfl rfl ?_
  refine ⟨xis_R hR (p := 33) p2 p3, ?_⟩
  unfold V_J0_getBytes_840e7_0 V_J0_coder_7d493_0
  refine ⟨xis_R hR (p := 33) p2 p3, ?_⟩
  refine xbf (by decide) ?_
  refine xgS_R hR p2 p3 ⟨nb, xst rfl ?_⟩
  refine xgS_R hR p2 p3 ?_
  refine xgS_R hR p2 p3 ?_
  rw [p4]
  refine xal_I hR (p := 34) p5 p6 ?_
  rw [sh0l]
  obtain ⟨e4, h4, s4⟩ := hR.1 34 0 p5
  obtain ⟨f, rfl, hf⟩ := sim_int (show sim e4 (.inl (7, 2, .inl (fun j => I (if j = 0 then 32 else 77)))) from by rw [← p6]; exact s4)
  obtain ⟨e13, h13, s13⟩ := hR.1 13 0 rfl
  obtain ⟨g, rfl, hg⟩ := sim_int (show sim e13 (.inl (3, (s' 13 0 0).toNat, .inl (fun j => I (s' 13 0 (j + 1))))) from s13)
  have hC := hT'.1.2.1
  have hn2 : (I ((2 : Nat) : Int)).toNatClampNeg = 2 := rfl
  have hnl : (I (l.length : Int)).toNatClampNeg = l.length := by rw [I_nat ⟨by omega, by omega⟩]; omega
  refine ⟨7, 2, _, f, g, h4, Or.inr rfl, h13, by decide, (by (try simp only [I_lit, J_lit, I_ofNat, I_neg, I_add, I_sub, I_mul, J_neg, J_add, J_sub, J_mul]); first | (rw [I_lt ⟨by omega, by omega⟩ ⟨by omega, by omega⟩]; omega) | (rw [I_le ⟨by omega, by omega⟩ ⟨by omega, by omega⟩]; omega) | (rw [I_eq ⟨by omega, by omega⟩ ⟨by omega, by omega⟩]; omega) | (rw [J_lt ⟨by omega, by omega⟩ ⟨by omega, by omega⟩]; omega) | (rw [J_le ⟨by omega, by omega⟩ ⟨by omega, by omega⟩]; omega) | (rw [J_eq ⟨by omega, by omega⟩ ⟨by omega, by omega⟩]; omega)), by decide, by decide, by rw [hn2, hnl]; omega, fun i hi => ?_, ?_⟩
  · rw [hn2] at hi
    rw [show (0 : Int32).toNatClampNeg + i = i by show 0 + i = i; omega, hf i hi]
    exact fits_byte (by split <;> omega)
  · have hT2 : Txt (su (su s' 13 0 (l.length + 1) 32) 13 0 (l.length + 1 + 1) 77) l := txt_wr (txt_wr hT' (Nat.le_refl _) (by omega)) (by omega) (by omega)
    have hR2 : RR ad' q lo (su (su s' 13 0 (l.length + 1) 32) 13 0 (l.length + 1 + 1) 77) u co (xup t (ad' 13 0) (.inl (3, (s' 13 0 0).toNat, .inl (va_cpy f g (0 : Int32).toNatClampNeg (I (l.length : Int)).toNatClampNeg (I ((2 : Nat) : Int)).toNatClampNeg)))) := by
      refine hR.up (p := 13) (i := 0) rfl ?_ (fun p i _ h => by rw [xce_su _ _ h, xce_su _ _ h])
      have ec : xce ad' (su (su s' 13 0 (l.length + 1) 32) 13 0 (l.length + 1 + 1) 77) u co 13 0 = .inl (3, (s' 13 0 0).toNat, .inl (fun j => I (fup (fup (s' 13 0) (l.length + 1) 32) (l.length + 1 + 1) 77 (j + 1)))) := by
        rw [xce_here (by decide)]
        unfold su
        rw [sup_s]
        show Sum.inl (3, (fup (fup (s' 13 0) (l.length + 1) 32) (l.length + 1 + 1) 77 0).toNat, _) = _
        rw [fup_n _ _ (by omega), fup_n _ _ (by omega)]
      rw [ec]
      refine ⟨rfl, rfl, fun j hj => ?_⟩
      rw [hn2, hnl]
      show (if l.length ≤ j ∧ j < l.length + 2 then f ((0 : Int32).toNatClampNeg + (j - l.length)) else g j) = I (fup (fup (s' 13 0) (l.length + 1) 32) (l.length + 1 + 1) 77 (j + 1))
      rw [show ∀ k, (0 : Int32).toNatClampNeg + k = k from fun k => by show 0 + k = k; omega]
      unfold fup
      by_cases c1 : j = l.length
      · subst c1
        rw [if_pos (by omega), if_neg (by omega), if_pos rfl, hf _ (by omega), if_pos (by omega)]
      · by_cases c2 : j = l.length + 1
        · subst c2
          rw [if_pos (by omega), if_pos rfl, hf _ (by omega), if_neg (by omega)]
        · rw [if_neg (by omega), if_neg (by omega), if_neg (by omega), hg j hj]
    generalize xup t (ad' 13 0) _ = t2 at hR2 ⊢
    have hR := hR2
    refine xgI_R hR (by simp only [clv, eq_self_iff_true, true_or, or_true, false_or, or_false, true_and, and_true, false_and, and_false] <;> omega) rfl rfl ?_
    rw [show su (su s' 13 0 (l.length + 1) 32) 13 0 (l.length + 1 + 1) 77 12 0 3 = (l.length : Int) by simp (config := { decide := true }) only [su_r, su_f, sup_n, not_false_eq_true, eq_self_iff_true, true_or, or_true, false_or, or_false, true_and, and_true, false_and, and_false, if_true, if_false, ite_true, ite_false]; exact hT'.2.1, I_add]
    refine xpF_I hR (by simp only [clv, eq_self_iff_true, true_or, or_true, false_or, or_false, true_and, and_true, false_and, and_false] <;> omega) (by decide) rfl (Nat.le_of_ble_eq_true rfl) rfl (fun t hR => ?_)
    rw [hA 12 0 (by decide)]
    refine kk ad' _ t hA hR (Esb.tr hE (fun p i h12 h13 => by rw [su_f _ (fun h => h12 h.1), su_f _ (fun h => h13 h.1), su_f _ (fun h => h13 h.1)])) ?_ ?_
    · refine txt_fin hT2 (w := [32, 77]) ?_ (fun j hj => ?_)
      · rw [su_r, if_neg (by omega), su_r, if_neg (by omega)]
        show (l.length : Int) + 2 ≤ _
        omega
      · have : j = 0 ∨ j = 1 := by
          have : j < 2 := hj
          omega
        rw [su_r, su_r]
        rcases this with rfl | rfl
        · simp
        · simp
    · simp (config := { decide := true }) only [su_r, su_f, sup_n, not_false_eq_true, eq_self_iff_true, true_or, or_true, false_or, or_false, true_and, and_true, false_and, and_false, if_true, if_false, ite_true, ite_false]
      simp only [show ¬ (0 = l.length + 1 + 1) by omega, show ¬ (0 = l.length + 1) by omega, if_false]
      exact hp
end API2
