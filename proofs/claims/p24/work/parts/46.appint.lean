/-! ===== numbers and " M" are appended ===== -/
/-- what nobody writes: the empty row, the digits, the text " M" -/
def RO (E : Nat → Nat) (ad : xAd) (lo : Nat → Nat → Prop) (co : Nat → Nat → xE) : Prop :=
  (E 0 = ad 30 0 ∧ lo 30 0 ∧ co 30 0 = .inl (8, 0, .inr (.inr (.inr (.inr (fun _ => none)))))) ∧
  (E 1 = ad 31 0 ∧ lo 31 0 ∧ co 31 0 = .inl (7, 100, .inl (fun r => I (48 + (r : Int) % 10)))) ∧
  (E 2 = ad 32 0 ∧ lo 32 0 ∧ co 32 0 = .inl (7, 100, .inl (fun r => I (48 + (r : Int) / 10)))) ∧
  (E 3 = ad 33 0 ∧ lo 33 0 ∧ co 33 0 = .inr (11, [.ref (E 4), .int 0])) ∧
  (E 4 = ad 34 0 ∧ lo 34 0 ∧ co 34 0 = .inl (7, 2, .inl (fun j => I (if j = 0 then 32 else 77))))
theorem RO.of {E : Nat → Nat} {ad ad' : xAd} {lo : Nat → Nat → Prop} {co : Nat → Nat → xE} (h : RO E ad lo co) (hA : ∀ p i, 20 ≤ p → ad' p i = ad p i) : RO E ad' lo co := by
  unfold RO at h ⊢
  rw [hA 30 0 (by decide), hA 31 0 (by decide), hA 32 0 (by decide), hA 33 0 (by decide), hA 34 0 (by decide)]
  exact h
theorem AS.ge {ad ad' : xAd} (h : AS ad ad') : ∀ p i, 20 ≤ p → ad' p i = ad p i := fun p i hp => h p i (by omega)
def digs (v : Int) : List Int := if v < 10 then [48 + v] else if v < 100 then [48 + v / 10, 48 + v % 10] else [48 + v / 100, 48 + v / 10 % 10, 48 + v % 10]
theorem I_divN {v : Int} (h : 0 ≤ v ∧ v ≤ 1000000) : I (-v) / I 100 = I (-(v / 100)) := by
  have hq : v / 100 ≤ v := by omega
  rw [← Int32.toInt_inj, Int32.toInt_div, I_toInt ⟨by omega, by omega⟩, I_toInt ⟨by omega, by omega⟩, I_toInt ⟨by omega, by omega⟩, Int.neg_tdiv, Int.tdiv_eq_ediv_of_nonneg h.1]
  rw [Int.bmod_eq_of_le (by omega) (by omega)]
theorem txt_wr {s : xS} {l : List Int} {j : Nat} {c : Int} (h : Txt s l) (hj : l.length ≤ j) (hc : -128 ≤ c ∧ c ≤ 127) : Txt (su s 13 0 (j + 1) c) l := by
  obtain ⟨⟨hc0, hC, hB⟩, hl, hb⟩ := h
  unfold Txt SBk
  simp (config := { decide := true }) only [su_r, su_f, sup_n, not_false_eq_true, eq_self_iff_true, true_or, or_true, false_or, or_false, true_and, and_true, false_and, and_false, if_true, if_false, ite_true, ite_false]
  simp only [show ¬ (0 = j + 1) by omega, if_false]
  refine ⟨⟨hc0, hC, fun i hi => ?_⟩, hl, fun i hi => ?_⟩
  · split
    · exact hc
    · exact hB i hi
  · rw [if_neg (by omega)]
    exact hb i hi
theorem txt_fin {s : xS} {l w : List Int} (h : Txt s l) (hc : (l.length : Int) + w.length ≤ s 13 0 0) (hw : ∀ j : Nat, j < w.length → s 13 0 (l.length + j + 1) = w.getD j 0) : Txt (su s 12 0 3 (l.length + w.length)) (l ++ w) := by
  obtain ⟨⟨hc0, hC, hB⟩, hl, hb⟩ := h
  unfold Txt SBk
  simp (config := { decide := true }) only [su_r, su_f, sup_n, not_false_eq_true, eq_self_iff_true, true_or, or_true, false_or, or_false, true_and, and_true, false_and, and_false, if_true, if_false, ite_true, ite_false]
  rw [List.length_append]
  refine ⟨⟨by omega, hC, hB⟩, by omega, fun i hi => ?_⟩
  rw [List.getD_eq_getElem?_getD]
  by_cases c : i < l.length
  · rw [List.getElem?_append_left c, ← List.getD_eq_getElem?_getD]
    exact hb i c
  · rw [List.getElem?_append_right (by omega), ← List.getD_eq_getElem?_getD, ← hw (i - l.length) (by omega)]
    congr 1
    omega
section API
variable {E : Nat → Nat} {ad : xAd} {q : xL} {lo : Nat → Nat → Prop} {s u : xS} {co : Nat → Nat → xE} {t : xT} {rc rs : Nat}
theorem xaB_R {p i k n : Nat} {g : Nat → Int32} {z : Int} {K : Int32 → Prop} {lv : Nat → Nat → Prop} {ce : Nat → Nat → xE} (h : Rel ad lv ce t) (hl : lv p i) (hc : ce p i = .inl (k, n, .inl g)) (hk : k = 3 ∨ k = 7) (hn : n ≤ 2147483647) (hz : 0 ≤ z ∧ z < n) (kk : K (g z.toNat)) : xaB t (ad p i) (I z) K := by
  obtain ⟨e, h1, h2⟩ := h.1 p i hl
  rw [hc] at h2
  obtain ⟨f, rfl, hf⟩ := sim_int h2
  have hr : i32 z := ⟨by omega, by omega⟩
  refine ⟨k, n, f, h1, hk, (I_in hr).mpr hz, ?_⟩
  rw [I_nat hr, hf _ (by omega)]
  exact kk
/-- a byte of the builder is written, at or behind its end -/
theorem sp_wr {K : xT → Prop} {l : List Int} {j : Nat} {c : Int} (hR : RR ad q lo s u co t) (hT : Txt s l) (hj : l.length ≤ j) (hjc : (j : Int) < s 13 0 0) (hc : 0 ≤ c ∧ c ≤ 127) (kk : ∀ t, RR ad q lo (su s 13 0 (j + 1) c) u co t → Txt (su s 13 0 (j + 1) c) l → K t) : xsI 3 t (ad 13 0) (I j) (vp_nar .byte (I c)) K := by
  rw [nar_byte hc]
  have hC := hT.1.2.1
  refine xsI_R (p := 13) (i := 0) (k := j + 1) hR rfl (by decide) rfl (by omega) (by omega) ⟨_, rfl, fun i hi => ?_⟩ (fun t hR => kk t hR (txt_wr hT hj (by omega)))
  show I (fup _ _ _ (i + 1)) = _
  unfold fup
  by_cases e : i = j
  · subst e
    rw [if_pos rfl, if_pos (by omega)]
  · rw [if_neg (by omega), if_neg (by omega)]
def dsz (v : Int) : Nat := if v < 10 then 1 else if v < 100 then 2 else 3
theorem digs_len (v : Int) : (digs v).length = dsz v := by
  unfold digs dsz
  split
  · rfl
  · split <;> rfl
theorem sp_size10 {K : Int32 → xT → Prop} {v : Int} (hv : 0 ≤ v ∧ v ≤ 999) (kk : K (I (dsz v)) t) : V_J6_stringSize_0f7a4_0 K (I v) t := by
  unfold V_J6_stringSize_0f7a4_0
  refine xbf (by (try simp only [I_lit, J_lit, I_ofNat, I_neg, I_add, I_sub, I_mul, J_neg, J_add, J_sub, J_mul]); first | (rw [I_lt ⟨by omega, by omega⟩ ⟨by omega, by omega⟩]; omega) | (rw [I_le ⟨by omega, by omega⟩ ⟨by omega, by omega⟩]; omega) | (rw [I_eq ⟨by omega, by omega⟩ ⟨by omega, by omega⟩]; omega) | (rw [J_lt ⟨by omega, by omega⟩ ⟨by omega, by omega⟩]; omega) | (rw [J_le ⟨by omega, by omega⟩ ⟨by omega, by omega⟩]; omega) | (rw [J_eq ⟨by omega, by omega⟩ ⟨by omega, by omega⟩]; omega)) ⟨3, ?_⟩
  rw [I_neg]
  show VS_J6_stringSize_0f7a4_16 _ _ _ _ _ _ _
  unfold VS_J6_stringSize_0f7a4_16
  refine xbf (by decide) ?_
  unfold dsz at kk
  by_cases c1 : v < 10
  · rw [if_pos c1] at kk
    exact xbf (by (try simp only [I_lit, J_lit, I_ofNat, I_neg, I_add, I_sub, I_mul, J_neg, J_add, J_sub, J_mul]); first | (rw [I_lt ⟨by omega, by omega⟩ ⟨by omega, by omega⟩]; omega) | (rw [I_le ⟨by omega, by omega⟩ ⟨by omega, by omega⟩]; omega) | (rw [I_eq ⟨by omega, by omega⟩ ⟨by omega, by omega⟩]; omega) | (rw [J_lt ⟨by omega, by omega⟩ ⟨by omega, by omega⟩]; omega) | (rw [J_le ⟨by omega, by omega⟩ ⟨by omega, by omega⟩]; omega) | (rw [J_eq ⟨by omega, by omega⟩ ⟨by omega, by omega⟩]; omega)) kk
  · rw [if_neg c1] at kk
    refine xbt (by (try simp only [I_lit, J_lit, I_ofNat, I_neg, I_add, I_sub, I_mul, J_neg, J_add, J_sub, J_mul]); first | (rw [I_lt ⟨by omega, by omega⟩ ⟨by omega, by omega⟩]; omega) | (rw [I_le ⟨by omega, by omega⟩ ⟨by omega, by omega⟩]; omega) | (rw [I_eq ⟨by omega, by omega⟩ ⟨by omega, by omega⟩]; omega) | (rw [J_lt ⟨by omega, by omega⟩ ⟨by omega, by omega⟩]; omega) | (rw [J_le ⟨by omega, by omega⟩ ⟨by omega, by omega⟩]; omega) | (rw [J_eq ⟨by omega, by omega⟩ ⟨by omega, by omega⟩]; omega)) ?_
    show VS_J6_stringSize_0f7a4_16 _ _ _ _ _ _ _
    unfold VS_J6_stringSize_0f7a4_16
    refine xbf (by decide) ?_
    by_cases c2 : v < 100
    · rw [if_pos c2] at kk
      refine xbf ?_ kk
      rw [show (10 : Int32) * (-10 : Int32) = I (-100) from rfl, I_le ⟨by omega, by omega⟩ ⟨by omega, by omega⟩]
      omega
    · rw [if_neg c2] at kk
      refine xbt ?_ ?_
      · rw [show (10 : Int32) * (-10 : Int32) = I (-100) from rfl, I_le ⟨by omega, by omega⟩ ⟨by omega, by omega⟩]
        omega
      · show VS_J6_stringSize_0f7a4_16 _ _ _ _ _ _ _
        unfold VS_J6_stringSize_0f7a4_16
        refine xbf (by decide) (xbf ?_ kk)
        rw [show (10 : Int32) * ((10 : Int32) * (-10 : Int32)) = I (-1000) from rfl, I_le ⟨by omega, by omega⟩ ⟨by omega, by omega⟩]
        omega
/-- the last one or two digits -/
theorem sp_chars2 {K : Int32 → xT → Prop} {l : List Int} {v : Int} {e f : Nat} (hO : RO E ad lo co) (hR : RR ad q lo s u co t) (hT : Txt s l) (hv : 0 ≤ v ∧ v ≤ 99) (he : l.length + (if v < 10 then 1 else 2) ≤ e) (hec : (e : Int) ≤ s 13 0 0)
    (k1 : v < 10 → ∀ t, RR ad q lo (su s 13 0 (e - 1 + 1) (48 + v)) u co t → Txt (su s 13 0 (e - 1 + 1) (48 + v)) l → K (I ((e - 1 : Nat) : Int)) t)
    (k2 : ¬ v < 10 → ∀ t, RR ad q lo (su (su s 13 0 (e - 1 + 1) (48 + v % 10)) 13 0 (e - 2 + 1) (48 + v / 10)) u co t → Txt (su (su s 13 0 (e - 1 + 1) (48 + v % 10)) 13 0 (e - 2 + 1) (48 + v / 10)) l → K (I ((e - 2 : Nat) : Int)) t) : V_J6_getChars_ba4f3_22 E K (f + 1) (I (-v)) (ad 13 0) (I e) (0 : Int32) t := by
  obtain ⟨-, ⟨o1, o2, o3⟩, ⟨o4, o5, o6⟩, -⟩ := hO
  show VS_J6_getChars_ba4f3_22 _ _ _ _ _ _ _ _
  unfold VS_J6_getChars_ba4f3_22
  have hc31 : xce ad s u co 31 0 = _ := o3
  refine xbt (by (try simp only [I_lit, J_lit, I_ofNat, I_neg, I_add, I_sub, I_mul, J_neg, J_add, J_sub, J_mul]); first | (rw [I_lt ⟨by omega, by omega⟩ ⟨by omega, by omega⟩]; omega) | (rw [I_le ⟨by omega, by omega⟩ ⟨by omega, by omega⟩]; omega) | (rw [I_eq ⟨by omega, by omega⟩ ⟨by omega, by omega⟩]; omega) | (rw [J_lt ⟨by omega, by omega⟩ ⟨by omega, by omega⟩]; omega) | (rw [J_le ⟨by omega, by omega⟩ ⟨by omega, by omega⟩]; omega) | (rw [J_eq ⟨by omega, by omega⟩ ⟨by omega, by omega⟩]; omega)) ?_
  rw [o1, I_neg, Int.neg_neg]
  refine xaB_R (p := 31) hR o2 o3 (Or.inr rfl) (by decide) (by omega) ?_
  have hC := hT.1.2.1
  have h1e : 1 ≤ e := by split at he <;> omega
  rw [show (I (e : Int) + (-1 : Int32)) = I ((e - 1 : Nat) : Int) by simp only [I_lit, J_lit, I_ofNat, I_neg, I_add, I_sub, I_mul, J_neg, J_add, J_sub, J_mul]; congr 1; omega, show (48 + ((v.toNat : Nat) : Int) % 10) = 48 + v % 10 by omega]
  refine sp_wr hR hT (by split at he <;> omega) (by omega) (by omega) (fun t hR hT => ?_)
  by_cases c : v < 10
  · refine xbt (by (try simp only [I_lit, J_lit, I_ofNat, I_neg, I_add, I_sub, I_mul, J_neg, J_add, J_sub, J_mul]); first | (rw [I_lt ⟨by omega, by omega⟩ ⟨by omega, by omega⟩]; omega) | (rw [I_le ⟨by omega, by omega⟩ ⟨by omega, by omega⟩]; omega) | (rw [I_eq ⟨by omega, by omega⟩ ⟨by omega, by omega⟩]; omega) | (rw [J_lt ⟨by omega, by omega⟩ ⟨by omega, by omega⟩]; omega) | (rw [J_le ⟨by omega, by omega⟩ ⟨by omega, by omega⟩]; omega) | (rw [J_eq ⟨by omega, by omega⟩ ⟨by omega, by omega⟩]; omega)) (xbt rfl ?_)
    rw [show v % 10 = v by omega] at hR hT
    exact k1 c t hR hT
  · refine xbf (by (try simp only [I_lit, J_lit, I_ofNat, I_neg, I_add, I_sub, I_mul, J_neg, J_add, J_sub, J_mul]); first | (rw [I_lt ⟨by omega, by omega⟩ ⟨by omega, by omega⟩]; omega) | (rw [I_le ⟨by omega, by omega⟩ ⟨by omega, by omega⟩]; omega) | (rw [I_eq ⟨by omega, by omega⟩ ⟨by omega, by omega⟩]; omega) | (rw [J_lt ⟨by omega, by omega⟩ ⟨by omega, by omega⟩]; omega) | (rw [J_le ⟨by omega, by omega⟩ ⟨by omega, by omega⟩]; omega) | (rw [J_eq ⟨by omega, by omega⟩ ⟨by omega, by omega⟩]; omega)) ?_
    rw [if_neg c] at he
    rw [o4]
    refine xaB_R (p := 32) hR o5 o6 (Or.inr rfl) (by decide) (by omega) ?_
    rw [show (I ((e - 1 : Nat) : Int) + (-1 : Int32)) = I ((e - 2 : Nat) : Int) by simp only [I_lit, J_lit, I_ofNat, I_neg, I_add, I_sub, I_mul, J_neg, J_add, J_sub, J_mul]; congr 1; omega, show (48 + ((v.toNat : Nat) : Int) / 10) = 48 + v / 10 by omega]
    refine sp_wr hR hT (by omega) (by simp (config := { decide := true }) only [su_r, su_f, sup_n, not_false_eq_true, eq_self_iff_true, true_or, or_true, false_or, or_false, true_and, and_true, false_and, and_false, if_true, if_false, ite_true, ite_false]; simp only [show ¬ (0 = e - 1 + 1) by omega, if_false]; omega) (by omega) (fun t hR hT => ?_)
    exact xbt rfl (k2 c t hR hT)
end API
