/-! ===== the heat is shared: by weights ===== -/
theorem LI_of {q : xL} {s s' : xS} {k n : Nat} (h : LI q s k n) (h1 : s' 1 k = s 1 k) (h2 : s' 2 k = s 2 k) : LI q s' k n := by
  unfold LI at h ⊢
  rw [h1, h2]
  exact h
theorem okL_of {q : xL} {s s' : xS} {l : Nat} (h : okL q s l) (h6 : s' 6 l = s 6 l) (h4 : s' 4 (400 + l) = s 4 (400 + l)) : okL q s' l := by
  unfold okL at h ⊢
  rw [h6, h4]
  exact h
def twk (S A : Int) (l : Nat) (s : xS) : xS := su (su s 8 l 2 (S * s 8 l 1 % A)) 8 l 0 (s 8 l 0 + S * s 8 l 1 / A)
def giv (n : Nat) (s : xS) : xS := su (su s 8 (gpk (fun l => s 8 l 2) n) 0 (s 8 (gpk (fun l => s 8 l 2) n) 0 + 1)) 8 (gpk (fun l => s 8 l 2) n) 2 0
def itn (f : xS → xS) : Nat → xS → xS
  | 0, s => s
  | k + 1, s => itn f k (f s)
def sb58 (n : Nat) (S A : Int) : Nat → Nat → xS → Int → xS
  | _, 0, s, left => itn (giv n) left.toNat s
  | i, r + 1, s, left => sb58 n S A (i + 1) r (twk S A i s) (left - S * s 8 i 1 / A)
def sbw (n : Nat) (S : Int) (s : xS) : xS := if 0 < sumn (fun l => s 8 l 1) n then sb58 n S (sumn (fun l => s 8 l 1) n) 0 n s S else s
theorem giv_o {n : Nat} {s : xS} {p i : Nat} (h : p ≠ 8) : giv n s p i = s p i := by
  unfold giv
  rw [su_f _ (fun q => h q.1), su_f _ (fun q => h q.1)]
theorem twk_o {S A : Int} {l : Nat} {s : xS} {p i : Nat} (h : p ≠ 8 ∨ i ≠ l) : twk S A l s p i = s p i := by
  unfold twk
  rw [su_f _ (fun q => by omega), su_f _ (fun q => by omega)]
section CLS4
variable {ad : xAd} {q : xL} {lo : Nat → Nat → Prop} {s u : xS} {co : Nat → Nat → xE} {t : xT}
theorem sp_giveLoop {K : xT → Prop} {n : Nat} (hR : RR ad q lo s u co t) (hL : LI q s 1 n) (hn : n ≤ q.2.1) (hb : ∀ l, l < n → i64 (s 8 l 2)) (kk : ∀ t, RR ad q lo (giv n s) u co t → K t) : ∀ (r i : Nat), i + r = n → 0 < i → V_X7_giveOneMore_28 K (r + 1) (ad 0 0) (ad 8 (gpk (fun l => s 8 l 2) i)) (I i) t := by
  intro r
  induction r with
  | zero =>
    intro i hi h0
    show VS_X7_giveOneMore_28 _ _ _ _ _ _
    unfold VS_X7_giveOneMore_28
    have hg : gpk (fun l => s 8 l 2) n < n := by
      have := gpk_lt (fun l => s 8 l 2) (n - 1)
      rw [show n - 1 + 1 = n by omega] at this
      exact this
    refine xlist1 hR hL hn (by omega) (fun e => ?_) (fun c => by omega)
    rw [e]
    unfold giv at kk
    generalize gpk (fun l => s 8 l 2) n = g at hg kk ⊢
    refine ⟨xis_R hR (by simp only [clv, eq_self_iff_true, true_or, or_true, false_or, or_false, true_and, and_true, false_and, and_false] <;> omega) rfl, ?_⟩
    unfold V_X2_takeOneMore_0
    refine xgI_R hR (by simp only [clv, eq_self_iff_true, true_or, or_true, false_or, or_false, true_and, and_true, false_and, and_false] <;> omega) rfl rfl ?_
    rw [show (I (s 8 g 0) + (1 : Int32)) = I (s 8 g 0 + 1) from I_add _ 1]
    refine xpF_I hR (by simp only [clv, eq_self_iff_true, true_or, or_true, false_or, or_false, true_and, and_true, false_and, and_false] <;> omega) (by decide) rfl (Nat.le_of_ble_eq_true rfl) rfl (fun t hR => ?_)
    rw [show (0 : Int64) = J 0 from rfl]
    refine xpF_J hR (by simp only [clv, eq_self_iff_true, true_or, or_true, false_or, or_false, true_and, and_true, false_and, and_false] <;> omega) (by decide) rfl (Nat.le_of_ble_eq_true rfl) rfl (fun t hR => ?_)
    exact kk _ hR
  | succ r ih =>
    intro i hi h0
    show VS_X7_giveOneMore_28 _ _ _ _ _ _
    unfold VS_X7_giveOneMore_28
    have hg : gpk (fun l => s 8 l 2) i < i := by
      have := gpk_lt (fun l => s 8 l 2) (i - 1)
      rw [show i - 1 + 1 = i by omega] at this
      exact this
    have hnext := ih (i + 1) (by omega) (by omega)
    have hpk : gpk (fun l => s 8 l 2) (i + 1) = if s 8 (gpk (fun l => s 8 l 2) i) 2 < s 8 i 2 then i else gpk (fun l => s 8 l 2) i := by
      obtain ⟨j, rfl⟩ : ∃ j, i = j + 1 := ⟨i - 1, by omega⟩
      rfl
    rw [hpk] at hnext
    refine xlist1 hR hL hn (by omega) (fun e => by omega) (fun c => ?_)
    show xgR _ _ _ _ _
    refine xgR_R hR (p := 6) (show i < q.2.1 by omega) rfl rfl ?_
    refine ⟨xis_R hR (by simp only [clv, eq_self_iff_true, true_or, or_true, false_or, or_false, true_and, and_true, false_and, and_false] <;> omega) rfl, ?_⟩
    unfold V_X2_isAheadOf_0
    refine xgJ_R hR (by simp only [clv, eq_self_iff_true, true_or, or_true, false_or, or_false, true_and, and_true, false_and, and_false] <;> omega) rfl rfl ?_
    refine xgJ_R hR (p := 8) (show _ < q.2.1 by omega) rfl rfl ?_
    rw [show (I (i : Int) + 1 : Int32) = I ((i + 1 : Nat) : Int) from I_add _ 1]
    have b1 := hb i c
    have b2 := hb _ (show gpk (fun l => s 8 l 2) i < n by omega)
    unfold i64 at b1 b2
    by_cases cc : s 8 (gpk (fun l => s 8 l 2) i) 2 < s 8 i 2
    · rw [if_pos cc] at hnext
      refine xbf (by (try simp only [I_lit, J_lit, I_ofNat, I_neg, I_add, I_sub, I_mul, J_neg, J_add, J_sub, J_mul]); first | (rw [I_lt ⟨by omega, by omega⟩ ⟨by omega, by omega⟩]; omega) | (rw [I_le ⟨by omega, by omega⟩ ⟨by omega, by omega⟩]; omega) | (rw [I_eq ⟨by omega, by omega⟩ ⟨by omega, by omega⟩]; omega) | (rw [J_lt ⟨by omega, by omega⟩ ⟨by omega, by omega⟩]; omega) | (rw [J_le ⟨by omega, by omega⟩ ⟨by omega, by omega⟩]; omega) | (rw [J_eq ⟨by omega, by omega⟩ ⟨by omega, by omega⟩]; omega)) (xbf (by decide) hnext)
    · rw [if_neg cc] at hnext
      refine xbt (by (try simp only [I_lit, J_lit, I_ofNat, I_neg, I_add, I_sub, I_mul, J_neg, J_add, J_sub, J_mul]); first | (rw [I_lt ⟨by omega, by omega⟩ ⟨by omega, by omega⟩]; omega) | (rw [I_le ⟨by omega, by omega⟩ ⟨by omega, by omega⟩]; omega) | (rw [I_eq ⟨by omega, by omega⟩ ⟨by omega, by omega⟩]; omega) | (rw [J_lt ⟨by omega, by omega⟩ ⟨by omega, by omega⟩]; omega) | (rw [J_le ⟨by omega, by omega⟩ ⟨by omega, by omega⟩]; omega) | (rw [J_eq ⟨by omega, by omega⟩ ⟨by omega, by omega⟩]; omega)) (xbt rfl hnext)
theorem sp_give {K : xT → Prop} {n : Nat} (hR : RR ad q lo s u co t) (hL : LI q s 1 n) (hn : n ≤ q.2.1) (h0 : 0 < n) (hb : ∀ l, l < n → i64 (s 8 l 2)) (kk : ∀ t, RR ad q lo (giv n s) u co t → K t) : V_X7_giveOneMore_0 K (ad 0 0) t := by
  unfold V_X7_giveOneMore_0
  have hbn : (n : Int) ≤ 1000 := by have := hL.2.1; have := hL.2.2.1; omega
  refine xgR_R hR (by simp only [clv, eq_self_iff_true, true_or, or_true, false_or, or_false, true_and, and_true, false_and, and_false] <;> omega) rfl rfl ?_
  refine ⟨xis_R hR (by simp only [clv, eq_self_iff_true, true_or, or_true, false_or, or_false, true_and, and_true, false_and, and_false] <;> omega) rfl, ?_⟩
  unfold V_Jx4a65c_isEmpty_aae02_0
  refine xgI_R hR (by simp only [clv, eq_self_iff_true, true_or, or_true, false_or, or_false, true_and, and_true, false_and, and_false] <;> omega) rfl rfl ?_
  rw [hL.1]
  refine xsf (by (try simp only [I_lit, J_lit, I_ofNat, I_neg, I_add, I_sub, I_mul, J_neg, J_add, J_sub, J_mul]); first | (rw [I_lt ⟨by omega, by omega⟩ ⟨by omega, by omega⟩]; omega) | (rw [I_le ⟨by omega, by omega⟩ ⟨by omega, by omega⟩]; omega) | (rw [I_eq ⟨by omega, by omega⟩ ⟨by omega, by omega⟩]; omega) | (rw [J_lt ⟨by omega, by omega⟩ ⟨by omega, by omega⟩]; omega) | (rw [J_le ⟨by omega, by omega⟩ ⟨by omega, by omega⟩]; omega) | (rw [J_eq ⟨by omega, by omega⟩ ⟨by omega, by omega⟩]; omega)) ?_
  refine xbt rfl ?_
  refine xgR_R hR (by simp only [clv, eq_self_iff_true, true_or, or_true, false_or, or_false, true_and, and_true, false_and, and_false] <;> omega) rfl rfl ?_
  refine ⟨xis_R hR (by simp only [clv, eq_self_iff_true, true_or, or_true, false_or, or_false, true_and, and_true, false_and, and_false] <;> omega) rfl, ?_⟩
  refine sp_get (z := 0) hR (by decide) hL (by omega) ⟨_, rfl, ?_⟩
  refine ⟨xis_R hR (p := 6) (show 0 < q.2.1 by omega) rfl, ?_⟩
  refine xgR_R hR (p := 6) (show 0 < q.2.1 by omega) rfl rfl ?_
  exact ⟨n - 1 + 1, sp_giveLoop hR hL hn hb kk (n - 1) 1 (by omega) (by omega)⟩
theorem sp_itgive {K : xT → Prop} {n : Nat} {left : Int} (hn : n ≤ q.2.1) (h0 : 0 < n) (hl : i32 left) : ∀ (r : Nat) (i : Int) (s : xS) (t : xT), (0 ≤ i ∧ i ≤ 2147483647) → (left - i).toNat = r → RR ad q lo s u co t → LI q s 1 n → (∀ l, l < n → i64 (s 8 l 2)) → (∀ t, RR ad q lo (itn (giv n) r s) u co t → K t) → V_X7_shareByWeights_104 K (r + 1) (ad 0 0) (I left) (I i) t := by
  intro r
  unfold i32 at hl
  induction r with
  | zero =>
    intro i s t hi hr hR hL hb kk
    show VS_X7_shareByWeights_104 _ _ _ _ _ _
    unfold VS_X7_shareByWeights_104
    exact xbt (by (try simp only [I_lit, J_lit, I_ofNat, I_neg, I_add, I_sub, I_mul, J_neg, J_add, J_sub, J_mul]); first | (rw [I_lt ⟨by omega, by omega⟩ ⟨by omega, by omega⟩]; omega) | (rw [I_le ⟨by omega, by omega⟩ ⟨by omega, by omega⟩]; omega) | (rw [I_eq ⟨by omega, by omega⟩ ⟨by omega, by omega⟩]; omega) | (rw [J_lt ⟨by omega, by omega⟩ ⟨by omega, by omega⟩]; omega) | (rw [J_le ⟨by omega, by omega⟩ ⟨by omega, by omega⟩]; omega) | (rw [J_eq ⟨by omega, by omega⟩ ⟨by omega, by omega⟩]; omega)) (kk _ hR)
  | succ r ih =>
    intro i s t hi hr hR hL hb kk
    show VS_X7_shareByWeights_104 _ _ _ _ _ _
    unfold VS_X7_shareByWeights_104
    refine xbf (by (try simp only [I_lit, J_lit, I_ofNat, I_neg, I_add, I_sub, I_mul, J_neg, J_add, J_sub, J_mul]); first | (rw [I_lt ⟨by omega, by omega⟩ ⟨by omega, by omega⟩]; omega) | (rw [I_le ⟨by omega, by omega⟩ ⟨by omega, by omega⟩]; omega) | (rw [I_eq ⟨by omega, by omega⟩ ⟨by omega, by omega⟩]; omega) | (rw [J_lt ⟨by omega, by omega⟩ ⟨by omega, by omega⟩]; omega) | (rw [J_le ⟨by omega, by omega⟩ ⟨by omega, by omega⟩]; omega) | (rw [J_eq ⟨by omega, by omega⟩ ⟨by omega, by omega⟩]; omega)) ?_
    refine ⟨xis_R hR (by simp only [clv, eq_self_iff_true, true_or, or_true, false_or, or_false, true_and, and_true, false_and, and_false] <;> omega) rfl, ?_⟩
    refine sp_give hR hL hn h0 hb (fun t hR => ?_)
    rw [show (I i + 1 : Int32) = I (i + 1) from I_add _ 1]
    refine ih (i + 1) (giv n s) t (by omega) (by omega) hR (LI_of hL (giv_o (by decide)) (giv_o (by decide))) (fun l hl => ?_) kk
    unfold giv
    rw [su_r, su_r]
    have := hb l hl
    unfold i64 at this ⊢
    split <;> (try split) <;> omega
theorem sp_take {K : Int32 → xT → Prop} {l : Nat} {S A : Int} (hR : RR ad q lo s u co t) (hl : l < q.2.1) (hS : 0 ≤ S ∧ S ≤ 100000000) (hw : 0 ≤ s 8 l 1 ∧ s 8 l 1 ≤ 100000000) (hA : 0 < A ∧ A ≤ 10000000000) (kk : ∀ t, RR ad q lo (twk S A l s) u co t → K (I (S * s 8 l 1 / A)) t) : V_X2_takeWhole_0 K (ad 8 l) (I S) (J A) t := by
  unfold V_X2_takeWhole_0
  have h0 : 0 ≤ S * s 8 l 1 := Int.mul_nonneg hS.1 hw.1
  have h1 : S * s 8 l 1 ≤ 100000000 * 100000000 := Int.mul_le_mul hS.2 hw.2 hw.1 (by decide)
  refine xbt (by (try simp only [I_lit, J_lit, I_ofNat, I_neg, I_add, I_sub, I_mul, J_neg, J_add, J_sub, J_mul]); first | (rw [I_lt ⟨by omega, by omega⟩ ⟨by omega, by omega⟩]; omega) | (rw [I_le ⟨by omega, by omega⟩ ⟨by omega, by omega⟩]; omega) | (rw [I_eq ⟨by omega, by omega⟩ ⟨by omega, by omega⟩]; omega) | (rw [J_lt ⟨by omega, by omega⟩ ⟨by omega, by omega⟩]; omega) | (rw [J_le ⟨by omega, by omega⟩ ⟨by omega, by omega⟩]; omega) | (rw [J_eq ⟨by omega, by omega⟩ ⟨by omega, by omega⟩]; omega)) ?_
  refine xgI_R hR (by simp only [clv, eq_self_iff_true, true_or, or_true, false_or, or_false, true_and, and_true, false_and, and_false] <;> omega) rfl rfl ?_
  have hA0 : ¬ J A = 0 := by
    rw [show (0 : Int64) = J 0 from rfl, J_eq ⟨by omega, by omega⟩ ⟨by omega, by omega⟩]
    omega
  refine ⟨hA0, hA0, ?_⟩
  rw [I_long ⟨by omega, by omega⟩, I_long ⟨by omega, by omega⟩, J_mul, J_rem ⟨by omega, by omega⟩ ⟨by omega, by omega⟩ h0 (by omega), J_div ⟨by omega, by omega⟩ ⟨by omega, by omega⟩ h0 (by omega), J_int]
  refine xpF_J hR (by simp only [clv, eq_self_iff_true, true_or, or_true, false_or, or_false, true_and, and_true, false_and, and_false] <;> omega) (by decide) rfl (Nat.le_of_ble_eq_true rfl) rfl (fun t hR => ?_)
  refine xgI_R hR (by simp only [clv, eq_self_iff_true, true_or, or_true, false_or, or_false, true_and, and_true, false_and, and_false] <;> omega) rfl rfl ?_
  simp (config := { decide := true }) only [su_r, su_f, sup_n, not_false_eq_true, eq_self_iff_true, true_or, or_true, false_or, or_false, true_and, and_true, false_and, and_false, if_true, if_false, ite_true, ite_false]
  rw [I_add]
  refine xpF_I hR (by simp only [clv, eq_self_iff_true, true_or, or_true, false_or, or_false, true_and, and_true, false_and, and_false] <;> omega) (by decide) rfl (Nat.le_of_ble_eq_true rfl) rfl (fun t hR => ?_)
  exact kk _ hR
theorem sb58_step {n : Nat} {S A : Int} {i r : Nat} {s : xS} {left : Int} : sb58 n S A i (r + 1) s left = sb58 n S A (i + 1) r (twk S A i s) (left - S * s 8 i 1 / A) := rfl
theorem sp_takeLoop {K : xT → Prop} {n : Nat} {S A : Int} (hn : n ≤ q.2.1) (hn12 : n ≤ 12) (h0 : 0 < n) (hS : 0 ≤ S ∧ S ≤ 100000000) (hA : 0 < A ∧ A ≤ 10000000000) : ∀ (r i : Nat) (s : xS) (t : xT) (left : Int), i + r = n → RR ad q lo s u co t → LI q s 1 n → (∀ l, l < n → 0 ≤ s 8 l 1 ∧ s 8 l 1 ≤ 100000000 ∧ s 8 l 1 ≤ A) → (∀ l, l < n → l < i → 0 ≤ s 8 l 2 ∧ s 8 l 2 < A) → (S - i * S ≤ left ∧ left ≤ S) → (∀ t, RR ad q lo (sb58 n S A i r s left) u co t → K t) → V_X7_shareByWeights_58 K (r + 1) (ad 0 0) (I S) (J A) (I left) (I i) t := by
  intro r
  induction r with
  | zero =>
    intro i s t left hi hR hL hw hb hl kk
    show VS_X7_shareByWeights_58 _ _ _ _ _ _ _ _
    unfold VS_X7_shareByWeights_58
    have hi12 : (i : Int) * S ≤ 12 * S := Int.mul_le_mul_of_nonneg_right (by omega) hS.1
    refine xlist1 hR hL hn (by omega) (fun e => ?_) (fun c => by omega)
    refine ⟨left.toNat + 1, ?_⟩
    exact sp_itgive hn h0 ⟨by omega, by omega⟩ _ 0 s t (by omega) (by omega) hR hL (fun l hl => by have := hb l hl (by omega); exact ⟨by omega, by omega⟩) kk
  | succ r ih =>
    intro i s t left hi hR hL hw hb hl kk
    show VS_X7_shareByWeights_58 _ _ _ _ _ _ _ _
    unfold VS_X7_shareByWeights_58
    refine xlist1 hR hL hn (by omega) (fun e => by omega) (fun c => ?_)
    show xgR _ _ _ _ _
    refine xgR_R hR (p := 6) (show i < q.2.1 by omega) rfl rfl ?_
    refine ⟨xis_R hR (p := 8) (show i < q.2.1 by omega) rfl, ?_⟩
    have hwi := hw i c
    refine sp_take hR (by omega) hS ⟨hwi.1, hwi.2.1⟩ hA (fun t hR => ?_)
    have hp0 : 0 ≤ S * s 8 i 1 := Int.mul_nonneg hS.1 hwi.1
    have hq0 : 0 ≤ S * s 8 i 1 / A := Int.ediv_nonneg hp0 (by omega)
    have hq1 : S * s 8 i 1 / A ≤ S := by
      have h1 : S * s 8 i 1 ≤ S * A := Int.mul_le_mul_of_nonneg_left hwi.2.2 hS.1
      exact Int.ediv_le_of_le_mul hA.1 h1
    have hr0 : 0 ≤ S * s 8 i 1 % A := Int.emod_nonneg _ (by omega)
    have hr1 : S * s 8 i 1 % A < A := Int.emod_lt_of_pos _ hA.1
    rw [I_sub, show (I (i : Int) + 1 : Int32) = I ((i + 1 : Nat) : Int) from I_add _ 1]
    have em : ((i + 1 : Nat) : Int) * S = i * S + S := by rw [Int.natCast_add, Int.add_mul]; simp
    refine ih (i + 1) (twk S A i s) t _ (by omega) hR (LI_of hL (twk_o (Or.inl (by decide))) (twk_o (Or.inl (by decide)))) (fun l hl => ?_) (fun l h1 h2 => ?_) (by rw [em]; omega) kk
    · have := hw l hl
      unfold twk
      simp (config := { decide := true }) only [su_r, su_f, sup_n, not_false_eq_true, eq_self_iff_true, true_or, or_true, false_or, or_false, true_and, and_true, false_and, and_false, if_true, if_false, ite_true, ite_false]
      exact this
    · unfold twk
      by_cases e : l = i
      · subst e
        simp (config := { decide := true }) only [su_r, su_f, sup_n, not_false_eq_true, eq_self_iff_true, true_or, or_true, false_or, or_false, true_and, and_true, false_and, and_false, if_true, if_false, ite_true, ite_false]
        exact ⟨hr0, hr1⟩
      · have := hb l h1 (by omega)
        simp (config := { decide := true }) only [su_r, su_f, sup_n, not_false_eq_true, eq_self_iff_true, true_or, or_true, false_or, or_false, true_and, and_true, false_and, and_false, if_true, if_false, ite_true, ite_false, e]
        exact this
theorem sp_sumLoop {K : xT → Prop} {n : Nat} {S : Int} (hR : RR ad q lo s u co t) (hL : LI q s 1 n) (hn : n ≤ q.2.1) (hn12 : n ≤ 12) (hS : 0 ≤ S ∧ S ≤ 100000000) (hw : ∀ l, l < n → 0 ≤ s 8 l 1 ∧ s 8 l 1 ≤ 100000000) (kk : ∀ t, RR ad q lo (sbw n S s) u co t → K t) : ∀ (r i : Nat), i + r = n → V_X7_shareByWeights_5 K (r + 1) (ad 0 0) (I S) (J (sumn (fun l => s 8 l 1) i)) (I i) t := by
  intro r
  have hsum : ∀ i, i ≤ n → 0 ≤ sumn (fun l => s 8 l 1) i ∧ sumn (fun l => s 8 l 1) i ≤ i * 100000000 := fun i hi => sumn_rng (fun l hl => hw l (by omega))
  induction r with
  | zero =>
    intro i hi
    show VS_X7_shareByWeights_5 _ _ _ _ _ _ _
    unfold VS_X7_shareByWeights_5
    refine xlist1 hR hL hn (by omega) (fun e => ?_) (fun c => by omega)
    subst e
    have hs := hsum i (by omega)
    unfold sbw at kk
    by_cases c : 0 < sumn (fun l => s 8 l 1) i
    · rw [if_pos c] at kk
      refine xbt (by (try simp only [I_lit, J_lit, I_ofNat, I_neg, I_add, I_sub, I_mul, J_neg, J_add, J_sub, J_mul]); first | (rw [I_lt ⟨by omega, by omega⟩ ⟨by omega, by omega⟩]; omega) | (rw [I_le ⟨by omega, by omega⟩ ⟨by omega, by omega⟩]; omega) | (rw [I_eq ⟨by omega, by omega⟩ ⟨by omega, by omega⟩]; omega) | (rw [J_lt ⟨by omega, by omega⟩ ⟨by omega, by omega⟩]; omega) | (rw [J_le ⟨by omega, by omega⟩ ⟨by omega, by omega⟩]; omega) | (rw [J_eq ⟨by omega, by omega⟩ ⟨by omega, by omega⟩]; omega)) ⟨i + 1, ?_⟩
      have h0 : 0 < i := by
        rcases Nat.eq_zero_or_pos i with e | e
        · subst e
          exact absurd c (Int.lt_irrefl 0)
        · exact e
      refine sp_takeLoop hn hn12 h0 hS ⟨c, by omega⟩ i 0 s t S (by omega) hR hL (fun l hl => ?_) (fun l _ h => by omega) (by simp) kk
      refine ⟨(hw l hl).1, (hw l hl).2, ?_⟩
      clear kk
      have : ∀ k, l < k → k ≤ i → s 8 l 1 ≤ sumn (fun l => s 8 l 1) k := by
        intro k
        induction k with
        | zero => intro h; omega
        | succ k ih =>
          intro h hk
          show _ ≤ sumn (fun l => s 8 l 1) k + s 8 k 1
          have h1 := (hsum k (by omega)).1
          have h2 := (hw k (by omega)).1
          by_cases e : l = k
          · subst e
            omega
          · have := ih (by omega) (by omega)
            omega
      exact this i hl (Nat.le_refl _)
    · rw [if_neg c] at kk
      exact xbf (by (try simp only [I_lit, J_lit, I_ofNat, I_neg, I_add, I_sub, I_mul, J_neg, J_add, J_sub, J_mul]); first | (rw [I_lt ⟨by omega, by omega⟩ ⟨by omega, by omega⟩]; omega) | (rw [I_le ⟨by omega, by omega⟩ ⟨by omega, by omega⟩]; omega) | (rw [I_eq ⟨by omega, by omega⟩ ⟨by omega, by omega⟩]; omega) | (rw [J_lt ⟨by omega, by omega⟩ ⟨by omega, by omega⟩]; omega) | (rw [J_le ⟨by omega, by omega⟩ ⟨by omega, by omega⟩]; omega) | (rw [J_eq ⟨by omega, by omega⟩ ⟨by omega, by omega⟩]; omega)) (kk _ hR)
  | succ r ih =>
    intro i hi
    show VS_X7_shareByWeights_5 _ _ _ _ _ _ _
    unfold VS_X7_shareByWeights_5
    refine xlist1 hR hL hn (by omega) (fun e => by omega) (fun c => ?_)
    have hwi := hw i c
    show xgR _ _ _ _ _
    refine xgR_R hR (p := 6) (show i < q.2.1 by omega) rfl rfl ?_
    refine xgI_R hR (p := 8) (show i < q.2.1 by omega) rfl rfl ?_
    rw [I_long ⟨by omega, by omega⟩, J_add, show (I (i : Int) + 1 : Int32) = I ((i + 1 : Nat) : Int) from I_add _ 1]
    exact ih (i + 1) (by omega)
theorem sp_sbw {K : xT → Prop} {n : Nat} {S : Int} (hR : RR ad q lo s u co t) (hL : LI q s 1 n) (hn : n ≤ q.2.1) (hn12 : n ≤ 12) (hS : 0 ≤ S ∧ S ≤ 100000000) (hw : ∀ l, l < n → 0 ≤ s 8 l 1 ∧ s 8 l 1 ≤ 100000000) (kk : ∀ t, RR ad q lo (sbw n S s) u co t → K t) : V_X7_shareByWeights_0 K (ad 0 0) (I S) t := ⟨n + 1, sp_sumLoop hR hL hn hn12 hS hw kk n 0 (by omega)⟩
end CLS4
