section ADD2
variable {E : Nat → Nat} {ad : xAd} {q q' : xL} {lo : Nat → Nat → Prop} {s s' u : xS} {co : Nat → Nat → xE} {t t' : xT} {rc rs : Nat}
theorem addS_2 (s : xS) (k n : Nat) (c : Int) : addS s k n c 2 k = fun i => if i = 0 then c else if i ≤ n + 1 then (i : Int) else 0 := by
  unfold addS
  rw [su_f _ (by omega), sup_s]
theorem addS_o {s : xS} {k n p i : Nat} {c : Int} (h1 : ¬ (p = 1 ∧ i = k)) (h2 : ¬ (p = 2 ∧ i = k)) : addS s k n c p i = s p i := by
  unfold addS
  rw [su_f _ h1, sup_n _ _ h2, su_f _ h1]
theorem addS_1 (s : xS) (k n : Nat) (c : Int) (j : Nat) : addS s k n c 1 k j = if j = 2 then (n : Int) + 1 else if j = 0 then s 1 k 0 + 1 else s 1 k j := by
  unfold addS
  rw [su_r]
  by_cases c2 : j = 2
  · rw [if_pos ⟨rfl, rfl, c2⟩, if_pos c2]
  · rw [if_neg (fun h => c2 h.2.2), if_neg c2, sup_n _ _ (by omega), su_r]
    by_cases c0 : j = 0
    · rw [if_pos ⟨rfl, rfl, c0⟩, if_pos c0]
    · rw [if_neg (fun h => c0 h.2.2), if_neg c0]
theorem sp_addTail {K : xT → Prop} {k n cN a : Nat} {t1 t4 : xT} {g : Nat → Option Nat} (hk : k < 3) (hR : RR ad q lo (su s 1 k 0 (s 1 k 0 + 1)) u co t1) (hsz : s 1 k 2 = n) (ha : t1 a = none) (h4 : ∀ b, b ≠ a → t4 b = t1 b) (h4a : t4 a = some (.inl (6, cN, .inr (.inr (.inr (.inr g)))))) (hg : ∀ j, j < n → g j = some (ad (elt k) j)) (hg0 : ∀ j, n ≤ j → j < cN → g j = none) (hn : n < cN) (hcN : cN ≤ 1000) (hel : clv q lo (elt k) n) (kk : ∀ t', RR (adu ad 2 k a) (qc q k) lo (addS s k n cN) u co t' → K t') :
    xpF t4 (ad 1 k) 10 1 (.ref a) fun t6 => (xnl (some a) fun a_8 => xsQ6 t6 a_8 (I n) (ad (elt k) n) fun t9 => xpF t9 (ad 1 k) 10 2 (.int (I n + 1)) fun t10 => K t10) := by
  have hfr := RR_fresh hR ha
  have h1k : clv q lo 1 k := hk
  have n1 : ad 1 k ≠ a := hfr 1 k h1k
  have hob := hR.obj (p := 1) h1k rfl
  obtain ⟨vs, hev, hobj⟩ := elt_obj hk hR hel
  have nel : ad (elt k) n ≠ a := hfr _ _ hel
  have hel2 : elt k ≠ 1 ∧ elt k ≠ 2 := by unfold elt; split <;> decide
  have nel1 : ad (elt k) n ≠ ad 1 k := fun e => hel2.1 (hR.2 _ _ _ _ hel h1k e).1
  refine ⟨_, by rw [h4 _ n1]; exact hob, Nat.le_of_ble_eq_true rfl, a, rfl, ?_⟩
  have hr : i32 (n : Int) := ⟨by omega, by omega⟩
  refine ⟨cN, g, by rw [xup_n _ _ (Ne.symm n1)]; exact h4a, (I_in hr).mpr (by omega), kc k, vs, by rw [xup_n _ _ nel1, h4 _ nel]; exact hev, hobj, ?_⟩
  refine ⟨_, by rw [xup_n _ _ n1, xup_s], Nat.le_of_ble_eq_true rfl, ?_⟩
  have esz : su s 1 k 0 (s 1 k 0 + 1) 1 k 2 = n := by
    simp (config := { decide := true }) only [su_r, su_f, sup_n, not_false_eq_true, eq_self_iff_true, true_or, or_true, false_or, or_false, true_and, and_true, false_and, and_false, if_true, if_false, ite_true, ite_false]
    exact hsz
  have em : su s 1 k 0 (s 1 k 0 + 1) 1 k 0 = s 1 k 0 + 1 := by
    simp (config := { decide := true }) only [su_r, su_f, sup_n, not_false_eq_true, eq_self_iff_true, true_or, or_true, false_or, or_false, true_and, and_true, false_and, and_false, if_true, if_false, ite_true, ite_false]
  refine kk _ (RR_move (r2 := 1) (i2 := k) (s := su s 1 k 0 (s 1 k 0 + 1)) (t := t1) (e1 := .inl (6, cN, .inr (.inr (.inr (.inr (va_up g (I (n : Int)).toNatClampNeg (some (ad (elt k) n)))))))) (by decide) (by decide) (by omega) hR hfr h1k (fun b hb1 hb2 => ?_) ?_ (xup_s _ _ _) ?_ ?_ (fun p i c1 c2 => ?_) (fun p i h20 hl c1 c2 hci => ?_) (fun p i hl => clv_qc hl))
  · rw [xup_n _ _ hb2, xup_n _ _ hb1, xup_n _ _ hb2, h4 b hb1]
  · rw [xup_n _ _ (Ne.symm n1), xup_s]
  · rw [addS_2]
    refine ⟨rfl, ?_, fun j hj => ?_⟩
    · show cN = Int.toNat (if 0 = 0 then (cN : Int) else _)
      rw [if_pos rfl]
      omega
    · rw [I_nat hr]
      show (if j = (n : Int).toNat then some (ad (elt k) n) else g j) = if (if j + 1 = 0 then (cN : Int) else if j + 1 ≤ n + 1 then ((j + 1 : Nat) : Int) else 0) = 0 then none else some (adu ad 2 k a (elt k) ((if j + 1 = 0 then (cN : Int) else if j + 1 ≤ n + 1 then ((j + 1 : Nat) : Int) else 0) - 1).toNat)
      rw [if_neg (show ¬ (j + 1 = 0) by omega), adu_n ad a (fun h => hel2.2 h.1)]
      by_cases c : j < n
      · rw [if_neg (show ¬ j = (n : Int).toNat by omega), if_pos (show j + 1 ≤ n + 1 by omega), if_neg (show ¬ ((j + 1 : Nat) : Int) = 0 by omega), hg j c, show (((j + 1 : Nat) : Int) - 1).toNat = j by omega]
      · by_cases c2 : j = n
        · rw [if_pos (show j = (n : Int).toNat by omega), if_pos (show j + 1 ≤ n + 1 by omega), if_neg (show ¬ ((j + 1 : Nat) : Int) = 0 by omega), show (((j + 1 : Nat) : Int) - 1).toNat = j by omega, c2]
        · rw [if_neg (show ¬ j = (n : Int).toNat by omega), if_neg (show ¬ j + 1 ≤ n + 1 by omega), if_pos rfl]
          exact hg0 j (by omega) hj
  · rw [show cel (adu ad 2 k a) 1 k (addS s k n cN 1 k) = .inr (10, [.int (I (addS s k n cN 1 k 0)), .ref (adu ad 2 k a 2 k), .int (I (addS s k n cN 1 k 2))]) from rfl, adu_s, addS_1, addS_1, if_pos rfl, if_neg (by decide), if_pos rfl, em, show (I (n : Int) + 1) = I ((n : Int) + 1) from I_add _ 1]
    exact rfl
  · rw [addS_o c2 c1, su_f _ c2]
  · exact c2 (cites2 hci)
theorem sp_add {K : Int32 → xT → Prop} {k n : Nat} (hk : k < 3) (hO : RO E ad lo co) (hR : RR ad q lo s u co t) (hL : LI q s k n) (hZ : LZ s k n) (hE : LE E ad q s k) (hcap : s 2 k 0 ≤ 100) (hn : n ≤ 60) (hel : clv q lo (elt k) n) (h1 : 1 ≤ rc) (h2 : 100 ≤ rs) (kk : ∀ ad' t' c, (∀ p i, ¬ (p = 2 ∧ i = k) → ad' p i = ad p i) → RR ad' (qc q k) lo (addS s k n c) u co t' → ((n : Int) + 1 ≤ c ∧ 10 ≤ c ∧ c ≤ 100) → K 1 t') : V_Jx4a65c_add_9ea2d_0 E K (ad 1 k) (ad (elt k) n) t rc rs := by
  obtain ⟨e1, e2, e3, e4, e5⟩ := id hL
  unfold V_Jx4a65c_add_9ea2d_0
  refine xgI_R hR (by simp only [clv, eq_self_iff_true, true_or, or_true, false_or, or_false, true_and, and_true, false_and, and_false] <;> omega) rfl rfl ?_
  rw [show (I (s 1 k 0) + (1 : Int32)) = I (s 1 k 0 + 1) from I_add _ 1]
  refine xpF_I hR (by simp only [clv, eq_self_iff_true, true_or, or_true, false_or, or_false, true_and, and_true, false_and, and_false] <;> omega) (by decide) rfl (Nat.le_of_ble_eq_true rfl) rfl (fun t hR => ?_)
  refine xgR_R hR (by simp only [clv, eq_self_iff_true, true_or, or_true, false_or, or_false, true_and, and_true, false_and, and_false] <;> omega) rfl rfl ?_
  refine xgI_R hR (by simp only [clv, eq_self_iff_true, true_or, or_true, false_or, or_false, true_and, and_true, false_and, and_false] <;> omega) rfl rfl ?_
  simp (config := { decide := true }) only [su_r, su_f, sup_n, not_false_eq_true, eq_self_iff_true, true_or, or_true, false_or, or_false, true_and, and_true, false_and, and_false, if_true, if_false, ite_true, ite_false]
  rw [e1]
  refine ⟨xis_R hR (by simp only [clv, eq_self_iff_true, true_or, or_true, false_or, or_false, true_and, and_true, false_and, and_false] <;> omega) rfl, ?_⟩
  refine ⟨rc, rs, Nat.le_refl _, Nat.le_refl _, ?_⟩
  unfold V_Jx4a65c_add_72be8_0
  have s2k : su s 1 k 0 (s 1 k 0 + 1) 2 k = s 2 k := su_f _ (by omega)
  rw [show (I (n : Int) + (1 : Int32)) = I ((n : Int) + 1) from I_add _ 1]
  have tl : ∀ {cN a : Nat} {t4 : xT} {g : Nat → Option Nat} (hR : RR ad q lo (su s 1 k 0 (s 1 k 0 + 1)) u co t) (ha : t a = none) (h4 : ∀ b, b ≠ a → t4 b = t b) (h4a : t4 a = some (.inl (6, cN, .inr (.inr (.inr (.inr g)))))) (hg : ∀ j, j < n → g j = some (ad (elt k) j)) (hg0 : ∀ j, n ≤ j → j < cN → g j = none) (hn : n < cN) (hcN : 10 ≤ cN ∧ cN ≤ 100), xpF t4 (ad 1 k) 10 1 (.ref a) fun t6 => (xnl (some a) fun a_8 => xsQ6 t6 a_8 (I n) (ad (elt k) n) fun t9 => xpF t9 (ad 1 k) 10 2 (.int (I ((n : Int) + 1))) fun t10 => K 1 t10) := by
    intro cN a t4 g hR ha h4 h4a hg hg0 hn hcN
    have := sp_addTail (K := fun t => K 1 t) hk hR e1 ha h4 h4a hg hg0 hn (by omega) hel (fun t' hR => kk _ t' cN (fun p i h => adu_n ad a h) hR (by omega))
    rw [show (I (n : Int) + 1) = I ((n : Int) + 1) from I_add _ 1] at this
    exact this
  rcases hE with ⟨c0, ea⟩ | ⟨c10, hC⟩
  · have hn0 : n = 0 := by omega
    subst hn0
    obtain ⟨⟨o1, o2, o3⟩, -⟩ := id hO
    rw [ea, o1]
    refine xal_Q hR (p := 30) o2 o3 ?_
    refine xst rfl ?_
    refine ⟨xis_R hR (by simp only [clv, eq_self_iff_true, true_or, or_true, false_or, or_false, true_and, and_true, false_and, and_false] <;> omega) rfl, ?_⟩
    refine ⟨rc, rs, Nat.le_refl _, Nat.le_refl _, ?_⟩
    unfold V_Jx4a65c_grow_d5877_0
    refine xgI_R hR (by simp only [clv, eq_self_iff_true, true_or, or_true, false_or, or_false, true_and, and_true, false_and, and_false] <;> omega) rfl rfl ?_
    simp (config := { decide := true }) only [su_r, su_f, sup_n, not_false_eq_true, eq_self_iff_true, true_or, or_true, false_or, or_false, true_and, and_true, false_and, and_false, if_true, if_false, ite_true, ite_false]
    rw [e1]
    refine ⟨xis_R hR (by simp only [clv, eq_self_iff_true, true_or, or_true, false_or, or_false, true_and, and_true, false_and, and_false] <;> omega) rfl, ?_⟩
    refine ⟨rc, rs, Nat.le_refl _, Nat.le_refl _, ?_⟩
    unfold V_Jx4a65c_grow_92f84_0
    refine xgR_R hR (by simp only [clv, eq_self_iff_true, true_or, or_true, false_or, or_false, true_and, and_true, false_and, and_false] <;> omega) rfl rfl ?_
    rw [ea, o1]
    refine xal_Q hR (p := 30) o2 o3 ?_
    refine xbf (by decide) ?_
    refine xgR_R hR (by simp only [clv, eq_self_iff_true, true_or, or_true, false_or, or_false, true_and, and_true, false_and, and_false] <;> omega) rfl rfl ?_
    rw [ea]
    refine xbt (by rw [o1]) ?_
    rw [show (if (10 : Int32) < I ((0 : Nat) : Int) + 1 then I ((0 : Nat) : Int) + 1 else (10 : Int32)) = I 10 from by decide]
    refine ⟨by decide, by decide, h1, by show 10 ≤ rs; omega, fun a ha => ?_⟩
    exact tl hR ha (fun b hb => xup_n _ _ hb) (xup_s _ _ _) (fun j hj => by omega) (fun j _ _ => rfl) (by decide) (by decide)
  · have hlv : clv q lo 2 k := ⟨hk, hC⟩
    have hcell : xce ad (su s 1 k 0 (s 1 k 0 + 1)) u co 2 k = .inl (6, (s 2 k 0).toNat, .inr (.inr (.inr (.inr (fun j => if s 2 k (j + 1) = 0 then none else some (ad (elt k) (s 2 k (j + 1) - 1).toNat)))))) := by
      unfold xce
      rw [if_pos (by decide), s2k]
      rfl
    have hcapN : (((s 2 k 0).toNat : Nat) : Int) = s 2 k 0 := by omega
    refine xal_Q hR (p := 2) hlv hcell ?_
    rw [hcapN]
    obtain ⟨e, h2k, hsim⟩ := hR.1 2 k hlv
    rw [hcell] at hsim
    obtain ⟨f, rfl, hf⟩ := sim_ref hsim
    have hfg : ∀ j, j < n → f j = some (ad (elt k) j) := fun j hj => by
      rw [hf j (by omega), e4 j hj, if_neg (by omega), show ((j : Int) + 1 - 1).toNat = j by omega]
    have hf0 : ∀ j, n ≤ j → j < (s 2 k 0).toNat → f j = none := fun j hj hj2 => by
      rw [hf j hj2, hZ j hj, if_pos rfl]
    by_cases c : (n : Int) = s 2 k 0
    · refine xst (by rw [c]) ?_
      refine ⟨xis_R hR (by simp only [clv, eq_self_iff_true, true_or, or_true, false_or, or_false, true_and, and_true, false_and, and_false] <;> omega) rfl, ?_⟩
      refine ⟨rc, rs, Nat.le_refl _, Nat.le_refl _, ?_⟩
      unfold V_Jx4a65c_grow_d5877_0
      refine xgI_R hR (by simp only [clv, eq_self_iff_true, true_or, or_true, false_or, or_false, true_and, and_true, false_and, and_false] <;> omega) rfl rfl ?_
      simp (config := { decide := true }) only [su_r, su_f, sup_n, not_false_eq_true, eq_self_iff_true, true_or, or_true, false_or, or_false, true_and, and_true, false_and, and_false, if_true, if_false, ite_true, ite_false]
      rw [e1, show (I (n : Int) + (1 : Int32)) = I ((n : Int) + 1) from I_add _ 1]
      refine ⟨xis_R hR (by simp only [clv, eq_self_iff_true, true_or, or_true, false_or, or_false, true_and, and_true, false_and, and_false] <;> omega) rfl, ?_⟩
      refine ⟨rc, rs, Nat.le_refl _, Nat.le_refl _, ?_⟩
      unfold V_Jx4a65c_grow_92f84_0
      refine xgR_R hR (by simp only [clv, eq_self_iff_true, true_or, or_true, false_or, or_false, true_and, and_true, false_and, and_false] <;> omega) rfl rfl ?_
      refine xal_Q hR (p := 2) hlv hcell ?_
      rw [hcapN]
      refine xbt (by (try simp only [I_lit, J_lit, I_ofNat, I_neg, I_add, I_sub, I_mul, J_neg, J_add, J_sub, J_mul]); first | (rw [I_lt ⟨by omega, by omega⟩ ⟨by omega, by omega⟩]; omega) | (rw [I_le ⟨by omega, by omega⟩ ⟨by omega, by omega⟩]; omega) | (rw [I_eq ⟨by omega, by omega⟩ ⟨by omega, by omega⟩]; omega) | (rw [J_lt ⟨by omega, by omega⟩ ⟨by omega, by omega⟩]; omega) | (rw [J_le ⟨by omega, by omega⟩ ⟨by omega, by omega⟩]; omega) | (rw [J_eq ⟨by omega, by omega⟩ ⟨by omega, by omega⟩]; omega)) ?_
      unfold V_Jx4a65c_grow_92f84_20 V_J8_newLength_cabcc_0
      rw [shr1 (by omega), I_sub, show (if I ((n : Int) + 1 - s 2 k 0) < I (s 2 k 0 / 2) then I (s 2 k 0 / 2) else I ((n : Int) + 1 - s 2 k 0)) = I (s 2 k 0 / 2) from if_pos (by (try simp only [I_lit, J_lit, I_ofNat, I_neg, I_add, I_sub, I_mul, J_neg, J_add, J_sub, J_mul]); first | (rw [I_lt ⟨by omega, by omega⟩ ⟨by omega, by omega⟩]; omega) | (rw [I_le ⟨by omega, by omega⟩ ⟨by omega, by omega⟩]; omega) | (rw [I_eq ⟨by omega, by omega⟩ ⟨by omega, by omega⟩]; omega) | (rw [J_lt ⟨by omega, by omega⟩ ⟨by omega, by omega⟩]; omega) | (rw [J_le ⟨by omega, by omega⟩ ⟨by omega, by omega⟩]; omega) | (rw [J_eq ⟨by omega, by omega⟩ ⟨by omega, by omega⟩]; omega)), I_add]
      refine xbf (by (try simp only [I_lit, J_lit, I_ofNat, I_neg, I_add, I_sub, I_mul, J_neg, J_add, J_sub, J_mul]); first | (rw [I_lt ⟨by omega, by omega⟩ ⟨by omega, by omega⟩]; omega) | (rw [I_le ⟨by omega, by omega⟩ ⟨by omega, by omega⟩]; omega) | (rw [I_eq ⟨by omega, by omega⟩ ⟨by omega, by omega⟩]; omega) | (rw [J_lt ⟨by omega, by omega⟩ ⟨by omega, by omega⟩]; omega) | (rw [J_le ⟨by omega, by omega⟩ ⟨by omega, by omega⟩]; omega) | (rw [J_eq ⟨by omega, by omega⟩ ⟨by omega, by omega⟩]; omega)) (xbf (by (try simp only [I_lit, J_lit, I_ofNat, I_neg, I_add, I_sub, I_mul, J_neg, J_add, J_sub, J_mul]); first | (rw [I_lt ⟨by omega, by omega⟩ ⟨by omega, by omega⟩]; omega) | (rw [I_le ⟨by omega, by omega⟩ ⟨by omega, by omega⟩]; omega) | (rw [I_eq ⟨by omega, by omega⟩ ⟨by omega, by omega⟩]; omega) | (rw [J_lt ⟨by omega, by omega⟩ ⟨by omega, by omega⟩]; omega) | (rw [J_le ⟨by omega, by omega⟩ ⟨by omega, by omega⟩]; omega) | (rw [J_eq ⟨by omega, by omega⟩ ⟨by omega, by omega⟩]; omega)) ?_)
      refine xgR_R hR (by simp only [clv, eq_self_iff_true, true_or, or_true, false_or, or_false, true_and, and_true, false_and, and_false] <;> omega) rfl rfl ?_
      refine ⟨rc, rs, Nat.le_refl _, Nat.le_refl _, ?_⟩
      unfold V_J7_copyOf_1904c_0
      refine ⟨⟨_, f, h2k⟩, rc, rs, Nat.le_refl _, Nat.le_refl _, ?_⟩
      unfold V_J7_copyOf_6403c_0
      refine xst rfl ?_
      have hcn : (I (s 2 k 0 + s 2 k 0 / 2)).toNatClampNeg = (s 2 k 0 + s 2 k 0 / 2).toNat := I_nat ⟨by omega, by omega⟩
      have hcc : (I (s 2 k 0)).toNatClampNeg = (s 2 k 0).toNat := I_nat ⟨by omega, by omega⟩
      refine ⟨(by (try simp only [I_lit, J_lit, I_ofNat, I_neg, I_add, I_sub, I_mul, J_neg, J_add, J_sub, J_mul]); first | (rw [I_lt ⟨by omega, by omega⟩ ⟨by omega, by omega⟩]; omega) | (rw [I_le ⟨by omega, by omega⟩ ⟨by omega, by omega⟩]; omega) | (rw [I_eq ⟨by omega, by omega⟩ ⟨by omega, by omega⟩]; omega) | (rw [J_lt ⟨by omega, by omega⟩ ⟨by omega, by omega⟩]; omega) | (rw [J_le ⟨by omega, by omega⟩ ⟨by omega, by omega⟩]; omega) | (rw [J_eq ⟨by omega, by omega⟩ ⟨by omega, by omega⟩]; omega)), by rw [hcn]; omega, h1, by rw [hcn]; omega, fun a ha => ?_⟩
      have hfr := RR_fresh hR ha
      have n2 : ad 2 k ≠ a := hfr 2 k hlv
      have h2k' : ∀ x, xup t a x (ad 2 k) = some (.inl (6, (s 2 k 0).toNat, .inr (.inr (.inr (.inr f))))) := fun x => by rw [xup_n _ _ n2]; exact h2k
      refine ⟨6, _, h2k' _, ?_⟩
      show xcQ _ _ _ _ _ _ _
      rw [I_ofNat, hcapN, show (if I (s 2 k 0 + s 2 k 0 / 2) < I (s 2 k 0) then I (s 2 k 0 + s 2 k 0 / 2) else I (s 2 k 0)) = I (s 2 k 0) from if_neg (by (try simp only [I_lit, J_lit, I_ofNat, I_neg, I_add, I_sub, I_mul, J_neg, J_add, J_sub, J_mul]); first | (rw [I_lt ⟨by omega, by omega⟩ ⟨by omega, by omega⟩]; omega) | (rw [I_le ⟨by omega, by omega⟩ ⟨by omega, by omega⟩]; omega) | (rw [I_eq ⟨by omega, by omega⟩ ⟨by omega, by omega⟩]; omega) | (rw [J_lt ⟨by omega, by omega⟩ ⟨by omega, by omega⟩]; omega) | (rw [J_le ⟨by omega, by omega⟩ ⟨by omega, by omega⟩]; omega) | (rw [J_eq ⟨by omega, by omega⟩ ⟨by omega, by omega⟩]; omega))]
      have z0 : (0 : Int32).toNatClampNeg = 0 := rfl
      refine ⟨_, _, f, _, h2k' _, xup_s _ _ _, by decide, by decide, (by (try simp only [I_lit, J_lit, I_ofNat, I_neg, I_add, I_sub, I_mul, J_neg, J_add, J_sub, J_mul]); first | (rw [I_lt ⟨by omega, by omega⟩ ⟨by omega, by omega⟩]; omega) | (rw [I_le ⟨by omega, by omega⟩ ⟨by omega, by omega⟩]; omega) | (rw [I_eq ⟨by omega, by omega⟩ ⟨by omega, by omega⟩]; omega) | (rw [J_lt ⟨by omega, by omega⟩ ⟨by omega, by omega⟩]; omega) | (rw [J_le ⟨by omega, by omega⟩ ⟨by omega, by omega⟩]; omega) | (rw [J_eq ⟨by omega, by omega⟩ ⟨by omega, by omega⟩]; omega)), by rw [hcc, z0]; omega, by rw [hcc, hcn, z0]; omega, fun i hi y hy => ?_, ?_⟩
      · rw [hcc] at hi
        rw [z0, Nat.zero_add, hfg i (by omega)] at hy
        cases hy
        have hel' : clv q lo (elt k) i := by
          have hin : i < n := by omega
          clear h2k' hcell hsim h2k tl kk
          obtain rfl | rfl | rfl : k = 0 ∨ k = 1 ∨ k = 2 := by omega
          · exact Nat.lt_trans hin hel
          · exact Nat.lt_trans hin hel
          · exact Nat.lt_trans hin hel
        obtain ⟨vs, g1, g2⟩ := elt_obj hk hR hel'
        exact ⟨kc k, vs, by rw [xup_n _ _ (hfr _ _ hel')]; exact g1, g2⟩
      · refine ⟨a, rfl, ?_⟩
        refine tl hR ha (fun b hb => by rw [xup_n _ _ hb, xup_n _ _ hb]) (xup_s _ _ _) (fun j hj => ?_) (fun j hj1 hj2 => ?_) (by rw [hcn]; omega) (by rw [hcn]; omega)
        · rw [hcc, z0]
          show (if 0 ≤ j ∧ j < 0 + (s 2 k 0).toNat then f (0 + (j - 0)) else none) = _
          rw [if_pos (by omega), show 0 + (j - 0) = j by omega]
          exact hfg j hj
        · rw [hcc, z0]
          show (if 0 ≤ j ∧ j < 0 + (s 2 k 0).toNat then f (0 + (j - 0)) else none) = _
          rw [if_neg (by omega)]
    · refine xsf (by (try simp only [I_lit, J_lit, I_ofNat, I_neg, I_add, I_sub, I_mul, J_neg, J_add, J_sub, J_mul]); first | (rw [I_lt ⟨by omega, by omega⟩ ⟨by omega, by omega⟩]; omega) | (rw [I_le ⟨by omega, by omega⟩ ⟨by omega, by omega⟩]; omega) | (rw [I_eq ⟨by omega, by omega⟩ ⟨by omega, by omega⟩]; omega) | (rw [J_lt ⟨by omega, by omega⟩ ⟨by omega, by omega⟩]; omega) | (rw [J_le ⟨by omega, by omega⟩ ⟨by omega, by omega⟩]; omega) | (rw [J_eq ⟨by omega, by omega⟩ ⟨by omega, by omega⟩]; omega)) ?_
      obtain ⟨vs, hev, hobj⟩ := elt_obj hk hR hel
      have hr : i32 (n : Int) := ⟨by omega, by omega⟩
      refine ⟨_, f, h2k, (I_in hr).mpr (by omega), kc k, vs, hev, hobj, ?_⟩
      have hR2 : RR ad q lo (sup (su s 1 k 0 (s 1 k 0 + 1)) 2 k (fun i => if i = 0 then s 2 k 0 else if i ≤ n + 1 then (i : Int) else 0)) u co (xup t (ad 2 k) (.inl (6, (s 2 k 0).toNat, .inr (.inr (.inr (.inr (va_up f (I (n : Int)).toNatClampNeg (some (ad (elt k) n))))))))) := by
        refine hR.up (p := 2) (i := k) hlv ?_ (fun p i _ h => by unfold xce; rw [sup_n _ _ h])
        unfold xce
        rw [if_pos (by decide), sup_s]
        refine ⟨rfl, ?_, fun j hj => ?_⟩
        · show (s 2 k 0).toNat = Int.toNat (if 0 = 0 then s 2 k 0 else _)
          rw [if_pos rfl]
        · rw [I_nat hr]
          show (if j = (n : Int).toNat then some (ad (elt k) n) else f j) = if (if j + 1 = 0 then s 2 k 0 else if j + 1 ≤ n + 1 then ((j + 1 : Nat) : Int) else 0) = 0 then none else some (ad (elt k) ((if j + 1 = 0 then s 2 k 0 else if j + 1 ≤ n + 1 then ((j + 1 : Nat) : Int) else 0) - 1).toNat)
          rw [if_neg (show ¬ (j + 1 = 0) by omega)]
          by_cases cj : j < n
          · rw [if_neg (show ¬ j = (n : Int).toNat by omega), if_pos (show j + 1 ≤ n + 1 by omega), if_neg (show ¬ ((j + 1 : Nat) : Int) = 0 by omega), hfg j cj, show (((j + 1 : Nat) : Int) - 1).toNat = j by omega]
          · by_cases c2 : j = n
            · rw [if_pos (show j = (n : Int).toNat by omega), if_pos (show j + 1 ≤ n + 1 by omega), if_neg (show ¬ ((j + 1 : Nat) : Int) = 0 by omega), show (((j + 1 : Nat) : Int) - 1).toNat = j by omega, c2]
            · rw [if_neg (show ¬ j = (n : Int).toNat by omega), if_neg (show ¬ j + 1 ≤ n + 1 by omega), if_pos rfl]
              exact hf0 j (by omega) hj
      generalize xup t (ad 2 k) _ = t2 at hR2 ⊢
      refine xpF_I hR2 (p := 1) (i := k) hk (by decide) rfl (Nat.le_of_ble_eq_true rfl) rfl (fun t hR => ?_)
      refine kk ad t (s 2 k 0) (fun _ _ _ => rfl) ⟨fun p i hl => hR.1 p i ?_, fun p i p' i' g1 g2 => hR.2 p i p' i' ?_ ?_⟩ (by omega)
      · rcases clv_qc hl with h | ⟨rfl, rfl⟩
        · exact h
        · exact hlv
      · rcases clv_qc g1 with h | ⟨rfl, rfl⟩
        · exact h
        · exact hlv
      · rcases clv_qc g2 with h | ⟨rfl, rfl⟩
        · exact h
        · exact hlv
end ADD2
