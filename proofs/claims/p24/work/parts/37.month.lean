/-! ===== the end of a month, its beginning ===== -/
section CLS5
variable {ad : xAd} {q : xL} {lo : Nat → Nat → Prop} {s u : xS} {co : Nat → Nat → xE} {t : xT}
def shA (m : Nat) (l : Nat) (s : xS) : xS := su (su s 8 l 0 0) 8 l 1 (if runb s l m = 0 then 0 else s 5 (s 6 l 0).toNat 0)
def shB (m : Nat) (l : Nat) (s : xS) : xS := su s 8 l 1 (useb s l m)
def byR (n m : Nat) (s : xS) : Int := if sumn (fun l => useb s l m) n = 0 then s 4 100 m else s 4 100 m * 3 / 10
def shHeat (n m : Nat) (s : xS) : xS := sbw n (s 4 100 m - byR n m s) (lp (shB m) 0 n (sbw n (byR n m s) (lp (shA m) 0 n s)))
/-- the same but for the shares -/
def E8 (s s' : xS) : Prop := ∀ p i, p ≠ 8 → s' p i = s p i
theorem E8.rf {s : xS} : E8 s s := fun _ _ _ => rfl
theorem E8.tr {a b c : xS} (h : E8 a b) (g : E8 b c) : E8 a c := fun p i hp => (g p i hp).trans (h p i hp)
theorem E8.su {s : xS} {i k : Nat} {x : Int} : E8 s (su s 8 i k x) := fun p i hp => su_f s (fun h => hp h.1)
theorem E8.LI {k n : Nat} {s s' : xS} (h : E8 s s') (g : LI q s k n) : LI q s' k n := LI_of g (h _ _ (by decide)) (h _ _ (by decide))
theorem E8.okL {l : Nat} {s s' : xS} (h : E8 s s') (g : okL q s l) : okL q s' l := okL_of g (h _ _ (by decide)) (h _ _ (by decide))
theorem E8.runb {l : Nat} {m : Int} {s s' : xS} (h : E8 s s') : runb s' l m = runb s l m := by
  unfold _root_.Jvm.Pilot.CRentStreamLaw_law_r6381_6d719a.runb
  rw [h 6 l (by decide)]
theorem E8.useb {l m : Nat} {s s' : xS} (h : E8 s s') : useb s' l m = useb s l m := by
  unfold _root_.Jvm.Pilot.CRentStreamLaw_law_r6381_6d719a.useb
  rw [h.runb, h 6 l (by decide), h 4 _ (by decide)]
theorem E8.sb58 {n : Nat} {S A : Int} : ∀ (r i : Nat) (s : xS) (left : Int), E8 s (sb58 n S A i r s left) := by
  intro r
  induction r with
  | zero =>
    intro i s left
    show E8 s (itn (giv n) left.toNat s)
    generalize left.toNat = k
    induction k generalizing s with
    | zero => exact E8.rf
    | succ k ih => exact E8.tr (fun p i hp => giv_o hp) (ih (giv n s))
  | succ r ih =>
    intro i s left
    rw [sb58_step]
    exact E8.tr (fun p i hp => twk_o (Or.inl hp)) (ih _ _ _)
theorem E8.sbw {n : Nat} {S : Int} {s : xS} : E8 s (sbw n S s) := by
  unfold _root_.Jvm.Pilot.CRentStreamLaw_law_r6381_6d719a.sbw
  split
  · exact E8.sb58 _ _ _ _
  · exact E8.rf
theorem E8.lp {f : Nat → xS → xS} (hf : ∀ i s, E8 s (f i s)) : ∀ (k i : Nat) (s : xS), E8 s (lp f i k s) := by
  intro k
  induction k with
  | zero => exact fun _ _ => E8.rf
  | succ k ih => exact fun i s => E8.tr (hf i s) (ih (i + 1) (f i s))
theorem E8.shA {m l : Nat} {s : xS} : E8 s (shA m l s) := E8.tr E8.su E8.su
theorem E8.shB {m l : Nat} {s : xS} : E8 s (shB m l s) := E8.su
theorem E8.shHeat {n m : Nat} {s : xS} : E8 s (shHeat n m s) := E8.tr (E8.tr (E8.tr (E8.lp (fun _ _ => E8.shA) _ _ _) E8.sbw) (E8.lp (fun _ _ => E8.shB) _ _ _)) E8.sbw
/-- weights by rooms, by use, are in range -/
def okW (q : xL) (s : xS) (n m : Nat) : Prop := (∀ l, l < n → okL q s l ∧ 0 ≤ s 5 (s 6 l 0).toNat 0 ∧ s 5 (s 6 l 0).toNat 0 ≤ 9 ∧ 0 ≤ useb s l m ∧ useb s l m ≤ 1000000) ∧ 0 ≤ s 4 100 m ∧ s 4 100 m ≤ 10000000
theorem E8.okW {n m : Nat} {s s' : xS} (h : E8 s s') (g : okW q s n m) : okW q s' n m := by
  unfold _root_.Jvm.Pilot.CRentStreamLaw_law_r6381_6d719a.okW at g ⊢
  rw [h 4 100 (by decide)]
  refine ⟨fun l hl => ?_, g.2⟩
  have := g.1 l hl
  rw [h 6 l (by decide), h 5 _ (by decide), h.useb]
  exact ⟨h.okL this.1, this.2⟩
theorem runb_01 (s : xS) (l : Nat) (m : Int) : runb s l m = 0 ∨ runb s l m = 1 := by
  unfold runb
  split <;> simp
theorem sp_shB {K : xT → Prop} {n m : Nat} {C B : Int} (hn : n ≤ q.2.1) (hn12 : n ≤ 12) (hm : m < 121) (hB : 0 ≤ B ∧ B ≤ C ∧ C ≤ 10000000) : ∀ (r i : Nat) (s : xS) (t : xT), i + r = n → RR ad q lo s u co t → LI q s 1 n → okW q s n m → (∀ l, l < i → s 8 l 1 = useb s l m) → (∀ t, RR ad q lo (sbw n (C - B) (lp (shB m) i r s)) u co t → K t) → V_X7_shareHeat_111 K (r + 1) (ad 0 0) (I m) (I C) (I B) (I i) t := by
  intro r
  induction r with
  | zero =>
    intro i s t hi hR hL hW hw kk
    show VS_X7_shareHeat_111 _ _ _ _ _ _ _ _
    unfold VS_X7_shareHeat_111
    refine xlist1 hR hL hn (by omega) (fun e => ?_) (fun c => by omega)
    subst e
    refine ⟨xis_R hR (by simp only [clv, eq_self_iff_true, true_or, or_true, false_or, or_false, true_and, and_true, false_and, and_false] <;> omega) rfl, ?_⟩
    rw [I_sub]
    refine sp_sbw hR hL hn hn12 (by omega) (fun l hl => ?_) kk
    have := hW.1 l hl
    rw [hw l hl]
    omega
  | succ r ih =>
    intro i s t hi hR hL hW hw kk
    show VS_X7_shareHeat_111 _ _ _ _ _ _ _ _
    unfold VS_X7_shareHeat_111
    refine xlist1 hR hL hn (by omega) (fun e => by omega) (fun c => ?_)
    have ho := (hW.1 i c).1
    have h61 := ho.1
    show xgR _ _ _ _ _
    refine xgR_R hR (by simp only [clv, eq_self_iff_true, true_or, or_true, false_or, or_false, true_and, and_true, false_and, and_false] <;> omega) rfl rfl ?_
    refine ⟨xis_R hR (by simp only [clv, eq_self_iff_true, true_or, or_true, false_or, or_false, true_and, and_true, false_and, and_false] <;> omega) rfl, ?_⟩
    refine sp_useIn hR ho hm ?_
    refine xpF_I hR (by simp only [clv, eq_self_iff_true, true_or, or_true, false_or, or_false, true_and, and_true, false_and, and_false] <;> omega) (by decide) rfl (Nat.le_of_ble_eq_true rfl) rfl (fun t hR => ?_)
    rw [show (I (i : Int) + 1 : Int32) = I ((i + 1 : Nat) : Int) from I_add _ 1]
    refine ih (i + 1) _ t (by omega) hR (E8.shB.LI hL) (E8.shB.okW hW) (fun l hl => ?_) kk
    rw [E8.su.useb]
    by_cases e : l = i
    · subst e
      simp (config := { decide := true }) only [su_r, su_f, sup_n, not_false_eq_true, eq_self_iff_true, true_or, or_true, false_or, or_false, true_and, and_true, false_and, and_false, if_true, if_false, ite_true, ite_false]
    · simp (config := { decide := true }) only [su_r, su_f, sup_n, not_false_eq_true, eq_self_iff_true, true_or, or_true, false_or, or_false, true_and, and_true, false_and, and_false, if_true, if_false, ite_true, ite_false, e]
      exact hw l (by omega)
theorem sp_shA {K : xT → Prop} {n m : Nat} {C B : Int} (hn : n ≤ q.2.1) (hn12 : n ≤ 12) (hm : m < 121) (hB : 0 ≤ B ∧ B ≤ C ∧ C ≤ 10000000) : ∀ (r i : Nat) (s : xS) (t : xT), i + r = n → RR ad q lo s u co t → LI q s 1 n → okW q s n m → (∀ l, l < i → 0 ≤ s 8 l 1 ∧ s 8 l 1 ≤ 9) → (∀ t, RR ad q lo (sbw n (C - B) (lp (shB m) 0 n (sbw n B (lp (shA m) i r s)))) u co t → K t) → V_X7_shareHeat_33 K (r + 1) (ad 0 0) (I m) (I C) (I B) (I i) t := by
  intro r
  induction r with
  | zero =>
    intro i s t hi hR hL hW hw kk
    show VS_X7_shareHeat_33 _ _ _ _ _ _ _ _
    unfold VS_X7_shareHeat_33
    refine xlist1 hR hL hn (by omega) (fun e => ?_) (fun c => by omega)
    subst e
    refine ⟨xis_R hR (by simp only [clv, eq_self_iff_true, true_or, or_true, false_or, or_false, true_and, and_true, false_and, and_false] <;> omega) rfl, ?_⟩
    refine sp_sbw hR hL hn hn12 (by omega) (fun l hl => by have := hw l hl; omega) (fun t hR => ?_)
    exact ⟨i + 1, sp_shB hn hn12 hm hB i 0 _ t (by omega) hR (E8.sbw.LI hL) (E8.sbw.okW hW) (fun l hl => by omega) kk⟩
  | succ r ih =>
    intro i s t hi hR hL hW hw kk
    show VS_X7_shareHeat_33 _ _ _ _ _ _ _ _
    unfold VS_X7_shareHeat_33
    refine xlist1 hR hL hn (by omega) (fun e => by omega) (fun c => ?_)
    obtain ⟨ho, hr0, hr9, -⟩ := hW.1 i c
    obtain ⟨h61, h62, h63, h64, h65, h66⟩ := ho
    show xgR _ _ _ _ _
    refine xgR_R hR (by simp only [clv, eq_self_iff_true, true_or, or_true, false_or, or_false, true_and, and_true, false_and, and_false] <;> omega) rfl rfl ?_
    rw [show (0 : Int32) = I 0 from rfl]
    refine xpF_I hR (by simp only [clv, eq_self_iff_true, true_or, or_true, false_or, or_false, true_and, and_true, false_and, and_false] <;> omega) (by decide) rfl (Nat.le_of_ble_eq_true rfl) rfl (fun t hR => ?_)
    refine xgR_R hR (by simp only [clv, eq_self_iff_true, true_or, or_true, false_or, or_false, true_and, and_true, false_and, and_false] <;> omega) rfl rfl ?_
    refine ⟨xis_R hR (by simp only [clv, eq_self_iff_true, true_or, or_true, false_or, or_false, true_and, and_true, false_and, and_false] <;> omega) rfl, ?_⟩
    refine sp_runsIn hR h61 (by simp (config := { decide := true }) only [su_r, su_f, sup_n, not_false_eq_true, eq_self_iff_true, true_or, or_true, false_or, or_false, true_and, and_true, false_and, and_false, if_true, if_false, ite_true, ite_false]; exact ⟨by omega, by omega⟩) (by simp (config := { decide := true }) only [su_r, su_f, sup_n, not_false_eq_true, eq_self_iff_true, true_or, or_true, false_or, or_false, true_and, and_true, false_and, and_false, if_true, if_false, ite_true, ite_false]; exact ⟨by omega, by omega⟩) ⟨by omega, by omega⟩ ?_
    rw [E8.su.runb, show (I (i : Int) + 1 : Int32) = I ((i + 1 : Nat) : Int) from I_add _ 1]
    have kk2 := kk
    have step : ∀ x : Int, (x = if runb s i m = 0 then 0 else s 5 (s 6 i 0).toNat 0) → ∀ t, RR ad q lo (su (su s 8 i 0 0) 8 i 1 x) u co t → V_X7_shareHeat_33 K (r + 1) (ad 0 0) (I m) (I C) (I B) (I ((i + 1 : Nat) : Int)) t := by
      intro x hx t hR
      subst hx
      refine ih (i + 1) _ t (by omega) hR (E8.shA.LI hL) (E8.shA.okW hW) (fun l hl => ?_) kk
      by_cases e : l = i
      · subst e
        simp (config := { decide := true }) only [su_r, su_f, sup_n, not_false_eq_true, eq_self_iff_true, true_or, or_true, false_or, or_false, true_and, and_true, false_and, and_false, if_true, if_false, ite_true, ite_false]
        split <;> omega
      · simp (config := { decide := true }) only [su_r, su_f, sup_n, not_false_eq_true, eq_self_iff_true, true_or, or_true, false_or, or_false, true_and, and_true, false_and, and_false, if_true, if_false, ite_true, ite_false, e]
        exact hw l (by omega)
    rcases runb_01 s i m with hr | hr
    · rw [hr]
      refine xbt rfl ?_
      refine xpF_I hR (by simp only [clv, eq_self_iff_true, true_or, or_true, false_or, or_false, true_and, and_true, false_and, and_false] <;> omega) (by decide) rfl (Nat.le_of_ble_eq_true rfl) rfl (fun t hR => ?_)
      exact step 0 (by rw [if_pos hr]) t hR
    · rw [hr]
      refine xbf (by decide) ?_
      refine xgR_R hR (by simp only [clv, eq_self_iff_true, true_or, or_true, false_or, or_false, true_and, and_true, false_and, and_false] <;> omega) rfl rfl ?_
      refine xgI_R hR (p := 5) (by simp (config := { decide := true }) only [su_r, su_f, sup_n, not_false_eq_true, eq_self_iff_true, true_or, or_true, false_or, or_false, true_and, and_true, false_and, and_false, if_true, if_false, ite_true, ite_false]; exact h62) rfl rfl ?_
      simp (config := { decide := true }) only [su_r, su_f, sup_n, not_false_eq_true, eq_self_iff_true, true_or, or_true, false_or, or_false, true_and, and_true, false_and, and_false, if_true, if_false, ite_true, ite_false]
      refine xpF_I hR (by simp only [clv, eq_self_iff_true, true_or, or_true, false_or, or_false, true_and, and_true, false_and, and_false] <;> omega) (by decide) rfl (Nat.le_of_ble_eq_true rfl) rfl (fun t hR => ?_)
      exact step _ (by rw [if_neg (by omega)]) t hR
theorem sp_shHeat {K : xT → Prop} {n m : Nat} (hR : RR ad q lo s u co t) (hL : LI q s 1 n) (hn : n ≤ q.2.1) (hn12 : n ≤ 12) (hm : m < 121) (hW : okW q s n m) (kk : ∀ t, RR ad q lo (shHeat n m s) u co t → K t) : V_X7_shareHeat_0 K (ad 0 0) (I m) t := by
  unfold V_X7_shareHeat_0
  have hs := sumn_rng (g := fun l => useb s l m) (b := 1000000) (n := n) (fun l hl => ⟨(hW.1 l hl).2.2.2.1, (hW.1 l hl).2.2.2.2⟩)
  obtain ⟨-, hc0, hc1⟩ := id hW
  refine xgR_R hR (by simp only [clv, eq_self_iff_true, true_or, or_true, false_or, or_false, true_and, and_true, false_and, and_false] <;> omega) rfl rfl ?_
  refine ⟨xis_R hR (by simp only [clv, eq_self_iff_true, true_or, or_true, false_or, or_false, true_and, and_true, false_and, and_false] <;> omega) rfl, ?_⟩
  refine sp_in hR (by simp only [clv, eq_self_iff_true, true_or, or_true, false_or, or_false, true_and, and_true, false_and, and_false] <;> omega) (by omega) ?_
  rw [show ((m : Int).toNat) = m by omega]
  refine ⟨xis_R hR (by simp only [clv, eq_self_iff_true, true_or, or_true, false_or, or_false, true_and, and_true, false_and, and_false] <;> omega) rfl, ?_⟩
  refine sp_uses hR hL hn (fun l hl => (hW.1 l hl).1) hm (fun l hl => by have := hW.1 l hl; exact ⟨by omega, by omega⟩) ?_
  unfold shHeat byR at kk
  by_cases c : sumn (fun l => useb s l m) n = 0
  · rw [if_pos c] at kk
    refine xst (by rw [c]; rfl) ⟨n + 1, ?_⟩
    exact sp_shA hn hn12 hm (by omega) n 0 s t (by omega) hR hL hW (fun l hl => by omega) kk
  · rw [if_neg c] at kk
    refine xsf (by (try simp only [I_lit, J_lit, I_ofNat, I_neg, I_add, I_sub, I_mul, J_neg, J_add, J_sub, J_mul]); first | (rw [I_lt ⟨by omega, by omega⟩ ⟨by omega, by omega⟩]; omega) | (rw [I_le ⟨by omega, by omega⟩ ⟨by omega, by omega⟩]; omega) | (rw [I_eq ⟨by omega, by omega⟩ ⟨by omega, by omega⟩]; omega) | (rw [J_lt ⟨by omega, by omega⟩ ⟨by omega, by omega⟩]; omega) | (rw [J_le ⟨by omega, by omega⟩ ⟨by omega, by omega⟩]; omega) | (rw [J_eq ⟨by omega, by omega⟩ ⟨by omega, by omega⟩]; omega)) ⟨by decide, n + 1, ?_⟩
    rw [show (3 : Int32) = I 3 from rfl, show (10 : Int32) = I 10 from rfl, I_mul, I_div ⟨by omega, by omega⟩ ⟨by omega, by omega⟩ (by omega) (by omega)]
    exact sp_shA hn hn12 hm (by omega) n 0 s t (by omega) hR hL hW (fun l hl => by omega) kk
end CLS5
