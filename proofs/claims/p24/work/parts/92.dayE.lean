/-! ===== a month's bills, on both sides ===== -/
section DAYE
variable {q : xL} {s s' u u' : xS} {nf n nr M : Nat} {Bp D P : Int}
theorem planM_S0 {l : Nat} (hS : S0 s u) : S0 (planM l s) (planM l u) := by
  unfold planM bnd
  rw [hS.r7 l 0 (by decide), hS.r7 l 1 (by decide), hS.r7 l 2 (by decide), hS.r7 l 3 (by decide), hS.r6 l 5 (by decide)]
  by_cases c1 : s 7 l 0 = 1
  · rw [if_pos c1, if_pos c1]
    by_cases c2 : s 6 l 5 ≤ if s 7 l 1 - s 7 l 2 * (s 7 l 3 + 1) < 0 then 0 else s 7 l 1 - s 7 l 2 * (s 7 l 3 + 1)
    · rw [if_pos c2, if_pos c2]
      by_cases c3 : (if s 7 l 1 - s 7 l 2 * (s 7 l 3 + 1) < 0 then 0 else s 7 l 1 - s 7 l 2 * (s 7 l 3 + 1)) = 0
      · rw [if_pos c3, if_pos c3]
        exact hS.both.both
      · rw [if_neg c3, if_neg c3]
        exact hS.both
    · rw [if_neg c2, if_neg c2]
      exact hS.both.both
  · rw [if_neg c1, if_neg c1]
    exact hS
theorem planM_LN {l : Nat} (h : LN s M l) : LN (planM l s) (M + 1) l := by
  obtain ⟨a, b, c, d⟩ := h
  have e0 : LN s (M + 1) l := ⟨a, b, c, by omega⟩
  have e3 : ∀ x : Int, 0 ≤ x ∧ x ≤ 3 → LN (su (su s 7 l 3 (s 7 l 3 + 1)) 7 l 0 x) (M + 1) l := fun x hx => by
    unfold LN
    rw [su_r, if_pos ⟨rfl, rfl, rfl⟩, su_r, if_neg (by omega), su_r, if_neg (by omega), su_r, if_neg (by omega), su_r, if_neg (by omega), su_r, if_neg (by omega), su_r, if_pos ⟨rfl, rfl, rfl⟩]
    exact ⟨hx, b, c, by omega⟩
  have e1 : LN (su s 7 l 3 (s 7 l 3 + 1)) (M + 1) l := by
    unfold LN
    rw [su_r, if_neg (by omega), su_r, if_neg (by omega), su_r, if_neg (by omega), su_r, if_pos ⟨rfl, rfl, rfl⟩]
    exact ⟨a, b, c, by omega⟩
  unfold planM
  repeat' split
  · exact e3 3 (by omega)
  · exact e1
  · exact e3 2 (by omega)
  · exact e0
theorem mkBill_10n {m l i : Nat} (h : i ≠ 200 * l + m) : mkBill m l s 10 i = s 10 i := by
  unfold mkBill toDsk toTen putB settle
  rw [su_f _ (by omega), su_f _ (by omega), su_f _ (by omega), su_f _ (by omega), su_f _ (by omega), su_f _ (by omega), su_f _ (by omega), su_f _ (by omega), su_f _ (by omega), sup_n _ _ (by omega)]
theorem mkBill_10 {m l k : Nat} (hk : k < 4) : mkBill m l s 10 (200 * l + m) k = cBill s l m k := by
  have e : ∀ k, cBill (sup s 10 (200 * l + m) (fun _ => 0)) l m k = cBill s l m k := fun k => congrFun (cBill_of (sup_n _ _ (by omega)) (funext fun i => sup_n _ _ (by omega)) (sup_n _ _ (by omega))) k
  unfold mkBill toDsk toTen putB settle
  rw [su_f _ (by omega), su_f _ (by omega), su_f _ (by omega), su_f _ (by omega), su_f _ (by omega), e, e, e, e]
  obtain rfl | rfl | rfl | rfl : k = 0 ∨ k = 1 ∨ k = 2 ∨ k = 3 := by omega
  · rw [su_r, if_neg (by omega), su_r, if_neg (by omega), su_r, if_neg (by omega), su_r, if_pos ⟨rfl, rfl, rfl⟩]
  · rw [su_r, if_neg (by omega), su_r, if_neg (by omega), su_r, if_pos ⟨rfl, rfl, rfl⟩]
  · rw [su_r, if_neg (by omega), su_r, if_pos ⟨rfl, rfl, rfl⟩]
  · rw [su_r, if_pos ⟨rfl, rfl, rfl⟩]
theorem settle_o {m l b p i : Nat} (h : p ≠ 10) : settle (sup s 10 b (fun _ => 0)) l m b p i = s p i := by
  unfold settle
  rw [su_f _ (by omega), su_f _ (by omega), su_f _ (by omega), su_f _ (by omega), sup_n _ _ (by omega)]
theorem mkBill_9 {m l k : Nat} : mkBill m l s 9 l k = if k = m then 1 else s 9 l k := by
  unfold mkBill toDsk toTen putB
  rw [su_f _ (by omega), su_f _ (by omega), su_f _ (by omega), su_f _ (by omega), su_r, settle_o (by omega)]
  by_cases c : k = m
  · rw [if_pos ⟨rfl, rfl, c⟩, if_pos c]
  · rw [if_neg (fun h => c h.2.2), if_neg c]
def bTT (m l : Nat) (s : xS) : Int := cBill s l m 0 - cBill s l m 1 - cBill s l m 2 + cBill s l m 3
theorem mkBill_6 {m l k : Nat} : mkBill m l s 6 l k = if k = 5 then s 6 l 5 + bTT m l s else if k = 6 then s 6 l 6 + cBill s l m 2 else s 6 l k := by
  unfold mkBill toDsk toTen putB
  rw [su_r, if_neg (by omega), su_r]
  by_cases c6 : k = 6
  · subst c6
    rw [if_pos ⟨rfl, rfl, rfl⟩, if_neg (by decide), if_pos rfl, su_f _ (by omega), su_r, if_neg (by omega), su_f _ (by omega), settle_o (by omega)]
  · rw [if_neg (fun h => c6 h.2.2), su_f _ (by omega), su_r]
    by_cases c5 : k = 5
    · subst c5
      rw [if_pos ⟨rfl, rfl, rfl⟩, if_pos rfl, su_f _ (by omega), settle_o (by omega)]
      rfl
    · rw [if_neg (fun h => c5 h.2.2), if_neg c5, if_neg c6, su_f _ (by omega), settle_o (by omega)]
theorem mkBill_0 {m l k : Nat} : mkBill m l s 0 0 k = if k = 9 then s 0 0 9 - bTT m l s - cBill s l m 2 else s 0 0 k := by
  unfold mkBill toDsk toTen putB
  rw [su_r]
  by_cases c : k = 9
  · subst c
    rw [if_pos ⟨rfl, rfl, rfl⟩, if_pos rfl, su_r, if_pos ⟨rfl, rfl, rfl⟩, su_f _ (by omega), settle_o (by omega)]
    rfl
  · rw [if_neg (fun h => c h.2.2), if_neg c, su_f _ (by omega), su_r, if_neg (fun h => c h.2.2), su_f _ (by omega), su_f _ (by omega), settle_o (by omega)]
theorem mkBill_00 {m l i : Nat} (h : i ≠ 0) : mkBill m l s 0 i = s 0 i := by
  unfold mkBill toDsk toTen putB
  rw [su_f _ (by omega), su_f _ (by omega), su_f _ (by omega), su_f _ (by omega), su_f _ (by omega), settle_o (by omega)]
/-- the model's bill -/
theorem mBl_10n {m l i : Nat} (h : i ≠ 200 * l + m) : mBl m l u 10 i = u 10 i := by
  unfold mBl mB4
  rw [su_f _ (by omega), su_f _ (by omega), su_f _ (by omega), su_f _ (by omega), su_f _ (by omega), su_f _ (by omega), su_f _ (by omega)]
theorem mBl_10 {m l k : Nat} (hk : k < 4) : mBl m l u 10 (200 * l + m) k = mBv l m u k := by
  unfold mBl mB4
  rw [su_f _ (by omega), su_f _ (by omega)]
  obtain rfl | rfl | rfl | rfl : k = 0 ∨ k = 1 ∨ k = 2 ∨ k = 3 := by omega
  · rw [su_r, if_neg (by omega), su_r, if_neg (by omega), su_r, if_neg (by omega), su_r, if_pos ⟨rfl, rfl, rfl⟩]
  · rw [su_r, if_neg (by omega), su_r, if_neg (by omega), su_r, if_pos ⟨rfl, rfl, rfl⟩]
  · rw [su_r, if_pos ⟨rfl, rfl, rfl⟩]
  · rw [su_r, if_neg (by omega), su_r, if_pos ⟨rfl, rfl, rfl⟩]
theorem mBl_9 {m l k : Nat} : mBl m l u 9 l k = if k = m then 1 else u 9 l k := by
  unfold mBl mB4
  rw [su_f _ (by omega), su_f _ (by omega), su_f _ (by omega), su_f _ (by omega), su_f _ (by omega), su_f _ (by omega), su_r]
  by_cases c : k = m
  · rw [if_pos ⟨rfl, rfl, c⟩, if_pos c]
  · rw [if_neg (fun h => c h.2.2), if_neg c]
theorem mBl_6 {m l k : Nat} : mBl m l u 6 l k = if k = 5 then u 6 l 5 + (mBv l m u 0 - mBv l m u 1 - mBv l m u 2 + mBv l m u 3) else if k = 6 then u 6 l 6 + mBv l m u 2 else u 6 l k := by
  unfold mBl mB4
  rw [su_r]
  by_cases c6 : k = 6
  · subst c6
    rw [if_pos ⟨rfl, rfl, rfl⟩, if_neg (by decide), if_pos rfl]
  · rw [if_neg (fun h => c6 h.2.2), su_r]
    by_cases c5 : k = 5
    · subst c5
      rw [if_pos ⟨rfl, rfl, rfl⟩, if_pos rfl]
    · rw [if_neg (fun h => c5 h.2.2), if_neg c5, if_neg c6, su_f _ (by omega), su_f _ (by omega), su_f _ (by omega), su_f _ (by omega), su_f _ (by omega)]
theorem bill_S0 {m l : Nat} (hS : S0 s u) (hb : ∀ k, k < 4 → mBv l m u k = cBill s l m k) (hi : 200 * l + m ≠ 9999) : S0 (mkBill m l s) (mBl m l u) := fun p i k hc => by
  by_cases c10 : p = 10
  · subst c10
    by_cases ci : i = 200 * l + m
    · subst ci
      have hk : k < 4 := hc.1
      rw [mkBill_10 hk, mBl_10 hk, hb k hk]
    · rw [mkBill_10n ci, mBl_10n ci]
      exact hS 10 i k hc
  · by_cases c6 : p = 6 ∧ i = l
    · obtain ⟨rfl, rfl⟩ := c6
      rw [mkBill_6, mBl_6, hb 0 (by decide), hb 1 (by decide), hb 2 (by decide), hb 3 (by decide), hS.r6 i 5 (by decide), hS.r6 i 6 (by decide), hS 6 i k hc]
      rfl
    · by_cases c9 : p = 9 ∧ i = l
      · obtain ⟨rfl, rfl⟩ := c9
        rw [mkBill_9, mBl_9, hS 9 i k hc]
      · rw [mBl_o c10 c6 c9]
        by_cases c0 : p = 0
        · subst c0
          have e : i = 0 ∧ k = 8 := hc
          obtain ⟨e1, e2⟩ := e
          subst e1
          subst e2
          rw [mkBill_0, if_neg (by decide)]
          exact hS 0 0 8 hc
        · rw [mkBill_o c0 c10 c6 c9]
          exact hS p i k hc
theorem St.bill {m l : Nat} : St s (mkBill m l s) := ⟨funext fun i => mkBill_o (by decide) (by decide) (by omega) (by omega), funext fun i => mkBill_o (by decide) (by decide) (by omega) (by omega), fun j => by
  by_cases c : j = l
  · subst c
    refine ⟨?_, ?_, ?_, ?_⟩ <;> rw [mkBill_6] <;> rfl
  · rw [mkBill_o (by decide) (by decide) (by omega) (by omega)]
    exact ⟨rfl, rfl, rfl, rfl⟩⟩
theorem TT_bill {m l : Nat} (hm : m < 121) (h9 : s 9 l m = 0) : TT (mkBill m l s) l = TT s l + bTT m l s := by
  unfold TT
  have e : sumn (fun k => if mkBill m l s 9 l k = 0 then 0 else bT (mkBill m l s) (200 * l + k)) 121 = sumn (fup (fun k => if s 9 l k = 0 then 0 else bT s (200 * l + k)) m (bTT m l s)) 121 := sumn_congr 121 (fun k hk => by
    rw [mkBill_9]
    by_cases c : k = m
    · subst c
      rw [fup_s, if_pos rfl, if_neg (by decide)]
      unfold bT bTT
      rw [mkBill_10 (by decide), mkBill_10 (by decide), mkBill_10 (by decide), mkBill_10 (by decide)]
    · rw [fup_n _ _ c, if_neg c]
      unfold bT
      rw [mkBill_10n (by omega)])
  rw [e, sumn_fup 121 hm]
  show _ - (if s 9 l m = 0 then 0 else bT s (200 * l + m)) + _ = _
  rw [if_pos h9]
  omega
theorem GO_bill {m l : Nat} (hl : l < n) (h : GO s n) : GO (mkBill m l s) n := by
  unfold GO at h ⊢
  have e : sumn (fun j => mkBill m l s 6 j 5 + mkBill m l s 6 j 6) n = sumn (fup (fun j => s 6 j 5 + s 6 j 6) l (s 6 l 5 + s 6 l 6 + bTT m l s + cBill s l m 2)) n := sumn_congr n (fun j hj => by
    by_cases c : j = l
    · subst c
      rw [fup_s, mkBill_6, mkBill_6, if_pos rfl, if_neg (by decide), if_pos rfl]
      omega
    · rw [fup_n _ _ c, mkBill_o (by decide) (by decide) (by omega) (by omega)])
  rw [e, sumn_fup n hl, mkBill_0, if_pos rfl, h]
  omega
end DAYE
