/-! ===== the class's and the model's shares are those numbers ===== -/
def vw (s : xS) : xP := (fun l => s 8 l 0, fun l => s 8 l 2)
theorem vw_giv {n : Nat} {s : xS} : vw (giv n s) = gv1 0 n (vw s) := by
  unfold vw gv1 giv
  refine Prod.ext (funext fun l => ?_) (funext fun l => ?_)
  · show su _ _ _ _ _ 8 l 0 = fup (fun l => s 8 l 0) (gpk (fun l => s 8 l 2) n) _ l
    rw [su_r, if_neg (by omega), su_r]
    unfold fup
    by_cases c : l = gpk (fun l => s 8 l 2) n
    · rw [if_pos ⟨rfl, c, rfl⟩, if_pos c]
    · rw [if_neg (fun h => c h.2.1), if_neg c]
  · show su _ _ _ _ _ 8 l 2 = fup (fun l => s 8 l 2) (gpk (fun l => s 8 l 2) n) _ l
    rw [su_r]
    unfold fup
    by_cases c : l = gpk (fun l => s 8 l 2) n
    · rw [if_pos ⟨rfl, c, rfl⟩, if_pos c]
    · rw [if_neg (fun h => c h.2.1), if_neg c, su_r, if_neg (by omega)]
theorem vw_itn {n : Nat} : ∀ (k : Nat) (s : xS), vw (itn (giv n) k s) = itg (gv1 0 n) k (vw s) := by
  intro k
  induction k with
  | zero => exact fun s => rfl
  | succ k ih =>
    intro s
    show vw (itn (giv n) k (giv n s)) = itg (gv1 0 n) k (gv1 0 n (vw s))
    rw [ih, vw_giv]
theorem twk_r {S A : Int} {l l' k : Nat} {s : xS} : twk S A l s 8 l' k = if l' = l then (if k = 0 then s 8 l 0 + S * s 8 l 1 / A else if k = 2 then S * s 8 l 1 % A else s 8 l k) else s 8 l' k := by
  unfold twk
  rw [su_r, su_r]
  by_cases c : l' = l
  · subst c
    rw [if_pos rfl]
    by_cases k0 : k = 0
    · subst k0
      rw [if_pos ⟨rfl, rfl, rfl⟩, if_pos rfl]
    · rw [if_neg (fun h => k0 h.2.2), if_neg k0]
      by_cases k2 : k = 2
      · subst k2
        rw [if_pos ⟨rfl, rfl, rfl⟩, if_pos rfl]
      · rw [if_neg (fun h => k2 h.2.2), if_neg k2]
  · rw [if_neg (fun h => c h.2.1), if_neg (fun h => c h.2.1), if_neg c]
theorem twk_at {S A : Int} : ∀ (r i : Nat) (s : xS) (l : Nat), (lp (twk S A) i r s 8 l 0 = if i ≤ l ∧ l < i + r then s 8 l 0 + S * s 8 l 1 / A else s 8 l 0) ∧ (lp (twk S A) i r s 8 l 2 = if i ≤ l ∧ l < i + r then S * s 8 l 1 % A else s 8 l 2) := by
  intro r
  induction r with
  | zero =>
    intro i s l
    rw [if_neg (by omega), if_neg (by omega)]
    exact ⟨rfl, rfl⟩
  | succ r ih =>
    intro i s l
    show (lp (twk S A) (i + 1) r (twk S A i s) 8 l 0 = _) ∧ (lp (twk S A) (i + 1) r (twk S A i s) 8 l 2 = _)
    obtain ⟨a1, a2⟩ := ih (i + 1) (twk S A i s) l
    by_cases c : l = i
    · have n1 : ¬ (i + 1 ≤ l ∧ l < i + 1 + r) := by omega
      have p1 : i ≤ l ∧ l < i + (r + 1) := by omega
      rw [a1, a2, if_neg n1, if_neg n1, if_pos p1, if_pos p1, twk_r, twk_r, if_pos c, if_pos c, c]
      exact ⟨rfl, rfl⟩
    · have e1 : ∀ k, twk S A i s 8 l k = s 8 l k := fun k => by rw [twk_r, if_neg c]
      simp only [e1] at a1 a2
      rw [a1, a2]
      by_cases c2 : i + 1 ≤ l ∧ l < i + 1 + r
      · have p1 : i ≤ l ∧ l < i + (r + 1) := by omega
        rw [if_pos c2, if_pos c2, if_pos p1, if_pos p1]
        exact ⟨rfl, rfl⟩
      · have n1 : ¬ (i ≤ l ∧ l < i + (r + 1)) := by omega
        rw [if_neg c2, if_neg c2, if_neg n1, if_neg n1]
        exact ⟨rfl, rfl⟩
theorem sb58_eq {n : Nat} {S A : Int} : ∀ (r i : Nat) (s : xS) (left : Int), sb58 n S A i r s left = itn (giv n) (left - (sumn (fun l => S * s 8 l 1 / A) (i + r) - sumn (fun l => S * s 8 l 1 / A) i)).toNat (lp (twk S A) i r s) := by
  intro r
  induction r with
  | zero =>
    intro i s left
    show itn (giv n) left.toNat s = itn (giv n) _ s
    rw [show left - (sumn (fun l => S * s 8 l 1 / A) (i + 0) - sumn (fun l => S * s 8 l 1 / A) i) = left by
      show left - (sumn (fun l => S * s 8 l 1 / A) i - sumn (fun l => S * s 8 l 1 / A) i) = left
      omega]
  | succ r ih =>
    intro i s left
    rw [sb58_step, ih]
    have e : (fun l => S * twk S A i s 8 l 1 / A) = fun l => S * s 8 l 1 / A := funext fun l => by
      rw [twk_r]
      by_cases c : l = i
      · subst c
        rw [if_pos rfl, if_neg (by decide), if_neg (by decide)]
      · rw [if_neg c]
    rw [e]
    show itn (giv n) _ (lp (twk S A) (i + 1) r (twk S A i s)) = itn (giv n) _ (lp (twk S A) (i + 1) r (twk S A i s))
    congr 2
    rw [show i + 1 + r = i + (r + 1) by omega]
    show left - S * s 8 i 1 / A - (sumn (fun l => S * s 8 l 1 / A) (i + (r + 1)) - (sumn (fun l => S * s 8 l 1 / A) i + S * s 8 i 1 / A)) = _
    omega
theorem sbw_cents {n l : Nat} {S : Int} {s : xS} (hl : l < n) : sbw n S s 8 l 0 = s 8 l 0 + shr 0 n S (fun l => s 8 l 1) l := by
  unfold sbw shr
  by_cases c : 0 < sumn (fun l => s 8 l 1) n
  · rw [if_pos c, if_pos c, sb58_eq, Nat.zero_add]
    generalize sumn (fun l => s 8 l 1) n = A at c ⊢
    have h1 := congrFun (congrArg Prod.fst (vw_itn (n := n) (S - (sumn (fun l => S * s 8 l 1 / A) n - sumn (fun l => S * s 8 l 1 / A) 0)).toNat (lp (twk S A) 0 n s))) l
    have h2 := itg_congr (z := 0) (n := n) (by omega) (S - sumn (fun l => S * s 8 l 1 / A) n).toNat (fun l => S * s 8 l 1 / A) (fun l => S * s 8 l 1 % A) (fun l => lp (twk S A) 0 n s 8 l 0) (fun l => lp (twk S A) 0 n s 8 l 2) (fun l => s 8 l 0) (fun l hl => ⟨by
      show lp (twk S A) 0 n s 8 l 0 = _
      rw [(twk_at (S := S) (A := A) n 0 s l).1, if_pos (by omega), Int.add_comm], by
      show lp (twk S A) 0 n s 8 l 2 = _
      rw [(twk_at (S := S) (A := A) n 0 s l).2, if_pos (by omega)]⟩) l hl
    have e0 : S - (sumn (fun l => S * s 8 l 1 / A) n - sumn (fun l => S * s 8 l 1 / A) 0) = S - sumn (fun l => S * s 8 l 1 / A) n := by
      show S - (sumn (fun l => S * s 8 l 1 / A) n - 0) = _
      omega
    rw [e0] at h1 ⊢
    exact h1.trans (h2.trans (Int.add_comm _ _))
  · rw [if_neg c, if_neg c, Int.add_zero]
def wrS (s : xS) (m l : Nat) : Int := if runb s l m = 0 then 0 else s 5 (s 6 l 0).toNat 0
theorem shHeat_HS {n m l : Nat} {s : xS} (hl : l < n) : shHeat n m s 8 l 0 = HS n (s 4 100 m) (wrS s m) (fun l => useb s l m) l := by
  unfold shHeat
  rw [sbw_cents hl, (shB_at n 0 _ l).1, sbw_cents hl, (shA_at (n := 0) n 0 s l).1, if_pos (by omega), Int.zero_add]
  have e1 : shr 0 n (byR n m s) (fun l => lp (shA m) 0 n s 8 l 1) l = shr 0 n (byR n m s) (wrS s m) l := shr_congr (fun j hj => by
    show lp (shA m) 0 n s 8 j 1 = _
    rw [(shA_at (n := 0) n 0 s j).2, if_pos (by omega)]
    rfl) hl
  have e2 : shr 0 n (s 4 100 m - byR n m s) (fun l => lp (shB m) 0 n (sbw n (byR n m s) (lp (shA m) 0 n s)) 8 l 1) l = shr 0 n (s 4 100 m - byR n m s) (fun l => useb s l m) l := shr_congr (fun j hj => by
    show lp (shB m) 0 n _ 8 j 1 = _
    rw [(shB_at n 0 _ j).2, if_pos (by omega)]
    exact E8.useb (E8.tr (E8.lp (fun _ _ => E8.shA) _ _ _) E8.sbw)) hl
  rw [e1, e2]
  unfold HS byR
  by_cases c : sumn (fun l => useb s l m) n = 0
  · rw [if_pos c, if_pos c]
    have : shr 0 n (s 4 100 m - s 4 100 m) (fun l => useb s l m) l = 0 := by
      unfold shr
      rw [c, if_neg (by decide)]
    rw [this, Int.add_zero]
  · rw [if_neg c, if_neg c]
/-- the model -/
def vm (u : xS) : xP := (fun l => u 21 36 l, fun l => u 21 37 l)
theorem mgv_36 {n l : Nat} {u : xS} : mgv n u 21 36 l = fup (fun l => u 21 36 l) (gpk (fun l => u 21 37 l) n) (u 21 36 (gpk (fun l => u 21 37 l) n) + 1) l := by
  unfold mgv
  rw [su_r, if_neg (by omega), su_r]
  unfold fup
  by_cases c : l = gpk (fun l => u 21 37 l) n
  · rw [if_pos ⟨rfl, rfl, c⟩, if_pos c]
  · rw [if_neg (fun h => c h.2.2), if_neg c]
theorem mgv_37 {n l : Nat} {u : xS} : mgv n u 21 37 l = fup (fun l => u 21 37 l) (gpk (fun l => u 21 37 l) n) (-1) l := by
  unfold mgv
  rw [su_r]
  unfold fup
  by_cases c : l = gpk (fun l => u 21 37 l) n
  · rw [if_pos ⟨rfl, rfl, c⟩, if_pos c]
  · rw [if_neg (fun h => c h.2.2), if_neg c, su_r, if_neg (by omega)]
theorem vm_mgv {n : Nat} {u : xS} : vm (mgv n u) = gv1 (-1) n (vm u) := Prod.ext (funext fun l => mgv_36) (funext fun l => mgv_37)
theorem vm_itn {n : Nat} : ∀ (k : Nat) (u : xS), vm (itn (mgv n) k u) = itg (gv1 (-1) n) k (vm u) := by
  intro k
  induction k with
  | zero => exact fun u => rfl
  | succ k ih =>
    intro u
    show vm (itn (mgv n) k (mgv n u)) = itg (gv1 (-1) n) k (gv1 (-1) n (vm u))
    rw [ih, vm_mgv]
theorem mtw_r {S A : Int} {l l' k : Nat} {u : xS} : mtw S A l u 21 k l' = if l' = l then (if k = 36 then u 21 36 l + S * u 21 35 l / A else if k = 37 then S * u 21 35 l % A else u 21 k l) else u 21 k l' := by
  unfold mtw
  rw [su_r, su_r]
  by_cases c : l' = l
  · subst c
    rw [if_pos rfl]
    by_cases k0 : k = 36
    · subst k0
      rw [if_pos ⟨rfl, rfl, rfl⟩, if_pos rfl]
    · rw [if_neg (fun h => k0 h.2.1), if_neg k0]
      by_cases k2 : k = 37
      · subst k2
        rw [if_pos ⟨rfl, rfl, rfl⟩, if_pos rfl]
      · rw [if_neg (fun h => k2 h.2.1), if_neg k2]
  · rw [if_neg (fun h => c h.2.2), if_neg (fun h => c h.2.2), if_neg c]
theorem mtw_at {S A : Int} : ∀ (r i : Nat) (u : xS) (l : Nat), (lp (mtw S A) i r u 21 36 l = if i ≤ l ∧ l < i + r then u 21 36 l + S * u 21 35 l / A else u 21 36 l) ∧ (lp (mtw S A) i r u 21 37 l = if i ≤ l ∧ l < i + r then S * u 21 35 l % A else u 21 37 l) := by
  intro r
  induction r with
  | zero =>
    intro i u l
    rw [if_neg (by omega), if_neg (by omega)]
    exact ⟨rfl, rfl⟩
  | succ r ih =>
    intro i u l
    show (lp (mtw S A) (i + 1) r (mtw S A i u) 21 36 l = _) ∧ (lp (mtw S A) (i + 1) r (mtw S A i u) 21 37 l = _)
    obtain ⟨a1, a2⟩ := ih (i + 1) (mtw S A i u) l
    by_cases c : l = i
    · have n1 : ¬ (i + 1 ≤ l ∧ l < i + 1 + r) := by omega
      have p1 : i ≤ l ∧ l < i + (r + 1) := by omega
      rw [a1, a2, if_neg n1, if_neg n1, if_pos p1, if_pos p1, mtw_r, mtw_r, if_pos c, if_pos c, c]
      exact ⟨rfl, rfl⟩
    · have e1 : ∀ k, mtw S A i u 21 k l = u 21 k l := fun k => by rw [mtw_r, if_neg c]
      simp only [e1] at a1 a2
      rw [a1, a2]
      by_cases c2 : i + 1 ≤ l ∧ l < i + 1 + r
      · have p1 : i ≤ l ∧ l < i + (r + 1) := by omega
        rw [if_pos c2, if_pos c2, if_pos p1, if_pos p1]
        exact ⟨rfl, rfl⟩
      · have n1 : ¬ (i ≤ l ∧ l < i + (r + 1)) := by omega
        rw [if_neg c2, if_neg c2, if_neg n1, if_neg n1]
        exact ⟨rfl, rfl⟩
theorem msb_eq {n : Nat} {S A : Int} : ∀ (r i : Nat) (u : xS) (left : Int), msb n S A i r u left = itn (mgv n) (left - (sumn (fun l => S * u 21 35 l / A) (i + r) - sumn (fun l => S * u 21 35 l / A) i)).toNat (lp (mtw S A) i r u) := by
  intro r
  induction r with
  | zero =>
    intro i u left
    show itn (mgv n) left.toNat u = itn (mgv n) _ u
    rw [show left - (sumn (fun l => S * u 21 35 l / A) (i + 0) - sumn (fun l => S * u 21 35 l / A) i) = left by
      show left - (sumn (fun l => S * u 21 35 l / A) i - sumn (fun l => S * u 21 35 l / A) i) = left
      omega]
  | succ r ih =>
    intro i u left
    show msb n S A (i + 1) r (mtw S A i u) (left - S * u 21 35 i / A) = _
    rw [ih]
    have e : (fun l => S * mtw S A i u 21 35 l / A) = fun l => S * u 21 35 l / A := funext fun l => by
      rw [mtw_r]
      by_cases c : l = i
      · subst c
        rw [if_pos rfl, if_neg (by decide), if_neg (by decide)]
      · rw [if_neg c]
    rw [e]
    show itn (mgv n) _ (lp (mtw S A) (i + 1) r (mtw S A i u)) = itn (mgv n) _ (lp (mtw S A) (i + 1) r (mtw S A i u))
    congr 2
    rw [show i + 1 + r = i + (r + 1) by omega]
    show left - S * u 21 35 i / A - (sumn (fun l => S * u 21 35 l / A) (i + (r + 1)) - (sumn (fun l => S * u 21 35 l / A) i + S * u 21 35 i / A)) = _
    omega
theorem msw_cents {n l : Nat} {S : Int} {u : xS} (hl : l < n) : msw n S u 21 36 l = u 21 36 l + shr 0 n S (fun l => u 21 35 l) l := by
  rw [← shr_same]
  unfold msw shr
  by_cases c : 0 < sumn (fun l => u 21 35 l) n
  · rw [if_pos c, if_pos c, msb_eq, Nat.zero_add]
    generalize sumn (fun l => u 21 35 l) n = A at c ⊢
    have h1 := congrFun (congrArg Prod.fst (vm_itn (n := n) (S - (sumn (fun l => S * u 21 35 l / A) n - sumn (fun l => S * u 21 35 l / A) 0)).toNat (lp (mtw S A) 0 n u))) l
    have h2 := itg_congr (z := -1) (n := n) (by omega) (S - sumn (fun l => S * u 21 35 l / A) n).toNat (fun l => S * u 21 35 l / A) (fun l => S * u 21 35 l % A) (fun l => lp (mtw S A) 0 n u 21 36 l) (fun l => lp (mtw S A) 0 n u 21 37 l) (fun l => u 21 36 l) (fun l hl => ⟨by
      show lp (mtw S A) 0 n u 21 36 l = _
      rw [(mtw_at (S := S) (A := A) n 0 u l).1, if_pos (by omega), Int.add_comm], by
      show lp (mtw S A) 0 n u 21 37 l = _
      rw [(mtw_at (S := S) (A := A) n 0 u l).2, if_pos (by omega)]⟩) l hl
    have e0 : S - (sumn (fun l => S * u 21 35 l / A) n - sumn (fun l => S * u 21 35 l / A) 0) = S - sumn (fun l => S * u 21 35 l / A) n := by
      show S - (sumn (fun l => S * u 21 35 l / A) n - 0) = _
      omega
    rw [e0] at h1 ⊢
    exact h1.trans (h2.trans (Int.add_comm _ _))
  · rw [if_neg c, if_neg c, Int.add_zero]
theorem msZ_at : ∀ (r i : Nat) (u : xS) (l : Nat), lp msZ i r u 21 36 l = if i ≤ l ∧ l < i + r then 0 else u 21 36 l := by
  intro r
  induction r with
  | zero =>
    intro i u l
    rw [if_neg (by omega)]
    rfl
  | succ r ih =>
    intro i u l
    show lp msZ (i + 1) r (msZ i u) 21 36 l = _
    rw [ih]
    unfold msZ
    rw [su_r]
    by_cases c : l = i
    · subst c
      rw [if_neg (by omega), if_pos ⟨rfl, rfl, rfl⟩, if_pos (by omega)]
    · have e : (if 21 = 21 ∧ 36 = 36 ∧ l = i then (0 : Int) else u 21 36 l) = u 21 36 l := if_neg (fun h => c h.2.2)
      rw [e]
      by_cases c2 : i + 1 ≤ l ∧ l < i + 1 + r
      · rw [if_pos (show i ≤ l ∧ l < i + (r + 1) by omega)]
        exact if_pos c2
      · rw [if_neg (show ¬ (i ≤ l ∧ l < i + (r + 1)) by omega)]
        exact if_neg c2
theorem mwS_36 {m : Nat} {by1 : Int} : ∀ (r i : Nat) (u : xS), lp (mwS m by1) i r u 21 36 = u 21 36 := fun r i u => lp_o (fun j s => su_f s (by omega)) _ _ _
theorem msHeat_HS {n m l : Nat} {u : xS} (hl : l < n) (h0 : ∀ j, j < n → 0 ≤ mwg m 1 u j) : msHeat n m u 21 36 l = HS n (u 20 0 11) (mwg m 0 u) (mwg m 1 u) l := by
  have hs := sumn_nn (g := mwg m 1 u) n h0
  have hE0 : EM u (lp msZ 0 n u) := EM.lp (fun _ _ => msZ_e) _ _ _
  have hE1 : EM u (lp (mwS m 1) 0 n (lp msZ 0 n u)) := EM.tr hE0 (EM.lp (fun _ _ => EM.mwS) _ _ _)
  unfold msHeat HS
  by_cases c : sumn (mwg m 1 u) n = 0
  · rw [if_pos (by omega), if_pos c, msw_cents hl, mwS_36, mwS_36, msZ_at, if_pos (by omega), Int.zero_add]
    exact shr_congr (fun j hj => by
      show lp (mwS m 0) 0 n _ 21 35 j = _
      rw [mwS_at, if_pos (by omega), hE1.mwg]) hl
  · have hE2 := EM.tr hE1 (EM.msw (n := n) (S := u 20 0 11 - 3 * u 20 0 11 / 10) (u := lp (mwS m 1) 0 n (lp msZ 0 n u)))
    rw [if_neg (by omega), if_neg c, msw_cents hl, mwS_36, msw_cents hl, mwS_36, msZ_at, if_pos (by omega), Int.zero_add, Int.mul_comm 3 (u 20 0 11)]
    rw [Int.mul_comm 3 (u 20 0 11)] at hE2
    have e1 : shr 0 n (u 20 0 11 * 3 / 10) (fun l => lp (mwS m 0) 0 n (msw n (u 20 0 11 - u 20 0 11 * 3 / 10) (lp (mwS m 1) 0 n (lp msZ 0 n u))) 21 35 l) l = shr 0 n (u 20 0 11 * 3 / 10) (mwg m 0 u) l := shr_congr (fun j hj => by
      show lp (mwS m 0) 0 n _ 21 35 j = _
      rw [mwS_at, if_pos (by omega), hE2.mwg]) hl
    have e2 : shr 0 n (u 20 0 11 - u 20 0 11 * 3 / 10) (fun l => lp (mwS m 1) 0 n (lp msZ 0 n u) 21 35 l) l = shr 0 n (u 20 0 11 - u 20 0 11 * 3 / 10) (mwg m 1 u) l := shr_congr (fun j hj => by
      show lp (mwS m 1) 0 n _ 21 35 j = _
      rw [mwS_at, if_pos (by omega), hE0.mwg]) hl
    rw [e1, e2, Int.add_comm]
