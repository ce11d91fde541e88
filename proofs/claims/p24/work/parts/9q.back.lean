/-! ===== an income that is told back goes back ===== -/
/-- what more the tenant owes -/
def bnT (l m e : Nat) (c : Int) (x : xS) : Int := bnLs l m (e - m) (su (su x 20 0 0 0) 4 (400 + l) m c) 0
section BACK
variable {l m e : Nat} {c c1 c2 : Int} {x u : xS}
theorem mInc_r {p i k : Nat} (he : e ≤ 121) (hm : m ≤ 121) (hne : ¬ (p = 10 ∧ ∃ a, a < 121 ∧ i = 200 * l + a)) : mInc l m e c x p i k = if p = 6 ∧ i = l ∧ k = 6 then x 6 l 6 - bnT l m e c x else if p = 6 ∧ i = l ∧ k = 5 then x 6 l 5 + bnT l m e c x else if p = 4 ∧ i = 400 + l ∧ k = m then c else if p = 20 ∧ i = 0 ∧ k = 0 then 0 else x p i k := by
  have h1 := (bnAs_at (l := l) (m := m) (e - m) (su (su x 20 0 0 0) 4 (400 + l) m c) (by omega)).1
  have e6 : lp (bnA l) m (e - m) (su (su x 20 0 0 0) 4 (400 + l) m c) 6 l = x 6 l := by
    rw [h1 6 l (by omega), su_f _ (by omega), su_f _ (by omega)]
  unfold mInc mTd
  show su (su _ 6 l 5 (_ + bnT l m e c x)) 6 l 6 (_ - bnT l m e c x) p i k = _
  rw [su_r]
  by_cases c6 : p = 6 ∧ i = l ∧ k = 6
  · rw [if_pos c6, if_pos c6, e6]
  · rw [if_neg c6, if_neg c6, su_r]
    by_cases c5 : p = 6 ∧ i = l ∧ k = 5
    · rw [if_pos c5, if_pos c5, e6]
    · rw [if_neg c5, if_neg c5, h1 p i hne, su_r]
      by_cases c4 : p = 4 ∧ i = 400 + l ∧ k = m
      · rw [if_pos c4, if_pos c4]
      · rw [if_neg c4, if_neg c4, su_r]
theorem mInc_b {a j : Nat} (he : e ≤ 121) (hm : m ≤ 121) (ha : a < 121) : mInc l m e c x 10 (200 * l + a) j = if j = 2 ∧ m ≤ a ∧ a < m + (e - m) ∧ x 9 l a ≠ 0 then ben (x 10 (200 * l + a) 0 - x 10 (200 * l + a) 1) (incn (su x 4 (400 + l) m c 4 (400 + l)) (a + 1)) else x 10 (200 * l + a) j := by
  obtain ⟨-, h2, h3⟩ := bnAs_at (l := l) (m := m) (e - m) (su (su x 20 0 0 0) 4 (400 + l) m c) (by omega)
  unfold mInc mTd
  rw [su_f _ (by omega), su_f _ (by omega)]
  by_cases cj : j = 2
  · subst cj
    rw [h3 a ha]
    have e9 : su (su x 20 0 0 0) 4 (400 + l) m c 9 l a = x 9 l a := by rw [su_f _ (by omega), su_f _ (by omega)]
    have e10 : su (su x 20 0 0 0) 4 (400 + l) m c 10 (200 * l + a) = x 10 (200 * l + a) := by rw [su_f _ (by omega), su_f _ (by omega)]
    have e4 : su (su x 20 0 0 0) 4 (400 + l) m c 4 (400 + l) = su x 4 (400 + l) m c 4 (400 + l) := funext fun k => by
      rw [su_r (su x 20 0 0 0) 4 (400 + l) m c, su_r x 4 (400 + l) m c]
      by_cases ck : k = m
      · rw [if_pos ⟨rfl, rfl, ck⟩, if_pos ⟨rfl, rfl, ck⟩]
      · rw [if_neg (fun g => ck g.2.2), if_neg (fun g => ck g.2.2), su_f _ (by omega)]
    rw [e9]
    unfold bnV
    rw [e10, e4]
    by_cases cc : m ≤ a ∧ a < m + (e - m) ∧ x 9 l a ≠ 0
    · rw [if_pos cc, if_pos ⟨rfl, cc⟩]
    · rw [if_neg cc, if_neg (fun g => cc g.2)]
  · rw [h2 a j ha cj, if_neg (fun g => cj g.1), su_f _ (by omega), su_f _ (by omega)]
theorem mInc_9 (he : e ≤ 121) (hm : m ≤ 121) : mInc l m e c x 9 = x 9 := funext fun i => funext fun k => by
  rw [mInc_r he hm (by omega), if_neg (by omega), if_neg (by omega), if_neg (by omega), if_neg (by omega)]
theorem mInc_TT (he : e ≤ 121) (hm : m ≤ 121) : TT (mInc l m e c x) l = TT x l + bnT l m e c x := by
  have h := TT_bnAs (l := l) (e - m) m (su (su x 20 0 0 0) 4 (400 + l) m c) 0 (by omega)
  have e1 : TT (mInc l m e c x) l = TT (lp (bnA l) m (e - m) (su (su x 20 0 0 0) 4 (400 + l) m c)) l := TT.of (by unfold mInc mTd; rw [su_f _ (by omega), su_f _ (by omega)]) (fun a _ => by unfold mInc mTd; rw [su_f _ (by omega), su_f _ (by omega)])
  have e2 : TT (su (su x 20 0 0 0) 4 (400 + l) m c) l = TT x l := TT.of (by rw [su_f _ (by omega), su_f _ (by omega)]) (fun a _ => by rw [su_f _ (by omega), su_f _ (by omega)])
  rw [e1, h, e2]
  unfold bnT
  omega
theorem mInc_back (he : e ≤ 121) (hm : m ≤ 121) : bnT l m e c1 (mInc l m e c2 (mInc l m e c1 u)) = -bnT l m e c2 (mInc l m e c1 u) ∧ mInc l m e c1 (mInc l m e c2 (mInc l m e c1 u)) = mInc l m e c1 u := by
  have h9 : ∀ c (x : xS), mInc l m e c x 9 = x 9 := fun c x => mInc_9 he hm
  have e4 : ∀ x : xS, ∀ c c', su (mInc l m e c x) 4 (400 + l) m c' 4 (400 + l) = su x 4 (400 + l) m c' 4 (400 + l) := fun x c c' => funext fun k => by
    rw [su_r (mInc l m e c x) 4 (400 + l) m c', su_r x 4 (400 + l) m c']
    by_cases ck : k = m
    · rw [if_pos ⟨rfl, rfl, ck⟩, if_pos ⟨rfl, rfl, ck⟩]
    · rw [if_neg (fun g => ck g.2.2), if_neg (fun g => ck g.2.2), mInc_r he hm (by omega), if_neg (by omega), if_neg (by omega), if_neg (by omega), if_neg (by omega)]
  have hb : ∀ a j, a < 121 → mInc l m e c1 (mInc l m e c2 (mInc l m e c1 u)) 10 (200 * l + a) j = mInc l m e c1 u 10 (200 * l + a) j := fun a j ha => by
    have b0 : ∀ c (x : xS), mInc l m e c x 10 (200 * l + a) 0 = x 10 (200 * l + a) 0 := fun c x => by rw [mInc_b he hm ha, if_neg (fun g => absurd g.1 (by decide))]
    have b1 : ∀ c (x : xS), mInc l m e c x 10 (200 * l + a) 1 = x 10 (200 * l + a) 1 := fun c x => by rw [mInc_b he hm ha, if_neg (fun g => absurd g.1 (by decide))]
    rw [mInc_b he hm ha, h9, h9, b0, b0, b1, b1, e4, e4]
    by_cases cc : j = 2 ∧ m ≤ a ∧ a < m + (e - m) ∧ u 9 l a ≠ 0
    · rw [if_pos cc, mInc_b he hm ha, if_pos cc]
    · rw [if_neg cc, mInc_b he hm ha, h9, if_neg cc]
  have t1 := mInc_TT (l := l) (m := m) (e := e) (c := c2) (x := mInc l m e c1 u) he hm
  have t2 := mInc_TT (l := l) (m := m) (e := e) (c := c1) (x := mInc l m e c2 (mInc l m e c1 u)) he hm
  have t3 : TT (mInc l m e c1 (mInc l m e c2 (mInc l m e c1 u))) l = TT (mInc l m e c1 u) l := TT.of (by rw [h9, h9]) (fun a ha => funext fun j => hb a j ha)
  have ev : bnT l m e c1 (mInc l m e c2 (mInc l m e c1 u)) = -bnT l m e c2 (mInc l m e c1 u) := by omega
  refine ⟨ev, funext fun p => funext fun i => funext fun k => ?_⟩
  by_cases cb : p = 10 ∧ ∃ a, a < 121 ∧ i = 200 * l + a
  · obtain ⟨rfl, a, ha, rfl⟩ := cb
    exact hb a k ha
  · rw [mInc_r he hm cb, ev]
    by_cases c6 : p = 6 ∧ i = l ∧ k = 6
    · obtain ⟨rfl, rfl, rfl⟩ := c6
      rw [if_pos ⟨rfl, rfl, rfl⟩, mInc_r (c := c2) he hm (by omega), if_pos ⟨rfl, rfl, rfl⟩]
      omega
    · rw [if_neg c6]
      by_cases c5 : p = 6 ∧ i = l ∧ k = 5
      · obtain ⟨rfl, rfl, rfl⟩ := c5
        rw [if_pos ⟨rfl, rfl, rfl⟩, mInc_r (c := c2) he hm (by omega), if_neg (by omega), if_pos ⟨rfl, rfl, rfl⟩]
        omega
      · rw [if_neg c5]
        by_cases c4 : p = 4 ∧ i = 400 + l ∧ k = m
        · rw [if_pos c4, mInc_r he hm cb, if_neg c6, if_neg c5, if_pos c4]
        · rw [if_neg c4]
          by_cases c20 : p = 20 ∧ i = 0 ∧ k = 0
          · rw [if_pos c20, mInc_r he hm cb, if_neg c6, if_neg c5, if_neg c4, if_pos c20]
          · rw [if_neg c20, mInc_r (c := c2) he hm cb, if_neg c6, if_neg c5, if_neg c4, if_neg c20]
end BACK
