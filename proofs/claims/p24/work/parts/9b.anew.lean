/-! ===== accounts anew ===== -/
section ANEWP
variable {q : xL} {s s' s2 u u' u2 : xS} {nf n nr M : Nat} {Bp D P : Int}
theorem oaL_snoc {l : Nat} : ∀ (k i : Nat) (s : xS) (acc : Int), oaL n l i (k + 1) s acc = oaL n l i k s acc + oaD n l (i + k) (lp (oaS n l) i k s) := by
  intro k
  induction k with
  | zero => exact fun i s acc => rfl
  | succ k ih =>
    intro i s acc
    show oaL n l (i + 1) (k + 1) (oaS n l i s) (acc + oaD n l i s) = oaL n l (i + 1) k (oaS n l i s) (acc + oaD n l i s) + oaD n l (i + (k + 1)) (lp (oaS n l) (i + 1) k (oaS n l i s))
    rw [ih, show i + 1 + k = i + (k + 1) by omega]
/-- the same but for shares and the bill that is kept -/
def Fx (s s' : xS) : Prop := ∀ p i, p ≠ 8 → ¬ (p = 10 ∧ i = 9999) → s' p i = s p i
theorem Fx.stp {l m : Nat} : Fx s (oaS n l m s) := fun p i h8 h10 => by
  unfold oaS
  split
  · rfl
  · unfold settle
    rw [su_f _ h10, su_f _ h10, su_f _ h10, su_f _ h10, E8.shHeat p i h8]
theorem Fx.lps {l : Nat} : ∀ (k i : Nat) (s : xS), Fx s (lp (oaS n l) i k s) := by
  intro k
  induction k with
  | zero => exact fun i s p j _ _ => rfl
  | succ k ih =>
    intro i s p j h8 h10
    show lp (oaS n l) (i + 1) k (oaS n l i s) p j = s p j
    rw [ih (i + 1) _ p j h8 h10, Fx.stp p j h8 h10]
theorem Fx.St (h : Fx s s') : St s s' := ⟨funext fun i => h 4 i (by decide) (by omega), funext fun i => h 5 i (by decide) (by omega), fun j => by rw [h 6 j (by decide) (by omega)]; exact ⟨rfl, rfl, rfl, rfl⟩⟩
theorem sumn_tail {g : Nat → Int} {a : Nat} : ∀ k, (∀ j, a ≤ j → j < a + k → g j = 0) → sumn g (a + k) = sumn g a := by
  intro k
  induction k with
  | zero => exact fun _ => rfl
  | succ k ih =>
    intro h
    show sumn g (a + k) + g (a + k) = sumn g a
    rw [ih (fun j h1 h2 => h j h1 (by omega)), h (a + k) (by omega) (by omega), Int.add_zero]
theorem anew_sum {l : Nat} (hl : l < n) (hH : LH s n M l) (hM : M ≤ 121) : ∀ (k : Nat) (acc : Int), k ≤ M → oaL n l 0 k s acc = acc + sumn (fun m => if s 9 l m = 0 then 0 else bT s (200 * l + m)) k := by
  intro k
  induction k with
  | zero =>
    intro acc _
    show acc = acc + 0
    omega
  | succ k ih =>
    intro acc hk
    rw [oaL_snoc, ih acc (by omega), Nat.zero_add]
    have hF : Fx s (lp (oaS n l) 0 k s) := Fx.lps _ _ _
    generalize lp (oaS n l) 0 k s = w at hF ⊢
    have hS := hF.St
    show _ = acc + (sumn (fun m => if s 9 l m = 0 then 0 else bT s (200 * l + m)) k + (if s 9 l k = 0 then 0 else bT s (200 * l + k)))
    have e : oaD n l k w = if s 9 l k = 0 then 0 else bT s (200 * l + k) := by
      unfold oaD
      rw [hS.runb]
      obtain ⟨g1, g2⟩ := hH k (by omega)
      by_cases c : runb s l k = 0
      · rw [if_pos c, if_pos (g2 (fun h => h.2 c))]
      · obtain ⟨b1, b2⟩ := g1 ⟨by omega, c⟩
        rw [if_neg c, if_neg (by omega), cBill_sh hl (by decide), cBill_sh hl (by decide), cBill_sh hl (by decide), cBill_sh hl (by decide), hS.bl hl, hS.bl hl, hS.bl hl, hS.bl hl]
        unfold bT
        rw [b2 0 (by decide), b2 1 (by decide), b2 2 (by decide), b2 3 (by decide)]
    rw [e]
    omega
theorem anew_eq {l : Nat} (h : DRel nf n nr D P s u) (hl : l < n) : oaL n l 0 (nowN s) s (-s 6 l 7) = s 6 l 5 := by
  obtain ⟨hC, hT⟩ := h
  unfold okT at hT
  have hM : nowN s ≤ 120 := by unfold nowN; omega
  obtain ⟨a, b, c⟩ := hC.1.2.2.2.2.2.2.1 l hl
  rw [anew_sum hl a (by omega) (nowN s) _ (Nat.le_refl _), b.1]
  unfold TT
  have e := sumn_tail (g := fun m => if s 9 l m = 0 then 0 else bT s (200 * l + m)) (a := nowN s) (121 - nowN s) (fun j h1 h2 => by
    show (if s 9 l j = 0 then 0 else bT s (200 * l + j)) = 0
    rw [if_pos ((a j (by omega)).2 (fun g => by omega))])
  rw [show nowN s + (121 - nowN s) = 121 by omega] at e
  rw [e]
  omega
theorem lnT_congr {g g' : Nat → Int} (h : ∀ k, k < 4 → g' k = g k) (l m : Int) : lnT g' l m = lnT g l m := by
  unfold lnT
  rw [h 0 (by decide), h 1 (by decide), h 2 (by decide), h 3 (by decide)]
end ANEWP
