/-! ===== sharing by weights, as numbers alone ===== -/
abbrev xP : Type := (Nat → Int) × (Nat → Int)
def gv1 (z : Int) (n : Nat) (p : xP) : xP := (fup p.1 (gpk p.2 n) (p.1 (gpk p.2 n) + 1), fup p.2 (gpk p.2 n) z)
def itg (f : xP → xP) : Nat → xP → xP
  | 0, p => p
  | k + 1, p => itg f k (f p)
theorem gpk_spec {g : Nat → Int} : ∀ (n : Nat), gpk g (n + 1) < n + 1 ∧ (∀ j, j < n + 1 → g j ≤ g (gpk g (n + 1))) ∧ ∀ j, j < gpk g (n + 1) → g j < g (gpk g (n + 1)) := by
  intro n
  induction n with
  | zero =>
    refine ⟨Nat.zero_lt_one, fun j hj => ?_, fun j hj => absurd hj (Nat.not_lt_zero j)⟩
    obtain rfl : j = 0 := by omega
    exact Int.le_refl _
  | succ n ih =>
    obtain ⟨h1, h2, h3⟩ := ih
    show (if g (gpk g (n + 1)) < g (n + 1) then n + 1 else gpk g (n + 1)) < n + 1 + 1 ∧ (∀ j, j < n + 1 + 1 → g j ≤ g (if g (gpk g (n + 1)) < g (n + 1) then n + 1 else gpk g (n + 1))) ∧ ∀ j, j < (if g (gpk g (n + 1)) < g (n + 1) then n + 1 else gpk g (n + 1)) → g j < g (if g (gpk g (n + 1)) < g (n + 1) then n + 1 else gpk g (n + 1))
    by_cases c : g (gpk g (n + 1)) < g (n + 1)
    · rw [if_pos c]
      refine ⟨by omega, fun j hj => ?_, fun j hj => ?_⟩
      · by_cases e : j = n + 1
        · rw [e]
          exact Int.le_refl _
        · have := h2 j (by omega)
          omega
      · have := h2 j (by omega)
        omega
    · rw [if_neg c]
      refine ⟨by omega, fun j hj => ?_, h3⟩
      by_cases e : j = n + 1
      · rw [e]
        omega
      · exact h2 j (by omega)
theorem gpk_uniq {g : Nat → Int} {n i : Nat} (hi : i < n) (h2 : ∀ j, j < n → g j ≤ g i) (h3 : ∀ j, j < i → g j < g i) : gpk g n = i := by
  obtain ⟨k, rfl⟩ : ∃ k, n = k + 1 := ⟨n - 1, by omega⟩
  obtain ⟨q1, q2, q3⟩ := gpk_spec (g := g) k
  have a1 := q2 i hi
  have a2 := h2 _ q1
  rcases Nat.lt_trichotomy (gpk g (k + 1)) i with c | c | c
  · have := h3 _ c
    omega
  · exact c
  · have := q3 _ c
    omega
theorem gpk_congr {g g' : Nat → Int} {n : Nat} (h : ∀ j, j < n → g' j = g j) : gpk g' n = gpk g n := by
  cases n with
  | zero => rfl
  | succ k =>
    obtain ⟨q1, q2, q3⟩ := gpk_spec (g := g) k
    exact gpk_uniq q1 (fun j hj => by rw [h j hj, h _ q1]; exact q2 j hj) (fun j hj => by rw [h j (by omega), h _ q1]; exact q3 j hj)
theorem sumn_congr {g g' : Nat → Int} : ∀ (n : Nat), (∀ j, j < n → g' j = g j) → sumn g' n = sumn g n := by
  intro n
  induction n with
  | zero => exact fun _ => rfl
  | succ n ih =>
    intro h
    show sumn g' n + g' n = sumn g n + g n
    rw [ih (fun j hj => h j (by omega)), h n (by omega)]
theorem sumn_fup {g : Nat → Int} {p : Nat} {x : Int} : ∀ (n : Nat), p < n → sumn (fup g p x) n = sumn g n - g p + x := by
  intro n
  induction n with
  | zero => exact fun h => absurd h (Nat.not_lt_zero p)
  | succ n ih =>
    intro h
    show sumn (fup g p x) n + fup g p x n = sumn g n + g n - g p + x
    by_cases c : p = n
    · subst c
      rw [fup_s, sumn_congr (g := g) p (fun j hj => fup_n g x (by omega))]
      omega
    · rw [ih (by omega), fup_n g x (fun e => c e.symm)]
      omega
theorem sumn_pos {g : Nat → Int} : ∀ (n : Nat), 0 < sumn g n → ∃ j, j < n ∧ 0 < g j := by
  intro n
  induction n with
  | zero => exact fun h => absurd h (Int.lt_irrefl 0)
  | succ n ih =>
    intro h
    have h' : 0 < sumn g n + g n := h
    by_cases c : 0 < g n
    · exact ⟨n, by omega, c⟩
    · obtain ⟨j, h1, h2⟩ := ih (by omega)
      exact ⟨j, by omega, h2⟩
theorem sumn_nn {g : Nat → Int} : ∀ (n : Nat), (∀ j, j < n → 0 ≤ g j) → 0 ≤ sumn g n := by
  intro n
  induction n with
  | zero => exact fun _ => Int.le_refl 0
  | succ n ih =>
    intro h
    have := ih (fun j hj => h j (by omega))
    have := h n (by omega)
    show 0 ≤ sumn g n + g n
    omega
/-- the class's and the model's way to give what is left: the same, as long as there is enough -/
theorem give_same {n : Nat} {A : Int} : ∀ (k : Nat) (c r r' : Nat → Int), (∀ l, l < n → (0 ≤ r l ∧ r l < A) ∧ (r' l = r l ∨ (r l = 0 ∧ r' l ≤ 0))) → (k : Int) * A ≤ sumn r n → 0 < A → (itg (gv1 (-1) n) k (c, r')).1 = (itg (gv1 0 n) k (c, r)).1 := by
  intro k
  induction k with
  | zero => exact fun c r r' _ _ _ => rfl
  | succ k ih =>
    intro c r r' h hs hA
    have e1 : ((k + 1 : Nat) : Int) * A = (k : Int) * A + A := by
      rw [show ((k + 1 : Nat) : Int) = (k : Int) + 1 by omega, Int.add_mul, Int.one_mul]
    have hk0 : 0 ≤ (k : Int) * A := Int.mul_nonneg (by omega) (by omega)
    obtain ⟨j, hj, hjp⟩ := sumn_pos (g := r) n (by omega)
    obtain ⟨m, rfl⟩ : ∃ m, n = m + 1 := ⟨n - 1, by omega⟩
    obtain ⟨q1, q2, q3⟩ := gpk_spec (g := r) m
    have hp : 0 < r (gpk r (m + 1)) := by
      have := q2 j hj
      omega
    have hle : ∀ l, l < m + 1 → r' l ≤ r l := fun l hl => by
      have := (h l hl).2
      omega
    have he : r' (gpk r (m + 1)) = r (gpk r (m + 1)) := by
      have := (h _ q1).2
      omega
    have hg : gpk r' (m + 1) = gpk r (m + 1) := gpk_uniq q1 (fun j hj => by
      have := hle j hj
      have := q2 j hj
      omega) (fun j hj => by
      have := hle j (by omega)
      have := q3 j hj
      omega)
    show (itg (gv1 (-1) (m + 1)) k (fup c (gpk r' (m + 1)) (c (gpk r' (m + 1)) + 1), fup r' (gpk r' (m + 1)) (-1))).1 = (itg (gv1 0 (m + 1)) k (fup c (gpk r (m + 1)) (c (gpk r (m + 1)) + 1), fup r (gpk r (m + 1)) 0)).1
    rw [hg]
    refine ih _ _ _ (fun l hl => ?_) ?_ hA
    · by_cases c : l = gpk r (m + 1)
      · subst c
        rw [fup_s, fup_s]
        omega
      · rw [fup_n _ _ c, fup_n _ _ c]
        exact h l hl
    · rw [sumn_fup _ q1]
      have := (h _ q1).1
      omega
/-- only the first n matter -/
theorem itg_congr {z : Int} {n : Nat} (h0 : 0 < n) : ∀ (k : Nat) (c r c' r' d : Nat → Int), (∀ l, l < n → c' l = c l + d l ∧ r' l = r l) → ∀ l, l < n → (itg (gv1 z n) k (c', r')).1 l = (itg (gv1 z n) k (c, r)).1 l + d l := by
  intro k
  induction k with
  | zero => exact fun c r c' r' d h l hl => (h l hl).1
  | succ k ih =>
    intro c r c' r' d h l hl
    have hg : gpk r' n = gpk r n := gpk_congr (fun j hj => (h j hj).2)
    have hb : gpk r n < n := by
      obtain ⟨m, rfl⟩ : ∃ m, n = m + 1 := ⟨n - 1, by omega⟩
      exact gpk_lt r m
    show (itg (gv1 z n) k (fup c' (gpk r' n) (c' (gpk r' n) + 1), fup r' (gpk r' n) z)).1 l = (itg (gv1 z n) k (fup c (gpk r n) (c (gpk r n) + 1), fup r (gpk r n) z)).1 l + d l
    rw [hg]
    refine ih _ _ _ _ d (fun l hl => ?_) l hl
    by_cases e : l = gpk r n
    · subst e
      rw [fup_s, fup_s, fup_s, fup_s]
      have := (h _ hb).1
      omega
    · rw [fup_n _ _ e, fup_n _ _ e, fup_n _ _ e, fup_n _ _ e]
      exact h l hl
/-- one more, that weighs nothing, changes nothing -/
theorem itg_ext {n : Nat} (h0 : 0 < n) : ∀ (k : Nat) (c r : Nat → Int), (∀ l, l < n → 0 ≤ r l) → r n = 0 → itg (gv1 0 (n + 1)) k (c, r) = itg (gv1 0 n) k (c, r) := by
  intro k
  induction k with
  | zero => exact fun c r _ _ => rfl
  | succ k ih =>
    intro c r h hn
    obtain ⟨m, rfl⟩ : ∃ m, n = m + 1 := ⟨n - 1, by omega⟩
    have hb := gpk_lt r m
    have hg : gpk r (m + 1 + 1) = gpk r (m + 1) := by
      show (if r (gpk r (m + 1)) < r (m + 1) then m + 1 else gpk r (m + 1)) = _
      have := h _ hb
      rw [if_neg (by omega)]
    show itg (gv1 0 (m + 1 + 1)) k (fup c (gpk r (m + 1 + 1)) (c (gpk r (m + 1 + 1)) + 1), fup r (gpk r (m + 1 + 1)) 0) = itg (gv1 0 (m + 1)) k (fup c (gpk r (m + 1)) (c (gpk r (m + 1)) + 1), fup r (gpk r (m + 1)) 0)
    rw [hg]
    refine ih _ _ (fun l hl => ?_) ?_
    · by_cases e : l = gpk r (m + 1)
      · subst e
        rw [fup_s]
        exact Int.le_refl 0
      · rw [fup_n _ _ e]
        exact h l hl
    · rw [fup_n _ _ (by omega)]
      exact hn
def shr (z : Int) (n : Nat) (S : Int) (w : Nat → Int) (l : Nat) : Int := if 0 < sumn w n then (itg (gv1 z n) (S - sumn (fun l => S * w l / sumn w n) n).toNat (fun l => S * w l / sumn w n, fun l => S * w l % sumn w n)).1 l else 0
theorem sum_rem {S A : Int} {w : Nat → Int} : ∀ (n : Nat), sumn (fun l => S * w l % A) n = S * sumn w n - A * sumn (fun l => S * w l / A) n := by
  intro n
  induction n with
  | zero =>
    show (0 : Int) = S * 0 - A * 0
    rw [Int.mul_zero, Int.mul_zero]
    rfl
  | succ n ih =>
    show sumn (fun l => S * w l % A) n + S * w n % A = S * (sumn w n + w n) - A * (sumn (fun l => S * w l / A) n + S * w n / A)
    rw [ih, Int.emod_def, Int.mul_add, Int.mul_add]
    omega
theorem shr_same {n : Nat} {S : Int} {w : Nat → Int} (l : Nat) : shr (-1) n S w l = shr 0 n S w l := by
  unfold shr
  by_cases c : 0 < sumn w n
  · rw [if_pos c, if_pos c]
    have hs := sum_rem (S := S) (A := sumn w n) (w := w) n
    generalize hA : sumn w n = A at c hs ⊢
    have hr : ∀ l, 0 ≤ S * w l % A ∧ S * w l % A < A := fun l => ⟨Int.emod_nonneg _ (by omega), Int.emod_lt_of_pos _ c⟩
    rw [give_same (A := A) _ _ _ _ (fun l _ => ⟨hr l, Or.inl rfl⟩) ?_ c]
    have hnn : 0 ≤ sumn (fun l => S * w l % A) n := sumn_nn n (fun j _ => (hr j).1)
    generalize sumn (fun l => S * w l / A) n = Q at hs ⊢
    rw [hs] at hnn ⊢
    have e : S * A - A * Q = (S - Q) * A := by rw [Int.sub_mul, Int.mul_comm A Q]
    rw [e] at hnn ⊢
    have hge : 0 ≤ S - Q := by
      by_cases h : 0 ≤ S - Q
      · exact h
      · exfalso
        have h2 : (S - Q) * A ≤ (-1) * A := Int.mul_le_mul_of_nonneg_right (by omega) (by omega)
        omega
    rw [show (((S - Q).toNat : Nat) : Int) = S - Q by omega]
    exact Int.le_refl _
  · rw [if_neg c, if_neg c]
theorem shr_congr {z : Int} {n l : Nat} {S : Int} {w w' : Nat → Int} (h : ∀ j, j < n → w' j = w j) (hl : l < n) : shr z n S w' l = shr z n S w l := by
  unfold shr
  rw [sumn_congr n h]
  have e : sumn (fun l => S * w' l / sumn w n) n = sumn (fun l => S * w l / sumn w n) n := sumn_congr n (fun j hj => by rw [h j hj])
  rw [e]
  by_cases c : 0 < sumn w n
  · rw [if_pos c, if_pos c]
    have := itg_congr (z := z) (n := n) (by omega) (S - sumn (fun l => S * w l / sumn w n) n).toNat (fun l => S * w l / sumn w n) (fun l => S * w l % sumn w n) (fun l => S * w' l / sumn w n) (fun l => S * w' l % sumn w n) (fun _ => 0) (fun l hl => ⟨by rw [h l hl, Int.add_zero], by rw [h l hl]⟩) l hl
    rw [this, Int.add_zero]
  · rw [if_neg c, if_neg c]
theorem shr_ext {n l : Nat} {S : Int} {w : Nat → Int} (hw : w n = 0) (hl : l < n) : shr 0 (n + 1) S w l = shr 0 n S w l := by
  unfold shr
  have e1 : sumn w (n + 1) = sumn w n := by
    show sumn w n + w n = _
    rw [hw, Int.add_zero]
  rw [e1]
  have e2 : sumn (fun l => S * w l / sumn w n) (n + 1) = sumn (fun l => S * w l / sumn w n) n := by
    show sumn (fun l => S * w l / sumn w n) n + S * w n / sumn w n = _
    rw [hw, Int.mul_zero, Int.zero_ediv, Int.add_zero]
  rw [e2]
  by_cases c : 0 < sumn w n
  · rw [if_pos c, if_pos c, itg_ext (by omega) _ _ _ (fun l _ => Int.emod_nonneg _ (by omega)) (by rw [hw, Int.mul_zero, Int.zero_emod])]
  · rw [if_neg c, if_neg c]
/-- the heat of a month that a lease bears -/
def HS (n : Nat) (C : Int) (wr wu : Nat → Int) (l : Nat) : Int := if sumn wu n = 0 then shr 0 n C wr l else shr 0 n (C * 3 / 10) wr l + shr 0 n (C - C * 3 / 10) wu l
theorem HS_congr {n l : Nat} {C : Int} {wr wu wr' wu' : Nat → Int} (h1 : ∀ j, j < n → wr' j = wr j) (h2 : ∀ j, j < n → wu' j = wu j) (hl : l < n) : HS n C wr' wu' l = HS n C wr wu l := by
  unfold HS
  rw [sumn_congr n h2, shr_congr h1 hl, shr_congr h1 hl, shr_congr h2 hl]
theorem HS_ext {n l : Nat} {C : Int} {wr wu : Nat → Int} (h1 : wr n = 0) (h2 : wu n = 0) (hl : l < n) : HS (n + 1) C wr wu l = HS n C wr wu l := by
  unfold HS
  rw [shr_ext h1 hl, shr_ext h1 hl, shr_ext h2 hl, show sumn wu (n + 1) = sumn wu n by
    show sumn wu n + wu n = _
    rw [h2, Int.add_zero]]
