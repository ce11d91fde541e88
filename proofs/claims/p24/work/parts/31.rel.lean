/-! ===== the picture by roles: a cell is named by its role (a tag, a number), its contents by whole numbers ===== -/
abbrev xS : Type := Nat → Nat → Nat → Int
abbrev xAd : Type := Nat → Nat → Nat
def fup (g : Nat → Int) (k : Nat) (x : Int) : Nat → Int := fun k' => if k' = k then x else g k'
def sup (s : xS) (p i : Nat) (g : Nat → Int) : xS := fun p' i' => if p' = p ∧ i' = i then g else s p' i'
def su (s : xS) (p i k : Nat) (x : Int) : xS := sup s p i (fup (s p i) k x)
def adu (ad : xAd) (p i q : Nat) : xAd := fun p' i' => if p' = p ∧ i' = i then q else ad p' i'
theorem fup_s (g : Nat → Int) (k : Nat) (x : Int) : fup g k x k = x := if_pos rfl
theorem fup_n (g : Nat → Int) {k k' : Nat} (x : Int) (h : k' ≠ k) : fup g k x k' = g k' := if_neg h
theorem sup_s (s : xS) (p i : Nat) (g : Nat → Int) : sup s p i g p i = g := if_pos ⟨rfl, rfl⟩
theorem sup_n (s : xS) {p i p' i' : Nat} (g : Nat → Int) (h : ¬ (p' = p ∧ i' = i)) : sup s p i g p' i' = s p' i' := if_neg h
theorem su_r (s : xS) (p i k : Nat) (x : Int) (p' i' k' : Nat) : su s p i k x p' i' k' = if p' = p ∧ i' = i ∧ k' = k then x else s p' i' k' := by
  unfold su sup fup
  by_cases h1 : p' = p ∧ i' = i
  · rw [if_pos h1]
    by_cases h2 : k' = k
    · rw [if_pos h2, if_pos ⟨h1.1, h1.2, h2⟩]
    · rw [if_neg h2, if_neg (fun h => h2 h.2.2), h1.1, h1.2]
  · rw [if_neg h1, if_neg (fun h => h1 ⟨h.1, h.2.1⟩)]
theorem su_f (s : xS) {p i k p' i' : Nat} {x : Int} (h : ¬ (p' = p ∧ i' = i)) : su s p i k x p' i' = s p' i' := sup_n s _ h
/-- arrays are the same up to their length -/
def sim (e e' : xE) : Prop := match e, e' with
  | .inl (k, n, .inl f), .inl (k', n', .inl g) => k = k' ∧ n = n' ∧ ∀ j, j < n → f j = g j
  | .inl (k, n, .inr (.inl f)), .inl (k', n', .inr (.inl g)) => k = k' ∧ n = n' ∧ ∀ j, j < n → f j = g j
  | .inl (k, n, .inr (.inr (.inr (.inr f)))), .inl (k', n', .inr (.inr (.inr (.inr g)))) => k = k' ∧ n = n' ∧ ∀ j, j < n → f j = g j
  | .inr x, .inr y => x = y
  | _, _ => False
/-- the tag of a list's elements -/
def elt (k : Nat) : Nat := match k with | 0 => 5 | 1 => 6 | _ => 11
/-- the cells of the class -/
def cel (ad : xAd) (p i : Nat) (g : Nat → Int) : xE := match p with
  | 0 => .inr (7, [.ref (ad 1 0), .ref (ad 1 1), .ref (ad 1 2), .ref (ad 3 0), .ref (ad 3 100), .ref (ad 12 0), .ref (ad 10 9999), .int (I (g 7)), .int (I (g 8)), .long (J (g 9))])
  | 1 => .inr (10, [.int (I (g 0)), .ref (ad 2 i), .int (I (g 2))])
  | 2 => .inl (6, (g 0).toNat, .inr (.inr (.inr (.inr (fun j => if g (j + 1) = 0 then none else some (ad (elt i) (g (j + 1) - 1).toNat))))))
  | 3 => .inr (4, [.ref (ad 4 i)])
  | 4 => .inl (0, 121, .inl (fun m => I (g m)))
  | 5 => .inr (1, [.int (I (g 0)), .ref (ad 3 (200 + i)), .ref (ad 3 (300 + i)), .int (I (g 3)), .int (I (g 4)), .int (I (g 5))])
  | 6 => .inr (3, [.ref (ad 5 (g 0).toNat), .int (I (g 1)), .ref (ad 3 (400 + i)), .ref (ad 7 i), .ref (ad 8 i), .long (J (g 5)), .long (J (g 6)), .long (J (g 7)), .int (I (g 8)), .int (I (g 9)), .ref (ad 9 i)])
  | 7 => .inr (5, [.int (I (g 0)), .long (J (g 1)), .long (J (g 2)), .int (I (g 3))])
  | 8 => .inr (2, [.int (I (g 0)), .int (I (g 1)), .long (J (g 2))])
  | 9 => .inl (5, 121, .inr (.inr (.inr (.inr (fun m => if g m = 0 then none else some (ad 10 (200 * i + m)))))))
  | 10 => .inr (0, [.int (I (g 0)), .int (I (g 1)), .int (I (g 2)), .int (I (g 3))])
  | 11 => .inr (6, [.int (I (g 0)), .int (I (g 1)), .ref (ad 5 (g 2).toNat), .int (I (g 3)), .int (I (g 4))])
  | 12 => .inr (9, [.ref (ad 13 0), .int 0, .int (I (g 2)), .int (I (g 3))])
  | _ => .inl (3, (g 0).toNat, .inl (fun j => I (g (j + 1))))
/-- the model's arrays: kind, length; where an element's number is kept -/
def mkd (k : Nat) : Nat × Nat := match k with
  | 3 => (0, 8) | 4 => (0, 8) | 5 => (0, 8) | 6 => (0, 8) | 7 => (0, 8) | 8 => (0, 8) | 9 => (0, 968) | 10 => (0, 122) | 13 => (0, 60) | 14 => (0, 60) | 15 => (0, 60) | 16 => (0, 60) | 17 => (2, 60) | 19 => (0, 12) | 20 => (0, 12) | 21 => (0, 12) | 22 => (0, 12) | 23 => (1, 12) | 24 => (1, 12) | 25 => (0, 1452) | 26 => (2, 1452) | 27 => (0, 1452) | 28 => (0, 1452) | 29 => (0, 1452) | 30 => (0, 1452) | 31 => (0, 12) | 32 => (1, 12) | 33 => (1, 12) | 34 => (0, 12) | 35 => (1, 12) | 36 => (1, 12) | 37 => (1, 12) | 38 => (4, 100) | _ => (0, 0)
def mvr (k j : Nat) : Nat × Nat × Nat := match k with
  | 3 => (5, j, 0) | 5 => (5, j, 3) | 6 => (5, j, 5) | 7 => (5, j, 4) | 9 => (4, 200 + j / 121, j % 121) | 13 => (11, j, 2) | 14 => (11, j, 3) | 15 => (11, j, 4) | 16 => (11, j, 1) | 17 => (11, j, 0) | 19 => (6, j, 0) | 20 => (6, j, 8) | 21 => (6, j, 9) | 23 => (6, j, 5) | 24 => (6, j, 6) | 25 => (4, 400 + j / 121, j % 121) | 26 => (9, j / 121, j % 121) | 27 => (10, 200 * (j / 121) + j % 121, 0) | 28 => (10, 200 * (j / 121) + j % 121, 1) | 29 => (10, 200 * (j / 121) + j % 121, 2) | 30 => (10, 200 * (j / 121) + j % 121, 3) | 31 => (7, j, 0) | 32 => (7, j, 1) | 33 => (7, j, 2) | 34 => (7, j, 3) | k => (21, k, j)
def mva (s : xS) (k j : Nat) : Int := s (mvr k j).1 (mvr k j).2.1 (mvr k j).2.2
/-- the cells of the model -/
def mce (ad : xAd) (s : xS) (p i : Nat) : xE := match p with
  | 20 => .inr (8, [.int (I (s 20 0 0)), .int (I (s 0 0 8)), .int (I (s 1 0 2)), .ref (ad 21 3), .ref (ad 21 4), .ref (ad 21 5), .ref (ad 21 6), .ref (ad 21 7), .ref (ad 21 8), .ref (ad 21 9), .ref (ad 21 10), .int (I (s 20 0 11)), .int (I (s 1 2 2)), .ref (ad 21 13), .ref (ad 21 14), .ref (ad 21 15), .ref (ad 21 16), .ref (ad 21 17), .int (I (s 1 1 2)), .ref (ad 21 19), .ref (ad 21 20), .ref (ad 21 21), .ref (ad 21 22), .ref (ad 21 23), .ref (ad 21 24), .ref (ad 21 25), .ref (ad 21 26), .ref (ad 21 27), .ref (ad 21 28), .ref (ad 21 29), .ref (ad 21 30), .ref (ad 21 31), .ref (ad 21 32), .ref (ad 21 33), .ref (ad 21 34), .ref (ad 21 35), .ref (ad 21 36), .ref (ad 21 37), .ref (ad 21 38), .int (I (s 20 0 39))])
  | _ => if (mkd i).1 = 1 then .inl (1, (mkd i).2, .inr (.inl (fun j => J (mva s i j)))) else .inl ((mkd i).1, (mkd i).2, .inl (fun j => I (mva s i j)))
/-- all cells: the class's by s, the model's by u, others as they are -/
def xce (ad : xAd) (s u : xS) (co : Nat → Nat → xE) (p i : Nat) : xE := if p < 20 then cel ad p i (s p i) else if p < 22 then mce ad u p i else co p i
def Rel (ad : xAd) (lv : Nat → Nat → Prop) (ce : Nat → Nat → xE) (t : xT) : Prop := (∀ p i, lv p i → ∃ e, t (ad p i) = some e ∧ sim e (ce p i)) ∧ ∀ p i p' i', lv p i → lv p' i' → ad p i = ad p' i' → p = p' ∧ i = i'
theorem sim_obj {e : xE} {x : Nat × List Value} (h : sim e (.inr x)) : e = .inr x := by
  rcases e with ⟨k, n, f | f | f | f | f⟩ | y
  · exact h.elim
  · exact h.elim
  · exact h.elim
  · exact h.elim
  · exact h.elim
  · exact congrArg Sum.inr h
theorem sim_int {e : xE} {k n : Nat} {g : Nat → Int32} (h : sim e (.inl (k, n, .inl g))) : ∃ f, e = .inl (k, n, .inl f) ∧ ∀ j, j < n → f j = g j := by
  rcases e with ⟨k, n, f | f | f | f | f⟩ | y
  · obtain ⟨rfl, rfl, h⟩ := h
    exact ⟨f, rfl, h⟩
  · exact h.elim
  · exact h.elim
  · exact h.elim
  · exact h.elim
  · exact h.elim
theorem sim_long {e : xE} {k n : Nat} {g : Nat → Int64} (h : sim e (.inl (k, n, .inr (.inl g)))) : ∃ f, e = .inl (k, n, .inr (.inl f)) ∧ ∀ j, j < n → f j = g j := by
  rcases e with ⟨k, n, f | f | f | f | f⟩ | y
  · exact h.elim
  · obtain ⟨rfl, rfl, h⟩ := h
    exact ⟨f, rfl, h⟩
  · exact h.elim
  · exact h.elim
  · exact h.elim
  · exact h.elim
theorem sim_ref {e : xE} {k n : Nat} {g : Nat → Option Nat} (h : sim e (.inl (k, n, .inr (.inr (.inr (.inr g)))))) : ∃ f, e = .inl (k, n, .inr (.inr (.inr (.inr f)))) ∧ ∀ j, j < n → f j = g j := by
  rcases e with ⟨k, n, f | f | f | f | f⟩ | y
  · exact h.elim
  · exact h.elim
  · exact h.elim
  · exact h.elim
  · obtain ⟨rfl, rfl, h⟩ := h
    exact ⟨f, rfl, h⟩
  · exact h.elim
section REL
variable {ad : xAd} {lv : Nat → Nat → Prop} {ce ce' : Nat → Nat → xE} {t : xT} {p i : Nat}
theorem Rel.obj {x : Nat × List Value} (h : Rel ad lv ce t) (hl : lv p i) (hc : ce p i = .inr x) : t (ad p i) = some (.inr x) := by
  obtain ⟨e, h1, h2⟩ := h.1 p i hl
  rw [hc] at h2
  rw [h1, sim_obj h2]
theorem Rel.up {e : xE} (h : Rel ad lv ce t) (hl : lv p i) (hs : sim e (ce' p i)) (ho : ∀ p' i', lv p' i' → ¬ (p' = p ∧ i' = i) → ce' p' i' = ce p' i') : Rel ad lv ce' (xup t (ad p i) e) := by
  refine ⟨fun p' i' hl' => ?_, h.2⟩
  by_cases hq : p' = p ∧ i' = i
  · obtain ⟨rfl, rfl⟩ := hq
    exact ⟨e, xup_s _ _ _, hs⟩
  · obtain ⟨e', h1, h2⟩ := h.1 p' i' hl'
    refine ⟨e', ?_, by rw [ho p' i' hl' hq]; exact h2⟩
    rw [xup_n _ _ (fun ha => hq (h.2 _ _ _ _ hl' hl ha))]
    exact h1
/-- reading -/
theorem xis_R {ci : Nat} {fs : List Value} (h : Rel ad lv ce t) (hl : lv p i) (hc : ce p i = .inr (ci, fs)) : xis t (ad p i) ci := ⟨fs, h.obj hl hc⟩
theorem xgI_R {ci k : Nat} {fs : List Value} {x : Int32} {K : Int32 → Prop} (h : Rel ad lv ce t) (hl : lv p i) (hc : ce p i = .inr (ci, fs)) (hx : fs[k]? = some (.int x)) (kk : K x) : xgI t (ad p i) ci k K := ⟨fs, h.obj hl hc, x, hx, kk⟩
theorem xgJ_R {ci k : Nat} {fs : List Value} {x : Int64} {K : Int64 → Prop} (h : Rel ad lv ce t) (hl : lv p i) (hc : ce p i = .inr (ci, fs)) (hx : fs[k]? = some (.long x)) (kk : K x) : xgJ t (ad p i) ci k K := ⟨fs, h.obj hl hc, x, hx, kk⟩
theorem xgR_R {ci k : Nat} {fs : List Value} {x : Nat} {K : Nat → Prop} (h : Rel ad lv ce t) (hl : lv p i) (hc : ce p i = .inr (ci, fs)) (hx : fs[k]? = some (.ref x)) (kk : K x) : xgR t (ad p i) ci k K := ⟨fs, h.obj hl hc, x, hx, kk⟩
theorem xal_I {k n : Nat} {g : Nat → Int32} {K : Int32 → Prop} (h : Rel ad lv ce t) (hl : lv p i) (hc : ce p i = .inl (k, n, .inl g)) (kk : K (I n)) : xal t (ad p i) K := by
  obtain ⟨e, h1, h2⟩ := h.1 p i hl
  rw [hc] at h2
  obtain ⟨f, rfl, -⟩ := sim_int h2
  exact ⟨k, _, h1, kk⟩
theorem xal_Q {k n : Nat} {g : Nat → Option Nat} {K : Int32 → Prop} (h : Rel ad lv ce t) (hl : lv p i) (hc : ce p i = .inl (k, n, .inr (.inr (.inr (.inr g))))) (kk : K (I n)) : xal t (ad p i) K := by
  obtain ⟨e, h1, h2⟩ := h.1 p i hl
  rw [hc] at h2
  obtain ⟨f, rfl, -⟩ := sim_ref h2
  exact ⟨k, _, h1, kk⟩
theorem xaI_R {k n : Nat} {g : Nat → Int32} {z : Int} {K : Int32 → Prop} (h : Rel ad lv ce t) (hl : lv p i) (hc : ce p i = .inl (k, n, .inl g)) (hn : n ≤ 2147483647) (hz : 0 ≤ z ∧ z < n) (kk : K (g z.toNat)) : xaI k t (ad p i) (I z) K := by
  obtain ⟨e, h1, h2⟩ := h.1 p i hl
  rw [hc] at h2
  obtain ⟨f, rfl, hf⟩ := sim_int h2
  have hr : i32 z := ⟨by omega, by omega⟩
  refine ⟨n, f, h1, (I_in hr).mpr hz, ?_⟩
  rw [I_nat hr, hf _ (by omega)]
  exact kk
theorem xaJ_R {n : Nat} {g : Nat → Int64} {z : Int} {K : Int64 → Prop} (h : Rel ad lv ce t) (hl : lv p i) (hc : ce p i = .inl (1, n, .inr (.inl g))) (hn : n ≤ 2147483647) (hz : 0 ≤ z ∧ z < n) (kk : K (g z.toNat)) : xaJ t (ad p i) (I z) K := by
  obtain ⟨e, h1, h2⟩ := h.1 p i hl
  rw [hc] at h2
  obtain ⟨f, rfl, hf⟩ := sim_long h2
  have hr : i32 z := ⟨by omega, by omega⟩
  refine ⟨n, f, h1, (I_in hr).mpr hz, ?_⟩
  rw [I_nat hr, hf _ (by omega)]
  exact kk
theorem xaQ_R {k n : Nat} {g : Nat → Option Nat} {z : Int} {K : Option Nat → Prop} (h : Rel ad lv ce t) (hl : lv p i) (hc : ce p i = .inl (k, n, .inr (.inr (.inr (.inr g))))) (hn : n ≤ 2147483647) (hz : 0 ≤ z ∧ z < n) (kk : K (g z.toNat)) : xaQ k t (ad p i) (I z) K := by
  obtain ⟨e, h1, h2⟩ := h.1 p i hl
  rw [hc] at h2
  obtain ⟨f, rfl, hf⟩ := sim_ref h2
  have hr : i32 z := ⟨by omega, by omega⟩
  refine ⟨n, f, h1, (I_in hr).mpr hz, ?_⟩
  rw [I_nat hr, hf _ (by omega)]
  exact kk
end REL
section CREL
variable {ad : xAd} {lv : Nat → Nat → Prop} {s u : xS} {co : Nat → Nat → xE} {t : xT} {p i : Nat}
theorem xce_su {k : Nat} {x : Int} (p' i' : Nat) (h : ¬ (p' = p ∧ i' = i)) : xce ad (su s p i k x) u co p' i' = xce ad s u co p' i' := by
  unfold xce su
  rw [sup_n s _ h]
theorem xce_here {k : Nat} {x : Int} (hp : p < 20) : xce ad (su s p i k x) u co p i = cel ad p i (fup (s p i) k x) := by
  unfold xce su
  rw [if_pos hp, sup_s]
/-- the class writes a field -/
theorem xpF_R {ci k : Nat} {x : Int} {fs : List Value} {v : Value} {K : xT → Prop} (h : Rel ad lv (xce ad s u co) t) (hl : lv p i) (hp : p < 20) (hc : cel ad p i (s p i) = .inr (ci, fs)) (hk : k < fs.length) (hn : cel ad p i (fup (s p i) k x) = .inr (ci, fs.set k v)) (kk : ∀ t', Rel ad lv (xce ad (su s p i k x) u co) t' → K t') : xpF t (ad p i) ci k v K := by
  refine ⟨fs, h.obj hl (by unfold xce; rw [if_pos hp]; exact hc), hk, kk _ (h.up hl ?_ fun p' i' _ hq => xce_su p' i' hq)⟩
  rw [xce_here hp, hn]
  exact rfl
theorem xpF_I {ci k : Nat} {x : Int} {fs : List Value} {K : xT → Prop} (h : Rel ad lv (xce ad s u co) t) (hl : lv p i) (hp : p < 20) (hc : cel ad p i (s p i) = .inr (ci, fs)) (hk : k < fs.length) (hn : cel ad p i (fup (s p i) k x) = .inr (ci, fs.set k (.int (I x)))) (kk : ∀ t', Rel ad lv (xce ad (su s p i k x) u co) t' → K t') : xpF t (ad p i) ci k (.int (I x)) K := xpF_R h hl hp hc hk hn kk
theorem xpF_J {ci k : Nat} {x : Int} {fs : List Value} {K : xT → Prop} (h : Rel ad lv (xce ad s u co) t) (hl : lv p i) (hp : p < 20) (hc : cel ad p i (s p i) = .inr (ci, fs)) (hk : k < fs.length) (hn : cel ad p i (fup (s p i) k x) = .inr (ci, fs.set k (.long (J x)))) (kk : ∀ t', Rel ad lv (xce ad (su s p i k x) u co) t' → K t') : xpF t (ad p i) ci k (.long (J x)) K := xpF_R h hl hp hc hk hn kk
/-- the class writes an int of an array of ints or bytes -/
theorem xsI_R {kd n : Nat} {z x : Int} {g : Nat → Int32} {k : Nat} {K : xT → Prop} (h : Rel ad lv (xce ad s u co) t) (hl : lv p i) (hp : p < 20) (hc : cel ad p i (s p i) = .inl (kd, n, .inl g)) (hn : n ≤ 2147483647) (hz : 0 ≤ z ∧ z < n) (hu : ∃ g', cel ad p i (fup (s p i) k x) = .inl (kd, n, .inl g') ∧ ∀ j, j < n → g' j = if j = z.toNat then I x else g j) (kk : ∀ t', Rel ad lv (xce ad (su s p i k x) u co) t' → K t') : xsI kd t (ad p i) (I z) (I x) K := by
  obtain ⟨e, h1, h2⟩ := h.1 p i hl
  rw [show xce ad s u co p i = cel ad p i (s p i) by unfold xce; rw [if_pos hp], hc] at h2
  obtain ⟨f, rfl, hf⟩ := sim_int h2
  have hr : i32 z := ⟨by omega, by omega⟩
  refine ⟨n, f, h1, (I_in hr).mpr hz, kk _ (h.up hl ?_ fun p' i' _ hq => xce_su p' i' hq)⟩
  obtain ⟨g', e1, e2⟩ := hu
  rw [xce_here hp, e1]
  refine ⟨rfl, rfl, fun j hj => ?_⟩
  rw [e2 j hj, I_nat hr]
  show (if j = z.toNat then I x else f j) = _
  rw [hf j hj]
end CREL
