/-! ===== the picture of the first heap ===== -/
/-- what nobody writes; the law's own row, once it lives -/
def coE (E : Nat → Nat) : Nat → Nat → xE := fun p _ => match p with
  | 30 => .inl (8, 0, .inr (.inr (.inr (.inr (fun _ => none)))))
  | 31 => .inl (7, 100, .inl (fun r => I (48 + (r : Int) % 10)))
  | 32 => .inl (7, 100, .inl (fun r => I (48 + (r : Int) / 10)))
  | 33 => .inr (11, [.ref (E 4), .int 0])
  | 34 => .inl (7, 2, .inl (fun j => I (if j = 0 then 32 else 77)))
  | _ => .inl (1, 1, .inr (.inl (fun _ => 0)))
def lo0 (p i : Nat) : Prop := (p = 30 ∨ p = 31 ∨ p = 32 ∨ p = 33 ∨ p = 34) ∧ i = 0
def q0 : xL := (0, 0, 0, (fun _ => False), fun _ => False)
def s0i : xS := fun p i k => match p with
  | 0 => if k = 7 then 100 else 0
  | 4 => if i = 0 then 100 else if i = 100 then 0 else if 300 ≤ i ∧ i < 400 then 0 else -1
  | 13 => if k = 0 then 16 else 0
  | _ => 0
def u00 : xS := fun _ _ _ => 0
def u0i : xS := fun p i k => match p with
  | 4 => if i = 0 then 100 else if i = 100 then 0 else if 300 ≤ i ∧ i < 400 then 0 else -1
  | 21 => if i = 10 ∧ k ≤ 1 then 100 else 0
  | _ => 0
theorem nodup_inj {f : xC → Nat} : ∀ (l : List xC), (l.map f).Nodup → ∀ x ∈ l, ∀ y ∈ l, f x = f y → x = y := by
  intro l
  induction l with
  | nil => exact fun _ x hx => absurd hx List.not_mem_nil
  | cons a l ih =>
    intro hn x hx y hy e
    rw [List.map_cons, List.nodup_cons] at hn
    rcases List.mem_cons.mp hx with rfl | hx'
    · rcases List.mem_cons.mp hy with rfl | hy'
      · rfl
      · exact absurd (List.mem_map.mpr ⟨y, hy', e.symm⟩) hn.1
    · rcases List.mem_cons.mp hy with rfl | hy'
      · exact absurd (List.mem_map.mpr ⟨x, hx', e⟩) hn.1
      · exact ih hn.2 x hx' y hy' e
theorem Rw.rel {t : xT} {l : List xC} {ad : xAd} {lv : Nat → Nat → Prop} {ce : Nat → Nat → xE} (h : Rw t l) (hlv : ∀ p i, lv p i → ∃ x ∈ l, x.1 = p ∧ x.2.1 = i ∧ ad p i = x.2.2.1 ∧ sim x.2.2.2 (ce p i)) : Rel ad lv ce t := by
  refine ⟨fun p i hl => ?_, fun p i p' i' h1 h2 e => ?_⟩
  · obtain ⟨x, hx, -, -, ha, hs⟩ := hlv p i hl
    exact ⟨_, by rw [ha]; exact h.1 x hx, hs⟩
  · obtain ⟨x, hx, rfl, rfl, ha, -⟩ := hlv p i h1
    obtain ⟨y, hy, rfl, rfl, hb, -⟩ := hlv p' i' h2
    have : x = y := by
      have hn := h.2
      rw [ha, hb] at e
      exact nodup_inj l hn x hx y hy e
    subst this
    exact ⟨rfl, rfl⟩
theorem build {t : xT} {E : Nat → Nat} {a0 l0 l1 l2 x0 y0 x1 y1 b0 c0 s0 b q3 q4 q5 q6 q7 q8 q9 q10 q13 q14 q15 q16 q17 q19 q20 q21 q22 q23 q24 q25 q26 q27 q28 q29 q30 q31 q32 q33 q34 q35 q36 q37 q38 : Nat} {f0 f1 g : Nat → Int32} (h0 : ∀ j, j < 121 → f0 j = I 100) (h1 : ∀ j, j < 121 → f1 j = I 0) (hg : ∀ j : Nat, j < 16 → g j = I 0) (h : Rw t [(20, 0, b, .inr (8, [.int 0, .int 0, .int 0, .ref q3, .ref q4, .ref q5, .ref q6, .ref q7, .ref q8, .ref q9, .ref q10, .int 0, .int 0, .ref q13, .ref q14, .ref q15, .ref q16, .ref q17, .int 0, .ref q19, .ref q20, .ref q21, .ref q22, .ref q23, .ref q24, .ref q25, .ref q26, .ref q27, .ref q28, .ref q29, .ref q30, .ref q31, .ref q32, .ref q33, .ref q34, .ref q35, .ref q36, .ref q37, .ref q38, .int 0])), (21, 38, q38, .inl (4, 100, .inl fun _ => 0)), (21, 37, q37, .inl (1, 12, .inr (.inl fun _ => 0))), (21, 36, q36, .inl (1, 12, .inr (.inl fun _ => 0))), (21, 35, q35, .inl (1, 12, .inr (.inl fun _ => 0))), (21, 34, q34, .inl (0, 12, .inl fun _ => 0)), (21, 33, q33, .inl (1, 12, .inr (.inl fun _ => 0))), (21, 32, q32, .inl (1, 12, .inr (.inl fun _ => 0))), (21, 31, q31, .inl (0, 12, .inl fun _ => 0)), (21, 30, q30, .inl (0, 1452, .inl fun _ => 0)), (21, 29, q29, .inl (0, 1452, .inl fun _ => 0)), (21, 28, q28, .inl (0, 1452, .inl fun _ => 0)), (21, 27, q27, .inl (0, 1452, .inl fun _ => 0)), (21, 26, q26, .inl (2, 1452, .inl fun _ => 0)), (21, 25, q25, .inl (0, 1452, .inl fun _ => 0)), (21, 24, q24, .inl (1, 12, .inr (.inl fun _ => 0))), (21, 23, q23, .inl (1, 12, .inr (.inl fun _ => 0))), (21, 22, q22, .inl (0, 12, .inl fun _ => 0)), (21, 21, q21, .inl (0, 12, .inl fun _ => 0)), (21, 20, q20, .inl (0, 12, .inl fun _ => 0)), (21, 19, q19, .inl (0, 12, .inl fun _ => 0)), (21, 17, q17, .inl (2, 60, .inl fun _ => 0)), (21, 16, q16, .inl (0, 60, .inl fun _ => 0)), (21, 15, q15, .inl (0, 60, .inl fun _ => 0)), (21, 14, q14, .inl (0, 60, .inl fun _ => 0)), (21, 13, q13, .inl (0, 60, .inl fun _ => 0)), (21, 10, q10, .inl (0, 122, .inl fun _ => 0)), (21, 9, q9, .inl (0, 968, .inl fun _ => 0)), (21, 8, q8, .inl (0, 8, .inl fun _ => 0)), (21, 7, q7, .inl (0, 8, .inl fun _ => 0)), (21, 6, q6, .inl (0, 8, .inl fun _ => 0)), (21, 5, q5, .inl (0, 8, .inl fun _ => 0)), (21, 4, q4, .inl (0, 8, .inl fun _ => 0)), (21, 3, q3, .inl (0, 8, .inl fun _ => 0)), (0, 0, a0, .inr (7, [.ref l0, .ref l1, .ref l2, .ref x0, .ref x1, .ref b0, .ref s0, .int 100, .int 0, .long 0])), (10, 9999, s0, .inr (0, [.int 0, .int 0, .int 0, .int 0])), (12, 0, b0, .inr (9, [.ref c0, .int 0, .int 0, .int 0])), (13, 0, c0, .inl (3, 16, .inl g)), (3, 100, x1, .inr (4, [.ref y1])), (4, 100, y1, .inl (0, 121, .inl f1)), (3, 0, x0, .inr (4, [.ref y0])), (4, 0, y0, .inl (0, 121, .inl f0)), (1, 2, l2, .inr (10, [.int 0, .ref (E 0), .int 0])), (1, 1, l1, .inr (10, [.int 0, .ref (E 0), .int 0])), (1, 0, l0, .inr (10, [.int 0, .ref (E 0), .int 0])), (30, 0, E 0, coE E 30 0), (31, 0, E 1, coE E 31 0), (32, 0, E 2, coE E 32 0), (33, 0, E 3, coE E 33 0), (34, 0, E 4, coE E 34 0)]) : ∃ ad : xAd, RR ad q0 lo0 s0i u00 (coE E) t ∧ ad 0 0 = a0 ∧ ad 20 0 = b ∧ (E 0 = ad 30 0 ∧ E 1 = ad 31 0 ∧ E 2 = ad 32 0 ∧ E 3 = ad 33 0 ∧ E 4 = ad 34 0) ∧ ∀ k, ad 2 k = E 0 := by
  refine ⟨fun p i => match p with | 0 => a0 | 1 => (match i with | 0 => l0 | 1 => l1 | _ => l2) | 2 => E 0 | 3 => (match i with | 0 => x0 | _ => x1) | 4 => (match i with | 0 => y0 | _ => y1) | 10 => s0 | 12 => b0 | 13 => c0 | 20 => b | 21 => (match i with | 3 => q3 | 4 => q4 | 5 => q5 | 6 => q6 | 7 => q7 | 8 => q8 | 9 => q9 | 10 => q10 | 13 => q13 | 14 => q14 | 15 => q15 | 16 => q16 | 17 => q17 | 19 => q19 | 20 => q20 | 21 => q21 | 22 => q22 | 23 => q23 | 24 => q24 | 25 => q25 | 26 => q26 | 27 => q27 | 28 => q28 | 29 => q29 | 30 => q30 | 31 => q31 | 32 => q32 | 33 => q33 | 34 => q34 | 35 => q35 | 36 => q36 | 37 => q37 | 38 => q38 | _ => 0) | 30 => E 0 | 31 => E 1 | 32 => E 2 | 33 => E 3 | 34 => E 4 | _ => 0, h.rel (fun p i hl => ?_), rfl, rfl, ⟨rfl, rfl, rfl, rfl, rfl⟩, fun _ => rfl⟩
  unfold clv at hl
  split at hl
  · subst hl
    exact ⟨_, List.mem_of_getElem? (i := 34) rfl, rfl, rfl, rfl, rfl⟩
  · obtain rfl | rfl | rfl : i = 0 ∨ i = 1 ∨ i = 2 := by omega
    · exact ⟨_, List.mem_of_getElem? (i := 44) rfl, rfl, rfl, rfl, rfl⟩
    · exact ⟨_, List.mem_of_getElem? (i := 43) rfl, rfl, rfl, rfl, rfl⟩
    · exact ⟨_, List.mem_of_getElem? (i := 42) rfl, rfl, rfl, rfl, rfl⟩
  · exact hl.2.elim
  · obtain rfl | rfl : i = 0 ∨ i = 100 := by rw [show q0.1 = 0 from rfl, show q0.2.1 = 0 from rfl] at hl; omega
    · exact ⟨_, List.mem_of_getElem? (i := 40) rfl, rfl, rfl, rfl, rfl⟩
    · exact ⟨_, List.mem_of_getElem? (i := 38) rfl, rfl, rfl, rfl, rfl⟩
  · obtain rfl | rfl : i = 0 ∨ i = 100 := by rw [show q0.1 = 0 from rfl, show q0.2.1 = 0 from rfl] at hl; omega
    · exact ⟨_, List.mem_of_getElem? (i := 41) rfl, rfl, rfl, rfl, ⟨rfl, rfl, h0⟩⟩
    · exact ⟨_, List.mem_of_getElem? (i := 39) rfl, rfl, rfl, rfl, ⟨rfl, rfl, h1⟩⟩
  · exact absurd hl (Nat.not_lt_zero i)
  · exact absurd hl (Nat.not_lt_zero i)
  · exact absurd hl (Nat.not_lt_zero i)
  · exact absurd hl (Nat.not_lt_zero i)
  · exact absurd hl (Nat.not_lt_zero i)
  · obtain rfl : i = 9999 := hl.elim id (fun h => h.elim)
    exact ⟨_, List.mem_of_getElem? (i := 35) rfl, rfl, rfl, rfl, rfl⟩
  · exact absurd hl (Nat.not_lt_zero i)
  · subst hl
    exact ⟨_, List.mem_of_getElem? (i := 36) rfl, rfl, rfl, rfl, rfl⟩
  · subst hl
    exact ⟨_, List.mem_of_getElem? (i := 37) rfl, rfl, rfl, rfl, ⟨rfl, rfl, hg⟩⟩
  · subst hl
    exact ⟨_, List.mem_of_getElem? (i := 0) rfl, rfl, rfl, rfl, rfl⟩
  · have hi : i < 40 := Nat.lt_of_lt_of_le hl (by split <;> decide)
    obtain rfl | rfl | rfl | rfl | rfl | rfl | rfl | rfl | rfl | rfl | rfl | rfl | rfl | rfl | rfl | rfl | rfl | rfl | rfl | rfl | rfl | rfl | rfl | rfl | rfl | rfl | rfl | rfl | rfl | rfl | rfl | rfl | rfl | rfl | rfl | rfl | rfl | rfl | rfl | rfl : i = 0 ∨ i = 1 ∨ i = 2 ∨ i = 3 ∨ i = 4 ∨ i = 5 ∨ i = 6 ∨ i = 7 ∨ i = 8 ∨ i = 9 ∨ i = 10 ∨ i = 11 ∨ i = 12 ∨ i = 13 ∨ i = 14 ∨ i = 15 ∨ i = 16 ∨ i = 17 ∨ i = 18 ∨ i = 19 ∨ i = 20 ∨ i = 21 ∨ i = 22 ∨ i = 23 ∨ i = 24 ∨ i = 25 ∨ i = 26 ∨ i = 27 ∨ i = 28 ∨ i = 29 ∨ i = 30 ∨ i = 31 ∨ i = 32 ∨ i = 33 ∨ i = 34 ∨ i = 35 ∨ i = 36 ∨ i = 37 ∨ i = 38 ∨ i = 39 := by omega
    · exact absurd hl (by decide)
    · exact absurd hl (by decide)
    · exact absurd hl (by decide)
    · exact ⟨_, List.mem_of_getElem? (i := 33) rfl, rfl, rfl, rfl, ⟨rfl, rfl, fun j hj => rfl⟩⟩
    · exact ⟨_, List.mem_of_getElem? (i := 32) rfl, rfl, rfl, rfl, ⟨rfl, rfl, fun j hj => rfl⟩⟩
    · exact ⟨_, List.mem_of_getElem? (i := 31) rfl, rfl, rfl, rfl, ⟨rfl, rfl, fun j hj => rfl⟩⟩
    · exact ⟨_, List.mem_of_getElem? (i := 30) rfl, rfl, rfl, rfl, ⟨rfl, rfl, fun j hj => rfl⟩⟩
    · exact ⟨_, List.mem_of_getElem? (i := 29) rfl, rfl, rfl, rfl, ⟨rfl, rfl, fun j hj => rfl⟩⟩
    · exact ⟨_, List.mem_of_getElem? (i := 28) rfl, rfl, rfl, rfl, ⟨rfl, rfl, fun j hj => rfl⟩⟩
    · exact ⟨_, List.mem_of_getElem? (i := 27) rfl, rfl, rfl, rfl, ⟨rfl, rfl, fun j hj => rfl⟩⟩
    · exact ⟨_, List.mem_of_getElem? (i := 26) rfl, rfl, rfl, rfl, ⟨rfl, rfl, fun j hj => rfl⟩⟩
    · exact absurd hl (by decide)
    · exact absurd hl (by decide)
    · exact ⟨_, List.mem_of_getElem? (i := 25) rfl, rfl, rfl, rfl, ⟨rfl, rfl, fun j hj => rfl⟩⟩
    · exact ⟨_, List.mem_of_getElem? (i := 24) rfl, rfl, rfl, rfl, ⟨rfl, rfl, fun j hj => rfl⟩⟩
    · exact ⟨_, List.mem_of_getElem? (i := 23) rfl, rfl, rfl, rfl, ⟨rfl, rfl, fun j hj => rfl⟩⟩
    · exact ⟨_, List.mem_of_getElem? (i := 22) rfl, rfl, rfl, rfl, ⟨rfl, rfl, fun j hj => rfl⟩⟩
    · exact ⟨_, List.mem_of_getElem? (i := 21) rfl, rfl, rfl, rfl, ⟨rfl, rfl, fun j hj => rfl⟩⟩
    · exact absurd hl (by decide)
    · exact ⟨_, List.mem_of_getElem? (i := 20) rfl, rfl, rfl, rfl, ⟨rfl, rfl, fun j hj => rfl⟩⟩
    · exact ⟨_, List.mem_of_getElem? (i := 19) rfl, rfl, rfl, rfl, ⟨rfl, rfl, fun j hj => rfl⟩⟩
    · exact ⟨_, List.mem_of_getElem? (i := 18) rfl, rfl, rfl, rfl, ⟨rfl, rfl, fun j hj => rfl⟩⟩
    · exact ⟨_, List.mem_of_getElem? (i := 17) rfl, rfl, rfl, rfl, ⟨rfl, rfl, fun j hj => rfl⟩⟩
    · exact ⟨_, List.mem_of_getElem? (i := 16) rfl, rfl, rfl, rfl, ⟨rfl, rfl, fun j hj => rfl⟩⟩
    · exact ⟨_, List.mem_of_getElem? (i := 15) rfl, rfl, rfl, rfl, ⟨rfl, rfl, fun j hj => rfl⟩⟩
    · exact ⟨_, List.mem_of_getElem? (i := 14) rfl, rfl, rfl, rfl, ⟨rfl, rfl, fun j hj => rfl⟩⟩
    · exact ⟨_, List.mem_of_getElem? (i := 13) rfl, rfl, rfl, rfl, ⟨rfl, rfl, fun j hj => rfl⟩⟩
    · exact ⟨_, List.mem_of_getElem? (i := 12) rfl, rfl, rfl, rfl, ⟨rfl, rfl, fun j hj => rfl⟩⟩
    · exact ⟨_, List.mem_of_getElem? (i := 11) rfl, rfl, rfl, rfl, ⟨rfl, rfl, fun j hj => rfl⟩⟩
    · exact ⟨_, List.mem_of_getElem? (i := 10) rfl, rfl, rfl, rfl, ⟨rfl, rfl, fun j hj => rfl⟩⟩
    · exact ⟨_, List.mem_of_getElem? (i := 9) rfl, rfl, rfl, rfl, ⟨rfl, rfl, fun j hj => rfl⟩⟩
    · exact ⟨_, List.mem_of_getElem? (i := 8) rfl, rfl, rfl, rfl, ⟨rfl, rfl, fun j hj => rfl⟩⟩
    · exact ⟨_, List.mem_of_getElem? (i := 7) rfl, rfl, rfl, rfl, ⟨rfl, rfl, fun j hj => rfl⟩⟩
    · exact ⟨_, List.mem_of_getElem? (i := 6) rfl, rfl, rfl, rfl, ⟨rfl, rfl, fun j hj => rfl⟩⟩
    · exact ⟨_, List.mem_of_getElem? (i := 5) rfl, rfl, rfl, rfl, ⟨rfl, rfl, fun j hj => rfl⟩⟩
    · exact ⟨_, List.mem_of_getElem? (i := 4) rfl, rfl, rfl, rfl, ⟨rfl, rfl, fun j hj => rfl⟩⟩
    · exact ⟨_, List.mem_of_getElem? (i := 3) rfl, rfl, rfl, rfl, ⟨rfl, rfl, fun j hj => rfl⟩⟩
    · exact ⟨_, List.mem_of_getElem? (i := 2) rfl, rfl, rfl, rfl, ⟨rfl, rfl, fun j hj => rfl⟩⟩
    · exact ⟨_, List.mem_of_getElem? (i := 1) rfl, rfl, rfl, rfl, ⟨rfl, rfl, fun j hj => rfl⟩⟩
    · exact absurd hl (by decide)
  · obtain ⟨hp, rfl⟩ := hl
    obtain rfl | rfl | rfl | rfl | rfl := hp
    · exact ⟨_, List.mem_of_getElem? (i := 45) rfl, rfl, rfl, rfl, ⟨rfl, rfl, fun j hj => rfl⟩⟩
    · exact ⟨_, List.mem_of_getElem? (i := 46) rfl, rfl, rfl, rfl, ⟨rfl, rfl, fun j hj => rfl⟩⟩
    · exact ⟨_, List.mem_of_getElem? (i := 47) rfl, rfl, rfl, rfl, ⟨rfl, rfl, fun j hj => rfl⟩⟩
    · exact ⟨_, List.mem_of_getElem? (i := 48) rfl, rfl, rfl, rfl, rfl⟩
    · exact ⟨_, List.mem_of_getElem? (i := 49) rfl, rfl, rfl, rfl, ⟨rfl, rfl, fun j hj => rfl⟩⟩
