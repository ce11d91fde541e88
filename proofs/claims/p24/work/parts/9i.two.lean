/-! ===== two objects side by side ===== -/
def coE (E : Nat → Nat) : Nat → Nat → xE := fun p _ => match p with
  | 30 => .inl (8, 0, .inr (.inr (.inr (.inr (fun _ => none)))))
  | 31 => .inl (7, 100, .inl (fun r => I (48 + (r : Int) % 10)))
  | 32 => .inl (7, 100, .inl (fun r => I (48 + (r : Int) / 10)))
  | 33 => .inr (11, [.ref (E 4), .int 0])
  | 34 => .inl (7, 2, .inl (fun j => I (if j = 0 then 32 else 77)))
  | _ => .inl (1, 1, .inr (.inl (fun _ => 0)))
/-- the other cells: what nobody writes, the law's own row (36), the script (37), the other object (50 on) -/
def lo2 (q2 : xL) : Nat → Nat → Prop := fun p i => if 50 ≤ p ∧ p < 70 then clv q2 (fun _ _ => False) (p - 50) i else ((p = 30 ∨ p = 31 ∨ p = 32 ∨ p = 33 ∨ p = 34 ∨ p = 36 ∨ p = 37) ∧ i = 0)
def co2 (E : Nat → Nat) (aa : Nat → Int64) (sl : Nat) (sx : Nat → Int32) (ad2 : xAd) (s2 : xS) : Nat → Nat → xE := fun p i => if 50 ≤ p ∧ p < 70 then cel ad2 (p - 50) i (s2 (p - 50) i) else if p = 36 then .inl (1, 12, .inr (.inl aa)) else if p = 37 then .inl (9, sl, .inl sx) else coE E p i
def w0 : xS := fun _ _ _ => 0
def EA (E : Nat → Nat) (ad : xAd) : Prop := E 0 = ad 30 0 ∧ E 1 = ad 31 0 ∧ E 2 = ad 32 0 ∧ E 3 = ad 33 0 ∧ E 4 = ad 34 0
def swA (ad ad2 : xAd) : xAd := fun p i => if p < 20 then ad2 p i else if 50 ≤ p ∧ p < 70 then ad (p - 50) i else ad p i
section TWO
variable {E : Nat → Nat} {aa : Nat → Int64} {sl : Nat} {sx : Nat → Int32} {ad ad' ad2 : xAd} {q q1 q2 : xL} {s1 s2 w : xS} {t : xT}
theorem EA.RO (h : EA E ad) : RO E ad (lo2 q2) (co2 E aa sl sx ad2 s2) := ⟨⟨h.1, ⟨by decide, rfl⟩, rfl⟩, ⟨h.2.1, ⟨by decide, rfl⟩, rfl⟩, ⟨h.2.2.1, ⟨by decide, rfl⟩, rfl⟩, ⟨h.2.2.2.1, ⟨by decide, rfl⟩, rfl⟩, ⟨h.2.2.2.2, ⟨by decide, rfl⟩, rfl⟩⟩
theorem EA.of (h : EA E ad) (hA : ∀ p i, 20 ≤ p → ad' p i = ad p i) : EA E ad' := by
  unfold EA at h ⊢
  rw [hA 30 0 (by decide), hA 31 0 (by decide), hA 32 0 (by decide), hA 33 0 (by decide), hA 34 0 (by decide)]
  exact h
theorem cel_congr {p i : Nat} {g : Nat → Int} (h : ∀ p i, p < 20 → ad' p i = ad p i) : cel ad' p i g = cel ad p i g := by
  have hek : ∀ k j, ad' (elt k) j = ad (elt k) j := fun k j => h _ j (by unfold elt; split <;> decide)
  unfold cel
  split <;> first | rfl | (simp only [hek, h 1 _ (by decide), h 2 _ (by decide), h 3 _ (by decide), h 4 _ (by decide), h 5 _ (by decide), h 7 _ (by decide), h 8 _ (by decide), h 9 _ (by decide), h 10 _ (by decide), h 12 _ (by decide), h 13 _ (by decide)]; done)
theorem Rel.map {lv lv' : Nat → Nat → Prop} {ce ce' : Nat → Nat → xE} (f : Nat → Nat) (h : Rel ad lv ce t) (hl : ∀ p i, lv' p i → lv (f p) i ∧ ad' p i = ad (f p) i ∧ ce' p i = ce (f p) i) (hf : ∀ p p', f p = f p' → p = p') : Rel ad' lv' ce' t := by
  refine ⟨fun p i g => ?_, fun p i p' i' g g' e => ?_⟩
  · obtain ⟨a, b, c⟩ := hl p i g
    rw [b, c]
    exact h.1 _ _ a
  · obtain ⟨a, b, c⟩ := hl p i g
    obtain ⟨a', b', c'⟩ := hl p' i' g'
    rw [b, b'] at e
    obtain ⟨e1, e2⟩ := h.2 _ _ _ _ a a' e
    exact ⟨hf _ _ e1, e2⟩
def swF (p : Nat) : Nat := if p < 20 then p + 50 else if 50 ≤ p ∧ p < 70 then p - 50 else p
theorem swF_inj (p p' : Nat) (h : swF p = swF p') : p = p' := by
  unfold swF at h
  repeat' split at h
  all_goals omega
theorem clv_low {lo lo' : Nat → Nat → Prop} {p i : Nat} (hp : p < 20) (h : ∀ p i, 14 ≤ p → p < 20 → lo p i → lo' p i) (g : clv q lo p i) : clv q lo' p i := by
  obtain rfl | rfl | rfl | rfl | rfl | rfl | rfl | rfl | rfl | rfl | rfl | rfl | rfl | rfl | rfl | rfl | rfl | rfl | rfl | rfl : p = 0 ∨ p = 1 ∨ p = 2 ∨ p = 3 ∨ p = 4 ∨ p = 5 ∨ p = 6 ∨ p = 7 ∨ p = 8 ∨ p = 9 ∨ p = 10 ∨ p = 11 ∨ p = 12 ∨ p = 13 ∨ p = 14 ∨ p = 15 ∨ p = 16 ∨ p = 17 ∨ p = 18 ∨ p = 19 := by omega
  · exact g
  · exact g
  · exact g
  · exact g
  · exact g
  · exact g
  · exact g
  · exact g
  · exact g
  · exact g
  · exact g
  · exact g
  · exact g
  · exact g
  · exact h _ _ (by decide) (by decide) g
  · exact h _ _ (by decide) (by decide) g
  · exact h _ _ (by decide) (by decide) g
  · exact h _ _ (by decide) (by decide) g
  · exact h _ _ (by decide) (by decide) g
  · exact h _ _ (by decide) (by decide) g
theorem sw_R (hR : RR ad q1 (lo2 q2) s1 w (co2 E aa sl sx ad2 s2) t) (hA : ∀ p i, p < 20 → ad2 p i = ad (p + 50) i) : RR (swA ad ad2) q2 (lo2 q1) s2 w (co2 E aa sl sx ad s1) t := by
  refine Rel.map swF hR (fun p i g => ?_) swF_inj
  by_cases c1 : p < 20
  · have ef : swF p = p + 50 := if_pos c1
    have ea : swA ad ad2 p i = ad2 p i := if_pos c1
    rw [ef, ea]
    refine ⟨?_, hA p i c1, ?_⟩
    · show lo2 q2 (p + 50) i
      have g2 : clv q2 (fun _ _ => False) p i := clv_low c1 (fun p i h1 h2 h => by unfold lo2 at h; rw [if_neg (by omega)] at h; omega) g
      unfold lo2
      rw [if_pos (by omega), show p + 50 - 50 = p by omega]
      exact g2
    · unfold xce
      rw [if_pos c1, if_neg (by omega), if_neg (by omega)]
      unfold co2
      rw [if_pos (by omega), show p + 50 - 50 = p by omega]
      exact cel_congr (fun p i h => if_pos h)
  · by_cases c2 : 50 ≤ p ∧ p < 70
    · have ef : swF p = p - 50 := by unfold swF; rw [if_neg c1, if_pos c2]
      have ea : swA ad ad2 p i = ad (p - 50) i := by unfold swA; rw [if_neg c1, if_pos c2]
      rw [ef, ea]
      refine ⟨?_, rfl, ?_⟩
      · have g1 : lo2 q1 p i := by
          obtain ⟨r, rfl⟩ : ∃ r, p = r + 22 := ⟨p - 22, by omega⟩
          exact g
        unfold lo2 at g1
        rw [if_pos c2] at g1
        exact clv_low (by omega) (fun p i _ _ h => h.elim) g1
      · unfold xce
        rw [if_neg c1, if_neg (by omega), if_pos (show p - 50 < 20 by omega)]
        unfold co2
        rw [if_pos c2]
    · have ef : swF p = p := by unfold swF; rw [if_neg c1, if_neg c2]
      have ea : swA ad ad2 p i = ad p i := by unfold swA; rw [if_neg c1, if_neg c2]
      rw [ef, ea]
      by_cases c3 : p < 22
      · have : p = 20 ∨ p = 21 := by omega
        rcases this with rfl | rfl
        · exact g.elim
        · exact g.elim
      · obtain ⟨r, rfl⟩ : ∃ r, p = r + 22 := ⟨p - 22, by omega⟩
        refine ⟨?_, rfl, ?_⟩
        · have g1 : lo2 q1 (r + 22) i := g
          show lo2 q2 (r + 22) i
          unfold lo2 at g1 ⊢
          rw [if_neg c2] at g1 ⊢
          exact g1
        · unfold xce
          rw [if_neg c1, if_neg c3, if_neg c1, if_neg c3]
          unfold co2
          rw [if_neg c2, if_neg c2]
end TWO
/-- both objects, the law's row, the script -/
def T2 (E : Nat → Nat) (sl : Nat) (sx : Nat → Int32) (aa : Nat → Int64) (a3 a4 a1 L1 : Nat) (u1 : xS) (a2 L2 : Nat) (u2 : xS) (D P : Int) (t : xT) : Prop := ∃ ad ad2 q1 q2 s1 s2, RR ad q1 (lo2 q2) s1 w0 (co2 E aa sl sx ad2 s2) t ∧ (∀ p i, p < 20 → ad2 p i = ad (p + 50) i) ∧ (ad 0 0 = a1 ∧ ad2 0 0 = a2 ∧ ad 36 0 = a3 ∧ ad 37 0 = a4) ∧ EA E ad ∧ (GQ E ad q1 s1 ∧ DRel q1.1 q1.2.1 q1.2.2.1 D P s1 u1 ∧ lam s1 ≤ L1) ∧ (GQ E ad2 q2 s2 ∧ DRel q2.1 q2.2.1 q2.2.2.1 D P s2 u2 ∧ lam s2 ≤ L2)
section T2S
variable {E : Nat → Nat} {aa : Nat → Int64} {sl : Nat} {sx : Nat → Int32} {a1 a2 a3 a4 L1 L2 L : Nat} {u1 u2 : xS} {D P D' P' : Int} {t : xT}
theorem GQ.adr {ad ad' : xAd} {q : xL} {s : xS} (h : GQ E ad q s) (ha : ∀ j, ad' 2 j = ad 2 j) : GQ E ad' q s := ⟨h.1.of rfl rfl (ha 0) id, h.2.1.of rfl rfl (ha 1) id, h.2.2.1.of rfl rfl (ha 2) id, h.2.2.2⟩
theorem T2.sw (h : T2 E sl sx aa a3 a4 a1 L1 u1 a2 L2 u2 D P t) : T2 E sl sx aa a3 a4 a2 L2 u2 a1 L1 u1 D P t := by
  obtain ⟨ad, ad2, q1, q2, s1, s2, hR, hA, ⟨e1, e2, e3, e4⟩, hE, ⟨g1, g2, g3⟩, k1, k2, k3⟩ := h
  refine ⟨swA ad ad2, ad, q2, q1, s2, s1, sw_R hR hA, fun p i hp => ?_, ⟨e2, e1, e3, e4⟩, hE, ⟨k1.adr (fun j => rfl), k2, k3⟩, g1, g2, g3⟩
  unfold swA
  rw [if_neg (by omega), if_pos (by omega), show p + 50 - 50 = p by omega]
theorem T2.up (h : T2 E sl sx aa a3 a4 a1 L1 u1 a2 L2 u2 D P t) (hD : D ≤ D') (hP : P ≤ P') : T2 E sl sx aa a3 a4 a1 L1 u1 a2 L2 u2 D' P' t := by
  obtain ⟨ad, ad2, q1, q2, s1, s2, hR, hA, e, hE, ⟨g1, g2, g3⟩, k1, k2, k3⟩ := h
  exact ⟨ad, ad2, q1, q2, s1, s2, hR, hA, e, hE, ⟨g1, g2.up hD hP, g3⟩, k1, k2.up hD hP, k3⟩
theorem T2.x7 (h : T2 E sl sx aa a3 a4 a1 L1 u1 a2 L2 u2 D P t) : xis t a1 7 := by
  obtain ⟨ad, ad2, q1, q2, s1, s2, hR, hA, e, hE, -⟩ := h
  rw [← e.1]
  exact OB.x7 hR
end T2S
