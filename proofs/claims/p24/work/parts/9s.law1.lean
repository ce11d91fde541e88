/-! ===== a turn of the law ===== -/
section LAW1
variable {E : Nat → Nat} {aa : Nat → Int64} {sl : Nat} {sx : Nat → Int32} {a1 a2 a3 a4 L1 L2 L m z N rc rs : Nat} {u u1 u2 : xS} {D P D' P' d : Int} {t : xT} {a b c : Int} {K : Int32 → xT → Prop} {R : Nat → Nat → Nat → Nat → Int32 → Int32 → Int32 → xT → Nat → Nat → Prop}
/-- the law's own row is written -/
theorem T2.put {K : xT → Prop} {w : Int64} (hT : T2 E sl sx aa a3 a4 a1 L1 u1 a2 L2 u2 D P t) (ha : 0 ≤ a ∧ a < 12) (k : ∀ t, T2 E sl sx (fun j => if j = a.toNat then w else aa j) a3 a4 a1 L1 u1 a2 L2 u2 D P t → K t) : xsJ t a3 (I a) w K := by
  obtain ⟨ad, ad2, q1, q2, s1, s2, hR, hA, ⟨e1, e2, e3, e4⟩, hE, g, j⟩ := hT
  have h36 : clv q1 (lo2 q2) 36 0 := by show lo2 q2 36 0; exact ⟨by decide, rfl⟩
  obtain ⟨e, h1, h2⟩ := hR.1 36 0 h36
  rw [show xce ad s1 w0 (co2 E aa sl sx ad2 s2) 36 0 = .inl (1, 12, .inr (.inl aa)) from rfl] at h2
  obtain ⟨f, rfl, hf⟩ := sim_long h2
  have hr : i32 a := ⟨by omega, by omega⟩
  subst e3
  refine ⟨12, f, h1, (I_in hr).mpr (by omega), k _ ⟨ad, ad2, q1, q2, s1, s2, hR.up (p := 36) (i := 0) (ce' := xce ad s1 w0 (co2 E (fun j => if j = a.toNat then w else aa j) sl sx ad2 s2)) h36 ?_ (fun p' i' hl hq => ?_), hA, ⟨e1, e2, rfl, e4⟩, hE, g, j⟩⟩
  · refine ⟨rfl, rfl, fun j hj => ?_⟩
    rw [I_nat hr]
    show (if j = a.toNat then w else f j) = if j = a.toNat then w else aa j
    rw [hf j hj]
  · unfold xce
    by_cases c1 : p' < 20
    · rw [if_pos c1, if_pos c1]
    · rw [if_neg c1, if_neg c1]
      by_cases c2 : p' < 22
      · rw [if_pos c2, if_pos c2]
      · rw [if_neg c2, if_neg c2]
        unfold co2
        by_cases c3 : 50 ≤ p' ∧ p' < 70
        · rw [if_pos c3, if_pos c3]
        · rw [if_neg c3, if_neg c3]
          by_cases c4 : p' = 36
          · subst c4
            have hl2 : lo2 q2 36 i' := hl
            exact absurd ⟨rfl, hl2.2⟩ hq
          · rw [if_neg c4, if_neg c4]
/-- the script is read -/
theorem T2.cell {K : Int32 → xT → Prop} {z0 : Int} (hT : T2 E sl sx aa a3 a4 a1 L1 u1 a2 L2 u2 D P t) (hsl : sl ≤ 260) (hz : 0 ≤ z0 ∧ z0 ≤ 100000) (k : ∀ x, K x t) : V_L_cell_0 K a4 (I z0) t := by
  obtain ⟨ad, ad2, q1, q2, s1, s2, hR, hA, ⟨e1, e2, e3, e4⟩, hE, -⟩ := hT
  have h37 : clv q1 (lo2 q2) 37 0 := by show lo2 q2 37 0; exact ⟨by decide, rfl⟩
  unfold V_L_cell_0
  subst e4
  refine xal_I hR (p := 37) (i := 0) (k := 9) (n := sl) (g := sx) h37 rfl ?_
  by_cases c : (sl : Int) ≤ z0
  · exact xbt (by (try simp only [I_lit, J_lit, I_ofNat, I_neg, I_add, I_sub, I_mul, J_neg, J_add, J_sub, J_mul]); first | (rw [I_lt ⟨by omega, by omega⟩ ⟨by omega, by omega⟩]; omega) | (rw [I_le ⟨by omega, by omega⟩ ⟨by omega, by omega⟩]; omega) | (rw [I_eq ⟨by omega, by omega⟩ ⟨by omega, by omega⟩]; omega) | (rw [J_lt ⟨by omega, by omega⟩ ⟨by omega, by omega⟩]; omega) | (rw [J_le ⟨by omega, by omega⟩ ⟨by omega, by omega⟩]; omega) | (rw [J_eq ⟨by omega, by omega⟩ ⟨by omega, by omega⟩]; omega)) (k _)
  · refine xbf (by (try simp only [I_lit, J_lit, I_ofNat, I_neg, I_add, I_sub, I_mul, J_neg, J_add, J_sub, J_mul]); first | (rw [I_lt ⟨by omega, by omega⟩ ⟨by omega, by omega⟩]; omega) | (rw [I_le ⟨by omega, by omega⟩ ⟨by omega, by omega⟩]; omega) | (rw [I_eq ⟨by omega, by omega⟩ ⟨by omega, by omega⟩]; omega) | (rw [J_lt ⟨by omega, by omega⟩ ⟨by omega, by omega⟩]; omega) | (rw [J_le ⟨by omega, by omega⟩ ⟨by omega, by omega⟩]; omega) | (rw [J_eq ⟨by omega, by omega⟩ ⟨by omega, by omega⟩]; omega)) ?_
    exact xaI_R hR (p := 37) (i := 0) h37 rfl (by omega) (by omega) (k _)
/-- what holds between the turns -/
def LJ (E : Nat → Nat) (sl : Nat) (sx : Nat → Int32) (a1 a2 a3 a4 : Nat) (D P d : Int) (t : xT) : Prop := ∃ u aa, T2 E sl sx aa a3 a4 a1 1 u a2 1 u D P t ∧ (∀ l, l < 12 → aa l = J (PD u l)) ∧ u 0 0 8 = d
theorem LJ.up (h : LJ E sl sx a1 a2 a3 a4 D P d t) (hD : D ≤ D') (hP : P ≤ P') : LJ E sl sx a1 a2 a3 a4 D' P' d t := by
  obtain ⟨u, aa, h1, h2, h3⟩ := h
  exact ⟨u, aa, h1.up hD hP, h2, h3⟩
theorem LJ.d0 (h : LJ E sl sx a1 a2 a3 a4 D P d t) : 0 ≤ d := by
  obtain ⟨u, aa, h1, h2, h3⟩ := h
  have := h1.nn
  omega
def cA (k : Nat) : Nat := if k % 10 = 9 then 1 else 0
def cO (k : Nat) : Nat := if k % 9 = 4 then 1 else 0
def cB (k : Nat) : Nat := if k % 12 = 7 then 1 else 0
theorem rem_k {k : Nat} {n : Int} (hk : k ≤ 200) (hn : 0 < n ∧ n ≤ 100) : xrem (I k) (I n) = I ((k : Int) % n) := I_rem ⟨by omega, by omega⟩ ⟨by omega, by omega⟩ (by omega) hn.1
theorem l513 {k : Nat} {v : Int32} (hk : k ≤ 140) (h : LJ E sl sx a1 a2 a3 a4 D P d t) (hD : 0 ≤ D) (hP : 0 ≤ P) (hB : Bd (D + 1000000000) (P + 10000000)) (h1 : N + 2996 * cB k ≤ rc) (h2 : m + 27440 * cB k ≤ rs) (nx : ∀ t rc rs, LJ E sl sx a1 a2 a3 a4 (D + 1000000000) (P + 10000000) d t → N ≤ rc → m ≤ rs → R a4 a1 a2 a3 (1 : Int32) (I d) (I k + 1) t rc rs) : V_L_law_513 E R a4 a1 a2 a3 (I d) (I k) v t rc rs := by
  unfold V_L_law_513
  rw [show (12 : Int32) = I 12 from rfl, rem_k (show k ≤ 200 by omega) (by decide)]
  unfold cB at h1 h2
  refine ⟨by decide, ?_⟩
  by_cases c : k % 12 = 7
  · rw [if_pos c] at h1 h2
    obtain ⟨u, aa, hT, haa, hd⟩ := h
    refine xst (by (try simp only [I_lit, J_lit, I_ofNat, I_neg, I_add, I_sub, I_mul, J_neg, J_add, J_sub, J_mul]); first | (rw [I_lt ⟨by omega, by omega⟩ ⟨by omega, by omega⟩]; omega) | (rw [I_le ⟨by omega, by omega⟩ ⟨by omega, by omega⟩]; omega) | (rw [I_eq ⟨by omega, by omega⟩ ⟨by omega, by omega⟩]; omega) | (rw [J_lt ⟨by omega, by omega⟩ ⟨by omega, by omega⟩]; omega) | (rw [J_le ⟨by omega, by omega⟩ ⟨by omega, by omega⟩]; omega) | (rw [J_eq ⟨by omega, by omega⟩ ⟨by omega, by omega⟩]; omega)) ⟨2996, 27440, by omega, by omega, isBack_ok hT hD hP hB (by unfold BG; omega) (fun u' t hT hpd h8 => xbf (by decide) (nx _ _ _ ⟨u', aa, hT, fun l hl => ?_, h8.trans hd⟩ (by omega) (by omega)))⟩
    rw [haa l hl, hpd l hl]
  · rw [if_neg c] at h1 h2
    exact xsf (by (try simp only [I_lit, J_lit, I_ofNat, I_neg, I_add, I_sub, I_mul, J_neg, J_add, J_sub, J_mul]); first | (rw [I_lt ⟨by omega, by omega⟩ ⟨by omega, by omega⟩]; omega) | (rw [I_le ⟨by omega, by omega⟩ ⟨by omega, by omega⟩]; omega) | (rw [I_eq ⟨by omega, by omega⟩ ⟨by omega, by omega⟩]; omega) | (rw [J_lt ⟨by omega, by omega⟩ ⟨by omega, by omega⟩]; omega) | (rw [J_le ⟨by omega, by omega⟩ ⟨by omega, by omega⟩]; omega) | (rw [J_eq ⟨by omega, by omega⟩ ⟨by omega, by omega⟩]; omega)) (nx _ _ _ (h.up (by omega) (by omega)) (by omega) (by omega))
theorem l496 {k : Nat} {v : Int32} (hk : k ≤ 140) (h : LJ E sl sx a1 a2 a3 a4 D P d t) (hd : d ≤ 459) (hB : Bd D P) (h1 : N + 8000 * cO k ≤ rc) (h2 : m + 60800 * cO k ≤ rs) (nx : ∀ t rc rs, LJ E sl sx a1 a2 a3 a4 D P d t → N ≤ rc → m ≤ rs → V_L_law_513 E R a4 a1 a2 a3 (I d) (I k) v t rc rs) : V_L_law_496 E R a4 a1 a2 a3 (I d) (I k) v t rc rs := by
  unfold V_L_law_496
  rw [show (9 : Int32) = I 9 from rfl, rem_k (show k ≤ 200 by omega) (by decide)]
  unfold cO at h1 h2
  refine ⟨by decide, ?_⟩
  by_cases c : k % 9 = 4
  · rw [if_pos c] at h1 h2
    obtain ⟨u, aa, hT, haa, hd2⟩ := h
    exact xst (by (try simp only [I_lit, J_lit, I_ofNat, I_neg, I_add, I_sub, I_mul, J_neg, J_add, J_sub, J_mul]); first | (rw [I_lt ⟨by omega, by omega⟩ ⟨by omega, by omega⟩]; omega) | (rw [I_le ⟨by omega, by omega⟩ ⟨by omega, by omega⟩]; omega) | (rw [I_eq ⟨by omega, by omega⟩ ⟨by omega, by omega⟩]; omega) | (rw [J_lt ⟨by omega, by omega⟩ ⟨by omega, by omega⟩]; omega) | (rw [J_le ⟨by omega, by omega⟩ ⟨by omega, by omega⟩]; omega) | (rw [J_eq ⟨by omega, by omega⟩ ⟨by omega, by omega⟩]; omega)) ⟨8000, 60800, by omega, by omega, isInOrder_ok hT hB haa (by omega) (by omega) (fun t hT => xbf (by decide) (nx _ _ _ ⟨u, aa, hT, haa, hd2⟩ (by omega) (by omega)))⟩
  · rw [if_neg c] at h1 h2
    exact xsf (by (try simp only [I_lit, J_lit, I_ofNat, I_neg, I_add, I_sub, I_mul, J_neg, J_add, J_sub, J_mul]); first | (rw [I_lt ⟨by omega, by omega⟩ ⟨by omega, by omega⟩]; omega) | (rw [I_le ⟨by omega, by omega⟩ ⟨by omega, by omega⟩]; omega) | (rw [I_eq ⟨by omega, by omega⟩ ⟨by omega, by omega⟩]; omega) | (rw [J_lt ⟨by omega, by omega⟩ ⟨by omega, by omega⟩]; omega) | (rw [J_le ⟨by omega, by omega⟩ ⟨by omega, by omega⟩]; omega) | (rw [J_eq ⟨by omega, by omega⟩ ⟨by omega, by omega⟩]; omega)) (nx _ _ _ h (by omega) (by omega))
theorem l465 {k : Nat} {v : Int32} (hk : k ≤ 140) (h : LJ E sl sx a1 a2 a3 a4 D P d t) (hB : Bd D P) (h1 : N + 3054 * cA k ≤ rc) (h2 : m + 20360 * cA k ≤ rs) (nx : ∀ t rc rs, LJ E sl sx a1 a2 a3 a4 D P d t → N ≤ rc → m ≤ rs → V_L_law_496 E R a4 a1 a2 a3 (I d) (I k) v t rc rs) : V_L_law_465 E R a4 a1 a2 a3 (1 : Int32) (I d) (I k) v t rc rs := by
  unfold V_L_law_465
  rw [show (10 : Int32) = I 10 from rfl, rem_k (show k ≤ 200 by omega) (by decide)]
  unfold cA at h1 h2
  refine xbf (by decide) ⟨by decide, ?_⟩
  by_cases c : k % 10 = 9
  · rw [if_pos c] at h1 h2
    obtain ⟨u, aa, hT, haa, hd2⟩ := h
    exact xst (by (try simp only [I_lit, J_lit, I_ofNat, I_neg, I_add, I_sub, I_mul, J_neg, J_add, J_sub, J_mul]); first | (rw [I_lt ⟨by omega, by omega⟩ ⟨by omega, by omega⟩]; omega) | (rw [I_le ⟨by omega, by omega⟩ ⟨by omega, by omega⟩]; omega) | (rw [I_eq ⟨by omega, by omega⟩ ⟨by omega, by omega⟩]; omega) | (rw [J_lt ⟨by omega, by omega⟩ ⟨by omega, by omega⟩]; omega) | (rw [J_le ⟨by omega, by omega⟩ ⟨by omega, by omega⟩]; omega) | (rw [J_eq ⟨by omega, by omega⟩ ⟨by omega, by omega⟩]; omega)) ⟨3054, 20360, by omega, by omega, areAlike_ok hT hB (by omega) (fun t hT => xbf (by decide) (nx _ _ _ ⟨u, aa, hT, haa, hd2⟩ (by omega) (by omega)))⟩
  · rw [if_neg c] at h1 h2
    exact xsf (by (try simp only [I_lit, J_lit, I_ofNat, I_neg, I_add, I_sub, I_mul, J_neg, J_add, J_sub, J_mul]); first | (rw [I_lt ⟨by omega, by omega⟩ ⟨by omega, by omega⟩]; omega) | (rw [I_le ⟨by omega, by omega⟩ ⟨by omega, by omega⟩]; omega) | (rw [I_eq ⟨by omega, by omega⟩ ⟨by omega, by omega⟩]; omega) | (rw [J_lt ⟨by omega, by omega⟩ ⟨by omega, by omega⟩]; omega) | (rw [J_le ⟨by omega, by omega⟩ ⟨by omega, by omega⟩]; omega) | (rw [J_eq ⟨by omega, by omega⟩ ⟨by omega, by omega⟩]; omega)) (nx _ _ _ h (by omega) (by omega))
end LAW1
