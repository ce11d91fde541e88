section LAW3
variable {E : Nat → Nat} {aa : Nat → Int64} {sl : Nat} {sx : Nat → Int32} {a1 a2 a3 a4 L1 L2 L m z N rc rs : Nat} {u u' u1 u2 : xS} {D P D' P' d : Int} {t : xT} {a b c : Int} {K : Int32 → xT → Prop} {R : Nat → Nat → Nat → Nat → Int32 → Int32 → Int32 → xT → Nat → Nat → Prop} {x5 x6 x7 v x9 x10 x11 : Int32} {y12 y14 : Int64}
theorem l277 {xs0 : Int32} {r : Int} (hr : 0 ≤ r ∧ r < 40) (e : lowf v 40 = I r) (hJ : LJ E sl sx a1 a2 a3 a4 D P d t) (hd2 : d ≤ 459) (hD : 0 ≤ D) (hP : 0 ≤ P) (hB : Bd (D + 400000000) (P + 2000000))
    (h9 : (r < 28 ∧ x9 = 0) ∨ (28 ≤ r ∧ x9 = 1 ∧ d ≤ 399)) (h10 : (xs0 = 0 ∧ ¬ ((22 ≤ r ∧ r < 26) ∧ ¬ odd v)) ∨ (xs0 = 1 ∧ ((22 ≤ r ∧ r < 26) ∧ ¬ odd v)))
    (h1 : N + 1446 ≤ rc) (h2 : m + 6440 ≤ rs) (nx : ∀ d t rc rs, LJ E sl sx a1 a2 a3 a4 (D + 400000000) (P + 2000000) d t → d ≤ 459 → N ≤ rc → m ≤ rs → V_L_law_465 E R a4 a1 a2 a3 (1 : Int32) (I d) x7 v t rc rs) : V_L_law_277 E R a4 a1 a2 a3 (I d) x7 v x9 xs0 t rc rs := by
  obtain ⟨u, aa, hT, haa, hd⟩ := hJ
  unfold V_L_law_277
  refine low_k (by decide) ?_
  rcases h10 with g | g
  · exact xbt g.1 (l310 (k := 0) hr e hT haa hd hd2 hD hP hB h9 rfl (Or.inl g) (by omega) (by omega) nx)
  · refine xbf (by rw [g.1]; decide) ⟨6, 40, by omega, by omega, ?_⟩
    have fin : ∀ y t, T2 E sl sx aa a3 a4 a1 1 u a2 1 u D P t → y = J (av 0 (lowf (v >>> ((6 : Int32) &&& 31)) 6).toInt 0 0 u) → V_L_law_310 E R a4 a1 a2 a3 (I d) x7 v x9 xs0 (lowf (v >>> ((6 : Int32) &&& 31)) 6) y t (rc - 6) (rs - 40) := fun y t hT hy => l310 (k := 0) hr e hT haa hd hd2 hD hP hB h9 rfl (Or.inr ⟨g.1, g.2, hy⟩) (by omega) (by omega) nx
    refine hT.ask0 (hB.le (by omega) (by omega)) 0 (by decide) rfl _ 0 0 (Nat.le_refl _) (Nat.le_refl _) (fun q => absurd q.1 (by decide)) (fun hn => fin _ _ hT ?_) (fun w L' hw hr5 hr6 hr7 t hT => fin _ _ hT.l1 ?_)
    · exact (congrArg J (av_none hn)).symm
    · exact (congrArg J (av_some hw)).symm
theorem l235 {r : Int} (hr : 0 ≤ r ∧ r < 40) (e : lowf v 40 = I r) (hJ : LJ E sl sx a1 a2 a3 a4 D P d t) (hd2 : d ≤ 459) (hD : 0 ≤ D) (hP : 0 ≤ P) (hB : Bd (D + 400000000) (P + 2000000))
    (h9 : (r < 28 ∧ x9 = 0) ∨ (28 ≤ r ∧ x9 = 1 ∧ d ≤ 399))
    (h1 : N + 1446 ≤ rc) (h2 : m + 6440 ≤ rs) (nx : ∀ d t rc rs, LJ E sl sx a1 a2 a3 a4 (D + 400000000) (P + 2000000) d t → d ≤ 459 → N ≤ rc → m ≤ rs → V_L_law_465 E R a4 a1 a2 a3 (1 : Int32) (I d) x7 v t rc rs) : V_L_law_235 E R a4 a1 a2 a3 (I d) x7 v x9 t rc rs := by
  unfold V_L_law_235
  refine low_k (by decide) ?_
  rw [e]
  by_cases c1 : r < 22
  · exact xbt (by (try simp only [I_lit, J_lit, I_ofNat, I_neg, I_add, I_sub, I_mul, J_neg, J_add, J_sub, J_mul]); first | (rw [I_lt ⟨by omega, by omega⟩ ⟨by omega, by omega⟩]; omega) | (rw [I_le ⟨by omega, by omega⟩ ⟨by omega, by omega⟩]; omega) | (rw [I_eq ⟨by omega, by omega⟩ ⟨by omega, by omega⟩]; omega) | (rw [J_lt ⟨by omega, by omega⟩ ⟨by omega, by omega⟩]; omega) | (rw [J_le ⟨by omega, by omega⟩ ⟨by omega, by omega⟩]; omega) | (rw [J_eq ⟨by omega, by omega⟩ ⟨by omega, by omega⟩]; omega)) (l277 hr e hJ hd2 hD hP hB h9 (Or.inl ⟨rfl, fun g => by omega⟩) h1 h2 nx)
  · refine xbf (by (try simp only [I_lit, J_lit, I_ofNat, I_neg, I_add, I_sub, I_mul, J_neg, J_add, J_sub, J_mul]); first | (rw [I_lt ⟨by omega, by omega⟩ ⟨by omega, by omega⟩]; omega) | (rw [I_le ⟨by omega, by omega⟩ ⟨by omega, by omega⟩]; omega) | (rw [I_eq ⟨by omega, by omega⟩ ⟨by omega, by omega⟩]; omega) | (rw [J_lt ⟨by omega, by omega⟩ ⟨by omega, by omega⟩]; omega) | (rw [J_le ⟨by omega, by omega⟩ ⟨by omega, by omega⟩]; omega) | (rw [J_eq ⟨by omega, by omega⟩ ⟨by omega, by omega⟩]; omega)) (low_k (by decide) ?_)
    rw [e]
    by_cases c2 : 26 ≤ r
    · exact xbt (by (try simp only [I_lit, J_lit, I_ofNat, I_neg, I_add, I_sub, I_mul, J_neg, J_add, J_sub, J_mul]); first | (rw [I_lt ⟨by omega, by omega⟩ ⟨by omega, by omega⟩]; omega) | (rw [I_le ⟨by omega, by omega⟩ ⟨by omega, by omega⟩]; omega) | (rw [I_eq ⟨by omega, by omega⟩ ⟨by omega, by omega⟩]; omega) | (rw [J_lt ⟨by omega, by omega⟩ ⟨by omega, by omega⟩]; omega) | (rw [J_le ⟨by omega, by omega⟩ ⟨by omega, by omega⟩]; omega) | (rw [J_eq ⟨by omega, by omega⟩ ⟨by omega, by omega⟩]; omega)) (l277 hr e hJ hd2 hD hP hB h9 (Or.inl ⟨rfl, fun g => by omega⟩) h1 h2 nx)
    · refine xbf (by (try simp only [I_lit, J_lit, I_ofNat, I_neg, I_add, I_sub, I_mul, J_neg, J_add, J_sub, J_mul]); first | (rw [I_lt ⟨by omega, by omega⟩ ⟨by omega, by omega⟩]; omega) | (rw [I_le ⟨by omega, by omega⟩ ⟨by omega, by omega⟩]; omega) | (rw [I_eq ⟨by omega, by omega⟩ ⟨by omega, by omega⟩]; omega) | (rw [J_lt ⟨by omega, by omega⟩ ⟨by omega, by omega⟩]; omega) | (rw [J_le ⟨by omega, by omega⟩ ⟨by omega, by omega⟩]; omega) | (rw [J_eq ⟨by omega, by omega⟩ ⟨by omega, by omega⟩]; omega)) ?_
      by_cases c3 : odd v
      · exact xbt c3 (l277 hr e hJ hd2 hD hP hB h9 (Or.inl ⟨rfl, fun g => g.2 c3⟩) h1 h2 nx)
      · exact xbf c3 (l277 hr e hJ hd2 hD hP hB h9 (Or.inr ⟨rfl, ⟨by omega, by omega⟩, c3⟩) h1 h2 nx)
/-- room for the turns that are left -/
def remC (k : Nat) : Nat → Nat
  | 0 => 11054
  | r + 1 => 1446 + 3054 * cA k + 8000 * cO k + 2996 * cB k + remC (k + 1) r
def remS (k : Nat) : Nat → Nat
  | 0 => 81160
  | r + 1 => 6440 + 20360 * cA k + 60800 * cO k + 27440 * cB k + remS (k + 1) r
theorem l548 (hJ : LJ E sl sx a1 a2 a3 a4 D P d t) (hd : d ≤ 459) (hB : Bd D P) (h1 : 11054 ≤ rc) (h2 : 81160 ≤ rs) : V_L_law_548 E a1 a2 a3 (1 : Int32) t rc rs := by
  obtain ⟨u, aa, hT, haa, hd2⟩ := hJ
  unfold V_L_law_548
  refine xbf (by decide) ⟨3054, 20360, by omega, by omega, areAlike_ok hT hB (by omega) (fun t hT => xbf (by decide) ⟨8000, 60800, by omega, by omega, isInOrder_ok hT.sw hB haa (by omega) (by omega) (fun t hT => xbf (by decide) rfl)⟩)⟩
theorem law_164 (hsl : sl ≤ 260) : ∀ (r k : Nat) (d : Int) (t : xT) (rc rs : Nat), k + r = 140 → LJ E sl sx a1 a2 a3 a4 (3000000000 + 1500000000 * (k : Int)) (20000000 + 13000000 * (k : Int)) d t → d ≤ 459 → remC k r ≤ rc → remS k r ≤ rs → V_L_law_164 E (r + 1) a4 a1 a2 a3 (1 : Int32) (I d) (I k) t rc rs := by
  intro r
  induction r with
  | zero =>
    intro k d t rc rs hk hJ hd h1 h2
    show VS_L_law_164 E (V_L_law_164 E 0) a4 a1 a2 a3 1 (I d) (I k) t rc rs
    unfold VS_L_law_164
    exact xbt (by (try simp only [I_lit, J_lit, I_ofNat, I_neg, I_add, I_sub, I_mul, J_neg, J_add, J_sub, J_mul]); first | (rw [I_lt ⟨by omega, by omega⟩ ⟨by omega, by omega⟩]; omega) | (rw [I_le ⟨by omega, by omega⟩ ⟨by omega, by omega⟩]; omega) | (rw [I_eq ⟨by omega, by omega⟩ ⟨by omega, by omega⟩]; omega) | (rw [J_lt ⟨by omega, by omega⟩ ⟨by omega, by omega⟩]; omega) | (rw [J_le ⟨by omega, by omega⟩ ⟨by omega, by omega⟩]; omega) | (rw [J_eq ⟨by omega, by omega⟩ ⟨by omega, by omega⟩]; omega)) (l548 hJ hd ⟨by omega, by omega⟩ h1 h2)
  | succ r ih =>
    intro k d t rc rs hk hJ hd h1 h2
    have h1' : 1446 + 3054 * cA k + 8000 * cO k + 2996 * cB k + remC (k + 1) r ≤ rc := h1
    have h2' : 6440 + 20360 * cA k + 60800 * cO k + 27440 * cB k + remS (k + 1) r ≤ rs := h2
    show VS_L_law_164 E (V_L_law_164 E (r + 1)) a4 a1 a2 a3 1 (I d) (I k) t rc rs
    unfold VS_L_law_164
    have em : I (k : Int) + 1 = I ((k + 1 : Nat) : Int) := I_add _ 1
    refine xbf (by (try simp only [I_lit, J_lit, I_ofNat, I_neg, I_add, I_sub, I_mul, J_neg, J_add, J_sub, J_mul]); first | (rw [I_lt ⟨by omega, by omega⟩ ⟨by omega, by omega⟩]; omega) | (rw [I_le ⟨by omega, by omega⟩ ⟨by omega, by omega⟩]; omega) | (rw [I_eq ⟨by omega, by omega⟩ ⟨by omega, by omega⟩]; omega) | (rw [J_lt ⟨by omega, by omega⟩ ⟨by omega, by omega⟩]; omega) | (rw [J_le ⟨by omega, by omega⟩ ⟨by omega, by omega⟩]; omega) | (rw [J_eq ⟨by omega, by omega⟩ ⟨by omega, by omega⟩]; omega)) (xbf (by decide) ⟨by decide, ?_⟩)
    obtain ⟨u, aa, hT, haa, hd0⟩ := id hJ
    have hdn := hJ.d0
    rw [show (60 : Int32) = I 60 from rfl, rem_k (show k ≤ 200 by omega) (by decide), show (1 : Int32) + I ((k : Int) % 60) = I (1 + (k : Int) % 60) from I_add 1 _]
    refine hT.cell hsl (by omega) (fun x => ⟨by decide, low_k (by decide) ?_⟩)
    generalize x + ((1949 : Int32) * (I (k : Int) / I 60)) = v
    obtain ⟨p, hp, e⟩ := lowf_rng v (n := 40) (by decide)
    have e : lowf v 40 = I p := e
    rw [e]
    have nxt : ∀ d t rc rs, LJ E sl sx a1 a2 a3 a4 (3000000000 + 1500000000 * (k : Int) + 400000000) (20000000 + 13000000 * (k : Int) + 2000000) d t → d ≤ 459 → remC (k + 1) r + 2996 * cB k + 8000 * cO k + 3054 * cA k ≤ rc → remS (k + 1) r + 27440 * cB k + 60800 * cO k + 20360 * cA k ≤ rs → V_L_law_465 E (V_L_law_164 E (r + 1)) a4 a1 a2 a3 (1 : Int32) (I d) (I k) v t rc rs := fun d t rc rs hJ hd g1 g2 =>
      l465 (N := remC (k + 1) r + 2996 * cB k + 8000 * cO k) (m := remS (k + 1) r + 27440 * cB k + 60800 * cO k) (by omega) hJ ⟨by omega, by omega⟩ g1 g2 (fun t rc rs hJ g1 g2 => l496 (N := remC (k + 1) r + 2996 * cB k) (m := remS (k + 1) r + 27440 * cB k) (by omega) hJ hd ⟨by omega, by omega⟩ g1 g2 (fun t rc rs hJ g1 g2 => l513 (N := remC (k + 1) r) (m := remS (k + 1) r) (by omega) hJ (by omega) (by omega) ⟨by omega, by omega⟩ g1 g2 (fun t rc rs hJ g1 g2 => by
        rw [em]
        exact ih (k + 1) d _ _ _ (by omega) (hJ.up (by omega) (by omega)) hd g1 g2)))
    by_cases c1 : p < 28
    · exact xbt (by (try simp only [I_lit, J_lit, I_ofNat, I_neg, I_add, I_sub, I_mul, J_neg, J_add, J_sub, J_mul]); first | (rw [I_lt ⟨by omega, by omega⟩ ⟨by omega, by omega⟩]; omega) | (rw [I_le ⟨by omega, by omega⟩ ⟨by omega, by omega⟩]; omega) | (rw [I_eq ⟨by omega, by omega⟩ ⟨by omega, by omega⟩]; omega) | (rw [J_lt ⟨by omega, by omega⟩ ⟨by omega, by omega⟩]; omega) | (rw [J_le ⟨by omega, by omega⟩ ⟨by omega, by omega⟩]; omega) | (rw [J_eq ⟨by omega, by omega⟩ ⟨by omega, by omega⟩]; omega)) (xbt rfl (l235 (N := remC (k + 1) r + 2996 * cB k + 8000 * cO k + 3054 * cA k) (m := remS (k + 1) r + 27440 * cB k + 60800 * cO k + 20360 * cA k) hp e hJ hd (by omega) (by omega) ⟨by omega, by omega⟩ (Or.inl ⟨c1, rfl⟩) (by omega) (by omega) nxt))
    · refine xbf (by (try simp only [I_lit, J_lit, I_ofNat, I_neg, I_add, I_sub, I_mul, J_neg, J_add, J_sub, J_mul]); first | (rw [I_lt ⟨by omega, by omega⟩ ⟨by omega, by omega⟩]; omega) | (rw [I_le ⟨by omega, by omega⟩ ⟨by omega, by omega⟩]; omega) | (rw [I_eq ⟨by omega, by omega⟩ ⟨by omega, by omega⟩]; omega) | (rw [J_lt ⟨by omega, by omega⟩ ⟨by omega, by omega⟩]; omega) | (rw [J_le ⟨by omega, by omega⟩ ⟨by omega, by omega⟩]; omega) | (rw [J_eq ⟨by omega, by omega⟩ ⟨by omega, by omega⟩]; omega)) (xbf (by decide) ?_)
      by_cases c2 : d ≤ 399
      · exact xbt (by (try simp only [I_lit, J_lit, I_ofNat, I_neg, I_add, I_sub, I_mul, J_neg, J_add, J_sub, J_mul]); first | (rw [I_lt ⟨by omega, by omega⟩ ⟨by omega, by omega⟩]; omega) | (rw [I_le ⟨by omega, by omega⟩ ⟨by omega, by omega⟩]; omega) | (rw [I_eq ⟨by omega, by omega⟩ ⟨by omega, by omega⟩]; omega) | (rw [J_lt ⟨by omega, by omega⟩ ⟨by omega, by omega⟩]; omega) | (rw [J_le ⟨by omega, by omega⟩ ⟨by omega, by omega⟩]; omega) | (rw [J_eq ⟨by omega, by omega⟩ ⟨by omega, by omega⟩]; omega)) (l235 (N := remC (k + 1) r + 2996 * cB k + 8000 * cO k + 3054 * cA k) (m := remS (k + 1) r + 27440 * cB k + 60800 * cO k + 20360 * cA k) hp e hJ hd (by omega) (by omega) ⟨by omega, by omega⟩ (Or.inr ⟨by omega, rfl, c2⟩) (by omega) (by omega) nxt)
      · refine xbf (by (try simp only [I_lit, J_lit, I_ofNat, I_neg, I_add, I_sub, I_mul, J_neg, J_add, J_sub, J_mul]); first | (rw [I_lt ⟨by omega, by omega⟩ ⟨by omega, by omega⟩]; omega) | (rw [I_le ⟨by omega, by omega⟩ ⟨by omega, by omega⟩]; omega) | (rw [I_eq ⟨by omega, by omega⟩ ⟨by omega, by omega⟩]; omega) | (rw [J_lt ⟨by omega, by omega⟩ ⟨by omega, by omega⟩]; omega) | (rw [J_le ⟨by omega, by omega⟩ ⟨by omega, by omega⟩]; omega) | (rw [J_eq ⟨by omega, by omega⟩ ⟨by omega, by omega⟩]; omega)) ?_
        rw [em]
        exact ih (k + 1) d _ _ _ (by omega) (hJ.up (by omega) (by omega)) hd (by omega) (by omega)
theorem rem_all : remC 0 140 ≤ 560000 ∧ remS 0 140 ≤ 7000000 := ⟨by decide +kernel, by decide +kernel⟩
end LAW3
