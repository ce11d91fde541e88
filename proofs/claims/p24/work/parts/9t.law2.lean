section LAW2
variable {E : Nat → Nat} {aa : Nat → Int64} {sl : Nat} {sx : Nat → Int32} {a1 a2 a3 a4 L1 L2 L m z N rc rs : Nat} {u u' u1 u2 : xS} {D P D' P' d : Int} {t : xT} {a b c : Int} {K : Int32 → xT → Prop} {R : Nat → Nat → Nat → Nat → Int32 → Int32 → Int32 → xT → Nat → Nat → Prop} {x5 x6 x7 v x9 x10 x11 : Int32} {y12 y14 : Int64}
theorem l396_skip {r : Int} (hr : 0 ≤ r ∧ r < 40) (e : lowf v 40 = I r) (hc : ¬ odd v ∨ r < 22 ∨ 26 ≤ r ∨ y14 = (-9000000000000 : Int64)) (k : V_L_law_465 E R a4 a1 a2 a3 x5 x6 x7 v t rc rs) : V_L_law_396 E R a4 a1 a2 a3 x5 x6 x7 v y14 t rc rs := by
  unfold V_L_law_396
  by_cases co : odd v
  · refine xst co (low_k (by decide) ?_)
    rw [e]
    by_cases c1 : r < 22
    · exact xbt (by (try simp only [I_lit, J_lit, I_ofNat, I_neg, I_add, I_sub, I_mul, J_neg, J_add, J_sub, J_mul]); first | (rw [I_lt ⟨by omega, by omega⟩ ⟨by omega, by omega⟩]; omega) | (rw [I_le ⟨by omega, by omega⟩ ⟨by omega, by omega⟩]; omega) | (rw [I_eq ⟨by omega, by omega⟩ ⟨by omega, by omega⟩]; omega) | (rw [J_lt ⟨by omega, by omega⟩ ⟨by omega, by omega⟩]; omega) | (rw [J_le ⟨by omega, by omega⟩ ⟨by omega, by omega⟩]; omega) | (rw [J_eq ⟨by omega, by omega⟩ ⟨by omega, by omega⟩]; omega)) k
    · refine xbf (by (try simp only [I_lit, J_lit, I_ofNat, I_neg, I_add, I_sub, I_mul, J_neg, J_add, J_sub, J_mul]); first | (rw [I_lt ⟨by omega, by omega⟩ ⟨by omega, by omega⟩]; omega) | (rw [I_le ⟨by omega, by omega⟩ ⟨by omega, by omega⟩]; omega) | (rw [I_eq ⟨by omega, by omega⟩ ⟨by omega, by omega⟩]; omega) | (rw [J_lt ⟨by omega, by omega⟩ ⟨by omega, by omega⟩]; omega) | (rw [J_le ⟨by omega, by omega⟩ ⟨by omega, by omega⟩]; omega) | (rw [J_eq ⟨by omega, by omega⟩ ⟨by omega, by omega⟩]; omega)) (low_k (by decide) ?_)
      rw [e]
      by_cases c2 : 26 ≤ r
      · exact xbt (by (try simp only [I_lit, J_lit, I_ofNat, I_neg, I_add, I_sub, I_mul, J_neg, J_add, J_sub, J_mul]); first | (rw [I_lt ⟨by omega, by omega⟩ ⟨by omega, by omega⟩]; omega) | (rw [I_le ⟨by omega, by omega⟩ ⟨by omega, by omega⟩]; omega) | (rw [I_eq ⟨by omega, by omega⟩ ⟨by omega, by omega⟩]; omega) | (rw [J_lt ⟨by omega, by omega⟩ ⟨by omega, by omega⟩]; omega) | (rw [J_le ⟨by omega, by omega⟩ ⟨by omega, by omega⟩]; omega) | (rw [J_eq ⟨by omega, by omega⟩ ⟨by omega, by omega⟩]; omega)) k
      · refine xbf (by (try simp only [I_lit, J_lit, I_ofNat, I_neg, I_add, I_sub, I_mul, J_neg, J_add, J_sub, J_mul]); first | (rw [I_lt ⟨by omega, by omega⟩ ⟨by omega, by omega⟩]; omega) | (rw [I_le ⟨by omega, by omega⟩ ⟨by omega, by omega⟩]; omega) | (rw [I_eq ⟨by omega, by omega⟩ ⟨by omega, by omega⟩]; omega) | (rw [J_lt ⟨by omega, by omega⟩ ⟨by omega, by omega⟩]; omega) | (rw [J_le ⟨by omega, by omega⟩ ⟨by omega, by omega⟩]; omega) | (rw [J_eq ⟨by omega, by omega⟩ ⟨by omega, by omega⟩]; omega)) (xbt ?_ k)
        rcases hc with h | h | h | h
        · exact absurd co h
        · omega
        · omega
        · exact h
  · exact xsf co k
theorem l396_do {r ra : Int} (hr : 22 ≤ r ∧ r < 26) (e : lowf v 40 = I r) (hc : odd v) (hy : ¬ y14 = (-9000000000000 : Int64)) (hT : T2 E sl sx aa a3 a4 a1 L1 u1 a2 L2 u2 D P t) (ea : lowf (v >>> ((6 : Int32) &&& 31)) 14 - 1 = I ra) (hra : 0 ≤ ra ∧ ra < 12) (k : ∀ t, T2 E sl sx (fun j => if j = ra.toNat then aa ra.toNat + J (v >>> ((6 : Int32) &&& 31)).toInt else aa j) a3 a4 a1 L1 u1 a2 L2 u2 D P t → V_L_law_465 E R a4 a1 a2 a3 x5 x6 x7 v t rc rs) : V_L_law_396 E R a4 a1 a2 a3 x5 x6 x7 v y14 t rc rs := by
  unfold V_L_law_396
  refine xst hc (low_k (by decide) ?_)
  rw [e]
  refine xbf (by (try simp only [I_lit, J_lit, I_ofNat, I_neg, I_add, I_sub, I_mul, J_neg, J_add, J_sub, J_mul]); first | (rw [I_lt ⟨by omega, by omega⟩ ⟨by omega, by omega⟩]; omega) | (rw [I_le ⟨by omega, by omega⟩ ⟨by omega, by omega⟩]; omega) | (rw [I_eq ⟨by omega, by omega⟩ ⟨by omega, by omega⟩]; omega) | (rw [J_lt ⟨by omega, by omega⟩ ⟨by omega, by omega⟩]; omega) | (rw [J_le ⟨by omega, by omega⟩ ⟨by omega, by omega⟩]; omega) | (rw [J_eq ⟨by omega, by omega⟩ ⟨by omega, by omega⟩]; omega)) (low_k (by decide) ?_)
  rw [e]
  refine xbf (by (try simp only [I_lit, J_lit, I_ofNat, I_neg, I_add, I_sub, I_mul, J_neg, J_add, J_sub, J_mul]); first | (rw [I_lt ⟨by omega, by omega⟩ ⟨by omega, by omega⟩]; omega) | (rw [I_le ⟨by omega, by omega⟩ ⟨by omega, by omega⟩]; omega) | (rw [I_eq ⟨by omega, by omega⟩ ⟨by omega, by omega⟩]; omega) | (rw [J_lt ⟨by omega, by omega⟩ ⟨by omega, by omega⟩]; omega) | (rw [J_le ⟨by omega, by omega⟩ ⟨by omega, by omega⟩]; omega) | (rw [J_eq ⟨by omega, by omega⟩ ⟨by omega, by omega⟩]; omega)) (xbf hy (low_k (by decide) ?_))
  rw [ea]
  refine hT.row hra ?_
  rw [show (v >>> ((6 : Int32) &&& 31)).toInt64 = J (v >>> ((6 : Int32) &&& 31)).toInt from by
    have := I_long (I_rng (v >>> ((6 : Int32) &&& 31)))
    rw [← I_of] at this
    exact this]
  exact hT.put hra k
theorem l368_skip (hc : x10 = 0 ∨ (¬ x10 = 0 ∧ y14 = (-9000000000000 : Int64))) (k : V_L_law_396 E R a4 a1 a2 a3 x5 x6 x7 v y14 t rc rs) : V_L_law_368 E R a4 a1 a2 a3 x5 x7 v x10 x11 y12 y14 x6 t rc rs := by
  unfold V_L_law_368
  rcases hc with h | h
  · exact xbt h k
  · exact xbf h.1 (xbt h.2 k)
theorem l368_do {ra : Int} (hc : ¬ x10 = 0) (hy : ¬ y14 = (-9000000000000 : Int64)) (hT : T2 E sl sx aa a3 a4 a1 L1 u1 a2 L2 u2 D P t) (ea : x11 = I ra) (hra : 0 ≤ ra ∧ ra < 12) (k : ∀ t, T2 E sl sx (fun j => if j = ra.toNat then aa ra.toNat + (y12 - y14) else aa j) a3 a4 a1 L1 u1 a2 L2 u2 D P t → V_L_law_396 E R a4 a1 a2 a3 x5 x6 x7 v y14 t rc rs) : V_L_law_368 E R a4 a1 a2 a3 x5 x7 v x10 x11 y12 y14 x6 t rc rs := by
  unfold V_L_law_368
  subst ea
  exact xbf hc (xbf hy (hT.row hra (hT.put hra k)))
/-- the call at both, and the law's own row -/
theorem l310 {k : Nat} {r : Int} (hr : 0 ≤ r ∧ r < 40) (e : lowf v 40 = I r) (hT : T2 E sl sx aa a3 a4 a1 1 u a2 1 u D P t) (haa : ∀ l, l < 12 → aa l = J (PD u l)) (hd : u 0 0 8 = d) (hd2 : d ≤ 459) (hD : 0 ≤ D) (hP : 0 ≤ P) (hB : Bd (D + 400000000) (P + 2000000))
    (h9 : (r < 28 ∧ x9 = 0) ∨ (28 ≤ r ∧ x9 = 1 ∧ d ≤ 399)) (h11 : x11 = lowf (v >>> ((6 : Int32) &&& 31)) 6) (h10 : (x10 = 0 ∧ ¬ ((22 ≤ r ∧ r < 26) ∧ ¬ odd v)) ∨ (x10 = 1 ∧ ((22 ≤ r ∧ r < 26) ∧ ¬ odd v) ∧ y12 = J (av 0 x11.toInt 0 0 u)))
    (h1 : N + 1440 ≤ rc) (h2 : m + 6400 ≤ rs) (nx : ∀ d t rc rs, LJ E sl sx a1 a2 a3 a4 (D + 400000000) (P + 2000000) d t → d ≤ 459 → N ≤ rc → m ≤ rs → V_L_law_465 E R a4 a1 a2 a3 (1 : Int32) (I d) x7 v t rc rs) : V_L_law_310 E R a4 a1 a2 a3 (I d) x7 v x9 x10 x11 y12 t rc rs := by
  obtain ⟨h, a, b, c, hh, hact, g11, g9, gargs⟩ := act_spec v hr e
  have hd0 : 0 ≤ d := by have := hT.nn; omega
  unfold V_L_law_310
  refine ⟨720, 3200, by omega, by omega, hact E _ a1 t _ _ (hT.act (hB.le (by omega) (by omega)) h hh rfl a b c (Nat.le_refl _) (Nat.le_refl _) (fun hn => ?_) (fun v1 u1 hv hp hrg t hT => ?_))⟩
  · refine xbt rfl ?_
    have key : V_L_law_368 E R a4 a1 a2 a3 (1 : Int32) x7 v x10 x11 y12 (-9000000000000 : Int64) (I d) t (rc - 720) (rs - 3200) := l368_skip (by
      rcases h10 with g | g
      · exact Or.inl g.1
      · exact Or.inr ⟨by rw [g.1]; decide, rfl⟩) (l396_skip hr e (Or.inr (Or.inr (Or.inr rfl))) (nx d _ _ _ ⟨u, aa, hT.up (by omega) (by omega), haa, hd⟩ hd2 (by omega) (by omega)))
    unfold V_L_law_346
    rcases h9 with g | g
    · exact xbt g.2 key
    · exact xbf (by rw [g.2.1]; decide) (xbt (by decide) key)
  · refine xbf hrg.ne ⟨720, 3200, by omega, by omega, hact E _ a2 t _ _ (hT.sw.act (hB.le (by omega) (by omega)) h hh rfl a b c (Nat.le_refl _) (Nat.le_refl _) (fun hn => absurd (hv.symm.trans hn) (fun g => nomatch g)) (fun v2 u2 hv2 hp2 hrg2 t hT => ?_))⟩
    have e12 := Option.some.inj (hv.symm.trans hv2)
    have ev : v2 = v1 := (Prod.mk.inj e12).1.symm
    have eu : u2 = u1 := (Prod.mk.inj e12).2.symm
    subst ev eu
    have hT := hT.sw
    refine xst rfl ?_
    -- behind the law's own row
    have fin : ∀ aa' d' t, T2 E sl sx aa' a3 a4 a1 1 u2 a2 1 u2 (D + 200000000 + 200000000) (P + 1000000 + 1000000) t → (∀ l, l < 12 → aa' l = J (PD u2 l)) → u2 0 0 8 = d' → d' ≤ 459 → V_L_law_465 E R a4 a1 a2 a3 (1 : Int32) (I d') x7 v t (rc - 720 - 720) (rs - 3200 - 3200) := fun aa' d' t hT h1 h2 h3 => nx d' _ _ _ ⟨u2, aa', hT.up (by omega) (by omega), h1, h2⟩ h3 (by omega) (by omega)
    have key : ∀ d', u2 0 0 8 = d' → d' ≤ 459 → V_L_law_368 E R a4 a1 a2 a3 (1 : Int32) x7 v x10 x11 y12 (J v2) (I d') t (rc - 720 - 720) (rs - 3200 - 3200) := fun d' hd' hd3 => by
      by_cases c9 : h = 9
      · subst c9
        obtain ⟨hc, ev⟩ := ite_some hv
        have ev2 : u 6 a.toInt.toNat 5 - b.toInt = v2 := (Prod.mk.inj ev).1
        have hn := hT.nn
        have hn0 : u 1 1 2 ≤ 12 := by
          have : u2 1 1 2 = u 1 1 2 := by
            rw [← (Prod.mk.inj ev).2, su_r, if_neg (by omega), su_r, if_neg (by omega)]
          omega
        have hpd : ∀ l, l < 12 → PD u2 l = PD u l + (if l = a.toInt.toNat then b.toInt else 0) := fun l hl => by
          rw [hp.1 l hl]
          by_cases cl : l = a.toInt.toNat
          · rw [if_pos cl, if_pos ⟨rfl, by omega⟩]
          · rw [if_neg cl, if_neg (fun g => cl (by omega))]
        have r9 := g9.mp rfl
        rcases h10 with g | g
        · have co : odd v := by
            rcases Classical.em (odd v) with q | q
            · exact q
            · exact absurd ⟨r9, q⟩ g.2
          obtain ⟨ga, gb⟩ := (gargs rfl).2 co
          refine l368_skip (Or.inl g.1) (l396_do (ra := a.toInt) r9 e co hrg.ne hT (by rw [← ga]; exact I_of a) (by omega) (fun t hT => fin _ _ _ hT (fun l hl => ?_) hd' hd3))
          rw [hpd l hl, ← gb]
          show (if l = a.toInt.toNat then aa a.toInt.toNat + J b.toInt else aa l) = _
          by_cases cl : l = a.toInt.toNat
          · rw [if_pos cl, if_pos cl, ← cl, haa l hl, J_add]
          · rw [if_neg cl, if_neg cl, haa l hl, Int.add_zero]
        · have ga := (gargs rfl).1 g.2.1.2
          rw [← h11] at ga
          have ey : y12 - J v2 = J b.toInt := by
            rw [g.2.2, ← ga, av_some (show doA 0 a.toInt 0 0 u = some (u 6 a.toInt.toNat 5) from if_pos (by omega)), J_sub]
            exact congrArg J (by omega)
          refine l368_do (ra := a.toInt) (by rw [g.1]; decide) hrg.ne hT (by rw [← ga]; exact I_of a) (by omega) (fun t hT => l396_skip hr e (Or.inl g.2.1.2) (fin _ _ _ hT (fun l hl => ?_) hd' hd3))
          rw [hpd l hl, ey]
          show (if l = a.toInt.toNat then aa a.toInt.toNat + J b.toInt else aa l) = _
          by_cases cl : l = a.toInt.toNat
          · rw [if_pos cl, if_pos cl, ← cl, haa l hl, J_add]
          · rw [if_neg cl, if_neg cl, haa l hl, Int.add_zero]
      · have r9 : ¬ (22 ≤ r ∧ r < 26) := fun g => c9 (g9.mpr g)
        have hpd : ∀ l, l < 12 → PD u2 l = PD u l := fun l hl => by
          rw [hp.1 l hl, if_neg (fun g => c9 g.1)]
          omega
        refine l368_skip (Or.inl ?_) (l396_skip hr e (by omega) (fin _ _ _ hT (fun l hl => by rw [hpd l hl]; exact haa l hl) hd' hd3))
        rcases h10 with g | g
        · exact g.1
        · exact absurd g.2.1.1 r9
    unfold V_L_law_346
    rcases h9 with g | g
    · refine xbt g.2 (key d ?_ hd2)
      rw [hp.2, if_neg (fun q => by have := g11.mp q; omega)]
      omega
    · have h11' : h = 11 := g11.mpr g.1
      subst h11'
      obtain ⟨hc, ev⟩ := ite_some hv
      have ev2 : u 0 0 8 + a.toInt = v2 := (Prod.mk.inj ev).1
      have hd' : u2 0 0 8 = v2 := by
        rw [hp.2, if_pos rfl]
        exact ev2
      refine xbf (by rw [g.2.1]; decide) (xbf (by (try simp only [I_lit, J_lit, I_ofNat, I_neg, I_add, I_sub, I_mul, J_neg, J_add, J_sub, J_mul]); first | (rw [I_lt ⟨by omega, by omega⟩ ⟨by omega, by omega⟩]; omega) | (rw [I_le ⟨by omega, by omega⟩ ⟨by omega, by omega⟩]; omega) | (rw [I_eq ⟨by omega, by omega⟩ ⟨by omega, by omega⟩]; omega) | (rw [J_lt ⟨by omega, by omega⟩ ⟨by omega, by omega⟩]; omega) | (rw [J_le ⟨by omega, by omega⟩ ⟨by omega, by omega⟩]; omega) | (rw [J_eq ⟨by omega, by omega⟩ ⟨by omega, by omega⟩]; omega)) ?_)
      rw [J_int]
      exact key v2 hd' (by omega)
end LAW2
