section MM4
variable {ad : xAd} {q : xL} {lo : Nat → Nat → Prop} {s u : xS} {co : Nat → Nat → xE} {t : xT} {nf n nr : Nat}
def mput (f m : Nat) (x : Int) (u : xS) : xS := su (su u 4 (200 + f) m x) 5 f 4 (u 5 f 4 + x)
theorem mm_find104 {K : xT → Prop} {f m : Nat} {x : Int} (hR : RR ad q lo s u co t) (hf : f < 8) (hm : m < 121) (kk : ∀ t, RR ad q lo s (mput f m x u) co t → K t) : V_X8_findsUse_104 K (ad 20 0) (I f) (I m) (I x) t := by
  have ef : ((f : Int).toNat) = f := by omega
  unfold V_X8_findsUse_104
  refine xgR_R hR (p := 20) (i := 0) rfl rfl rfl ?_
  rw [show (121 : Int32) = I 121 from rfl, I_mul, I_add]
  refine mpI0 9 (j := 121 * f + m) (p := 4) (i := 200 + f) (f := m) hR (by decide) rfl (by omega) (show 121 * f + m < 968 by omega) ?_ (fun t hR => ?_)
  · show (4, 200 + (121 * f + m) / 121, (121 * f + m) % 121) = _
    rw [show (121 * f + m) / 121 = f by omega, show (121 * f + m) % 121 = m by omega]
  · refine xgR_R hR (p := 20) (i := 0) rfl rfl rfl ?_
    refine xaI_R hR (p := 21) (i := 7) (show 7 < 40 by decide) rfl (by decide) (show 0 ≤ (f : Int) ∧ (f : Int) < ((8 : Nat) : Int) by omega) ?_
    rw [show mva (su u 4 (200 + f) m x) 7 (f : Int).toNat = u 5 f 4 by show su u 4 (200 + f) m x 5 (f : Int).toNat 4 = _; rw [ef, su_r, if_neg (by omega)], I_add]
    exact mpI0 7 hR (by decide) rfl (j := f) (by omega) (show f < 8 by omega) rfl kk
/-- what is known of a flat's uses ahead of a month -/
def okg (g : Nat → Int) (a : Int) (m : Nat) : Prop := (0 ≤ a ∧ a ≤ 1000) ∧ ∀ k, k < m → ((k : Int) < a → g k = -1) ∧ (a ≤ k → 0 ≤ g k ∧ g k ≤ 1000000)
theorem eg_none {g : Nat → Int} {a : Int} {m b : Nat} (h : okg g a m) (hb : 1 ≤ b) (hab : (m : Int) - b < a) : egS g m b = 0 ∧ egC g m b = 0 := by
  have : eg g m b = -1 := by
    unfold eg
    split
    · exact (h.2 (m - b) (by omega)).1 (by omega)
    · rfl
  unfold egS egC
  rw [this]
  exact ⟨rfl, rfl⟩
theorem eg_some {g : Nat → Int} {a : Int} {m b : Nat} (h : okg g a m) (hb : 1 ≤ b) (hab : a ≤ (m : Int) - b) : egS g m b = g (m - b) ∧ egC g m b = 1 ∧ 0 ≤ g (m - b) ∧ g (m - b) ≤ 1000000 := by
  have h0 := h.1
  have h2 := (h.2 (m - b) (by omega)).2 (by omega)
  have : eg g m b = g (m - b) := by
    unfold eg
    rw [if_pos (by omega)]
  unfold egS egC
  rw [this, if_neg (by omega), if_neg (by omega)]
  exact ⟨rfl, rfl, h2⟩
theorem mm_find80 {K : xT → Prop} {f m : Nat} {S C : Int} (hS : 0 ≤ S ∧ S ≤ 3000000) (hC : 0 ≤ C ∧ C ≤ 3) (kk : V_X8_findsUse_104 K (ad 20 0) (I f) (I m) (I (if C = 0 then 0 else S / C)) t) : V_X8_findsUse_80 K (ad 20 0) (I f) (I m) (I S) (I C) t := by
  unfold V_X8_findsUse_80
  by_cases c : C = 0
  · rw [if_pos c] at kk
    exact xst (by rw [c]; rfl) (xbt (by decide) kk)
  · rw [if_neg c] at kk
    have hn : ¬ I C = (0 : Int32) := (by (try simp only [I_lit, J_lit, I_ofNat, I_neg, I_add, I_sub, I_mul, J_neg, J_add, J_sub, J_mul]); first | (rw [I_lt ⟨by omega, by omega⟩ ⟨by omega, by omega⟩]; omega) | (rw [I_le ⟨by omega, by omega⟩ ⟨by omega, by omega⟩]; omega) | (rw [I_eq ⟨by omega, by omega⟩ ⟨by omega, by omega⟩]; omega) | (rw [J_lt ⟨by omega, by omega⟩ ⟨by omega, by omega⟩]; omega) | (rw [J_le ⟨by omega, by omega⟩ ⟨by omega, by omega⟩]; omega) | (rw [J_eq ⟨by omega, by omega⟩ ⟨by omega, by omega⟩]; omega))
    have hq0 : 0 ≤ S / C := Int.ediv_nonneg hS.1 (by omega)
    have hq1 : S / C ≤ S := Int.ediv_le_self _ hS.1
    refine xsf hn ⟨hn, ?_⟩
    rw [I_div ⟨by omega, by omega⟩ ⟨by omega, by omega⟩ (by omega) (by omega)]
    exact xbt (by (try simp only [I_lit, J_lit, I_ofNat, I_neg, I_add, I_sub, I_mul, J_neg, J_add, J_sub, J_mul]); first | (rw [I_lt ⟨by omega, by omega⟩ ⟨by omega, by omega⟩]; omega) | (rw [I_le ⟨by omega, by omega⟩ ⟨by omega, by omega⟩]; omega) | (rw [I_eq ⟨by omega, by omega⟩ ⟨by omega, by omega⟩]; omega) | (rw [J_lt ⟨by omega, by omega⟩ ⟨by omega, by omega⟩]; omega) | (rw [J_le ⟨by omega, by omega⟩ ⟨by omega, by omega⟩]; omega) | (rw [J_eq ⟨by omega, by omega⟩ ⟨by omega, by omega⟩]; omega)) kk
theorem mm_findStep {K : xT → Prop} {f m b k : Nat} {S C : Int} (hR : RR ad q lo s u co t) (hf : f < 8) (hm : m < 121) (hg : okg (u 4 (200 + f)) (u 21 4 f) m) (hb : 1 ≤ b ∧ b ≤ 4) (hS : 0 ≤ S ∧ S ≤ 1000000 * (b - 1)) (hC : 0 ≤ C ∧ C ≤ b - 1)
    (k0 : ((m : Int) - b < u 21 4 f ∨ b = 4) → V_X8_findsUse_104 K (ad 20 0) (I f) (I m) (I (if C = 0 then 0 else S / C)) t)
    (k1 : u 21 4 f ≤ (m : Int) - b → b ≤ 3 → V_X8_findsUse_35 K k (ad 20 0) (I f) (I m) (I (S + u 4 (200 + f) (m - b))) (I (C + 1)) (I ((m : Int) - (b + 1 : Nat))) t) : V_X8_findsUse_35 K (k + 1) (ad 20 0) (I f) (I m) (I S) (I C) (I ((m : Int) - b)) t := by
  have ef : ((f : Int).toNat) = f := by omega
  obtain ⟨ha, hgm⟩ := id hg
  show VS_X8_findsUse_35 (V_X8_findsUse_35 K k) K _ _ _ _ _ _ _
  unfold VS_X8_findsUse_35
  refine xgR_R hR (p := 20) (i := 0) rfl rfl rfl ?_
  refine xaI_R hR (p := 21) (i := 4) (show 4 < 40 by decide) rfl (by decide) (show 0 ≤ (f : Int) ∧ (f : Int) < ((8 : Nat) : Int) by omega) ?_
  rw [show mva u 4 (f : Int).toNat = u 21 4 f by show u 21 4 (f : Int).toNat = _; rw [ef]]
  by_cases c1 : (m : Int) - b < u 21 4 f
  · exact xbt (by (try simp only [I_lit, J_lit, I_ofNat, I_neg, I_add, I_sub, I_mul, J_neg, J_add, J_sub, J_mul]); first | (rw [I_lt ⟨by omega, by omega⟩ ⟨by omega, by omega⟩]; omega) | (rw [I_le ⟨by omega, by omega⟩ ⟨by omega, by omega⟩]; omega) | (rw [I_eq ⟨by omega, by omega⟩ ⟨by omega, by omega⟩]; omega) | (rw [J_lt ⟨by omega, by omega⟩ ⟨by omega, by omega⟩]; omega) | (rw [J_le ⟨by omega, by omega⟩ ⟨by omega, by omega⟩]; omega) | (rw [J_eq ⟨by omega, by omega⟩ ⟨by omega, by omega⟩]; omega)) (mm_find80 (by omega) (by omega) (k0 (Or.inl c1)))
  · refine xbf (by (try simp only [I_lit, J_lit, I_ofNat, I_neg, I_add, I_sub, I_mul, J_neg, J_add, J_sub, J_mul]); first | (rw [I_lt ⟨by omega, by omega⟩ ⟨by omega, by omega⟩]; omega) | (rw [I_le ⟨by omega, by omega⟩ ⟨by omega, by omega⟩]; omega) | (rw [I_eq ⟨by omega, by omega⟩ ⟨by omega, by omega⟩]; omega) | (rw [J_lt ⟨by omega, by omega⟩ ⟨by omega, by omega⟩]; omega) | (rw [J_le ⟨by omega, by omega⟩ ⟨by omega, by omega⟩]; omega) | (rw [J_eq ⟨by omega, by omega⟩ ⟨by omega, by omega⟩]; omega)) ?_
    rw [show (I (m : Int) - (3 : Int32)) = I ((m : Int) - 3) from I_sub _ 3]
    by_cases c2 : b = 4
    · subst c2
      exact xbt (by (try simp only [I_lit, J_lit, I_ofNat, I_neg, I_add, I_sub, I_mul, J_neg, J_add, J_sub, J_mul]); first | (rw [I_lt ⟨by omega, by omega⟩ ⟨by omega, by omega⟩]; omega) | (rw [I_le ⟨by omega, by omega⟩ ⟨by omega, by omega⟩]; omega) | (rw [I_eq ⟨by omega, by omega⟩ ⟨by omega, by omega⟩]; omega) | (rw [J_lt ⟨by omega, by omega⟩ ⟨by omega, by omega⟩]; omega) | (rw [J_le ⟨by omega, by omega⟩ ⟨by omega, by omega⟩]; omega) | (rw [J_eq ⟨by omega, by omega⟩ ⟨by omega, by omega⟩]; omega)) (mm_find80 (by omega) (by omega) (k0 (Or.inr rfl)))
    · refine xbf (by (try simp only [I_lit, J_lit, I_ofNat, I_neg, I_add, I_sub, I_mul, J_neg, J_add, J_sub, J_mul]); first | (rw [I_lt ⟨by omega, by omega⟩ ⟨by omega, by omega⟩]; omega) | (rw [I_le ⟨by omega, by omega⟩ ⟨by omega, by omega⟩]; omega) | (rw [I_eq ⟨by omega, by omega⟩ ⟨by omega, by omega⟩]; omega) | (rw [J_lt ⟨by omega, by omega⟩ ⟨by omega, by omega⟩]; omega) | (rw [J_le ⟨by omega, by omega⟩ ⟨by omega, by omega⟩]; omega) | (rw [J_eq ⟨by omega, by omega⟩ ⟨by omega, by omega⟩]; omega)) ?_
      refine xgR_R hR (p := 20) (i := 0) rfl rfl rfl ?_
      rw [show (121 : Int32) = I 121 from rfl, I_mul, I_add]
      refine xaI_R hR (p := 21) (i := 9) (show 9 < 40 by decide) rfl (by decide) (show 0 ≤ 121 * (f : Int) + ((m : Int) - b) ∧ 121 * (f : Int) + ((m : Int) - b) < ((968 : Nat) : Int) by omega) ?_
      rw [show mva u 9 (121 * (f : Int) + ((m : Int) - b)).toNat = u 4 (200 + f) (m - b) by
        show u 4 (200 + (121 * (f : Int) + ((m : Int) - b)).toNat / 121) ((121 * (f : Int) + ((m : Int) - b)).toNat % 121) = _
        rw [show (121 * (f : Int) + ((m : Int) - b)).toNat / 121 = f by omega, show (121 * (f : Int) + ((m : Int) - b)).toNat % 121 = m - b by omega]]
      rw [I_add, show (I C + (1 : Int32)) = I (C + 1) from I_add _ 1, show (I ((m : Int) - b) + (-1 : Int32)) = I ((m : Int) - (b + 1 : Nat)) by simp only [I_lit, J_lit, I_ofNat, I_neg, I_add, I_sub, I_mul, J_neg, J_add, J_sub, J_mul]; congr 1; omega]
      exact k1 (by omega) (by omega)
theorem mm_findsUse {K : xT → Prop} {f m : Nat} (hR : RR ad q lo s u co t) (hf : f < 8) (hm : m < 121) (hg : okg (u 4 (200 + f)) (u 21 4 f) m) (h3 : 0 ≤ u 5 f 3 ∧ u 5 f 3 ≤ 1000000) (h4 : 0 ≤ u 5 f 4 ∧ u 5 f 4 ≤ 1000000000) (h5 : i32 (u 5 f 5)) (kk : ∀ t, RR ad q lo s (mput f m (fuse f m u) u) co t → K t) : V_X8_findsUse_0 K (ad 20 0) (I f) (I m) t := by
  have ef : ((f : Int).toNat) = f := by omega
  have hf2 : 0 ≤ (f : Int) ∧ (f : Int) < ((8 : Nat) : Int) := by omega
  unfold i32 at h5
  have fin : V_X8_findsUse_104 K (ad 20 0) (I f) (I m) (I (fuse f m u)) t := mm_find104 hR hf hm kk
  unfold fuse at fin
  unfold V_X8_findsUse_0
  refine xgR_R hR (p := 20) (i := 0) rfl rfl rfl ?_
  refine xaI_R hR (p := 21) (i := 5) (show 5 < 40 by decide) rfl (by decide) hf2 ?_
  refine xgR_R hR (p := 20) (i := 0) rfl rfl rfl ?_
  refine xaI_R hR (p := 21) (i := 7) (show 7 < 40 by decide) rfl (by decide) hf2 ?_
  refine xgR_R hR (p := 20) (i := 0) rfl rfl rfl ?_
  refine xaI_R hR (p := 21) (i := 6) (show 6 < 40 by decide) rfl (by decide) hf2 ?_
  rw [show mva u 5 (f : Int).toNat = u 5 f 3 by show u 5 (f : Int).toNat 3 = _; rw [ef], show mva u 7 (f : Int).toNat = u 5 f 4 by show u 5 (f : Int).toNat 4 = _; rw [ef], show mva u 6 (f : Int).toNat = u 5 f 5 by show u 5 (f : Int).toNat 5 = _; rw [ef], I_sub]
  by_cases c : u 5 f 5 = m
  · rw [if_pos c] at fin
    refine xbt (by rw [c]) ?_
    by_cases c2 : 0 < u 5 f 3 - u 5 f 4
    · rw [if_pos c2] at fin
      exact xbt (by (try simp only [I_lit, J_lit, I_ofNat, I_neg, I_add, I_sub, I_mul, J_neg, J_add, J_sub, J_mul]); first | (rw [I_lt ⟨by omega, by omega⟩ ⟨by omega, by omega⟩]; omega) | (rw [I_le ⟨by omega, by omega⟩ ⟨by omega, by omega⟩]; omega) | (rw [I_eq ⟨by omega, by omega⟩ ⟨by omega, by omega⟩]; omega) | (rw [J_lt ⟨by omega, by omega⟩ ⟨by omega, by omega⟩]; omega) | (rw [J_le ⟨by omega, by omega⟩ ⟨by omega, by omega⟩]; omega) | (rw [J_eq ⟨by omega, by omega⟩ ⟨by omega, by omega⟩]; omega)) fin
    · rw [if_neg c2] at fin
      by_cases c3 : 0 ≤ u 5 f 3 - u 5 f 4
      · refine xbt (by (try simp only [I_lit, J_lit, I_ofNat, I_neg, I_add, I_sub, I_mul, J_neg, J_add, J_sub, J_mul]); first | (rw [I_lt ⟨by omega, by omega⟩ ⟨by omega, by omega⟩]; omega) | (rw [I_le ⟨by omega, by omega⟩ ⟨by omega, by omega⟩]; omega) | (rw [I_eq ⟨by omega, by omega⟩ ⟨by omega, by omega⟩]; omega) | (rw [J_lt ⟨by omega, by omega⟩ ⟨by omega, by omega⟩]; omega) | (rw [J_le ⟨by omega, by omega⟩ ⟨by omega, by omega⟩]; omega) | (rw [J_eq ⟨by omega, by omega⟩ ⟨by omega, by omega⟩]; omega)) ?_
        rw [show u 5 f 3 - u 5 f 4 = 0 by omega]
        exact fin
      · exact xbf (by (try simp only [I_lit, J_lit, I_ofNat, I_neg, I_add, I_sub, I_mul, J_neg, J_add, J_sub, J_mul]); first | (rw [I_lt ⟨by omega, by omega⟩ ⟨by omega, by omega⟩]; omega) | (rw [I_le ⟨by omega, by omega⟩ ⟨by omega, by omega⟩]; omega) | (rw [I_eq ⟨by omega, by omega⟩ ⟨by omega, by omega⟩]; omega) | (rw [J_lt ⟨by omega, by omega⟩ ⟨by omega, by omega⟩]; omega) | (rw [J_le ⟨by omega, by omega⟩ ⟨by omega, by omega⟩]; omega) | (rw [J_eq ⟨by omega, by omega⟩ ⟨by omega, by omega⟩]; omega)) fin
  · rw [if_neg c] at fin
    refine xbf (by (try simp only [I_lit, J_lit, I_ofNat, I_neg, I_add, I_sub, I_mul, J_neg, J_add, J_sub, J_mul]); first | (rw [I_lt ⟨by omega, by omega⟩ ⟨by omega, by omega⟩]; omega) | (rw [I_le ⟨by omega, by omega⟩ ⟨by omega, by omega⟩]; omega) | (rw [I_eq ⟨by omega, by omega⟩ ⟨by omega, by omega⟩]; omega) | (rw [J_lt ⟨by omega, by omega⟩ ⟨by omega, by omega⟩]; omega) | (rw [J_le ⟨by omega, by omega⟩ ⟨by omega, by omega⟩]; omega) | (rw [J_eq ⟨by omega, by omega⟩ ⟨by omega, by omega⟩]; omega)) ⟨4, ?_⟩
    unfold guess at fin
    rw [show (I (m : Int) - (1 : Int32)) = I ((m : Int) - (1 : Nat)) from I_sub _ 1]
    have e0 : ∀ {b : Nat}, 1 ≤ b → (m : Int) - b < u 21 4 f → egS (u 4 (200 + f)) m b = 0 ∧ egC (u 4 (200 + f)) m b = 0 := fun h1 h2 => eg_none hg h1 h2
    have e1 : ∀ {b : Nat}, 1 ≤ b → u 21 4 f ≤ (m : Int) - b → egS (u 4 (200 + f)) m b = u 4 (200 + f) (m - b) ∧ egC (u 4 (200 + f)) m b = 1 ∧ 0 ≤ u 4 (200 + f) (m - b) ∧ u 4 (200 + f) (m - b) ≤ 1000000 := fun h1 h2 => eg_some hg h1 h2
    refine mm_findStep (b := 1) (S := 0) (C := 0) hR hf hm hg (by decide) (by decide) (by decide) (fun h => ?_) (fun h _ => ?_)
    · have h' : (m : Int) - (1 : Nat) < u 21 4 f := h.resolve_right (by decide)
      rw [(e0 (b := 1) (by decide) h').2, (e0 (b := 2) (by decide) (by omega)).2, (e0 (b := 3) (by decide) (by omega)).2] at fin
      exact fin
    · obtain ⟨a1, a2, a3, a4⟩ := e1 (b := 1) (by decide) h
      refine mm_findStep (b := 2) hR hf hm hg (by decide) (by omega) (by decide) (fun h2 => ?_) (fun h2 _ => ?_)
      · have h' : (m : Int) - (2 : Nat) < u 21 4 f := h2.resolve_right (by decide)
        rw [a1, a2, (e0 (b := 2) (by decide) h').1, (e0 (b := 2) (by decide) h').2, (e0 (b := 3) (by decide) (by omega)).1, (e0 (b := 3) (by decide) (by omega)).2] at fin
        simp only [Int.zero_add, Int.add_zero] at fin ⊢
        exact fin
      · obtain ⟨b1, b2, b3, b4⟩ := e1 (b := 2) (by decide) h2
        refine mm_findStep (b := 3) hR hf hm hg (by decide) (by omega) (by decide) (fun h3 => ?_) (fun h3 _ => ?_)
        · have h' : (m : Int) - (3 : Nat) < u 21 4 f := h3.resolve_right (by decide)
          rw [a1, a2, b1, b2, (e0 (b := 3) (by decide) h').1, (e0 (b := 3) (by decide) h').2] at fin
          simp only [Int.zero_add, Int.add_zero] at fin ⊢
          exact fin
        · obtain ⟨c1, c2, c3, c4⟩ := e1 (b := 3) (by decide) h3
          refine mm_findStep (b := 4) hR hf hm hg (by decide) (by omega) (by decide) (fun h4 => ?_) (fun _ h4 => by omega)
          rw [a1, a2, b1, b2, c1, c2] at fin
          simp only [Int.zero_add] at fin ⊢
          exact fin
end MM4
