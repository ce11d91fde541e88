/-! ===== one call at one of the two objects ===== -/
theorem ite_some {α : Type} {C : Prop} {i : Decidable C} {x y : α} (h : @ite _ C i (some x) none = some y) : C ∧ x = y := by
  by_cases c : C
  · rw [if_pos c] at h
    exact ⟨c, Option.some.inj h⟩
  · rw [if_neg c] at h
    exact nomatch h
theorem mInc_5 {l m e : Nat} {x : Int} {u : xS} : mInc l m e x u 6 l 5 = u 6 l 5 + bnLs l m (e - m) (su (su u 20 0 0 0) 4 (400 + l) m x) 0 ∧ mInc l m e x u 6 l 6 = u 6 l 6 - bnLs l m (e - m) (su (su u 20 0 0 0) 4 (400 + l) m x) 0 := by
  have e6 : lp (bnA l) m (e - m) (su (su u 20 0 0 0) 4 (400 + l) m x) 6 l = u 6 l := by
    rw [lp_o (fun j s => bnA_o (by omega)), su_f _ (by omega), su_f _ (by omega)]
  unfold mInc mTd
  generalize bnLs l m (e - m) (su (su u 20 0 0 0) 4 (400 + l) m x) 0 = y
  simp (config := { decide := true }) only [su_r, su_f, sup_n, not_false_eq_true, eq_self_iff_true, true_or, or_true, false_or, or_false, true_and, and_true, false_and, and_false, if_true, if_false, ite_true, ite_false]
  rw [e6]
  exact ⟨rfl, rfl⟩
section ACT3
variable {E : Nat → Nat} {ad ad' : xAd} {q q' : xL} {lo : Nat → Nat → Prop} {s s' u u' w : xS} {co : Nat → Nat → xE} {t : xT} {D P D' P' : Int} {m z : Nat} {K : Int64 → xT → Prop} {a b c : Int}
theorem OB.ten (hL : OB E lo co D P ad q s u) (hP : P ≤ 100000000000) {l : Nat} (hl : l < q.2.1) : -1000000000000 ≤ u 6 l 5 ∧ u 6 l 5 ≤ 1000000000000 := by
  rw [hL.2.2.1.2.1.r6 l 5 (by decide)]
  exact (hL.2.2.1.1.okP (by have := hL.M; omega) hL.M.2.2 hP hl).2.1
theorem OB.rngP (hL : OB E lo co D P ad q s u) (hB : Bd D P) {h : Nat} (hh : h < 12) (h8 : h ≠ 8) {v : Int} (hv : doP h a b c u = some (v, u')) : -3000000000000 ≤ v ∧ v ≤ 3000000000000 := by
  have hu := hL.u0
  have hn := hL.n
  have ht := hL.t8
  have hM := hL.M
  have hS := hL.2.2.1.2.1
  have hG := hL.2.2.1.1
  have hP2 := hB.2.2
  obtain rfl | rfl | rfl | rfl | rfl | rfl | rfl | rfl | rfl | rfl | rfl : h = 0 ∨ h = 1 ∨ h = 2 ∨ h = 3 ∨ h = 4 ∨ h = 5 ∨ h = 6 ∨ h = 7 ∨ h = 9 ∨ h = 10 ∨ h = 11 := by omega
  · obtain ⟨c, e⟩ := ite_some hv
    cases e
    omega
  · obtain ⟨c, e⟩ := ite_some hv
    cases e
    omega
  · obtain ⟨c, e⟩ := ite_some hv
    cases e
    omega
  · obtain ⟨c, e⟩ := ite_some hv
    cases e
    have en : nowN u = nowN s := by unfold nowN; rw [ht.1]
    rw [en, hL.2.2.1.2.2.1.1 _ (Nat.le_refl _)]
    have := (hG.2.2.2.2.1.2 (nowN s) (by omega)).1
    omega
  · obtain ⟨c, e⟩ := ite_some hv
    cases e
    have e3 := hS.r5 a.toNat 3 (by decide)
    have := (hG.1 a.toNat (by omega)).2.1
    omega
  · obtain ⟨c, e⟩ := ite_some hv
    cases e
    have ec : u 20 0 11 = s 4 100 (nowN s) := hL.2.2.1.2.2.1.2.2.1
    have hc0 := (hG.2.2.2.2.1.2 (nowN s) (by omega)).2
    omega
  · obtain ⟨c, e⟩ := ite_some hv
    cases e
    omega
  · obtain ⟨c, e⟩ := ite_some hv
    cases e
    have := I_rng (I (u 11 a.toNat 1))
    unfold i32 at this
    omega
  · obtain ⟨c, e⟩ := ite_some hv
    cases e
    have := hL.ten (l := a.toNat) (by omega) (by omega)
    omega
  · obtain ⟨c, e⟩ := ite_some hv
    cases e
    have := hL.ten (l := a.toNat) (by omega) (by omega)
    have h1 : 0 ≤ (u 6 a.toNat 5 + b - 1) / b := Int.ediv_nonneg (by omega) (by omega)
    have h2 : (u 6 a.toNat 5 + b - 1) / b ≤ u 6 a.toNat 5 + b - 1 := Int.ediv_le_self _ (by omega)
    omega
  · obtain ⟨c, e⟩ := ite_some hv
    cases e
    omega
theorem OB.rng8 {D2 P2 : Int} (hL : OB E lo co D P ad q s u) (hP : P ≤ 100000000000) {v : Int} (hv : doP 8 a b c u = some (v, u')) (hL' : OB E lo co D2 P2 ad' q' s' u') (hP2 : P2 ≤ 100000000000) : -3000000000000 ≤ v ∧ v ≤ 3000000000000 := by
  obtain ⟨c1, e⟩ := ite_some hv
  cases e
  have hu := hL.u0
  have hu' := hL'.u0
  have h1 := hL.ten hP (l := a.toNat) (by omega)
  have e1 : mInc a.toNat b.toNat (nowN u + 1) c u 1 1 2 = u 1 1 2 := by
    unfold mInc mTd
    rw [su_f _ (by omega), su_f _ (by omega), lp_o (fun j s => bnA_o (by omega)), su_f _ (by omega), su_f _ (by omega)]
  have h2 := hL'.ten hP2 (l := a.toNat) (by omega)
  rw [mInc_5.1] at h2
  omega
end ACT3
/-- what is known of the numbers behind a call -/
def PDn (h : Nat) (a b : Int) (u u' : xS) : Prop := (∀ l : Nat, l < 12 → PD u' l = PD u l + (if h = 9 ∧ (l : Int) = a then b else 0)) ∧ u' 0 0 8 = u 0 0 8 + (if h = 11 then a else 0)
def rgV (v : Int) : Prop := -3000000000000 ≤ v ∧ v ≤ 3000000000000
theorem rgV.ne {v : Int} (h : rgV v) : ¬ J v = (-9000000000000 : Int64) := fun e => by
  unfold rgV at h
  have e2 : v = -9000000000000 := (J_eq ⟨by omega, by omega⟩ ⟨by decide, by decide⟩).mp e
  omega
section ACT4
variable {E : Nat → Nat} {aa : Nat → Int64} {sl : Nat} {sx : Nat → Int32} {a1 a2 a3 a4 L1 L2 L m z : Nat} {u1 u2 : xS} {D P D' P' : Int} {t : xT} {K : Int64 → xT → Prop}
theorem T2.act (hT : T2 E sl sx aa a3 a4 a1 L1 u1 a2 L2 u2 D P t) (hB : Bd D P) (h : Nat) (hh : h < 12) {x : Int32} (hx : x = Int32.ofNat h) (xa xb xc : Int32) (h1 : 720 ≤ m) (h2 : 3200 ≤ z)
    (k0 : doP h xa.toInt xb.toInt xc.toInt u1 = none → K (-9000000000000 : Int64) t)
    (k1 : ∀ v u', doP h xa.toInt xb.toInt xc.toInt u1 = some (v, u') → PDn h xa.toInt xb.toInt u1 u' → rgV v → ∀ t', T2 E sl sx aa a3 a4 a1 L1 u' a2 L2 u2 (D + 200000000) (P + 1000000) t' → K (J v) t') : V_L_does_0 E K a1 x xa xb xc t m z := by
  have hx7 := hT.x7
  obtain ⟨ad, ad2, q1, q2, s1, s2, hR, hA, ⟨e1, e2, e3, e4⟩, hE, ⟨g1, g2, g3⟩, j1, j2, j3⟩ := hT
  have hL : OB E (lo2 q2) (co2 E aa sl sx ad2 s2) D P ad q1 s1 u1 := ⟨hE.RO, g1, g2⟩
  have kn : ∀ v u', doP h xa.toInt xb.toInt xc.toInt u1 = some (v, u') → KN E (lo2 q2) (co2 E aa sl sx ad2 s2) w0 ad s1 u1 D P h xa.toInt xb.toInt K v u' := fun v u' hv ad' q' s' t' hR' hO hAE hpd hday h13 => by
    have hrg : rgV v := by
      have hb1 := hB.2
      by_cases h8 : h = 8
      · subst h8
        exact hL.rng8 (by omega) hv hO (by omega)
      · exact hL.rngP hB hh h8 hv
    refine k1 v u' hv ⟨hpd, hday⟩ hrg t' ⟨ad', ad2, q', q2, s', s2, hR', fun p i hp => ?_, ⟨?_, e2, ?_, ?_⟩, hE.of hAE.2, ⟨hO.2.1, hO.2.2, ?_⟩, j1, j2.up (by omega) (by omega), j3⟩
    · rw [hAE.2 (p + 50) i (by omega)]
      exact hA p i hp
    · rw [hAE.1]
      exact e1
    · rw [hAE.2 36 0 (by decide)]
      exact e3
    · rw [hAE.2 37 0 (by decide)]
      exact e4
    · unfold lam at g3 ⊢
      rw [h13]
      exact g3
  subst hx
  subst e1
  have ra := I_rng xa
  have rb := I_rng xb
  have rc := I_rng xc
  rw [I_of xa, I_of xb, I_of xc]
  obtain rfl | rfl | rfl | rfl | rfl | rfl | rfl | rfl | rfl | rfl | rfl | rfl : h = 0 ∨ h = 1 ∨ h = 2 ∨ h = 3 ∨ h = 4 ∨ h = 5 ∨ h = 6 ∨ h = 7 ∨ h = 8 ∨ h = 9 ∨ h = 10 ∨ h = 11 := by omega
  · exact ds_0 hx7 (ac_flat hR hL h1 h2 ra k0 kn)
  · exact ds_1 hx7 (ac_lease hR hL hB h1 h2 ra rb k0 kn)
  · exact ds_2 hx7 (ac_end hR hL h1 h2 ra k0 kn)
  · exact ds_3 hx7 (ac_index hR hL h1 h2 ra k0 kn)
  · exact ds_4 hx7 (ac_read hR hL h1 h2 ra rb k0 kn)
  · exact ds_5 hx7 (ac_heat hR hL h1 h2 ra k0 kn)
  · exact ds_6 hx7 (ac_report hR hL h1 h2 ra rb k0 kn)
  · exact ds_7 hx7 (ac_mend hR hL h1 h2 ra k0 kn)
  · exact ds_8 hx7 (ac_income hR hL h1 h2 ra rb rc k0 kn)
  · exact ds_9 hx7 (ac_pay hR hL h1 h2 ra rb k0 kn)
  · exact ds_10 hx7 (ac_plan hR hL hB h1 h2 ra rb k0 kn)
  · exact ds_11 hx7 (ac_pass hR hL hB h1 h2 ra k0 kn)
end ACT4
