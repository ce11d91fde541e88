/-! ===== one question at one of the two objects ===== -/
section ASK2
variable {E : Nat → Nat} {ad ad' : xAd} {q q' : xL} {lo : Nat → Nat → Prop} {s s' u u' w : xS} {co : Nat → Nat → xE} {t : xT} {D P D' P' : Int} {m z : Nat} {K : Int64 → xT → Prop} {a b c : Int}
theorem OB.rngA (hL : OB E lo co D P ad q s u) (hB : Bd D P) {h : Nat} (hh : h < 8) {v : Int} (hv : doA h a b c u = some v) : rgV v := by
  have hu := hL.u0
  have hn := hL.n
  have ht := hL.t8
  have hM := hL.M
  have hS := hL.2.2.1.2.1
  have hG := hL.2.2.1.1
  have hP2 := hB.2.2
  have hD2 := hB.1
  unfold rgV
  obtain rfl | rfl | rfl | rfl | rfl | rfl | rfl | rfl : h = 0 ∨ h = 1 ∨ h = 2 ∨ h = 3 ∨ h = 4 ∨ h = 5 ∨ h = 6 ∨ h = 7 := by omega
  · obtain ⟨c, e⟩ := ite_some hv
    have := hL.ten (l := a.toNat) (by omega) (by omega)
    omega
  · obtain ⟨c, e⟩ := ite_some hv
    have := hL.ten (l := a.toNat) (by omega) (by omega)
    omega
  · obtain ⟨c, e⟩ := ite_some hv
    have := (hG.2.2.2.2.2.2.1 a.toNat (by omega)).2.1.2.2
    rw [hS.r6 a.toNat 6 (by decide)] at e
    omega
  · obtain ⟨c1, e⟩ := ite_some hv
    have hb := hL.sbl a.toNat b.toNat (by omega) (by omega)
    unfold okBl at hb
    rw [hS.r9, hS.r10 (i := 200 * a.toNat + b.toNat) (k := c.toNat) (by omega) (by omega)] at e
    split at e
    · omega
    · next h9 =>
      obtain ⟨a1, a2, a3, a4⟩ := hb h9
      have : c.toNat = 0 ∨ c.toNat = 1 ∨ c.toNat = 2 ∨ c.toNat = 3 := by omega
      rcases this with e2 | e2 | e2 | e2 <;> rw [e2] at e <;> omega
  · obtain ⟨c1, e⟩ := ite_some hv
    split at e
    · omega
    · next h9 =>
      rw [hS.r9] at h9
      have hk := hL.sbl a.toNat b.toNat (by omega) (by omega) h9
      have h4 := hL.2.2.1.1.bT (by omega) hM.2.2 (l := a.toNat) (m := b.toNat) (by omega) (by omega) h9
      have h3' := ((hL.2.2.1.1.bill (by omega) hM.2.2 (l := a.toNat) (m := b.toNat) (by omega) (by omega)).2 h9).2.2.2
      have hg : ∀ k, k < 4 → 0 ≤ s 10 (200 * a.toNat + b.toNat) k ∧ s 10 (200 * a.toNat + b.toNat) k < 100000000 := fun k hk4 => by
        obtain ⟨a1, a2, a3, a4⟩ := hk
        obtain rfl | rfl | rfl | rfl : k = 0 ∨ k = 1 ∨ k = 2 ∨ k = 3 := by omega
        · omega
        · omega
        · omega
        · omega
      rw [lnT_congr (g := s 10 (200 * a.toNat + b.toNat)) (fun k hk => hS.r10 (by omega) hk)] at e
      have := lnC_r (x := c) (lnT_r (g := s 10 (200 * a.toNat + b.toNat)) (x := a) (m := b) (by omega) (by omega) hg h4)
      omega
  · obtain ⟨c, e⟩ := ite_some hv
    rw [hS.ru (by omega)] at e
    have := ((hG.1 a.toNat (by omega)).2.2.2.2 b.toNat (by omega)).1
    omega
  · obtain ⟨c, e⟩ := ite_some hv
    rw [hL.2.2.1.2.2.1.2.2.2.1 _ (by omega)] at e
    have := ((hG.1 a.toNat (by omega)).2.2.2.2 (nowN s) (by omega)).2.2
    omega
  · obtain ⟨c, e⟩ := ite_some hv
    rw [hS.r7 _ 0 (by decide)] at e
    have := (hG.2.2.2.2.2.2.1 a.toNat (by omega)).2.2.1
    omega
end ASK2
/-- does the call write a line -/
def wr (h : Nat) (a b c : Int) (u : xS) : Prop := h = 4 ∧ doA 4 a b c u ≠ none ∧ u 9 a.toNat b.toNat ≠ 0
section ASK3
variable {E : Nat → Nat} {aa : Nat → Int64} {sl : Nat} {sx : Nat → Int32} {a1 a2 a3 a4 L1 L2 L m z : Nat} {u1 u2 : xS} {D P D' P' : Int} {t : xT} {K : Int64 → xT → Prop}
theorem T2.ask0 (hT : T2 E sl sx aa a3 a4 a1 L1 u1 a2 L2 u2 D P t) (hB : Bd D P) (h : Nat) (hh : h < 8) {x : Int32} (hx : x = Int32.ofNat (12 + h)) (xa xb xc : Int32) (h1 : 6 ≤ m) (h2 : 40 ≤ z) (h3 : wr h xa.toInt xb.toInt xc.toInt u1 → 6 + 28 * L1 ≤ m ∧ 40 + 3920 * L1 ≤ z)
    (k0 : doA h xa.toInt xb.toInt xc.toInt u1 = none → K (-9000000000000 : Int64) t)
    (k1 : ∀ v L', doA h xa.toInt xb.toInt xc.toInt u1 = some v → rgV v → (L' = L1 ∨ L' = 0 ∧ wr h xa.toInt xb.toInt xc.toInt u1) → (wr h xa.toInt xb.toInt xc.toInt u1 → L' = 0) → ∀ t', T2 E sl sx aa a3 a4 a1 L' u1 a2 L2 u2 D P t' → K (J v) t') : V_L_does_0 E K a1 x xa xb xc t m z := by
  have hx7 := hT.x7
  obtain ⟨ad, ad2, q1, q2, s1, s2, hR, hA, ⟨e1, e2, e3, e4⟩, hE, ⟨g1, g2, g3⟩, j⟩ := hT
  have hL : OB E (lo2 q2) (co2 E aa sl sx ad2 s2) D P ad q1 s1 u1 := ⟨hE.RO, g1, g2⟩
  have kn : ∀ (v : Int) (Lx L' : Nat), doA h xa.toInt xb.toInt xc.toInt u1 = some v → Lx ≤ L' → (L' = L1 ∨ L' = 0 ∧ wr h xa.toInt xb.toInt xc.toInt u1) → (wr h xa.toInt xb.toInt xc.toInt u1 → L' = 0) → KA E (lo2 q2) (co2 E aa sl sx ad2 s2) w0 ad q1 u1 D P Lx K v := fun v Lx L' hv hl h5 h6 ad' s' t' hR' hO hAE h13 => by
    refine k1 v L' hv (hL.rngA hB hh hv) h5 h6 t' ⟨ad', ad2, q1, q2, s', s2, hR', fun p i hp => ?_, ⟨?_, e2, ?_, ?_⟩, hE.of hAE.2, ⟨hO.2.1, hO.2.2, Nat.le_trans h13 hl⟩, j⟩
    · rw [hAE.2 (p + 50) i (by omega)]
      exact hA p i hp
    · rw [hAE.1]
      exact e1
    · rw [hAE.2 36 0 (by decide)]
      exact e3
    · rw [hAE.2 37 0 (by decide)]
      exact e4
  have kn0 : h ≠ 4 → ∀ v, doA h xa.toInt xb.toInt xc.toInt u1 = some v → KA E (lo2 q2) (co2 E aa sl sx ad2 s2) w0 ad q1 u1 D P (lam s1) K v := fun h4 v hv => kn v (lam s1) L1 hv g3 (Or.inl rfl) (fun g => absurd g.1 h4)
  subst hx
  subst e1
  have ra := I_rng xa
  have rb := I_rng xb
  have rc := I_rng xc
  rw [I_of xa, I_of xb, I_of xc]
  obtain rfl | rfl | rfl | rfl | rfl | rfl | rfl | rfl : h = 0 ∨ h = 1 ∨ h = 2 ∨ h = 3 ∨ h = 4 ∨ h = 5 ∨ h = 6 ∨ h = 7 := by omega
  · exact ds_12 hx7 (as_owes hR hL h1 h2 ra k0 (kn0 (by decide)))
  · exact ds_13 hx7 (as_anew hR hL h1 h2 ra k0 (kn0 (by decide)))
  · exact ds_14 hx7 (as_desk hR hL h1 h2 ra k0 (kn0 (by decide)))
  · exact ds_15 hx7 (as_bill hR hL h1 h2 ra rb rc k0 (kn0 (by decide)))
  · refine ds_16 hx7 (as_line hR hL h1 h2 (fun g1 g2 => ?_) ra rb rc k0 (fun v hv => ?_))
    · have := h3 ⟨rfl, g1, g2⟩
      omega
    · by_cases c9 : u1 9 xa.toInt.toNat xb.toInt.toNat = 0
      · rw [if_pos c9]
        exact kn v (lam s1) L1 hv g3 (Or.inl rfl) (fun g => absurd c9 g.2.2)
      · rw [if_neg c9]
        exact kn v 0 0 hv (Nat.le_refl _) (Or.inr ⟨rfl, rfl, (by rw [hv]; exact fun g => nomatch g), c9⟩) (fun _ => rfl)
  · exact ds_17 hx7 (as_use hR hL h1 h2 ra rb k0 (kn0 (by decide)))
  · exact ds_18 hx7 (as_points hR hL h1 h2 ra k0 (kn0 (by decide)))
  · exact ds_19 hx7 (as_planOf hR hL h1 h2 ra k0 (kn0 (by decide)))
/-- what a question answers, what is thrown apart -/
def av (h : Nat) (a b c : Int) (u : xS) : Int := match doA h a b c u with
  | none => -9000000000000
  | some v => v
/-- room for N more -/
def BG (N L rc rs : Nat) : Prop := 6 * N + 28 * L ≤ rc ∧ 40 * N + 3920 * L ≤ rs
theorem T2.ask {KK : Nat → Nat → Int64 → xT → Prop} {rc rs N : Nat} (hT : T2 E sl sx aa a3 a4 a1 L1 u1 a2 L2 u2 D P t) (hB : Bd D P) (h : Nat) (hh : h < 8) {x : Int32} (hx : x = Int32.ofNat (12 + h)) (xa xb xc : Int32) (hG : BG (N + 1) (L1 + L2) rc rs)
    (kk : ∀ m z L' t', T2 E sl sx aa a3 a4 a1 L' u1 a2 L2 u2 D P t' → BG N (L' + L2) (rc - m) (rs - z) → KK m z (J (av h xa.toInt xb.toInt xc.toInt u1)) t') : ∃ m z : Nat, m ≤ rc ∧ z ≤ rs ∧ V_L_does_0 E (KK m z) a1 x xa xb xc t m z := by
  unfold BG at hG
  have k0 : ∀ m z, doA h xa.toInt xb.toInt xc.toInt u1 = none → BG N (L1 + L2) (rc - m) (rs - z) → KK m z (-9000000000000 : Int64) t := fun m z hn hb => by
    have := kk m z L1 t hT hb
    unfold av at this
    rw [hn] at this
    exact this
  have k1 : ∀ m z v L' t', doA h xa.toInt xb.toInt xc.toInt u1 = some v → T2 E sl sx aa a3 a4 a1 L' u1 a2 L2 u2 D P t' → BG N (L' + L2) (rc - m) (rs - z) → KK m z (J v) t' := fun m z v L' t' hn hT' hb => by
    have := kk m z L' t' hT' hb
    unfold av at this
    rw [hn] at this
    exact this
  rcases Classical.em (wr h xa.toInt xb.toInt xc.toInt u1) with c | c
  · refine ⟨6 + 28 * L1, 40 + 3920 * L1, by omega, by omega, ?_⟩
    exact hT.ask0 hB h hh hx xa xb xc (by omega) (by omega) (fun _ => ⟨Nat.le_refl _, Nat.le_refl _⟩) (fun hn => k0 _ _ hn (absurd hn (by obtain ⟨c1, c2, -⟩ := c; subst c1; exact c2))) (fun v L' hv hr h5 h6 t' hT' => k1 _ _ v L' t' hv hT' (by rw [h6 c]; unfold BG; omega))
  · refine ⟨6, 40, by omega, by omega, ?_⟩
    exact hT.ask0 hB h hh hx xa xb xc (Nat.le_refl _) (Nat.le_refl _) (fun g => absurd g c) (fun hn => k0 _ _ hn (by unfold BG; omega)) (fun v L' hv hr h5 h6 t' hT' => by
      rcases h5 with h5 | h5
      · exact k1 _ _ v L' t' hv hT' (by rw [h5]; unfold BG; omega)
      · exact absurd h5.2 c)
/-- .. of the second -/
theorem T2.ask' {KK : Nat → Nat → Int64 → xT → Prop} {rc rs N : Nat} (hT : T2 E sl sx aa a3 a4 a1 L1 u1 a2 L2 u2 D P t) (hB : Bd D P) (h : Nat) (hh : h < 8) {x : Int32} (hx : x = Int32.ofNat (12 + h)) (xa xb xc : Int32) (hG : BG (N + 1) (L1 + L2) rc rs)
    (kk : ∀ m z L' t', T2 E sl sx aa a3 a4 a1 L1 u1 a2 L' u2 D P t' → BG N (L1 + L') (rc - m) (rs - z) → KK m z (J (av h xa.toInt xb.toInt xc.toInt u2)) t') : ∃ m z : Nat, m ≤ rc ∧ z ≤ rs ∧ V_L_does_0 E (KK m z) a2 x xa xb xc t m z :=
  hT.sw.ask hB h hh hx xa xb xc (by rw [Nat.add_comm L2 L1]; exact hG) (fun m z L' t' h1 h2 => kk m z L' t' h1.sw (by rw [Nat.add_comm L1 L']; exact h2))
end ASK3
