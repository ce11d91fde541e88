/-! ===== the accounts are in order ===== -/
section ORD
variable {E : Nat → Nat} {ad ad' ad2 : xAd} {q q1 q2 : xL} {lo : Nat → Nat → Prop} {s s' s1 s2 u u' w : xS} {co : Nat → Nat → xE} {t t' : xT} {D P D' P' : Int} {m z : Nat} {a b c : Int} {KX : String → xT → Prop}
/-- the bills of a lease -/
def bb (u : xS) (k : Nat) : Nat → Int := fun j => if u 9 k j = 0 then 0 else bT u (200 * k + j)
theorem OB.bf (hL : OB E lo co D P ad q s u) {k m : Nat} (hk : k < q.2.1) (hm : m < 121) : (u 9 k m = 0 ∨ u 9 k m = 1) ∧ (u 9 k m ≠ 0 → (m : Int) < s 0 0 8 / 30 ∧ (0 ≤ u 10 (200 * k + m) 0 ∧ u 10 (200 * k + m) 0 ≤ 1000000) ∧ (0 ≤ u 10 (200 * k + m) 1 ∧ u 10 (200 * k + m) 1 ≤ u 10 (200 * k + m) 0) ∧ (0 ≤ u 10 (200 * k + m) 2 ∧ u 10 (200 * k + m) 2 ≤ (u 10 (200 * k + m) 0 - u 10 (200 * k + m) 1) * 8 / 10) ∧ (0 ≤ u 10 (200 * k + m) 3 ∧ u 10 (200 * k + m) 3 ≤ 20000000)) := by
  have hM := hL.M
  have hn := hL.n
  have hS := hL.2.2.1.2.1
  have hb := hL.2.2.1.1.bill (by omega) hM.2.2 hk hm
  have hH := (hL.2.2.1.1.2.2.2.2.2.2.1 k hk).1 m hm
  rw [hS.r9, hS.r10 (by omega) (by decide), hS.r10 (by omega) (by decide), hS.r10 (by omega) (by decide), hS.r10 (by omega) (by decide)]
  refine ⟨hb.1, fun h9 => ?_⟩
  have h := hb.2 h9
  have hc : m < nowN s ∧ runb s k m ≠ 0 := by
    rcases Classical.em (m < nowN s ∧ runb s k m ≠ 0) with c | c
    · exact c
    · exact absurd (hH.2 c) h9
  obtain ⟨-, g⟩ := hH.1 hc
  have e0 := g 0 (by decide)
  have e1 := g 1 (by decide)
  have e2 := g 2 (by decide)
  refine ⟨by omega, h.1, h.2.1, ⟨h.2.2.1.1, ?_⟩, h.2.2.2⟩
  rw [e2]
  show ben (bl s q.2.1 k m 0 - bl s q.2.1 k m 1) _ ≤ _
  rw [← e0, ← e1]
  exact (ben_rng (by omega)).2
theorem OB.bb0 (hL : OB E lo co D P ad q s u) {k m : Nat} (hk : k < q.2.1) (hm : nowN s + 1 ≤ m) (h2 : m ≤ 121) : sumn (bb u k) m = TT u k := by
  have hM := hL.M
  have z : ∀ j, nowN s + 1 ≤ j → j < 121 → bb u k j = 0 := fun j h1 h2 => by
    unfold bb
    rcases (hL.bf hk h2).1 with h | h
    · rw [if_pos h]
    · have := ((hL.bf hk h2).2 (by omega)).1
      omega
  have e1 := sumn_tail (g := bb u k) (a := m) (121 - m) (fun j h1 h2 => z j (by omega) (by omega))
  rw [show m + (121 - m) = 121 by omega] at e1
  exact e1.symm
theorem OB.bill0 {KJ : Int64 → xT → Prop} (hR : RR ad q lo s w co t) (hL : OB E lo co D P ad q s u) (h1 : 6 ≤ m) (h2 : 40 ≤ z) (ha : 0 ≤ a ∧ a < q.2.1) (hb : 0 ≤ b ∧ b ≤ s 0 0 8 / 30) (hc : 0 ≤ c ∧ c ≤ 3) (k : KJ (J (if u 9 a.toNat b.toNat = 0 then -1 else u 10 (200 * a.toNat + b.toNat) c.toNat)) t) : V_X7_bill_0 KX KJ (ad 0 0) (I a) (I b) (I c) t m z := by
  have hS := hL.2.2.1.2.1
  have hn := hL.n
  have ht := hL.t8
  refine sp_bill hR hL.2.1.2.2.2.1 hL.2.2.2 hL.2.1.n1 (Nat.le_refl _) ⟨by omega, by omega⟩ ⟨by omega, by omega⟩ ⟨by omega, by omega⟩ hL.sbl (by omega) (by omega) (fun h => absurd ⟨ha, hb⟩ h) (fun _ h => absurd hc h) (fun _ _ => ?_)
  rw [← hS.r9, ← hS.r10 (i := 200 * a.toNat + b.toNat) (k := c.toNat) (by omega) (by omega)]
  exact k
theorem OB.desk0 {KJ : Int64 → xT → Prop} (hR : RR ad q lo s w co t) (hL : OB E lo co D P ad q s u) (h1 : 6 ≤ m) (h2 : 40 ≤ z) (ha : 0 ≤ a ∧ a < q.2.1) (k : KJ (J (u 6 a.toNat 6)) t) : V_X7_desk_0 KX KJ (ad 0 0) (I a) t m z := by
  have hS := hL.2.2.1.2.1
  have hn := hL.n
  refine sp_desk hR hL.2.1.n1 (Nat.le_refl _) ⟨by omega, by omega⟩ (by omega) (by omega) (fun h => absurd ha h) (fun _ => ?_)
  rw [← hS.r6 a.toNat 6 (by decide)]
  exact k
theorem OB.anew0 {KJ : Int64 → xT → Prop} (hR : RR ad q lo s w co t) (hL : OB E lo co D P ad q s u) (h1 : 6 ≤ m) (h2 : 40 ≤ z) (ha : 0 ≤ a ∧ a < q.2.1) (k : ∀ s' t', RR ad q lo s' w co t' → OB E lo co D P ad q s' u → lam s' ≤ lam s → KJ (J (u 6 a.toNat 5)) t') : V_X7_owesAnew_0 KX KJ (ad 0 0) (I a) t m z := by
  have hS := hL.2.2.1.2.1
  have hM := hL.M
  have hn := hL.n
  have hG := hL.2.2.1.1
  refine sp_owesAnew hR hL.2.2.2 hL.2.1.n1 (Nat.le_refl _) hn.2.1 ⟨by omega, by omega⟩ (fun k hk => ⟨okW_of_G hG.1 hG.2.1 hG.2.2.2.2.1 (by omega) hG.2.2.1 rfl rfl (by omega) hk, okM_of_G hG.1 hG.2.2.2.2.1 hM.2.2 rfl (by omega)⟩) (by omega) (by omega) (fun h => absurd ha h) (fun hc t hR => ?_)
  have hF : Fx s (lp (oaS q.2.1 a.toNat) 0 (nowN s) s) := Fx.lps _ _ _
  have hL' := hL.irr (hL.2.1.of (fun k => hF 1 k (by decide) (by omega)) (fun k => hF 2 k (by decide) (by omega)) (fun l _ => hF 9 l (by decide) (by omega)) (hF 12 0 (by decide) (by omega)) (hF 13 0 (by decide) (by omega))) (fun p i h => hF p i (by omega) (by omega)) (fun k => by rw [hF 0 0 (by decide) (by omega)]) (fun k => by rw [hF 1 k (by decide) (by omega)])
  rw [anew_eq hL.2.2 (by omega), ← hS.r6 a.toNat 5 (by decide)]
  refine k _ _ hR hL' ?_
  unfold lam
  rw [hF 13 0 (by decide) (by omega)]
  exact Nat.le_refl _
end ORD
section ORD2
variable {E : Nat → Nat} {aa : Nat → Int64} {sl : Nat} {sx : Nat → Int32} {a1 a2 a3 a4 L1 L2 L m z N rc rs : Nat} {u u1 u2 : xS} {D P D' P' : Int} {t : xT} {a b c : Int} {KX : String → xT → Prop}
theorem T2.nn (hT : T2 E sl sx aa a3 a4 a1 L1 u1 a2 L2 u2 D P t) : 0 ≤ u1 1 1 2 ∧ u1 1 1 2 ≤ 12 ∧ 0 ≤ u1 0 0 8 ∧ u1 0 0 8 ≤ 3600 := by
  obtain ⟨ad, ad2, q1, q2, s1, s2, hR, hA, ⟨e1, e2, e3, e4⟩, hE, ⟨g1, g2, g3⟩, j⟩ := hT
  have hL : OB E (lo2 q2) (co2 E aa sl sx ad2 s2) D P ad q1 s1 u1 := ⟨hE.RO, g1, g2⟩
  have := hL.u0
  have := hL.n
  have := hL.t8
  omega
theorem T2.bill {KK : Nat → Nat → Int64 → xT → Prop} (hT : T2 E sl sx aa a3 a4 a1 L1 u1 a2 L2 u2 D P t) (ha : 0 ≤ a ∧ a < u1 1 1 2) (hb : 0 ≤ b ∧ b ≤ u1 0 0 8 / 30) (hc : 0 ≤ c ∧ c ≤ 3) (hG : BG (N + 1) (L1 + L2) rc rs) {v : Int} (hv : (if u1 9 a.toNat b.toNat = 0 then -1 else u1 10 (200 * a.toNat + b.toNat) c.toNat) = v) (k : ∀ m z, BG N (L1 + L2) (rc - m) (rs - z) → KK m z (J v) t) : xis t a1 7 ∧ ∃ m z : Nat, m ≤ rc ∧ z ≤ rs ∧ V_X7_bill_0 KX (KK m z) a1 (I a) (I b) (I c) t m z := by
  refine ⟨hT.x7, ?_⟩
  obtain ⟨ad, ad2, q1, q2, s1, s2, hR, hA, ⟨e1, e2, e3, e4⟩, hE, ⟨g1, g2, g3⟩, j⟩ := hT
  have hL : OB E (lo2 q2) (co2 E aa sl sx ad2 s2) D P ad q1 s1 u1 := ⟨hE.RO, g1, g2⟩
  have h1 := hL.u0
  have h2 := hL.t8
  unfold BG at hG
  rw [← e1]
  exact ⟨6, 40, by omega, by omega, OB.bill0 hR hL (Nat.le_refl _) (Nat.le_refl _) (by omega) (by omega) hc (by rw [hv]; exact k _ _ (by unfold BG; omega))⟩
theorem T2.desk {KK : Nat → Nat → Int64 → xT → Prop} (hT : T2 E sl sx aa a3 a4 a1 L1 u1 a2 L2 u2 D P t) (ha : 0 ≤ a ∧ a < u1 1 1 2) (hG : BG (N + 1) (L1 + L2) rc rs) (k : ∀ m z, BG N (L1 + L2) (rc - m) (rs - z) → KK m z (J (u1 6 a.toNat 6)) t) : xis t a1 7 ∧ ∃ m z : Nat, m ≤ rc ∧ z ≤ rs ∧ V_X7_desk_0 KX (KK m z) a1 (I a) t m z := by
  refine ⟨hT.x7, ?_⟩
  obtain ⟨ad, ad2, q1, q2, s1, s2, hR, hA, ⟨e1, e2, e3, e4⟩, hE, ⟨g1, g2, g3⟩, j⟩ := hT
  have hL : OB E (lo2 q2) (co2 E aa sl sx ad2 s2) D P ad q1 s1 u1 := ⟨hE.RO, g1, g2⟩
  have h1 := hL.u0
  unfold BG at hG
  rw [← e1]
  exact ⟨6, 40, by omega, by omega, OB.desk0 hR hL (Nat.le_refl _) (Nat.le_refl _) (by omega) (k _ _ (by unfold BG; omega))⟩
theorem T2.anew {KK : Nat → Nat → Int64 → xT → Prop} (hT : T2 E sl sx aa a3 a4 a1 L1 u1 a2 L2 u2 D P t) (ha : 0 ≤ a ∧ a < u1 1 1 2) (hG : BG (N + 1) (L1 + L2) rc rs) (k : ∀ m z t, T2 E sl sx aa a3 a4 a1 L1 u1 a2 L2 u2 D P t → BG N (L1 + L2) (rc - m) (rs - z) → KK m z (J (u1 6 a.toNat 5)) t) : xis t a1 7 ∧ ∃ m z : Nat, m ≤ rc ∧ z ≤ rs ∧ V_X7_owesAnew_0 KX (KK m z) a1 (I a) t m z := by
  refine ⟨hT.x7, ?_⟩
  obtain ⟨ad, ad2, q1, q2, s1, s2, hR, hA, ⟨e1, e2, e3, e4⟩, hE, ⟨g1, g2, g3⟩, j⟩ := hT
  have hL : OB E (lo2 q2) (co2 E aa sl sx ad2 s2) D P ad q1 s1 u1 := ⟨hE.RO, g1, g2⟩
  have h1 := hL.u0
  unfold BG at hG
  rw [← e1]
  refine ⟨6, 40, by omega, by omega, OB.anew0 hR hL (Nat.le_refl _) (Nat.le_refl _) (by omega) (fun s' t' hR' hO hl => k _ _ _ ⟨ad, ad2, q1, q2, s', s2, hR', hA, ⟨e1, e2, e3, e4⟩, hE, ⟨hO.2.1, hO.2.2, Nat.le_trans hl g3⟩, j⟩ (by unfold BG; omega))⟩
theorem T2.line {KK : Nat → Nat → Int32 → xT → Prop} (hT : T2 E sl sx aa a3 a4 a1 L1 u1 a2 L2 u2 D P t) (ha : 0 ≤ a ∧ a < u1 1 1 2) (hb : 0 ≤ b ∧ b ≤ u1 0 0 8 / 30) (hG : BG (N + 1) (L1 + L2) rc rs) {v0 : Int} (hv0 : (if u1 9 a.toNat b.toNat = 0 then 32 else 76) = v0) (k : ∀ m z L' t, T2 E sl sx aa a3 a4 a1 L' u1 a2 L2 u2 D P t → BG N (L' + L2) (rc - m) (rs - z) → KK m z (I v0) t) : xis t a1 7 ∧ ∃ m z : Nat, m ≤ rc ∧ z ≤ rs ∧ V_X7_line_0 E KX (KK m z) a1 (I a) (I b) (0 : Int32) t m z := by
  refine ⟨hT.x7, ?_⟩
  obtain ⟨ad, ad2, q1, q2, s1, s2, hR, hA, ⟨e1, e2, e3, e4⟩, hE, ⟨g1, g2, g3⟩, j⟩ := hT
  have hL : OB E (lo2 q2) (co2 E aa sl sx ad2 s2) D P ad q1 s1 u1 := ⟨hE.RO, g1, g2⟩
  have h1 := hL.u0
  have hn := hL.n
  have ht := hL.t8
  unfold BG at hG
  rw [← e1]
  have hv : ∀ v, doA 4 a b 0 u1 = some v → v = if u1 9 a.toNat b.toNat = 0 then 32 else 76 := fun v hv => by
    obtain ⟨-, e⟩ := ite_some hv
    rw [← e]
    have : lnC (lnT (u1 10 (200 * a.toNat + b.toNat)) a b) 0 = 76 := by
      have := lnT_len1 (g := u1 10 (200 * a.toNat + b.toNat)) (l := a) (m := b)
      unfold lnC
      rw [if_pos (by omega)]
      rfl
    rw [this]
  have hne : doA 4 a b 0 u1 = none → False := fun h => by
    have : doA 4 a b 0 u1 = some _ := if_pos (by omega)
    rw [h] at this
    exact nomatch this
  by_cases c : u1 9 a.toNat b.toNat = 0
  · rw [if_pos c] at hv hv0
    subst hv0
    refine ⟨6, 40, by omega, by omega, as_line0 (c := 0) hR hL (Nat.le_refl _) (Nat.le_refl _) (fun _ h => absurd c h) ⟨by omega, by omega⟩ ⟨by omega, by omega⟩ ⟨by decide, by decide⟩ (fun h => (hne h).elim) (fun v h ad' s' t' hR' hO hAE hl hr => ?_)⟩
    rw [if_pos c] at hl
    rw [hv v h]
    refine k _ _ L1 _ ⟨ad', ad2, q1, q2, s', s2, hR', fun p i hp => ?_, ⟨hAE.1.trans e1, e2, ?_, ?_⟩, hE.of hAE.2, ⟨hO.2.1, hO.2.2, Nat.le_trans hl g3⟩, j⟩ (by unfold BG; omega)
    · rw [hAE.2 (p + 50) i (by omega)]
      exact hA p i hp
    · rw [hAE.2 36 0 (by decide)]
      exact e3
    · rw [hAE.2 37 0 (by decide)]
      exact e4
  · rw [if_neg c] at hv hv0
    subst hv0
    refine ⟨6 + 28 * L1, 40 + 3920 * L1, by omega, by omega, as_line0 (c := 0) hR hL (by omega) (by omega) (fun _ h => by omega) ⟨by omega, by omega⟩ ⟨by omega, by omega⟩ ⟨by decide, by decide⟩ (fun h => (hne h).elim) (fun v h ad' s' t' hR' hO hAE hl hr => ?_)⟩
    rw [if_neg c] at hl
    rw [hv v h]
    refine k _ _ 0 _ ⟨ad', ad2, q1, q2, s', s2, hR', fun p i hp => ?_, ⟨hAE.1.trans e1, e2, ?_, ?_⟩, hE.of hAE.2, ⟨hO.2.1, hO.2.2, hl⟩, j⟩ (by unfold BG; omega)
    · rw [hAE.2 (p + 50) i (by omega)]
      exact hA p i hp
    · rw [hAE.2 36 0 (by decide)]
      exact e3
    · rw [hAE.2 37 0 (by decide)]
      exact e4
theorem T2.bf (hT : T2 E sl sx aa a3 a4 a1 L1 u1 a2 L2 u2 D P t) {k m : Nat} (hk : (k : Int) < u1 1 1 2) (hm : m < 121) : (u1 9 k m = 0 ∨ u1 9 k m = 1) ∧ (u1 9 k m ≠ 0 → (m : Int) < u1 0 0 8 / 30 ∧ (0 ≤ u1 10 (200 * k + m) 0 ∧ u1 10 (200 * k + m) 0 ≤ 1000000) ∧ (0 ≤ u1 10 (200 * k + m) 1 ∧ u1 10 (200 * k + m) 1 ≤ u1 10 (200 * k + m) 0) ∧ (0 ≤ u1 10 (200 * k + m) 2 ∧ u1 10 (200 * k + m) 2 ≤ (u1 10 (200 * k + m) 0 - u1 10 (200 * k + m) 1) * 8 / 10) ∧ (0 ≤ u1 10 (200 * k + m) 3 ∧ u1 10 (200 * k + m) 3 ≤ 20000000)) := by
  obtain ⟨ad, ad2, q1, q2, s1, s2, hR, hA, ⟨e1, e2, e3, e4⟩, hE, ⟨g1, g2, g3⟩, j⟩ := hT
  have hL : OB E (lo2 q2) (co2 E aa sl sx ad2 s2) D P ad q1 s1 u1 := ⟨hE.RO, g1, g2⟩
  have := hL.u0
  rw [hL.t8.1]
  exact hL.bf (by omega) hm
theorem T2.bb0 (hT : T2 E sl sx aa a3 a4 a1 L1 u1 a2 L2 u2 D P t) {k m : Nat} (hk : (k : Int) < u1 1 1 2) (hm : u1 0 0 8 / 30 + 1 ≤ (m : Int)) (h2 : m ≤ 121) : sumn (bb u1 k) m = TT u1 k := by
  obtain ⟨ad, ad2, q1, q2, s1, s2, hR, hA, ⟨e1, e2, e3, e4⟩, hE, ⟨g1, g2, g3⟩, j⟩ := hT
  have hL : OB E (lo2 q2) (co2 E aa sl sx ad2 s2) D P ad q1 s1 u1 := ⟨hE.RO, g1, g2⟩
  have := hL.u0
  have := hL.M
  have := hL.t8
  exact hL.bb0 (by omega) (by omega) h2
/-- the law's own row is read -/
theorem T2.row {K : Int64 → Prop} (hT : T2 E sl sx aa a3 a4 a1 L1 u1 a2 L2 u2 D P t) (ha : 0 ≤ a ∧ a < 12) (k : K (aa a.toNat)) : xaJ t a3 (I a) K := by
  obtain ⟨ad, ad2, q1, q2, s1, s2, hR, hA, ⟨e1, e2, e3, e4⟩, hE, -⟩ := hT
  rw [← e3]
  exact xaJ_R hR (p := 36) (i := 0) (n := 12) (g := aa) (show clv q1 (lo2 q2) 36 0 from by show lo2 q2 36 0; exact ⟨by decide, rfl⟩) rfl (by decide) (by omega) k
end ORD2
