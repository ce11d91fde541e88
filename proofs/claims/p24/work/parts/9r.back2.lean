theorem ite_none {α : Type} {C : Prop} {i : Decidable C} {x : α} (h : @ite _ C i (some x) none = none) : ¬ C := fun c => by
  rw [if_pos c] at h
  exact nomatch h
theorem low_rngI (v : Int32) {n : Int} {x : Int32} (hx : x = I n) (hn : 0 < n ∧ n < 2147483648) : 0 ≤ (lowf v x).toInt ∧ (lowf v x).toInt < n := by
  obtain ⟨r, hr, e⟩ := lowf_rng v hn
  rw [hx, e, I_toInt ⟨by omega, by omega⟩]
  exact hr
section BACK2
variable {E : Nat → Nat} {aa : Nat → Int64} {sl : Nat} {sx : Nat → Int32} {a1 a2 a3 a4 L1 L2 L m z N rc rs : Nat} {u u1 u2 : xS} {D P D' P' : Int} {t : xT} {a b c : Int} {K : Int32 → xT → Prop}
theorem T2.actB {KK : Nat → Nat → Int64 → xT → Prop} (hT : T2 E sl sx aa a3 a4 a1 L1 u1 a2 L2 u2 D P t) (hB : Bd D P) (h : Nat) (hh : h < 12) {x : Int32} (hx : x = Int32.ofNat h) (xa xb xc : Int32) (hG : BG (N + 120) (L1 + L2) rc rs)
    (k0 : ∀ m z, doP h xa.toInt xb.toInt xc.toInt u1 = none → BG N (L1 + L2) (rc - m) (rs - z) → KK m z (-9000000000000 : Int64) t)
    (k1 : ∀ m z v u' t', doP h xa.toInt xb.toInt xc.toInt u1 = some (v, u') → PDn h xa.toInt xb.toInt u1 u' → rgV v → T2 E sl sx aa a3 a4 a1 L1 u' a2 L2 u2 (D + 200000000) (P + 1000000) t' → BG N (L1 + L2) (rc - m) (rs - z) → KK m z (J v) t') : ∃ m z : Nat, m ≤ rc ∧ z ≤ rs ∧ V_L_does_0 E (KK m z) a1 x xa xb xc t m z := by
  unfold BG at hG
  have hb : BG N (L1 + L2) (rc - 720) (rs - 4800) := by unfold BG; omega
  exact ⟨720, 4800, by omega, by omega, hT.act hB h hh hx xa xb xc (by decide) (by decide) (fun hn => k0 _ _ hn hb) (fun v u' hv hp hr t' hT' => k1 _ _ v u' t' hv hp hr hT' hb)⟩
theorem T2.actB' {KK : Nat → Nat → Int64 → xT → Prop} (hT : T2 E sl sx aa a3 a4 a1 L1 u1 a2 L2 u2 D P t) (hB : Bd D P) (h : Nat) (hh : h < 12) {x : Int32} (hx : x = Int32.ofNat h) (xa xb xc : Int32) (hG : BG (N + 120) (L1 + L2) rc rs)
    (k0 : ∀ m z, doP h xa.toInt xb.toInt xc.toInt u2 = none → BG N (L1 + L2) (rc - m) (rs - z) → KK m z (-9000000000000 : Int64) t)
    (k1 : ∀ m z v u' t', doP h xa.toInt xb.toInt xc.toInt u2 = some (v, u') → PDn h xa.toInt xb.toInt u2 u' → rgV v → T2 E sl sx aa a3 a4 a1 L1 u1 a2 L2 u' (D + 200000000) (P + 1000000) t' → BG N (L1 + L2) (rc - m) (rs - z) → KK m z (J v) t') : ∃ m z : Nat, m ≤ rc ∧ z ≤ rs ∧ V_L_does_0 E (KK m z) a2 x xa xb xc t m z :=
  hT.sw.actB hB h hh hx xa xb xc (by rw [Nat.add_comm L2 L1]; exact hG) (fun m z hn hb => k0 m z hn (by rw [Nat.add_comm L1 L2]; exact hb)) (fun m z v u' t' hv hp hr hT' hb => k1 m z v u' t' hv hp hr hT'.sw (by rw [Nat.add_comm L1 L2]; exact hb))
theorem Bd.le {D2 P2 : Int} (h : Bd D' P') (h1 : 0 ≤ D2 ∧ D2 ≤ D') (h2 : 0 ≤ P2 ∧ P2 ≤ P') : Bd D2 P2 := ⟨⟨h1.1, by have := h.1; omega⟩, ⟨h2.1, by have := h.2; omega⟩⟩
theorem isBack_ok {x2 : Int32} {rc rs : Nat} (hT : T2 E sl sx aa a3 a4 a1 1 u a2 1 u D P t) (hD : 0 ≤ D) (hP : 0 ≤ P) (hB : Bd (D + 1000000000) (P + 10000000)) (hG : BG 490 2 rc rs)
    (kk : ∀ u' t', T2 E sl sx aa a3 a4 a1 1 u' a2 1 u' (D + 1000000000) (P + 10000000) t' → (∀ l, l < 12 → PD u' l = PD u l) → u' 0 0 8 = u 0 0 8 → K 1 t') : V_L_isBack_0 E K a1 a2 x2 t rc rs := by
  unfold V_L_isBack_0
  refine low_k (by decide) (low_k (by decide) (low_k (by decide) ?_))
  have q1 := low_rngI (x2 >>> ((3 : Int32) &&& 31)) (n := 200000) (x := 200000) rfl (by decide)
  have q2 := low_rngI (x2 >>> ((5 : Int32) &&& 31)) (n := 300000) (x := 300000) rfl (by decide)
  unfold V_L_isBack_126 V_L_isBack_171
  generalize lowf x2 4 = xl at *
  generalize lowf (x2 >>> ((2 : Int32) &&& 31)) 6 = xm at *
  generalize hc1 : lowf (x2 >>> ((3 : Int32) &&& 31)) 200000 = xc1 at *
  have n0 := hT.nn
  refine hT.actB (N := 368) (hB.le (by omega) (by omega)) 8 (by decide) rfl xl xm xc1 (by unfold BG at hG ⊢; omega) (fun m z hn hG => ?_) (fun m z v1 u1 t hv hp1 hr1 hT hG => ?_)
  · have hc : ¬ ((0 ≤ xl.toInt ∧ xl.toInt < u 1 1 2) ∧ 0 ≤ xm.toInt ∧ xm.toInt ≤ u 0 0 8 / 30) := fun g => ite_none hn ⟨g, by omega⟩
    refine hT.ask (N := 367) (hB.le (by omega) (by omega)) 0 (by decide) rfl xl 0 0 hG (fun m z L1 t hT hG => ?_)
    refine hT.ask (N := 366) (hB.le (by omega) (by omega)) 2 (by decide) rfl xl 0 0 hG (fun m z L1 t hT hG => low_k (by decide) ?_)
    refine hT.actB (N := 246) (hB.le (by omega) (by omega)) 8 (by decide) rfl xl xm _ hG (fun m z hn2 hG => ?_) (fun m z v1 u1 t hv hp1 hr1 hT hG => absurd (ite_some hv).1.1 hc)
    refine xbt rfl (xbf (by decide) (xbt rfl (xbf (by decide) (low_k (by decide) ?_))))
    rw [hc1]
    exact hT.actB' (N := 126) (hB.le (by omega) (by omega)) 8 (by decide) rfl xl xm xc1 hG (fun m z hn2 hG => xst rfl (kk u _ (hT.l1.up (by omega) (by omega)) (fun _ _ => rfl) rfl)) (fun m z v1 u1 t hv hp1 hr1 hT hG => absurd (ite_some hv).1.1 hc)
  · obtain ⟨hc, ev⟩ := ite_some hv
    have ev1 : v1 = bnT xl.toInt.toNat xm.toInt.toNat (nowN u + 1) xc1.toInt u := (Prod.mk.inj ev).1.symm
    have eu1 : u1 = mInc xl.toInt.toNat xm.toInt.toNat (nowN u + 1) xc1.toInt u := (Prod.mk.inj ev).2.symm
    have he : nowN u + 1 ≤ 121 := by unfold nowN; omega
    have hm : xm.toInt.toNat ≤ 121 := by omega
    have o : ∀ c x, mInc xl.toInt.toNat xm.toInt.toNat (nowN u + 1) c x 1 1 2 = x 1 1 2 ∧ mInc xl.toInt.toNat xm.toInt.toNat (nowN u + 1) c x 0 0 8 = x 0 0 8 := fun c x => by
      rw [mInc_r he hm (by omega), mInc_r he hm (by omega), if_neg (by omega), if_neg (by omega), if_neg (by omega), if_neg (by omega), if_neg (by omega), if_neg (by omega), if_neg (by omega), if_neg (by omega)]
      exact ⟨rfl, rfl⟩
    have en : ∀ x : xS, x 0 0 8 = u 0 0 8 → nowN x = nowN u := fun x hx => by unfold nowN; rw [hx]
    have o1 := o xc1.toInt u
    rw [← eu1] at o1
    have av0 : ∀ x : xS, x 1 1 2 = u 1 1 2 → av 0 xl.toInt (0 : Int32).toInt (0 : Int32).toInt x = x 6 xl.toInt.toNat 5 := fun x hx => av_some (if_pos (by rw [hx]; exact hc.1.1))
    have av2 : ∀ x : xS, x 1 1 2 = u 1 1 2 → av 2 xl.toInt (0 : Int32).toInt (0 : Int32).toInt x = x 6 xl.toInt.toNat 6 := fun x hx => av_some (if_pos (by rw [hx]; exact hc.1.1))
    refine hT.ask (N := 367) (hB.le (by omega) (by omega)) 0 (by decide) rfl xl 0 0 hG (fun m z L1 t hT hG => ?_)
    refine hT.ask (N := 366) (hB.le (by omega) (by omega)) 2 (by decide) rfl xl 0 0 hG (fun m z L1 t hT hG => low_k (by decide) ?_)
    rw [av0 u1 o1.1, av2 u1 o1.1]
    generalize lowf (x2 >>> ((5 : Int32) &&& 31)) 300000 = xc2 at *
    refine hT.actB (N := 246) (hB.le (by omega) (by omega)) 8 (by decide) rfl xl xm xc2 hG (fun m z hn2 hG => absurd (⟨by rw [o1.1, o1.2]; exact hc.1, by omega⟩ : _ ∧ _) (ite_none hn2)) (fun m z v2 u2 t hv2 hp2 hr2 hT hG => ?_)
    obtain ⟨-, ev'⟩ := ite_some hv2
    rw [en u1 o1.2] at ev'
    have ev2 : v2 = bnT xl.toInt.toNat xm.toInt.toNat (nowN u + 1) xc2.toInt u1 := (Prod.mk.inj ev').1.symm
    have eu2 : u2 = mInc xl.toInt.toNat xm.toInt.toNat (nowN u + 1) xc2.toInt u1 := (Prod.mk.inj ev').2.symm
    have o2 := o xc2.toInt u1
    rw [← eu2, o1.1, o1.2] at o2
    have e5 : u2 6 xl.toInt.toNat 5 = u1 6 xl.toInt.toNat 5 + v2 := by rw [eu2, ev2]; exact mInc_5.1
    have e6 : u2 6 xl.toInt.toNat 6 = u1 6 xl.toInt.toNat 6 - v2 := by rw [eu2, ev2]; exact mInc_5.2
    refine xbf hr1.ne ?_
    refine hT.ask (N := 245) (hB.le (by omega) (by omega)) 0 (by decide) rfl xl 0 0 hG (fun m z L1 t hT hG => ?_)
    rw [av0 u2 o2.1]
    refine xst (by rw [e5, J_add]) ?_
    refine hT.ask (N := 244) (hB.le (by omega) (by omega)) 2 (by decide) rfl xl 0 0 hG (fun m z L1 t hT hG => ?_)
    rw [av2 u2 o2.1]
    refine xst (by rw [e6, J_sub]) (xbf (by decide) (xbf hr1.ne (low_k (by decide) ?_)))
    rw [hc1]
    refine hT.actB (N := 124) (hB.le (by omega) (by omega)) 8 (by decide) rfl xl xm xc1 hG (fun m z hn3 hG => absurd (⟨by rw [o2.1, o2.2]; exact hc.1, by omega⟩ : _ ∧ _) (ite_none hn3)) (fun m z v3 u3 t hv3 hp3 hr3 hT hG => ?_)
    obtain ⟨-, ev''⟩ := ite_some hv3
    rw [en u2 o2.2] at ev''
    have ev3 : v3 = bnT xl.toInt.toNat xm.toInt.toNat (nowN u + 1) xc1.toInt u2 := (Prod.mk.inj ev'').1.symm
    have eu3 : u3 = mInc xl.toInt.toNat xm.toInt.toNat (nowN u + 1) xc1.toInt u2 := (Prod.mk.inj ev'').2.symm
    have hback := mInc_back (l := xl.toInt.toNat) (c1 := xc1.toInt) (c2 := xc2.toInt) (u := u) he hm
    rw [← eu1, ← eu2, ← eu3, ← ev2, ← ev3] at hback
    refine xst (by rw [hback.1, J_neg]) (xbf (by decide) (low_k (by decide) ?_))
    rw [hc1]
    rw [hback.2] at hT
    refine hT.actB' (N := 4) (hB.le (by omega) (by omega)) 8 (by decide) rfl xl xm xc1 hG (fun m z hn4 hG => absurd hc (ite_none hn4)) (fun m z v4 u4 t hv4 hp4 hr4 hT hG => ?_)
    obtain ⟨-, ev4⟩ := ite_some hv4
    have e4v : v4 = v1 := by rw [ev1]; exact (Prod.mk.inj ev4).1.symm
    have e4u : u4 = u1 := by rw [eu1]; exact (Prod.mk.inj ev4).2.symm
    rw [e4u] at hT
    refine xst (by rw [e4v]) (kk u1 _ (hT.l1.up (by omega) (by omega)) (fun l hl => ?_) o1.2)
    have := hp1.1 l hl
    rw [if_neg (fun g => absurd g.1 (by decide))] at this
    omega
end BACK2
