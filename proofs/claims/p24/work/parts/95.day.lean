/-! ===== a day, on both sides ===== -/
section DAY
variable {q : xL} {s s' s2 u u' u2 : xS} {nf n nr M : Nat} {Bp D P : Int}
theorem GG.day {x : Int} (h : GG nf n nr M Bp D P s) : GG nf n nr M Bp D P (su s 0 0 8 x) := by
  obtain ⟨hF, hL, hU, hR, hMM, hZ, hLL, hO, hD⟩ := h
  have o : ∀ p i, p ≠ 0 → su s 0 0 8 x p i = s p i := fun p i hp => su_f _ (by omega)
  have o0 : ∀ k, k ≠ 8 → su s 0 0 8 x 0 0 k = s 0 0 k := fun k hk => by rw [su_r, if_neg (by omega)]
  have hS : St s (su s 0 0 8 x) := ⟨funext fun i => o 4 i (by decide), funext fun i => o 5 i (by decide), fun i => by rw [o 6 i (by decide)]; exact ⟨rfl, rfl, rfl, rfl⟩⟩
  exact ⟨hF.of (fun f _ => by rw [o 5 f (by decide)]; exact ⟨rfl, rfl, rfl, rfl⟩) (fun f _ => o 4 _ (by decide)) (fun f _ => o 4 _ (by decide)), hL.of (fun l _ => hS.2.2 l) (fun l _ => o 4 _ (by decide)), hU.of (fun l _ => ⟨(hS.2.2 l).1, (hS.2.2 l).2.2.2⟩) (fun l _ => o 4 _ (by decide)), hR.of (fun r _ => by rw [o 11 r (by decide)]; exact ⟨rfl, rfl, rfl, rfl⟩), hMM.of (o0 7 (by decide)) (o 4 _ (by decide)) (o 4 _ (by decide)), hZ.of (o 4 _ (by decide)) (fun f _ m _ => by rw [o 4 _ (by decide)]), fun l hl => ⟨(hLL l hl).1.of hS hl (o 9 l (by decide)) (fun m _ => o 10 _ (by decide)), (hLL l hl).2.1.of (o 6 l (by decide)) (o 9 l (by decide)) (fun m _ => o 10 _ (by decide)), (hLL l hl).2.2.of (o 7 l (by decide))⟩, hO.of (o0 9 (by decide)) (fun l _ => by rw [o 6 l (by decide)]; exact ⟨rfl, rfl⟩), hD.of (fun f _ _ => ⟨o 5 f (by decide), o 4 _ (by decide), o 4 _ (by decide)⟩) (fun l _ _ => ⟨o 6 l (by decide), o 7 l (by decide), o 9 l (by decide), o 4 _ (by decide)⟩) (fun r _ _ => o 11 r (by decide))⟩
theorem CMR.day {x : Int} (h : CMR nf n nr M Bp D P s u) : CMR nf n nr M Bp D P (su s 0 0 8 x) (su u 0 0 8 x) := by
  obtain ⟨hG, hS, h1, hA⟩ := h
  have o : ∀ v : xS, ∀ p i, p ≠ 0 → su v 0 0 8 x p i = v p i := fun v p i hp => su_f _ (by omega)
  have o0 : ∀ k, k ≠ 8 → su s 0 0 8 x 0 0 k = s 0 0 k := fun k hk => by rw [su_r, if_neg (by omega)]
  refine ⟨hG.day, hS.both, ?_, ?_⟩
  · unfold S1
    rw [o u 21 10 (by decide), o u 20 0 (by decide), o u 21 8 (by decide), o u 21 22 (by decide), o s 4 0 (by decide), o s 4 100 (by decide), o0 7 (by decide)]
    refine ⟨h1.1, h1.2.1, h1.2.2.1, fun f hf => ?_, fun l hl => ?_⟩
    · rw [o s 4 _ (by decide)]
      exact h1.2.2.2.1 f hf
    · rw [o s 6 l (by decide)]
      exact h1.2.2.2.2 l hl
  · intro f hf
    rw [o u 21 4 (by decide), o s 4 _ (by decide)]
    exact hA f hf
theorem eMon_o {m p i : Nat} (h : p = 1 ∨ p = 2 ∨ p = 3 ∨ p = 11 ∨ p = 12 ∨ p = 13) : eMon nf n m s p i = s p i := by
  unfold eMon
  rw [lp_o (fun j s => emB_o (by omega) (by omega) (by omega) (by omega) (by omega)), E8.shHeat p i (by omega), lp_o (fun j s => fndU_o (by omega) (by omega))]
theorem eMon_0 {m k : Nat} (hk : k ≠ 9) : eMon nf n m s 0 0 k = s 0 0 k := by
  unfold eMon
  have a1 : ∀ (r i : Nat) (s : xS), lp (emB m) i r s 0 0 k = s 0 0 k := by
    intro r
    induction r with
    | zero => exact fun _ _ => rfl
    | succ r ih =>
      intro i s
      show lp (emB m) (i + 1) r (emB m i s) 0 0 k = _
      rw [ih]
      unfold emB
      split
      · rw [planM_o (by omega)]
      · rw [mkBill_0, if_neg hk, planM_o (by omega)]
  rw [a1, E8.shHeat 0 0 (by omega), lp_o (fun j s => fndU_o (by omega) (by omega))]
theorem bMon_o {m p i : Nat} (h : p = 1 ∨ p = 2 ∨ p = 3 ∨ p = 11 ∨ p = 12 ∨ p = 13) : bMon n m s p i = s p i := by
  unfold bMon
  rw [lp_o (fun j s => bgM_o (by omega) (by omega)), su_f _ (by omega)]
theorem bMon_0 {m k : Nat} (hk : k ≠ 9) : bMon n m s 0 0 k = s 0 0 k := by
  unfold bMon
  have a1 : ∀ (r i : Nat) (s : xS), lp (bgM m) i r s 0 0 k = s 0 0 k := by
    intro r
    induction r with
    | zero => exact fun _ _ => rfl
    | succ r ih =>
      intro i s
      show lp (bgM m) (i + 1) r (bgM m i s) 0 0 k = _
      rw [ih]
      unfold bgM payAh
      split
      · rfl
      · split
        · rfl
        · rw [toDsk_0, if_neg hk]
  rw [a1, su_f _ (by omega)]
theorem tkL_o {d : Int} {m p i : Nat} (h : p = 0 ∨ p = 1 ∨ p = 2 ∨ p = 3 ∨ p = 12 ∨ p = 13) : lp (tkP d m) 0 nr s p i = s p i := lp_o (fun j s => tkP_o (by omega) (by omega)) _ _ _
theorem eDay_o {p i : Nat} (h : p = 1 ∨ p = 2 ∨ p = 3 ∨ p = 12 ∨ p = 13) : eDay nf n nr s p i = s p i := by
  unfold eDay
  split
  · rw [su_f _ (by omega), tkL_o (by omega)]
  · rw [bMon_o (by omega), eMon_o (by omega), su_f _ (by omega), tkL_o (by omega)]
theorem eDay_8 : eDay nf n nr s 0 0 8 = s 0 0 8 + 1 := by
  unfold eDay
  split
  · rw [su_r, if_pos ⟨rfl, rfl, rfl⟩]
  · rw [bMon_0 (by decide), eMon_0 (by decide), su_r, if_pos ⟨rfl, rfl, rfl⟩]
/-- what holds between days -/
def DRel (nf n nr : Nat) (D P : Int) (s u : xS) : Prop := CMR nf n nr (nowN s) (1800 * s 0 0 8) D P s u ∧ okT s
theorem MR2.okW (h : MR2 nf n nr M Bp D P s u) (hM : M < 121) (hq1 : q.1 = nf) (hq2 : q.2.1 = n) : okW q s n M := by
  obtain ⟨⟨hF, hL, hU, hR, hMM, hZ, hLL, hO, hD⟩, hS, h1, hA⟩ := h
  exact okW_of_G hF hL hMM (by omega) hU hq1 hq2 hM (Nat.lt_succ_self M)
theorem MR2.okE (h : MR2 nf n nr M Bp D P s u) (hM : M < 121) (hB : Bp ≤ 100000000) (hP : P ≤ 100000000000) (hq1 : q.1 = nf) (hq2 : q.2.1 = n) {l : Nat} (hl : l < n) : okE q (shHeat n M s) l M := by
  have hW := h.okW hM hq1 hq2
  have hr := shHeat_rng hW hl
  have h2 := h.keep (E8.shHeat (n := n) (m := M) (s := s)) (EM.msHeat (n := n) (m := M) (u := u))
  obtain ⟨⟨hF, hL, hU, hR, hMM, hZ, hLL, hO, hD⟩, hS, h1, hA⟩ := h2
  obtain ⟨a, b, c⟩ := hLL l hl
  exact ⟨hL.okL (by omega) hq1 hq2 hl, okP_of hF hL hMM (by omega) hB hU hl a (by omega) b hP c (by omega), by omega, (a M hM).2 (fun h => absurd h.1 (Nat.lt_irrefl M))⟩
theorem MR2.okmE (h : MR2 nf n nr M Bp D P s u) (hnf : nf ≤ 8) (hn : n ≤ 12) (hM : M < 121) (hB : Bp ≤ 100000000) (hP : P ≤ 100000000000) {l : Nat} (hl : l < n) : okmE (msHeat n M u) l := by
  have hW := h.okW (q := (nf, n, 0, (fun _ => False), fun _ => False)) hM rfl rfl
  have hr := shHeat_rng hW hl
  rw [← h.heat hnf hM hl] at hr
  have h2 := h.keep (E8.shHeat (n := n) (m := M) (s := s)) (EM.msHeat (n := n) (m := M) (u := u))
  obtain ⟨⟨hF, hL, hU, hR, hMM, hZ, hLL, hO, hD⟩, hS, h1, hA⟩ := h2
  obtain ⟨a, b, c⟩ := hLL l hl
  obtain ⟨b0, b8, b1, b9, bt⟩ := hL l hl
  have hp := okP_of hF hL hMM (by omega) hB hU hl a (by omega) b hP c (by omega)
  have h6 := ((hF (shHeat n M s 6 l 0).toNat (by omega)).2.2.2.2 M hM).2.2
  refine ⟨okml_of hS hL hn (by omega) hnf hl (h1.2.2.2.2 l hl), ?_, ?_, ?_, ?_, by omega, ?_⟩
  · unfold okP at hp ⊢
    rw [hS.r7 l 0 (by decide), hS.r7 l 1 (by decide), hS.r7 l 2 (by decide), hS.r7 l 3 (by decide), hS.r6 l 5 (by decide)]
    exact hp
  · rw [hS.r6 l 8 (by decide)]
    exact b8
  · rw [hS.r6 l 0 (by decide)]
    omega
  · rw [hS.rt (by omega)]
    exact bt
  · rw [hS.r6 l 0 (by decide), h1.2.2.2.1 _ (by omega)]
    omega
theorem MR2.okmw (h : MR2 nf n nr M Bp D P s u) (hnf : nf ≤ 8) (hn : n ≤ 12) (hM : M < 121) {l : Nat} (hl : l < n) : okmw M u l ∧ (0 ≤ mwg M 0 u l ∧ mwg M 0 u l ≤ 9) ∧ (0 ≤ mwg M 1 u l ∧ mwg M 1 u l ≤ 1000000) := by
  have hW := h.okW (q := (nf, n, 0, (fun _ => False), fun _ => False)) hM rfl rfl
  obtain ⟨⟨hF, hL, hU, hR, hMM, hZ, hLL, hO, hD⟩, hS, h1, hA⟩ := h
  obtain ⟨b0, b8, b1, b9, bt⟩ := hL l hl
  obtain ⟨w1, w2, w3, w4, w5⟩ := hW.1 l hl
  obtain ⟨e0, e1⟩ := mwg_eq hS hL hnf hl hM (h1.2.2.2.2 l hl)
  have hf := hF (s 6 l 0).toNat (by omega)
  have hfu := (hf.2.2.2.2 M hM).1
  refine ⟨⟨okml_of hS hL hn (by omega) hnf hl (h1.2.2.2.2 l hl), ?_, ?_, ?_⟩, ?_, ?_⟩
  · rw [hS.r6 l 0 (by decide)]
    omega
  · rw [hS.r6 l 0 (by decide), hS.r5 _ 0 (by decide)]
    exact ⟨by omega, by omega⟩
  · rw [hS.r6 l 0 (by decide), hS.ru (by omega)]
    exact ⟨by omega, by omega⟩
  · rw [e0]
    unfold wrS
    split
    · omega
    · omega
  · rw [e1]
    exact ⟨w4, w5⟩
theorem phDay (hnf : nf ≤ 8) (hn : n ≤ 12) (hnr : nr ≤ 60) (hD : 0 ≤ D) (hd : s 0 0 8 < 3600) (h : DRel nf n nr D P s u) : DRel nf n nr (D + 1000000) P (eDay nf n nr s) (mDay nf n nr u) := by
  obtain ⟨hC, hT⟩ := h
  unfold okT at hT
  have e8 : u 0 0 8 = s 0 0 8 := hC.2.1.rd
  have hA := phA_all hnf (M := nowN s) (by unfold nowN; omega) hC
  have hday := hA.day (x := s 0 0 8 + 1)
  have hB : 1800 * s 0 0 8 + 30 * (nr : Int) ≤ 1800 * (s 0 0 8 + 1) := by omega
  refine ⟨?_, by unfold okT; rw [eDay_8]; omega⟩
  have en : nowN (eDay nf n nr s) = ((s 0 0 8 + 1) / 30).toNat := by
    unfold nowN
    rw [eDay_8]
  rw [en, eDay_8]
  unfold eDay mDay
  rw [e8]
  by_cases c : (s 0 0 8 + 1) / 30 ≤ s 0 0 8 / 30
  · rw [if_pos c, if_neg (by omega)]
    have e1 : ((s 0 0 8 + 1) / 30).toNat = nowN s := by unfold nowN; omega
    have e3 : (s 0 0 8 / 30).toNat = nowN s := rfl
    rw [e1, e3]
    obtain ⟨g1, g2, g3, g4⟩ := hday
    refine ⟨?_, g2, g3, g4⟩
    have := g1.upB hB
    exact ⟨this.1, this.2.1, this.2.2.1, this.2.2.2.1, this.2.2.2.2.1, this.2.2.2.2.2.1, fun l hl => by
      obtain ⟨a, b, cc⟩ := this.2.2.2.2.2.2.1 l hl
      exact ⟨a, ⟨b.1, b.2.1, by have := b.2.2; omega⟩, cc⟩, this.2.2.2.2.2.2.2⟩
  · rw [if_neg c, if_pos (by omega)]
    have hM : nowN s < 120 := by unfold nowN; omega
    have e1 : ((s 0 0 8 + 1) / 30).toNat = nowN s + 1 := by unfold nowN; omega
    have e2 : ((s 0 0 8 + 1) / 30 - 1).toNat = nowN s := by unfold nowN; omega
    have e3 : (s 0 0 8 / 30).toNat = nowN s := rfl
    rw [e1, e2, e3]
    have hC' := phC hnf (by omega) hday
    have hE := phE hnf hn hM (by omega) hC'
    have hF := phF hnf hn hM hD hE
    obtain ⟨g1, g2, g3, g4⟩ := hF
    exact ⟨g1.upB hB, g2, g3, g4⟩
theorem phOk (hnf : nf ≤ 8) (hn : n ≤ 12) (hnr : nr ≤ 60) (hD : 0 ≤ D ∧ D ≤ 900000000000) (hP : P ≤ 100000000000) (hq1 : q.1 = nf) (hq2 : q.2.1 = n) (hq3 : q.2.2.1 = nr) (hL0 : LI q s 0 nf) (hL1 : LI q s 1 n) (hL2 : LI q s 2 nr) (hd : s 0 0 8 < 3600) (h : DRel nf n nr D P s u) : okDay q nf n nr s ∧ okmDay nf n nr u := by
  obtain ⟨hC, hT⟩ := h
  unfold okT at hT
  have e8 : u 0 0 8 = s 0 0 8 := hC.2.1.rd
  have hA := phA_all hnf (M := nowN s) (by unfold nowN; omega) hC
  have hday := hA.day (x := s 0 0 8 + 1)
  have hR := hC.1.2.2.2.1
  have hB : 1800 * s 0 0 8 + 30 * (nr : Int) ≤ 100000000 := by omega
  have e3 : (s 0 0 8 / 30).toNat = nowN s := rfl
  constructor
  · refine ⟨⟨hT.1, hd⟩, hL0, hL1, hL2, fun r hr => hR.okR hq1 hq3 hr, fun c => ?_⟩
    have hM : nowN s < 120 := by unfold nowN; omega
    rw [e3]
    have hC' := phC hnf (by omega) hday
    have hE := phE hnf hn hM (by omega) hC'
    have e7 : eMon nf n (nowN s) (su (lp (tkP (s 0 0 8) (nowN s)) 0 nr s) 0 0 8 (s 0 0 8 + 1)) 0 0 7 = s 0 0 7 := by
      rw [eMon_0 (by decide), su_r, if_neg (by omega), tkL_o (by omega)]
    refine ⟨fun f hf => hday.1.1.okF (by omega) hq1 hf, hC'.okW (by omega) hq1 hq2, fun l hl => hC'.okE (by omega) hB hP hq1 hq2 hl, okM_of_G hday.1.1 hday.1.2.2.2.2.1 hB hq1 (by omega), fun l hl => ?_, ?_, ?_⟩
    · have g := hE.1
      have := (g.2.2.2.2.2.2.1 l hl).2.1.2.2
      exact ⟨g.2.1.okL (by omega) hq1 hq2 hl, by show -1000000000000 ≤ eMon nf n _ _ 6 l 6; unfold eMon; omega, by show eMon nf n _ _ 6 l 6 ≤ 1000000000000; unfold eMon; omega⟩
    · rw [e7]
      have := hC.1.2.2.2.2.1.1
      omega
    · exact LI_of hL1 (by rw [eMon_o (by omega), su_f _ (by omega), tkL_o (by omega)]) (by rw [eMon_o (by omega), su_f _ (by omega), tkL_o (by omega)])
  · have hS := hC.2.1
    refine ⟨by rw [e8]; exact ⟨hT.1, hd⟩, by rw [hS.rn 0]; exact hL0.1, by rw [hS.rn 1]; exact hL1.1, by rw [hS.rn 2]; exact hL2.1, fun r hr => ?_, fun c => ?_⟩
    · obtain ⟨a, b, cc, d⟩ := hR r hr
      unfold okmr
      rw [hS.r11 r 0 (by decide), hS.r11 r 2 (by decide), hS.r11 r 3 (by decide), hS.r11 r 4 (by decide)]
      exact ⟨by omega, by omega, ⟨by omega, by omega⟩, ⟨by omega, by omega⟩, by omega⟩
    · rw [e8] at c ⊢
      have hM : nowN s < 120 := by unfold nowN; omega
      have e1 : ((s 0 0 8 + 1) / 30).toNat = nowN s + 1 := by unfold nowN; omega
      have e2 : ((s 0 0 8 + 1) / 30 - 1).toNat = nowN s := by unfold nowN; omega
      rw [e1, e2]
      have hC' := phC hnf (by omega) hday
      have hE := phE hnf hn hM (by omega) hC'
      have g1 := hday.2.2.1
      have gM := hday.1.2.2.2.2.1
      refine ⟨⟨fun f hf => ?_, fun l hl => hC'.okmw hnf hn (by omega) hl, ?_, fun l hl => hC'.okmE hnf hn (by omega) hB hP hl, ?_⟩, fun l hl => ?_, ?_⟩
      · obtain ⟨a, b, cc, d, e⟩ := hday.1.1 f hf
        have hA1 := (hday.2.2.2 f hf).1
        unfold okmf
        rw [hday.2.1.r5 f 3 (by decide), hday.2.1.r5 f 4 (by decide), hday.2.1.r5 f 5 (by decide), hday.2.1.ru (by omega)]
        exact ⟨hA1, b, by omega, ⟨by omega, by omega⟩⟩
      · rw [g1.2.2.1]
        exact (gM.2 _ (by omega)).2
      · rw [g1.1 _ (Nat.le_refl _)]
        have := (gM.2 (nowN s) (by omega)).1
        omega
      · have g := hE.1
        have gS := hE.2.1
        have gl := g.2.1 l hl
        have := (g.2.2.2.2.2.2.1 l hl).2.1.2.2
        unfold mEnd okmB
        rw [gS.r6 l 8 (by decide), gS.r6 l 6 (by decide), gS.rt (by omega)]
        exact ⟨okml_of gS g.2.1 hn (by omega) hnf hl (hE.2.2.1.2.2.2.2 l hl), gl.2.1, gl.2.2.2.2, by omega⟩
      · rw [hC.2.2.1.2.1]
        have := hC.1.2.2.2.2.1.1
        omega
end DAY
