/-! ===== incomes, on both sides ===== -/
section INCOME
variable {q : xL} {s s' s2 u u' u2 : xS} {nf n nr M : Nat} {Bp D P : Int}
theorem lp_snoc {f : Nat → xS → xS} : ∀ (k i : Nat) (s : xS), lp f i (k + 1) s = f (i + k) (lp f i k s) := by
  intro k
  induction k with
  | zero => exact fun i s => rfl
  | succ k ih =>
    intro i s
    show lp f (i + 1) (k + 1) (f i s) = f (i + (k + 1)) (lp f (i + 1) k (f i s))
    rw [ih, show i + 1 + k = i + (k + 1) by omega]
theorem bnLs_snoc {l : Nat} : ∀ (k i : Nat) (s : xS) (acc : Int), bnLs l i (k + 1) s acc = bnLs l i k s acc + bnD l (i + k) (lp (bnA l) i k s) := by
  intro k
  induction k with
  | zero => exact fun i s acc => rfl
  | succ k ih =>
    intro i s acc
    show bnLs l (i + 1) (k + 1) (bnA l i s) (acc + bnD l i s) = bnLs l (i + 1) k (bnA l i s) (acc + bnD l i s) + bnD l (i + (k + 1)) (lp (bnA l) (i + 1) k (bnA l i s))
    rw [ih, show i + 1 + k = i + (k + 1) by omega]
theorem bnV_S0 {l m : Nat} (hS : S0 s u) (hl : l < 12) (hm : m < 121) : bnV l m u = bnV l m s := by
  unfold bnV
  rw [hS.r10 (by omega) (by decide), hS.r10 (by omega) (by decide), hS.rt hl]
theorem bnA_S0 {l m : Nat} (hS : S0 s u) (hl : l < 12) (hm : m < 121) : S0 (bnA l m s) (bnA l m u) := by
  unfold bnA
  rw [hS.r9 l m, bnV_S0 hS hl hm]
  by_cases c : s 9 l m = 0
  · rw [if_pos c, if_pos c]
    exact hS
  · rw [if_neg c, if_neg c]
    exact hS.both
theorem bnD_S0 {l m : Nat} (hS : S0 s u) (hl : l < 12) (hm : m < 121) : bnD l m u = bnD l m s := by
  unfold bnD
  rw [hS.r9 l m, bnV_S0 hS hl hm, hS.r10 (by omega) (by decide)]
theorem bnAs_S0 {l : Nat} (hl : l < 12) : ∀ (k m : Nat) (s u : xS) (acc : Int), m + k ≤ 121 → S0 s u → S0 (lp (bnA l) m k s) (lp (bnA l) m k u) ∧ bnLs l m k u acc = bnLs l m k s acc := by
  intro k
  induction k with
  | zero => exact fun m s u acc _ h => ⟨h, rfl⟩
  | succ k ih =>
    intro m s u acc hm h
    have h2 := ih (m + 1) (bnA l m s) (bnA l m u) (acc + bnD l m s) (by omega) (bnA_S0 h hl (by omega))
    refine ⟨h2.1, ?_⟩
    show bnLs l (m + 1) k (bnA l m u) (acc + bnD l m u) = bnLs l (m + 1) k (bnA l m s) (acc + bnD l m s)
    rw [bnD_S0 h hl (by omega)]
    exact h2.2
theorem bnV_rng {l m : Nat} (h : okBl s l m) (h9 : s 9 l m ≠ 0) : 0 ≤ bnV l m s ∧ bnV l m s ≤ 1000000 := by
  have := h h9
  have hb := ben_rng (r := s 10 (200 * l + m) 0 - s 10 (200 * l + m) 1) (i := incn (s 4 (400 + l)) (m + 1)) (by omega)
  unfold bnV
  omega
theorem bnLs_rng {l : Nat} : ∀ (k m : Nat) (s : xS) (acc : Int), m + k ≤ 121 → (∀ a, a < 121 → okBl s l a) → acc - 1000000 * (k : Int) ≤ bnLs l m k s acc ∧ bnLs l m k s acc ≤ acc + 1000000 * (k : Int) := by
  intro k
  induction k with
  | zero =>
    intro m s acc _ _
    show acc - 1000000 * ((0 : Nat) : Int) ≤ acc ∧ acc ≤ acc + 1000000 * ((0 : Nat) : Int)
    omega
  | succ k ih =>
    intro m s acc hm hb
    have hD : -1000000 ≤ bnD l m s ∧ bnD l m s ≤ 1000000 := by
      unfold bnD
      by_cases c : s 9 l m = 0
      · rw [if_pos c]
        omega
      · rw [if_neg c]
        have := hb m (by omega) c
        have := bnV_rng (hb m (by omega)) c
        omega
    have := ih (m + 1) (bnA l m s) (acc + bnD l m s) (by omega) (fun a ha => by
      by_cases c : s 9 l m = 0
      · rw [show bnA l m s = s by unfold bnA; rw [if_pos c]]
        exact hb a ha
      · exact okBl_bnA (hb a ha) (bnV_rng (hb m (by omega)) c))
    show acc - 1000000 * ((k + 1 : Nat) : Int) ≤ bnLs l (m + 1) k (bnA l m s) (acc + bnD l m s) ∧ bnLs l (m + 1) k (bnA l m s) (acc + bnD l m s) ≤ acc + 1000000 * ((k + 1 : Nat) : Int)
    omega
theorem TT_bnA {l m : Nat} (hm : m < 121) : TT (bnA l m s) l = TT s l + bnD l m s := by
  unfold bnA bnD
  by_cases c : s 9 l m = 0
  · rw [if_pos c, if_pos c, Int.add_zero]
  · rw [if_neg c, if_neg c]
    unfold TT
    have e : sumn (fun k => if su s 10 (200 * l + m) 2 (bnV l m s) 9 l k = 0 then 0 else bT (su s 10 (200 * l + m) 2 (bnV l m s)) (200 * l + k)) 121 = sumn (fup (fun k => if s 9 l k = 0 then 0 else bT s (200 * l + k)) m (bT s (200 * l + m) + (s 10 (200 * l + m) 2 - bnV l m s))) 121 := sumn_congr 121 (fun k hk => by
      rw [su_f _ (by omega)]
      by_cases ck : k = m
      · subst ck
        rw [fup_s, if_neg c]
        unfold bT
        rw [su_r, if_neg (by omega), su_r, if_neg (by omega), su_r, if_pos ⟨rfl, rfl, rfl⟩, su_r, if_neg (by omega)]
        omega
      · rw [fup_n _ _ ck]
        have eb : bT (su s 10 (200 * l + m) 2 (bnV l m s)) (200 * l + k) = bT s (200 * l + k) := by
          unfold bT
          rw [su_f _ (by omega)]
        rw [eb])
    rw [e, sumn_fup 121 hm]
    show _ - (if s 9 l m = 0 then 0 else bT s (200 * l + m)) + _ = _
    rw [if_neg c]
    omega
theorem TT_bnAs {l : Nat} : ∀ (k m : Nat) (s : xS) (acc : Int), m + k ≤ 121 → TT (lp (bnA l) m k s) l = TT s l + (bnLs l m k s acc - acc) := by
  intro k
  induction k with
  | zero =>
    intro m s acc _
    show TT s l = TT s l + (acc - acc)
    omega
  | succ k ih =>
    intro m s acc hm
    have h := ih (m + 1) (bnA l m s) (acc + bnD l m s) (by omega)
    have h2 := TT_bnA (s := s) (l := l) (m := m) (by omega)
    show TT (lp (bnA l) (m + 1) k (bnA l m s)) l = TT s l + (bnLs l (m + 1) k (bnA l m s) (acc + bnD l m s) - acc)
    omega
/-- what making benefits anew does -/
theorem bnAs_at {l m : Nat} : ∀ (k : Nat) (s : xS), m + k ≤ 121 → (∀ p i, ¬ (p = 10 ∧ ∃ a, a < 121 ∧ i = 200 * l + a) → lp (bnA l) m k s p i = s p i) ∧ (∀ a j, a < 121 → j ≠ 2 → lp (bnA l) m k s 10 (200 * l + a) j = s 10 (200 * l + a) j) ∧ (∀ a, a < 121 → lp (bnA l) m k s 10 (200 * l + a) 2 = if m ≤ a ∧ a < m + k ∧ s 9 l a ≠ 0 then bnV l a s else s 10 (200 * l + a) 2) := by
  intro k
  induction k with
  | zero =>
    intro s _
    exact ⟨fun _ _ _ => rfl, fun _ _ _ _ => rfl, fun a _ => by rw [if_neg (by omega)]; rfl⟩
  | succ k ih =>
    intro s hm
    obtain ⟨a1, a2, a3⟩ := ih s (by omega)
    rw [lp_snoc]
    generalize lp (bnA l) m k s = w at *
    have w9 : w 9 l = s 9 l := a1 9 l (by omega)
    have wV : bnV l (m + k) w = bnV l (m + k) s := by
      unfold bnV
      rw [a2 (m + k) 0 (by omega) (by decide), a2 (m + k) 1 (by omega) (by decide), a1 4 (400 + l) (by omega)]
    unfold bnA
    rw [w9, wV]
    by_cases c : s 9 l (m + k) = 0
    · rw [if_pos c]
      refine ⟨a1, a2, fun a ha => ?_⟩
      rw [a3 a ha]
      by_cases c2 : m ≤ a ∧ a < m + k ∧ s 9 l a ≠ 0
      · rw [if_pos c2, if_pos ⟨c2.1, by omega, c2.2.2⟩]
      · rw [if_neg c2, if_neg (fun h => c2 ⟨h.1, by
          have : a ≠ m + k := fun e => h.2.2 (by rw [e]; exact c)
          omega, h.2.2⟩)]
    · rw [if_neg c]
      refine ⟨fun p i hp => ?_, fun a j ha hj => ?_, fun a ha => ?_⟩
      · rw [su_f _ (fun h => hp ⟨h.1, m + k, by omega, h.2⟩)]
        exact a1 p i hp
      · rw [su_r, if_neg (fun h => hj h.2.2)]
        exact a2 a j ha hj
      · rw [su_r, a3 a ha]
        by_cases ca : a = m + k
        · subst ca
          rw [if_pos ⟨rfl, rfl, rfl⟩, if_pos ⟨by omega, by omega, c⟩]
        · rw [if_neg (by omega)]
          by_cases c2 : m ≤ a ∧ a < m + k ∧ s 9 l a ≠ 0
          · rw [if_pos c2, if_pos ⟨c2.1, by omega, c2.2.2⟩]
          · rw [if_neg c2, if_neg (fun h => c2 ⟨h.1, by omega, h.2.2⟩)]
theorem incn_fup {g : Nat → Int} {m : Nat} {x : Int} : ∀ k, k ≤ m → incn (fup g m x) k = incn g k := by
  intro k
  induction k with
  | zero => exact fun _ => rfl
  | succ k ih =>
    intro hk
    show (if fup g m x k = -1 then incn (fup g m x) k else fup g m x k) = if g k = -1 then incn g k else g k
    rw [fup_n _ _ (by omega), ih (by omega)]
theorem bl_congr2 {l m : Nat} (hl : l < n) (h6 : ∀ j, s' 6 j 0 = s 6 j 0 ∧ s' 6 j 1 = s 6 j 1 ∧ s' 6 j 8 = s 6 j 8 ∧ s' 6 j 9 = s 6 j 9) (h5 : s' 5 = s 5) (h4 : ∀ i, ¬ (400 ≤ i) → s' 4 i = s 4 i) (hL : ∀ j, j < n → (s 6 j 0).toNat < 90) {k : Nat} (hk : k ≠ 2) : bl s' n l m k = bl s n l m k := by
  have hr : ∀ j, runb s' j m = runb s j m := fun j => by
    unfold runb
    rw [(h6 j).2.1, (h6 j).2.2.2]
  unfold bl
  split
  · show s' 6 l 8 * s' 4 0 m / 100 = s 6 l 8 * s 4 0 m / 100
    rw [(h6 l).2.2.1, h4 0 (by omega)]
  · show low (s' 6 l 8 * s' 4 0 m / 100) (s' 4 (300 + (s' 6 l 0).toNat) m) = low (s 6 l 8 * s 4 0 m / 100) (s 4 (300 + (s 6 l 0).toNat) m)
    have := hL l hl
    rw [(h6 l).2.2.1, (h6 l).1, h4 0 (by omega), h4 _ (by omega)]
  · exact absurd rfl hk
  · rw [h4 100 (by omega)]
    refine HS_congr (fun j hj => ?_) (fun j hj => ?_) hl
    · unfold wrS
      rw [hr j, (h6 j).1, h5]
    · have := hL j hj
      show useb s' j m = useb s j m
      unfold useb
      rw [hr j, (h6 j).1, h4 _ (by omega)]
theorem bl_2 {l m : Nat} : bl s n l m 2 = ben (bl s n l m 0 - bl s n l m 1) (incn (s 4 (400 + l)) (m + 1)) := rfl
theorem op_income {l m : Nat} {x : Int} (hnf : nf ≤ 8) (hn : n ≤ 12) (hl : l < n) (hm : m ≤ nowN s) (hx : 0 ≤ x ∧ x ≤ 1000000) (h : DRel nf n nr D P s u) : DRel nf n nr (D + 121000000) P (incS l m (nowN s) x s) (mInc l m (nowN u + 1) x u) ∧ bnLs l m (nowN u + 1 - m) (su (su u 20 0 0 0) 4 (400 + l) m x) 0 = bnLs l m (nowN s - m) (su s 4 (400 + l) m x) 0 := by
  obtain ⟨hC, hT⟩ := DRel.thr (c := 0) h
  have en : nowN u = nowN s := by unfold nowN; rw [h.1.2.1.rd]
  unfold okT at hT
  have hM : nowN s ≤ 120 := by unfold nowN; omega
  have hB : 1800 * s 0 0 8 ≤ 100000000 := by omega
  have hbill := fun a (ha : a < 121) => hC.1.bill (by omega) hB hl ha
  have hokb := fun a (ha : a < 121) => hC.1.okBl (by omega) hB hl ha
  rw [en, show nowN s + 1 - m = (nowN s - m) + 1 by omega]
  generalize hMM' : nowN s = N at *
  obtain ⟨⟨hF, hL, hU, hR, hMM, hZ, hLL, hO, hD⟩, hS0, h1, hA⟩ := hC
  have hS1 : S0 (su s 4 (400 + l) m x) (su (su u 20 0 0 0) 4 (400 + l) m x) := hS0.both
  have t9 : ∀ j, su s 4 (400 + l) m x 9 j = s 9 j := fun j => su_f _ (by omega)
  have hN9 : s 9 l N = 0 := ((hLL l hl).1 N (by omega)).2 (fun g => absurd g.1 (Nat.lt_irrefl N))
  -- the two loops
  have hloop := bnAs_S0 (l := l) (by omega) (N - m) m _ _ 0 (by omega) hS1
  have atU := (bnAs_at (l := l) (m := m) (N - m) (su (su u 20 0 0 0) 4 (400 + l) m x) (by omega)).1
  have atS := bnAs_at (l := l) (m := m) (N - m) (su s 4 (400 + l) m x) (by omega)
  have hTT := TT_bnAs (l := l) (N - m) m (su s 4 (400 + l) m x) 0 (by omega)
  have hok1 : ∀ a, a < 121 → okBl (su s 4 (400 + l) m x) l a := fun a ha => by
    have := hokb a ha
    unfold okBl at this ⊢
    rw [t9, su_f _ (by omega)]
    exact this
  have hbr := bnLs_rng (l := l) (N - m) m (su s 4 (400 + l) m x) 0 (by omega) hok1
  have hTT0 : TT (su s 4 (400 + l) m x) l = TT s l := TT.of (t9 l) (fun a _ => su_f _ (by omega))
  -- the model's last step does nothing
  have em9 : lp (bnA l) m (N - m) (su (su u 20 0 0 0) 4 (400 + l) m x) 9 l N = 0 := by
    rw [hloop.1.r9, atS.1 9 l (by omega), t9, hN9]
  have hlast : bnLs l m (N - m + 1) (su (su u 20 0 0 0) 4 (400 + l) m x) 0 = bnLs l m (N - m) (su s 4 (400 + l) m x) 0 := by
    rw [bnLs_snoc, hloop.2, show m + (N - m) = N by omega]
    unfold bnD
    rw [if_pos em9]
    omega
  have hlastA : lp (bnA l) m (N - m + 1) (su (su u 20 0 0 0) 4 (400 + l) m x) = lp (bnA l) m (N - m) (su (su u 20 0 0 0) 4 (400 + l) m x) := by
    rw [lp_snoc, show m + (N - m) = N by omega]
    exact if_pos em9
  refine ⟨?_, hlast⟩
  unfold mInc incS
  rw [show N + 1 - m = N - m + 1 by omega, hlast, hlastA]
  generalize bnLs l m (N - m) (su s 4 (400 + l) m x) 0 = b at *
  obtain ⟨hSX, -⟩ := hloop
  generalize lp (bnA l) m (N - m) (su (su u 20 0 0 0) 4 (400 + l) m x) = Y at *
  generalize hX : lp (bnA l) m (N - m) (su s 4 (400 + l) m x) = X at *
  generalize hw : toDsk l (-b) (toTen l b X) = w
  obtain ⟨x1, x2, x3⟩ := atS
  have xo : ∀ p i, ¬ (p = 10 ∧ ∃ a, a < 121 ∧ i = 200 * l + a) → ¬ (p = 4 ∧ i = 400 + l) → X p i = s p i := fun p i g1 g2 => by rw [x1 p i g1, su_f _ g2]
  have wo : ∀ p i, p ≠ 0 → ¬ (p = 6 ∧ i = l) → ¬ (p = 10 ∧ ∃ a, a < 121 ∧ i = 200 * l + a) → ¬ (p = 4 ∧ i = 400 + l) → w p i = s p i := fun p i g0 g6 g1 g2 => by rw [← hw, toDsk_o g0 g6, toTen_o g0 g6, xo p i g1 g2]
  have wX : ∀ p i, p ≠ 0 → ¬ (p = 6 ∧ i = l) → w p i = X p i := fun p i g0 g6 => by rw [← hw, toDsk_o g0 g6, toTen_o g0 g6]
  have w4 : w 4 (400 + l) = fup (s 4 (400 + l)) m x := by
    rw [wX 4 _ (by omega) (by omega), x1 4 _ (by omega)]
    exact sup_s _ _ _ _
  have w4n : ∀ i, i ≠ 400 + l → w 4 i = s 4 i := fun i hi => wo 4 i (by omega) (by omega) (by omega) (by omega)
  have w6 : ∀ k, w 6 l k = if k = 6 then s 6 l 6 + -b else if k = 5 then s 6 l 5 + b else s 6 l k := fun k => by
    rw [← hw, toDsk_r, toTen_r, toTen_r, xo 6 l (by omega) (by omega), if_neg (show ¬ ((6 : Nat) = 5) by decide)]
  have w0 : ∀ k, w 0 0 k = s 0 0 k := fun k => by
    rw [← hw, toDsk_0, toTen_0, toTen_0, if_pos rfl, xo 0 0 (by omega) (by omega)]
    by_cases c : k = 9
    · subst c
      rw [if_pos rfl]
      omega
    · rw [if_neg c, if_neg c]
  have w5 : w 5 = s 5 := funext fun i => wo 5 i (by omega) (by omega) (by omega) (by omega)
  have w9 : ∀ i, w 9 i = s 9 i := fun i => wo 9 i (by omega) (by omega) (by omega) (by omega)
  have w6s : ∀ j, w 6 j 0 = s 6 j 0 ∧ w 6 j 1 = s 6 j 1 ∧ w 6 j 8 = s 6 j 8 ∧ w 6 j 9 = s 6 j 9 := fun j => by
    by_cases c : j = l
    · subst c
      rw [w6, w6, w6, w6]
      exact ⟨rfl, rfl, rfl, rfl⟩
    · rw [wo 6 j (by omega) (by omega) (by omega) (by omega)]
      exact ⟨rfl, rfl, rfl, rfl⟩
  have hrb : ∀ j, ∀ a : Int, runb w j a = runb s j a := fun j a => by
    unfold runb
    rw [(w6s j).2.1, (w6s j).2.2.2]
  have hhome : ∀ j, j < n → (s 6 j 0).toNat < 90 := fun j hj => by
    have := (hL j hj).1
    omega
  have hb2 : -121000000 ≤ b ∧ b ≤ 121000000 := by omega
  have e8 : w 0 0 8 = s 0 0 8 := w0 8
  have YE : ∀ p i, p = 20 ∨ p = 21 → mTd l b Y p i = su u 20 0 0 0 p i := fun p i hp => by
    unfold mTd
    rw [su_f _ (by omega), su_f _ (by omega), atU p i (by omega), su_f _ (by omega)]
  refine ⟨?_, by unfold okT; rw [e8]; exact hT⟩
  rw [nowN_of e8, e8, hMM']
  refine ⟨⟨hF.of (fun f _ => by rw [w5]; exact ⟨rfl, rfl, rfl, rfl⟩) (fun f _ => w4n _ (by omega)) (fun f _ => w4n _ (by omega)), fun j hj => ?_, hU.of (fun j _ => ⟨(w6s j).1, (w6s j).2.2.2⟩) (fun j hj => by have := hhome j hj; exact w4n _ (by omega)), hR.of (fun r _ => by rw [wo 11 r (by omega) (by omega) (by omega) (by omega)]; exact ⟨rfl, rfl, rfl, rfl⟩), hMM.of (w0 7) (w4n _ (by omega)) (w4n _ (by omega)), hZ.of (w4n _ (by omega)) (fun f _ a _ => by rw [w4n _ (by omega)]), fun j hj => ?_, ?_, hD.of (fun f _ _ => ⟨by rw [w5], w4n _ (by omega), w4n _ (by omega)⟩) (fun j g _ => ⟨wo 6 j (by omega) (by omega) (by omega) (by omega), wo 7 j (by omega) (by omega) (by omega) (by omega), w9 j, w4n _ (by omega)⟩) (fun r _ _ => wo 11 r (by omega) (by omega) (by omega) (by omega))⟩, ?_, ⟨fun a ha => ?_, ?_, ?_, fun f hf => ?_, fun j hj => ?_⟩, fun f hf => ?_⟩
  · obtain ⟨a, b', c, d, e⟩ := hL j hj
    rw [(w6s j).1, (w6s j).2.1, (w6s j).2.2.1, (w6s j).2.2.2]
    refine ⟨a, b', c, d, fun k hk => ?_⟩
    by_cases cj : j = l
    · subst cj
      rw [w4]
      by_cases ck : k = m
      · subst ck
        rw [fup_s]
        omega
      · rw [fup_n _ _ ck]
        exact e k hk
    · rw [w4n _ (by omega)]
      exact e k hk
  · obtain ⟨a, b', c⟩ := hLL j hj
    have w7 : w 7 j = s 7 j := wo 7 j (by omega) (by omega) (by omega) (by omega)
    by_cases cj : j = l
    · subst cj
      refine ⟨fun k hk => ?_, ⟨?_, ?_, ?_⟩, c.of w7⟩
      · obtain ⟨g1, g2⟩ := a k hk
        rw [hrb, w9]
        refine ⟨fun g => ?_, g2⟩
        obtain ⟨v9, vk⟩ := g1 g
        have hne : ∀ i, i < 4 → i ≠ 2 → w 10 (200 * j + k) i = bl w n j k i := fun i hi hi2 => by
          rw [wX 10 _ (by omega) (by omega), x2 k i hk hi2, su_f _ (by omega), vk i hi, bl_congr2 hl w6s w5 (fun i hi => w4n i (by omega)) hhome hi2]
        refine ⟨v9, fun i hi => ?_⟩
        by_cases ci : i = 2
        · subst ci
          rw [wX 10 _ (by omega) (by omega), x3 k hk, bl_2, ← hne 0 (by decide) (by decide), ← hne 1 (by decide) (by decide), w4, su_f _ (by omega)]
          by_cases ck : m ≤ k
          · rw [if_pos ⟨ck, by omega, by rw [v9]; decide⟩]
            unfold bnV
            rw [su_f _ (by omega), show su s 4 (400 + j) m x 4 (400 + j) = fup (s 4 (400 + j)) m x from sup_s _ _ _ _, wX 10 _ (by omega) (by omega), x2 k 0 hk (by decide), x2 k 1 hk (by decide), su_f _ (by omega)]
          · rw [if_neg (by omega), su_f _ (by omega), vk 2 (by decide), bl_2, incn_fup _ (by omega), ← vk 0 (by decide), ← vk 1 (by decide), wX 10 _ (by omega) (by omega), x2 k 0 hk (by decide), x2 k 1 hk (by decide), su_f _ (by omega)]
        · exact hne i hi ci
      · rw [TT.of (s := X) (by rw [wX 9 j (by omega) (by omega)]) (fun k _ => wX 10 _ (by omega) (by omega)), hTT, hTT0, w6, w6, if_neg (by decide), if_pos rfl, if_neg (by decide), if_neg (by decide), b'.1]
        omega
      · rw [w6, if_neg (by decide), if_neg (by decide)]
        exact b'.2.1
      · rw [w6, if_pos rfl]
        have := b'.2.2
        omega
    · have w10 : ∀ k, k < 121 → w 10 (200 * j + k) = s 10 (200 * j + k) := fun k hk => wo 10 _ (by omega) (by omega) (fun ⟨_, a, ha, e⟩ => by omega) (by omega)
      have w6j : w 6 j = s 6 j := wo 6 j (by omega) (by omega) (by omega) (by omega)
      refine ⟨a.of2 (fun k _ => hrb j k) (fun k hk hk2 _ i _ => bl_congr hj (fun i _ => (w6s i).1) (fun i _ => hrb i k) (w6s j).2.2.1 (fun i _ => by rw [w5]) (fun i hi _ => by have := hhome i hi; rw [w4n _ (by omega)]) (by rw [w4n _ (by omega)]) (by have := hhome j hj; rw [w4n _ (by omega)]) (by rw [w4n _ (by omega)]) (by rw [w4n _ (by omega)]) i) (w9 j) w10, ?_, c.of w7⟩
      have := b'.of w6j (w9 j) w10
      exact ⟨this.1, this.2.1, by have := this.2.2; omega⟩
  · unfold GO at hO ⊢
    rw [w0, hO]
    refine congrArg Neg.neg (sumn_congr n (fun j hj => ?_)).symm
    by_cases cj : j = l
    · subst cj
      rw [w6, w6, if_neg (by decide), if_pos rfl, if_pos rfl]
      omega
    · rw [wo 6 j (by omega) (by omega) (by omega) (by omega)]
  · rw [← hw]
    unfold toDsk toTen mTd
    refine S0.cls ?_ (show ¬ (0 = 0 ∧ 9 = 8) by decide)
    rw [show su (su X 6 l 5 (X 6 l 5 + b)) 0 0 9 (X 0 0 9 - b) 6 l 6 = X 6 l 6 by rw [su_f _ (by omega), su_r, if_neg (by omega)], hSX.r6 l 5 (by decide), hSX.r6 l 6 (by decide), show X 6 l 6 - b = X 6 l 6 + -b by omega]
    refine S0.both ?_
    refine S0.cls ?_ (show ¬ (0 = 0 ∧ 9 = 8) by decide)
    exact hSX.both
  · rw [YE 21 10 (by omega), w4n 0 (by omega)]
    exact h1.1 a ha
  · rw [YE 21 10 (by omega), w0]
    exact h1.2.1
  · rw [YE 20 0 (by omega), w4n 100 (by omega)]
    exact h1.2.2.1
  · rw [YE 21 8 (by omega), w4n _ (by omega)]
    exact h1.2.2.2.1 f hf
  · rw [YE 21 22 (by omega), (w6s j).2.1]
    exact h1.2.2.2.2 j hj
  · rw [w4n _ (by omega), YE 21 4 (by omega)]
    exact hA f hf
end INCOME
