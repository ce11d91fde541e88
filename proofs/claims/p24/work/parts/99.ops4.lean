/-! ===== a lease is made; incomes; days pass: on both sides ===== -/
section OPS4
variable {q : xL} {s s' s2 u u' u2 : xS} {nf n nr M : Nat} {Bp D P : Int}
theorem mkL_6 {L k : Nat} {a b c : Int} : mkL L a b c s 6 L k = if k = 0 then a else if k = 1 then -1 else if k = 8 then b else if k = 9 then c else 0 := by
  unfold mkL
  rw [sup_n _ _ (by omega), sup_n _ _ (by omega), sup_n _ _ (by omega), sup_n _ _ (by omega), sup_s]
theorem mkL_4 {L i k : Nat} {a b c : Int} : mkL L a b c s 4 i k = if i = 400 + L then -1 else s 4 i k := by
  unfold mkL
  rw [sup_n _ _ (by omega), sup_n _ _ (by omega), sup_n _ _ (by omega)]
  by_cases d : i = 400 + L
  · subst d
    rw [sup_s, if_pos rfl]
  · rw [sup_n _ _ (by omega), if_neg d, sup_n _ _ (by omega)]
theorem mkL_z {L p k : Nat} {a b c : Int} (hp : p = 7 ∨ p = 8 ∨ p = 9) : mkL L a b c s p L k = 0 := by
  unfold mkL
  obtain rfl | rfl | rfl := hp
  · rw [sup_n _ _ (by omega), sup_n _ _ (by omega), sup_s]
  · rw [sup_n _ _ (by omega), sup_s]
  · rw [sup_s]
/-- whether a flat is let: the same -/
theorem let_eq {z : Int} (hz : 0 ≤ z) (h : DRel nf n nr D P s u) (hn : n ≤ 12) : isLet s n z.toNat ↔ mLet u n z := by
  obtain ⟨hC, hT⟩ := h
  unfold okT at hT
  have e8 := hC.2.1.rd
  have hy : s 0 0 8 / 30 = (nowN s : Int) := by unfold nowN; omega
  have hy2 : nowN s ≤ 120 := by unfold nowN; omega
  have hS := hC.2.1
  have key : ∀ l, l < n → (((s 6 l 0).toNat = z.toNat ∧ s 6 l 1 = -1) ↔ (u 6 l 0 = z ∧ mrunb u l (u 0 0 8 / 30 + 1) = 1)) := fun l hl => by
    obtain ⟨a, b, c, d, e⟩ := hC.1.2.1 l hl
    rw [hS.r6 l 0 (by decide), e8, hy, mrunb_eq hS (hC.2.2.1.2.2.2.2 l hl) (by omega)]
    unfold runb
    by_cases c1 : s 6 l 1 = -1
    · rw [if_pos ⟨by omega, Or.inl c1⟩]
      exact ⟨fun h => ⟨by omega, rfl⟩, fun h => ⟨by omega, c1⟩⟩
    · rw [if_neg (by omega)]
      exact ⟨fun h => absurd h.2 c1, fun h => absurd h.2 (by decide)⟩
  exact ⟨fun ⟨l, hl, g⟩ => ⟨l, hl, (key l hl).mp g⟩, fun ⟨l, hl, g⟩ => ⟨l, hl, (key l hl).mpr g⟩⟩
theorem sumn_zero {g : Nat → Int} : ∀ n, (∀ j, j < n → g j = 0) → sumn g n = 0 := by
  intro n
  induction n with
  | zero => exact fun _ => rfl
  | succ n ih =>
    intro h
    show sumn g n + g n = 0
    rw [ih (fun j hj => h j (by omega)), h n (by omega)]
    rfl
theorem op_lease {z x c : Int} (hnf : nf ≤ 8) (hn : n < 12) (hz : 0 ≤ z ∧ z < nf) (hx : 0 ≤ x ∧ x ≤ 500000) (hDD : 0 ≤ D) (hPP : 0 ≤ P) (h : DRel nf n nr D P s u) : DRel nf (n + 1) nr D P (addS (mkL n z x (s 0 0 8 / 30 + 1) s) 1 n c) (mLe n z x (u 0 0 8 / 30 + 1) u) := by
  obtain ⟨hC, hT⟩ := DRel.thr (c := 0) h
  rw [h.1.2.1.rd]
  unfold okT at hT
  have hy : s 0 0 8 / 30 = (nowN s : Int) := by unfold nowN; omega
  have hy2 : nowN s ≤ 120 := by unfold nowN; omega
  rw [hy]
  generalize hw : addS (mkL n z x ((nowN s : Int) + 1) s) 1 n c = w
  have o : ∀ p i, p ≠ 1 → p ≠ 2 → ¬ ((p = 6 ∨ p = 7 ∨ p = 8 ∨ p = 9) ∧ i = n) → ¬ (p = 4 ∧ i = 400 + n) → w p i = s p i := fun p i h1 h2 h6 h4 => by rw [← hw, addS_o (by omega) (by omega), mkL_o (by omega) (by omega) (by omega) (by omega) (by omega)]
  have o4 : ∀ i k, w 4 i k = if i = 400 + n then -1 else s 4 i k := fun i k => by rw [← hw, addS_o (by omega) (by omega), mkL_4]
  have o6 : ∀ k, w 6 n k = if k = 0 then z else if k = 1 then -1 else if k = 8 then x else if k = 9 then (nowN s : Int) + 1 else 0 := fun k => by rw [← hw, addS_o (by omega) (by omega), mkL_6]
  have oz : ∀ p k, p = 7 ∨ p = 8 ∨ p = 9 → w p n k = 0 := fun p k hp => by rw [← hw, addS_o (by omega) (by omega), mkL_z hp]
  have o1 : ∀ k, w 1 k 2 = if k = 1 then (n : Int) + 1 else s 1 k 2 := fun k => by
    rw [← hw]
    by_cases ck : k = 1
    · subst ck
      rw [addS_1, if_pos rfl, if_pos rfl]
    · rw [addS_o (by omega) (by omega), mkL_o (by omega) (by omega) (by omega) (by omega) (by omega), if_neg ck]
  have o4n : ∀ i, i ≠ 400 + n → w 4 i = s 4 i := fun i g1 => o 4 i (by omega) (by omega) (by omega) (by omega)
  have w6 : ∀ l, l ≠ n → w 6 l = s 6 l := fun l g1 => o 6 l (by omega) (by omega) (by omega) (by omega)
  have w5 : ∀ l, w 5 l = s 5 l := fun l => o 5 l (by omega) (by omega) (by omega) (by omega)
  have w0 : w 0 0 = s 0 0 := o 0 0 (by omega) (by omega) (by omega) (by omega)
  have v : ∀ p i, ¬ (p = 1 ∧ i = 1) → ¬ (p = 6 ∧ i = n) → ¬ (p = 21 ∧ i = 22) → mLe n z x ((nowN s : Int) + 1) u p i = su u 20 0 0 0 p i := fun p i g1 g5 g21 => by
    unfold mLe
    rw [su_f _ g1, su_f _ g21, su_f _ g5, su_f _ g5, su_f _ g5]
  have v22 : ∀ l, mLe n z x ((nowN s : Int) + 1) u 21 22 l = if l = n then 1000 else u 21 22 l := fun l => by
    unfold mLe
    rw [su_f _ (by omega), su_r]
    by_cases cf : l = n
    · rw [if_pos ⟨rfl, rfl, cf⟩, if_pos cf]
    · rw [if_neg (fun h => cf h.2.2), if_neg cf, su_f _ (by omega), su_f _ (by omega), su_f _ (by omega), su_f _ (by omega)]
  refine ⟨?_, by unfold okT; rw [w0]; exact hT⟩
  rw [nowN_of (s := s) (by rw [w0]), w0]
  obtain ⟨⟨hF, hL, hU, hR, hMM, hZ, hLL, hO, hD⟩, hS0, h1, hA⟩ := hC
  have hrb : ∀ j, j ≠ n → ∀ m : Int, runb w j m = runb s j m := fun j hj m => by
    unfold runb
    rw [w6 j hj]
  have f9 : w 6 n 9 = (nowN s : Int) + 1 := by rw [o6, if_neg (by decide), if_neg (by decide), if_neg (by decide), if_pos rfl]
  have f1 : w 6 n 1 = -1 := by rw [o6, if_neg (by decide), if_pos rfl]
  have hrn : ∀ m : Nat, m < nowN s + 1 → runb w n m = 0 := fun m hm => by
    unfold runb
    rw [f9, if_neg (by omega)]
  obtain ⟨d5, d6, d7, d9, dt⟩ := hD.2.1 n (Nat.le_refl n) hn
  have hbl : ∀ l, l < n → ∀ m : Nat, m < nowN s → ∀ k, bl w (n + 1) l m k = bl s n l m k := fun l hl m hm k => by
    have e1 : bl w (n + 1) l m k = bl w n l m k := by
      unfold bl
      split
      · rfl
      · rfl
      · rfl
      · exact HS_ext (by unfold wrS; rw [hrn m (by omega), if_pos rfl]) (by show useb w n m = 0; unfold useb; rw [hrn m (by omega), if_pos rfl]) hl
    rw [e1]
    exact bl_congr hl (fun j hj => by rw [w6 j (by omega)]) (fun j hj => hrb j (by omega) m) (by rw [w6 l (by omega)]) (fun j _ => by rw [w5]) (fun j hj _ => by have := (hL j hj).1; rw [o4n _ (by omega)]) (by rw [o4n _ (by omega)]) (by have := (hL l hl).1; rw [o4n _ (by omega)]) (by rw [o4n _ (by omega)]) (by rw [o4n _ (by omega)]) k
  refine ⟨⟨hF.of (fun f _ => by rw [w5]; exact ⟨rfl, rfl, rfl, rfl⟩) (fun f _ => o4n _ (by omega)) (fun f _ => o4n _ (by omega)), fun l hl => ?_, fun l hl m hm h9 => ?_, hR.of (fun r _ => by rw [o 11 r (by omega) (by omega) (by omega) (by omega)]; exact ⟨rfl, rfl, rfl, rfl⟩), hMM.of (by rw [w0]) (o4n _ (by omega)) (o4n _ (by omega)), hZ.of (o4n _ (by omega)) (fun f _ m _ => by rw [o4n _ (by omega)]), fun l hl => ?_, ?_, ⟨fun f g1 g2 => ?_, fun l g1 g2 => ?_, fun r g1 g2 => ?_⟩⟩, fun p i k hc => ?_, ⟨fun m hm => ?_, ?_, ?_, fun f hf => ?_, fun l hl => ?_⟩, fun f hf => ?_⟩
  · by_cases cl : l = n
    · subst cl
      have e0 : w 6 l 0 = z := by rw [o6, if_pos rfl]
      have e1 : w 6 l 1 = -1 := by rw [o6, if_neg (by decide), if_pos rfl]
      have e8 : w 6 l 8 = x := by rw [o6, if_neg (by decide), if_neg (by decide), if_pos rfl]
      have e9 : w 6 l 9 = (nowN s : Int) + 1 := by rw [o6, if_neg (by decide), if_neg (by decide), if_neg (by decide), if_pos rfl]
      rw [e0, e1, e8, e9]
      refine ⟨hz, hx, Or.inl rfl, by omega, fun m hm => ?_⟩
      rw [o4, if_pos rfl]
      omega
    · rw [w6 l cl, o4n _ (by omega)]
      exact hL l (by omega)
  · by_cases cl : l = n
    · subst cl
      rw [o6, if_neg (by decide), if_neg (by decide), if_neg (by decide), if_pos rfl] at h9
      omega
    · rw [w6 l cl] at h9 ⊢
      have := (hL l (by omega)).1
      rw [o4n _ (by omega)]
      exact hU l (by omega) m hm h9
  · by_cases cl : l = n
    · subst cl
      refine ⟨fun m hm => ⟨fun g => absurd (hrn m (by omega)) g.2, fun _ => oz 9 m (by omega)⟩, ⟨?_, ?_, ?_⟩, ?_⟩
      · have : TT w l = 0 := sumn_zero 121 (fun m hm => by rw [oz 9 m (by omega), if_pos rfl])
        rw [this, o6, o6, if_neg (by decide), if_neg (by decide), if_neg (by decide), if_neg (by decide), if_neg (by decide), if_neg (by decide), if_neg (by decide), if_neg (by decide)]
        rfl
      · rw [o6, if_neg (by decide), if_neg (by decide), if_neg (by decide), if_neg (by decide)]
        omega
      · rw [o6, if_neg (by decide), if_neg (by decide), if_neg (by decide), if_neg (by decide)]
        omega
      · unfold LN
        rw [oz 7 0 (by omega), oz 7 1 (by omega), oz 7 2 (by omega), oz 7 3 (by omega)]
        omega
    · obtain ⟨a, b, cc⟩ := hLL l (by omega)
      have w9 : w 9 l = s 9 l := o 9 l (by omega) (by omega) (by omega) (by omega)
      have w10 : ∀ i, w 10 i = s 10 i := fun i => o 10 i (by omega) (by omega) (by omega) (by omega)
      refine ⟨fun m hm => ?_, b.of (w6 l cl) w9 (fun m _ => w10 _), cc.of (o 7 l (by omega) (by omega) (by omega) (by omega))⟩
      obtain ⟨b1, b2⟩ := a m hm
      rw [w9, w10, hrb l cl]
      refine ⟨fun g => ⟨(b1 g).1, fun k hk => ?_⟩, b2⟩
      rw [hbl l (by omega) m g.1]
      exact (b1 g).2 k hk
  · unfold GO at hO ⊢
    show w 0 0 9 = -(sumn (fun l => w 6 l 5 + w 6 l 6) n + (w 6 n 5 + w 6 n 6))
    have e : sumn (fun l => w 6 l 5 + w 6 l 6) n = sumn (fun l => s 6 l 5 + s 6 l 6) n := sumn_congr n (fun j hj => by rw [w6 j (by omega)])
    rw [e, w0, hO, o6, o6, if_neg (by decide), if_neg (by decide), if_neg (by decide), if_neg (by decide), if_neg (by decide), if_neg (by decide), if_neg (by decide), if_neg (by decide)]
    omega
  · rw [w5, o4n _ (by omega), o4n _ (by omega)]
    exact hD.1 f g1 g2
  · rw [w6 l (by omega), o 7 l (by omega) (by omega) (by omega) (by omega), o 9 l (by omega) (by omega) (by omega) (by omega), o4n _ (by omega)]
    exact hD.2.1 l (by omega) g2
  · rw [o 11 r (by omega) (by omega) (by omega) (by omega)]
    exact hD.2.2 r g1 g2
  · have hS := h.1.2.1
    by_cases c1 : p = 1
    · subst c1
      have hk : k = 2 := hc
      subst hk
      rw [o1]
      by_cases ci : i = 1
      · subst ci
        unfold mLe
        rw [su_r, if_pos ⟨rfl, rfl, rfl⟩, if_pos rfl]
      · rw [if_neg ci, v 1 i (by omega) (by omega) (by omega)]
        exact hS0 1 i 2 hc
    · by_cases c6 : p = 6 ∧ i = n
      · obtain ⟨rfl, rfl⟩ := c6
        have hk : k = 0 ∨ k = 5 ∨ k = 6 ∨ k = 8 ∨ k = 9 := hc
        have e5 := hS.r6 i 5 (by decide)
        have e6 := hS.r6 i 6 (by decide)
        rw [o6]
        unfold mLe
        rw [su_r, if_neg (by omega), su_r, if_neg (by omega), su_r]
        by_cases k9 : k = 9
        · rw [if_pos ⟨rfl, rfl, k9⟩, if_neg (by omega), if_neg (by omega), if_neg (by omega), if_pos k9]
        · rw [if_neg (fun h => k9 h.2.2), su_r]
          by_cases k8 : k = 8
          · rw [if_pos ⟨rfl, rfl, k8⟩, if_neg (by omega), if_neg (by omega), if_pos k8]
          · rw [if_neg (fun h => k8 h.2.2), su_r]
            by_cases k0 : k = 0
            · rw [if_pos ⟨rfl, rfl, k0⟩, if_pos k0]
            · rw [if_neg (fun h => k0 h.2.2), if_neg k0, if_neg (by omega), if_neg k8, if_neg k9, su_r, if_neg (by omega)]
              obtain rfl | rfl : k = 5 ∨ k = 6 := by omega
              · rw [e5, d5]
              · rw [e6, d6]
      · have h21 : p ≠ 21 := fun h => by subst h; exact hc
        have h2 : p ≠ 2 := fun h => by subst h; exact hc
        rw [v p i (by omega) c6 (by omega), hS0 p i k hc]
        by_cases c4 : p = 4
        · subst c4
          rw [o4]
          by_cases ci : i = 400 + n
          · rw [if_pos ci, ci, dt]
          · rw [if_neg ci]
        · by_cases c7 : p = 7 ∧ i = n
          · obtain ⟨rfl, rfl⟩ := c7
            rw [oz 7 k (by omega), d7 k hc]
          · by_cases c9 : p = 9 ∧ i = n
            · obtain ⟨rfl, rfl⟩ := c9
              rw [oz 9 k (by omega), d9]
            · have h8 : p ≠ 8 := fun h => by subst h; exact hc
              rw [o p i c1 h2 (by omega) (by omega)]
  · rw [v 21 10 (by omega) (by omega) (by omega), o4n 0 (by omega)]
    exact h1.1 m hm
  · rw [v 21 10 (by omega) (by omega) (by omega), w0]
    exact h1.2.1
  · rw [v 20 0 (by omega) (by omega) (by omega), o4n 100 (by omega)]
    exact h1.2.2.1
  · rw [v 21 8 (by omega) (by omega) (by omega), o4n _ (by omega)]
    exact h1.2.2.2.1 f hf
  · rw [v22]
    by_cases cl : l = n
    · subst cl
      rw [if_pos rfl, f1, if_pos rfl]
    · rw [if_neg cl, w6 l cl]
      have := h1.2.2.2.2 l (by omega)
      rw [show su u 20 0 0 0 21 22 l = u 21 22 l by rw [su_f _ (by omega)]] at this
      exact this
  · rw [o4n _ (by omega), v 21 4 (by omega) (by omega) (by omega)]
    exact hA f hf
/-- days pass -/
theorem op_pass (hnf : nf ≤ 8) (hn : n ≤ 12) (hnr : nr ≤ 60) (hP : P ≤ 100000000000) (hq1 : q.1 = nf) (hq2 : q.2.1 = n) (hq3 : q.2.2.1 = nr) : ∀ (k : Nat) (s u : xS) (D : Int), 0 ≤ D → D + 1000000 * (k : Int) ≤ 900000000000 → DRel nf n nr D P s u → LI q s 0 nf → LI q s 1 n → LI q s 2 nr → s 0 0 8 + k ≤ 3600 → DRel nf n nr (D + 1000000 * (k : Int)) P (itn (eDay nf n nr) k s) (itn (mDay nf n nr) k u) ∧ (∀ j, j < k → okDay q nf n nr (itn (eDay nf n nr) j s)) ∧ (∀ j, j < k → okmDay nf n nr (itn (mDay nf n nr) j u)) ∧ (∀ p i, p = 1 ∨ p = 2 ∨ p = 3 ∨ p = 12 ∨ p = 13 → itn (eDay nf n nr) k s p i = s p i) := by
  intro k
  induction k with
  | zero =>
    intro s u D hD0 hD h h0 h1 h2 hd
    refine ⟨?_, fun j hj => absurd hj (Nat.not_lt_zero j), fun j hj => absurd hj (Nat.not_lt_zero j), fun _ _ _ => rfl⟩
    rw [show D + 1000000 * ((0 : Nat) : Int) = D by omega]
    exact h
  | succ k ih =>
    intro s u D hD0 hD h h0 h1 h2 hd
    have ok := phOk (q := q) hnf hn hnr ⟨hD0, by omega⟩ hP hq1 hq2 hq3 h0 h1 h2 (by omega) h
    have st := phDay hnf hn hnr hD0 (by omega) h
    have e1 : ∀ p i, p = 1 ∨ p = 2 ∨ p = 3 ∨ p = 12 ∨ p = 13 → eDay nf n nr s p i = s p i := fun p i hp => eDay_o hp
    obtain ⟨a, b, c, d⟩ := ih (eDay nf n nr s) (mDay nf n nr u) (D + 1000000) (by omega) (by omega) st (LI_of h0 (e1 1 0 (by omega)) (e1 2 0 (by omega))) (LI_of h1 (e1 1 1 (by omega)) (e1 2 1 (by omega))) (LI_of h2 (e1 1 2 (by omega)) (e1 2 2 (by omega))) (by rw [eDay_8]; omega)
    refine ⟨?_, fun j hj => ?_, fun j hj => ?_, fun p i hp => ?_⟩
    · rw [show D + 1000000 * ((k + 1 : Nat) : Int) = D + 1000000 + 1000000 * (k : Int) by omega]
      exact a
    · cases j with
      | zero => exact ok.1
      | succ j => exact b j (by omega)
    · cases j with
      | zero => exact ok.2
      | succ j => exact c j (by omega)
    · show itn (eDay nf n nr) k (eDay nf n nr s) p i = s p i
      rw [d p i hp, e1 p i hp]
end OPS4
