/-! ===== more calls that change something ===== -/
theorem lp_c {f : Nat → xS → xS} {p i k : Nat} (hf : ∀ j s, f j s p i k = s p i k) : ∀ (r j : Nat) (s : xS), lp f j r s p i k = s p i k := by
  intro r
  induction r with
  | zero => exact fun _ _ => rfl
  | succ r ih => exact fun j s => (ih (j + 1) (f j s)).trans (hf j s)
section PAID
variable {s : xS} {nf n nr : Nat}
theorem emB_67 {m j l : Nat} : emB m j s 6 l 7 = s 6 l 7 := by
  unfold emB
  split
  · rw [planM_o (by omega)]
  · by_cases c : l = j
    · subst c
      rw [mkBill_6, if_neg (by decide), if_neg (by decide), planM_o (by omega)]
    · rw [mkBill_o (by decide) (by decide) (by omega) (by omega), planM_o (by omega)]
theorem bgM_67 {m j l : Nat} : bgM m j s 6 l 7 = s 6 l 7 := by
  by_cases c : l = j
  · subst c
    unfold bgM payAh
    split
    · rfl
    · split
      · rfl
      · rw [toDsk_r, if_neg (by decide)]
  · rw [bgM_o (by decide) (by omega)]
theorem tkL_67 {d : Int} {m l : Nat} : lp (tkP d m) 0 nr s 6 l = s 6 l := lp_o (fun j s => tkP_o (by omega) (by omega)) _ _ _
theorem eDay_67 {l : Nat} : eDay nf n nr s 6 l 7 = s 6 l 7 := by
  unfold eDay
  split
  · rw [su_f _ (by omega), tkL_67]
  · unfold bMon eMon
    rw [lp_c (fun j s => bgM_67), su_f _ (by omega), lp_c (fun j s => emB_67), E8.shHeat 6 l (by omega), lp_o (fun j s => fndU_o (by omega) (by omega)), su_f _ (by omega), tkL_67]
theorem itn_67 {l : Nat} : ∀ (k : Nat) (s : xS), itn (eDay nf n nr) k s 6 l 7 = s 6 l 7 := by
  intro k
  induction k with
  | zero => exact fun _ => rfl
  | succ k ih => exact fun s => (ih (eDay nf n nr s)).trans eDay_67
theorem itn_8 : ∀ (k : Nat) (s : xS), itn (eDay nf n nr) k s 0 0 8 = s 0 0 8 + k := by
  intro k
  induction k with
  | zero =>
    intro s
    show s 0 0 8 = s 0 0 8 + ((0 : Nat) : Int)
    omega
  | succ k ih =>
    intro s
    have e := ih (eDay nf n nr s)
    rw [eDay_8] at e
    show itn (eDay nf n nr) k (eDay nf n nr s) 0 0 8 = _
    omega
end PAID
section ACT2
variable {E : Nat → Nat} {ad ad' : xAd} {q q' : xL} {lo : Nat → Nat → Prop} {s s' u u' w : xS} {co : Nat → Nat → xE} {t : xT} {D P D' P' : Int} {m z : Nat} {K : Int64 → xT → Prop} {a b c : Int}
theorem ac_plan (hR : RR ad q lo s w co t) (hL : OB E lo co D P ad q s u) (hB : Bd D P) (h1 : 720 ≤ m) (h2 : 3200 ≤ z) (ha : i32 a) (hb : i32 b) (k0 : doP 10 a b c u = none → K (-9000000000000 : Int64) t) (k1 : ∀ v u', doP 10 a b c u = some (v, u') → KN E lo co w ad s u D P 10 a b K v u') : V_X7_plan_0 (KXt K) K (ad 0 0) (I a) (I b) t m z := by
  have hS := hL.2.2.1.2.1
  have hu := hL.u0.2.1
  have hM := hL.M
  have hP : ∀ l, l < q.2.1 → okP s l := fun l hl => hL.2.2.1.1.okP (by omega) hM.2.2 (by have := hB.2; omega) hl
  have e5 : u 6 a.toNat 5 = s 6 a.toNat 5 := hS.r6 _ 5 (by decide)
  have e0 : u 7 a.toNat 0 = s 7 a.toNat 0 := hS.r7 _ 0 (by decide)
  refine sp_plan hR hL.2.1.n1 (Nat.le_refl _) ha hb hP (by omega) (by omega) (fun hc => kx1 (k0 (if_neg (by omega)))) (fun hc hd => kx2 (k0 (if_neg (by omega)))) (fun hc hd he => kx3 (k0 (if_neg (by omega)))) (fun hc hd he t hR => ?_)
  have o : ∀ p i, p ≠ 7 → plnS a.toNat b s p i = s p i := fun p i h7 => by
    unfold plnS
    rw [su_f _ (by omega), su_f _ (by omega), su_f _ (by omega), su_f _ (by omega)]
  have hO := (hL.dd (hL.2.1.of (fun k => o 1 k (by decide)) (fun k => o 2 k (by decide)) (fun l _ => o 9 l (by decide)) (o 12 0 (by decide)) (o 13 0 (by decide))) (op_plan (l := a.toNat) (x := b) (by omega) hd (by omega) hL.2.2)).up (D' := D + 200000000) (P' := P + 1000000) (by omega) (by omega)
  rw [← e5]
  exact k1 _ _ (if_pos (by omega)) _ _ _ _ hR hO AE.rf (hL.pdn hO (by decide) (Nat.le_refl _) (fun l hl => by rw [o 6 l (by decide)]) (fun l g1 g2 => by omega)) (dayn (by decide) (hL.day' hO (by rw [o 0 0 (by decide)]))) (by rw [o 13 0 (by decide)])
theorem ac_income (hR : RR ad q lo s w co t) (hL : OB E lo co D P ad q s u) (h1 : 720 ≤ m) (h2 : 3200 ≤ z) (ha : i32 a) (hb : i32 b) (hc0 : i32 c) (k0 : doP 8 a b c u = none → K (-9000000000000 : Int64) t) (k1 : ∀ v u', doP 8 a b c u = some (v, u') → KN E lo co w ad s u D P 8 a b K v u') : V_X7_income_0 (KXt K) K (ad 0 0) (I a) (I b) (I c) t m z := by
  have hS := hL.2.2.1.2.1
  have hu := hL.u0.2.1
  have hM := hL.M
  have ht := hL.t8
  have hn := hL.n
  refine sp_income hR hL.2.1.2.2.2.1 hL.2.2.2 hL.2.1.n1 (Nat.le_refl _) ha hb hc0 hL.sbl hL.okl (by omega) (by omega) (fun hc => kx1 (k0 (if_neg (by omega)))) (fun hc hd => kx2 (k0 (if_neg (by omega)))) (fun hc hd t hR => ?_)
  obtain ⟨op1, op2⟩ := op_income (l := a.toNat) (m := b.toNat) (x := c) hn.1 hn.2.1 (by omega) (by omega) hd hL.2.2
  have o : ∀ p i, p ≠ 0 → p ≠ 4 → p ≠ 6 → p ≠ 10 → incS a.toNat b.toNat (nowN s) c s p i = s p i := fun p i h0 h4 h6 h10 => by
    unfold incS
    rw [toDsk_o h0 (by omega), toTen_o h0 (by omega), lp_o (fun j s => bnA_o (by omega)), su_f _ (by omega)]
  have o7 : ∀ l, incS a.toNat b.toNat (nowN s) c s 6 l 7 = s 6 l 7 := fun l => by
    unfold incS toDsk toTen
    simp (config := { decide := true }) only [su_r, su_f, sup_n, not_false_eq_true, eq_self_iff_true, true_or, or_true, false_or, or_false, true_and, and_true, false_and, and_false, if_true, if_false, ite_true, ite_false]
    rw [lp_o (fun j s => bnA_o (by omega)), su_f _ (by omega)]
  have o8 : incS a.toNat b.toNat (nowN s) c s 0 0 8 = s 0 0 8 := by
    unfold incS toDsk toTen
    simp (config := { decide := true }) only [su_r, su_f, sup_n, not_false_eq_true, eq_self_iff_true, true_or, or_true, false_or, or_false, true_and, and_true, false_and, and_false, if_true, if_false, ite_true, ite_false]
    rw [lp_o (fun j s => bnA_o (by omega)), su_f _ (by omega)]
  have hO := (hL.dd (hL.2.1.of (fun k => o 1 k (by decide) (by decide) (by decide) (by decide)) (fun k => o 2 k (by decide) (by decide) (by decide) (by decide)) (fun l _ => o 9 l (by decide) (by decide) (by decide) (by decide)) (o 12 0 (by decide) (by decide) (by decide) (by decide)) (o 13 0 (by decide) (by decide) (by decide) (by decide))) op1).up (D' := D + 200000000) (P' := P + 1000000) (by omega) (by omega)
  rw [← op2]
  exact k1 _ _ (if_pos (by omega)) _ _ _ _ hR hO AE.rf (hL.pdn hO (by decide) (Nat.le_refl _) (fun l hl => o7 l) (fun l g1 g2 => by omega)) (dayn (by decide) (hL.day' hO o8)) (by rw [o 13 0 (by decide) (by decide) (by decide) (by decide)])
theorem ac_flat (hR : RR ad q lo s w co t) (hL : OB E lo co D P ad q s u) (h1 : 720 ≤ m) (h2 : 3200 ≤ z) (ha : i32 a) (k0 : doP 0 a b c u = none → K (-9000000000000 : Int64) t) (k1 : ∀ v u', doP 0 a b c u = some (v, u') → KN E lo co w ad s u D P 0 a b K v u') : V_X7_flat_0 E (KXt K) (fun x t => K x.toInt64 t) (ad 0 0) (I a) t m z := by
  have hu := hL.u0.1
  have hn := hL.n
  have ht := hL.t8
  have hQ := hL.2.1
  refine sp_flat hL.1 hR hL.cl hQ.n0 hQ.1.2.1 hQ.1.2.2.1 hQ.1.2.2.2 rfl hn.1 ha (by omega) (by omega) (fun hc => kx2 (k0 (if_neg (by omega)))) (fun hc hd => kx3 (k0 (if_neg (by omega)))) (fun hc hd ad' t' c hA hA2 hR hcc => ?_)
  have hO : OB E lo co (D + 200000000) (P + 1000000) ad' (qc (qF q) 0) (addS (mkF q.1 a s) 0 q.1 c) (mFl q.1 a (u 0 0 8 / 30) u) := ⟨hL.1.of hA.2, hQ.flat hd hA2 hcc, (op_flat hd hn.2.1 hc hL.2.2).up (by omega) (by omega)⟩
  have o : ∀ p i, p ≠ 4 → p ≠ 5 → ¬ ((p = 1 ∨ p = 2) ∧ i = 0) → addS (mkF q.1 a s) 0 q.1 c p i = s p i := fun p i h4 h5 h1 => by rw [addS_o (by omega) (by omega), mkF_o (by omega) (by omega)]
  show K (I (q.1 : Int)).toInt64 t'
  rw [I_long ⟨by omega, by omega⟩]
  have e : (u 1 0 2).toNat = q.1 := by omega
  have k2 := k1 _ _ (if_pos (by omega))
  rw [e, hu] at k2
  exact k2 _ _ _ _ hR hO hA (hL.pdn hO (by decide) (Nat.le_refl _) (fun l hl => by rw [o 6 l (by decide) (by decide) (by omega)]) (fun l g1 g2 => absurd (show l < q.2.1 from g2) (by omega))) (dayn (by decide) (hL.day' hO (by rw [o 0 0 (by decide) (by decide) (by omega)]))) (by rw [o 13 0 (by decide) (by decide) (by omega)])
theorem ac_report (hR : RR ad q lo s w co t) (hL : OB E lo co D P ad q s u) (h1 : 720 ≤ m) (h2 : 3200 ≤ z) (ha : i32 a) (hb : i32 b) (k0 : doP 6 a b c u = none → K (-9000000000000 : Int64) t) (k1 : ∀ v u', doP 6 a b c u = some (v, u') → KN E lo co w ad s u D P 6 a b K v u') : V_X7_report_0 E (KXt K) (fun x t => K x.toInt64 t) (ad 0 0) (I a) (I b) t m z := by
  have hu := hL.u0
  have hn := hL.n
  have ht := hL.t8
  have hQ := hL.2.1
  refine sp_report hL.1 hR hL.cl hL.2.2.2 hQ.n0 (Nat.le_refl _) hQ.n2 hQ.2.2.1.2.1 hQ.2.2.1.2.2.1 hQ.2.2.1.2.2.2 rfl hn.2.2 ha hb (by omega) (by omega) (fun hc => kx1 (k0 (if_neg (by omega)))) (fun hc hd => kx2 (k0 (if_neg (by omega)))) (fun hc hd he => kx3 (k0 (if_neg (by omega)))) (fun hc hd he ad' t' c hA hA2 hR hcc => ?_)
  have hO : OB E lo co (D + 200000000) (P + 1000000) ad' (qc (qR q) 2) (addS (mkR q.2.2.1 a b (s 0 0 8) s) 2 q.2.2.1 c) (mRe q.2.2.1 a b u) := ⟨hL.1.of hA.2, hQ.report he hA2 hcc, (op_report he hn.2.1 hc hd hL.2.2).up (by omega) (by omega)⟩
  have o : ∀ p i, p ≠ 11 → ¬ ((p = 1 ∨ p = 2) ∧ i = 2) → addS (mkR q.2.2.1 a b (s 0 0 8) s) 2 q.2.2.1 c p i = s p i := fun p i h4 h1 => by rw [addS_o (by omega) (by omega)]; exact sup_n _ _ (by omega)
  show K (I (q.2.2.1 : Int)).toInt64 t'
  rw [I_long ⟨by omega, by omega⟩]
  have e : (u 1 2 2).toNat = q.2.2.1 := by omega
  have k2 := k1 _ _ (if_pos (by omega))
  rw [e, hu.2.2] at k2
  exact k2 _ _ _ _ hR hO hA (hL.pdn hO (by decide) (Nat.le_refl _) (fun l hl => by rw [o 6 l (by decide) (by omega)]) (fun l g1 g2 => absurd (show l < q.2.1 from g2) (by omega))) (dayn (by decide) (hL.day' hO (by rw [o 0 0 (by decide) (by omega)]))) (by rw [o 13 0 (by decide) (by omega)])
theorem ac_lease (hR : RR ad q lo s w co t) (hL : OB E lo co D P ad q s u) (hB : Bd D P) (h1 : 720 ≤ m) (h2 : 3200 ≤ z) (ha : i32 a) (hb : i32 b) (k0 : doP 1 a b c u = none → K (-9000000000000 : Int64) t) (k1 : ∀ v u', doP 1 a b c u = some (v, u') → KN E lo co w ad s u D P 1 a b K v u') : V_X7_lease_0 E (KXt K) (fun x t => K x.toInt64 t) (ad 0 0) (I a) (I b) t m z := by
  have hu := hL.u0
  have hn := hL.n
  have ht := hL.t8
  have hQ := hL.2.1
  have e : (u 1 1 2).toNat = q.2.1 := by omega
  have n0 : ¬ ((0 ≤ a ∧ a < u 1 0 2) ∧ (0 ≤ b ∧ b ≤ 500000) ∧ u 1 1 2 < 12 ∧ ¬ mLet u (u 1 1 2).toNat a) → doP 1 a b c u = none := fun h => @if_neg _ (Classical.propDecidable _) h _ _ _
  refine sp_lease hL.1 hR hL.cl hL.2.2.2 hQ.n0 (Nat.le_refl _) hn.1 hQ.n1 hL.okl hQ.2.1.2.1 hQ.2.1.2.2.1 hQ.2.1.2.2.2 rfl hn.2.1 ha hb (by omega) (by omega) (fun hc => kx1 (k0 (n0 (by omega)))) (fun hc hd => kx2 (k0 (n0 (by omega)))) (fun hc hd he => kx3 (k0 (n0 ?_))) (fun hc hd he hf ad' t' c hA hA2 hR hcc => ?_)
  · have heq := let_eq hc.1 hL.2.2 hn.2.1
    rw [e, hu.2.1]
    rintro ⟨-, -, g1, g2⟩
    rcases he with he | he
    · omega
    · exact g2 (heq.mp he)
  · have heq := let_eq hc.1 hL.2.2 hn.2.1
    have hO : OB E lo co (D + 200000000) (P + 1000000) ad' (qc (qL q) 1) (addS (mkL q.2.1 a b (s 0 0 8 / 30 + 1) s) 1 q.2.1 c) (mLe q.2.1 a b (u 0 0 8 / 30 + 1) u) := ⟨hL.1.of hA.2, hQ.lease he hA2 hcc, (op_lease hn.1 he hc hd hB.1.1 hB.2.1 hL.2.2).up (by omega) (by omega)⟩
    have o : ∀ p i, p ≠ 4 → ¬ ((p = 6 ∨ p = 7 ∨ p = 8 ∨ p = 9) ∧ i = q.2.1) → ¬ ((p = 1 ∨ p = 2) ∧ i = 1) → addS (mkL q.2.1 a b (s 0 0 8 / 30 + 1) s) 1 q.2.1 c p i = s p i := fun p i h4 h6 h1 => by rw [addS_o (by omega) (by omega), mkL_o (by omega) (by omega) (by omega) (by omega) (by omega)]
    have hp : doP 1 a b c u = some (u 1 1 2, mLe (u 1 1 2).toNat a b (u 0 0 8 / 30 + 1) u) := @if_pos _ (Classical.propDecidable _) (by
      rw [e, hu.2.1]
      exact ⟨by omega, hd, by omega, fun g => hf (heq.mpr g)⟩) _ _ _
    show K (I (q.2.1 : Int)).toInt64 t'
    rw [I_long ⟨by omega, by omega⟩]
    have k2 := k1 _ _ hp
    rw [e, hu.2.1] at k2
    refine k2 _ _ _ _ hR hO hA (hL.pdn hO (by decide) (Nat.le_succ _) (fun l hl => by rw [o 6 l (by decide) (by omega) (by omega)]) (fun l g1 g2 => ?_)) (dayn (by decide) (hL.day' hO (by rw [o 0 0 (by decide) (by omega) (by omega)]))) (by rw [o 13 0 (by decide) (by omega) (by omega)])
    have g3 : l < q.2.1 + 1 := g2
    obtain rfl : l = q.2.1 := by omega
    rw [addS_o (by omega) (by omega)]
    unfold mkL
    rw [sup_n _ _ (by omega), sup_n _ _ (by omega), sup_n _ _ (by omega), sup_n _ _ (by omega), sup_s]
    rfl
theorem ac_pass (hR : RR ad q lo s w co t) (hL : OB E lo co D P ad q s u) (hB : Bd D P) (h1 : 720 ≤ m) (h2 : 3200 ≤ z) (ha : i32 a) (k0 : doP 11 a b c u = none → K (-9000000000000 : Int64) t) (k1 : ∀ v u', doP 11 a b c u = some (v, u') → KN E lo co w ad s u D P 11 a b K v u') : V_X7_pass_0 (KXt K) (fun x t => K x.toInt64 t) (ad 0 0) (I a) t m z := by
  have hu := hL.u0
  have hq := hL.n
  have ht := hL.t8
  have hQ := hL.2.1
  have op : 1 ≤ a ∧ a ≤ 60 → s 0 0 8 + a ≤ 3600 → _ := fun hc hd => op_pass (q := q) (nf := q.1) (n := q.2.1) (nr := q.2.2.1) (P := P) hq.1 hq.2.1 hq.2.2 (by have := hB.2; omega) rfl rfl rfl a.toNat s u D hB.1.1 (by have := hB.1; omega) hL.2.2 hQ.n0 hQ.n1 hQ.n2 (by omega)
  refine sp_pass (B := q.2.2.2.1) (nf := q.1) (n := q.2.1) (nr := q.2.2.1) hR hQ.2.2.2.1 hL.2.2.2 ha (Nat.le_refl _) hq.1 (Nat.le_refl _) hq.2.1 (Nat.le_refl _) (by omega) (by omega) (fun hc => kx2 (k0 (if_neg (by omega)))) (fun hc hd => kx3 (k0 (if_neg (by omega)))) (fun hc hd => (op hc hd).2.1) (fun hc hd ad' B' t' hA hR hHB => ?_)
  obtain ⟨o1, o2, o3, o4⟩ := op hc hd
  have hR2 : RR ad' (qw q (fun i => B' i ∧ ∃ l m, l < q.2.1 ∧ m < 121 ∧ i = 200 * l + m)) lo (pss q.1 q.2.1 q.2.2.1 a.toNat s) w co t' := RR_mono hR (fun p i h => by
    unfold clv at h ⊢
    split at h
    all_goals first
      | exact h
      | exact h.imp id (fun g => g.1))
  have hO : OB E lo co (D + 200000000) (P + 1000000) ad' (qw q (fun i => B' i ∧ ∃ l m, l < q.2.1 ∧ m < 121 ∧ i = 200 * l + m)) (pss q.1 q.2.1 q.2.2.1 a.toNat s) (itn (mDay q.1 q.2.1 q.2.2.1) a.toNat u) := by
    refine ⟨hL.1.of hA.2.1, ?_, o1.up (by omega) (by omega)⟩
    unfold pss
    refine ⟨hQ.1.of (o4 1 0 (by omega)) (o4 2 0 (by omega)) (hA.2.2 0) id, hQ.2.1.of (o4 1 1 (by omega)) (o4 2 1 (by omega)) (hA.2.2 1) id, hQ.2.2.1.of (o4 1 2 (by omega)) (o4 2 2 (by omega)) (hA.2.2 2) id, fun l m hl hm => ?_, ?_, hq, fun i hi => hi.2⟩
    · have := hHB l m hl hm
      exact ⟨fun g => this.mp g.1, fun g => ⟨this.mpr g, l, m, hl, hm, rfl⟩⟩
    · have e := hQ.2.2.2.2.1
      unfold SBk at e ⊢
      rw [o4 12 0 (by omega), o4 13 0 (by omega)]
      exact e
  have e8 : pss q.1 q.2.1 q.2.2.1 a.toNat s 0 0 8 = u 0 0 8 + a := by
    unfold pss
    rw [itn_8]
    omega
  show K (I (pss q.1 q.2.1 q.2.2.1 a.toNat s 0 0 8)).toInt64 t'
  rw [e8, I_long ⟨by omega, by omega⟩]
  have k2 := k1 _ _ (if_pos (by omega))
  rw [show (u 1 0 2).toNat = q.1 by omega, show (u 1 1 2).toNat = q.2.1 by omega, show (u 1 2 2).toNat = q.2.2.1 by omega] at k2
  refine k2 _ _ _ _ hR2 hO ⟨hA.1, hA.2.1⟩ (hL.pdn hO (by decide) (Nat.le_refl _) (fun l hl => itn_67 _ _) (fun l g1 g2 => absurd (show l < q.2.1 from g2) (by omega))) ?_ ?_
  · rw [if_pos rfl, hO.t8.1, e8]
  · unfold pss
    rw [o4 13 0 (by omega)]
end ACT2
