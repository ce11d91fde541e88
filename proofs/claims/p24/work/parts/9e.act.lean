/-! ===== the calls that change something: what they answer, what comes of it, out of the common cells alone ===== -/
noncomputable def doP (h : Nat) (a b c : Int) (u : xS) : Option (Int × xS) := match h with
  | 0 => if (1 ≤ a ∧ a ≤ 9) ∧ u 1 0 2 < 8 then some (u 1 0 2, mFl (u 1 0 2).toNat a (u 0 0 8 / 30) u) else none
  | 1 => @ite _ ((0 ≤ a ∧ a < u 1 0 2) ∧ (0 ≤ b ∧ b ≤ 500000) ∧ u 1 1 2 < 12 ∧ ¬ mLet u (u 1 1 2).toNat a) (Classical.propDecidable _) (some (u 1 1 2, mLe (u 1 1 2).toNat a b (u 0 0 8 / 30 + 1) u)) none
  | 2 => if (0 ≤ a ∧ a < u 1 1 2) ∧ u 21 22 a.toNat = 1000 then some (u 0 0 8 / 30, su (su u 20 0 0 0) 21 22 a.toNat (u 0 0 8 / 30)) else none
  | 3 => if 50 ≤ a ∧ a ≤ 200 then some (u 21 10 (nowN u), su (su u 20 0 0 0) 21 10 (nowN u + 1) a) else none
  | 4 => if (0 ≤ a ∧ a < u 1 0 2) ∧ u 5 a.toNat 3 ≤ b ∧ b ≤ 1000000 then some (b - u 5 a.toNat 3, su (su (su u 20 0 0 0) 5 a.toNat 3 b) 5 a.toNat 5 (u 0 0 8 / 30)) else none
  | 5 => if (1 ≤ a ∧ a ≤ 1000000) ∧ u 20 0 11 + a ≤ 10000000 then some (u 20 0 11 + a, su (su u 20 0 0 0) 20 0 11 (u 20 0 11 + a)) else none
  | 6 => if (0 ≤ a ∧ a < u 1 0 2) ∧ (0 ≤ b ∧ b ≤ 2) ∧ u 1 2 2 < 60 then some (u 1 2 2, mRe (u 1 2 2).toNat a b u) else none
  | 7 => if (0 ≤ a ∧ a < u 1 2 2) ∧ u 11 a.toNat 0 = 0 then some ((I (u 11 a.toNat 1)).toInt, su (su u 20 0 0 0) 11 a.toNat 0 1) else none
  | 8 => if ((0 ≤ a ∧ a < u 1 1 2) ∧ 0 ≤ b ∧ b ≤ u 0 0 8 / 30) ∧ 0 ≤ c ∧ c ≤ 1000000 then some (bnLs a.toNat b.toNat (nowN u + 1 - b.toNat) (su (su u 20 0 0 0) 4 (400 + a.toNat) b.toNat c) 0, mInc a.toNat b.toNat (nowN u + 1) c u) else none
  | 9 => if (0 ≤ a ∧ a < u 1 1 2) ∧ 1 ≤ b ∧ b ≤ 1000000 then some (u 6 a.toNat 5 - b, su (su u 20 0 0 0) 6 a.toNat 5 (u 6 a.toNat 5 - b)) else none
  | 10 => if (0 ≤ a ∧ a < u 1 1 2) ∧ (1 ≤ b ∧ b ≤ 12) ∧ ¬ (u 7 a.toNat 0 = 1 ∨ u 6 a.toNat 5 ≤ 0) then some ((u 6 a.toNat 5 + b - 1) / b, mPl a.toNat b u) else none
  | _ => if (1 ≤ a ∧ a ≤ 60) ∧ u 0 0 8 + a ≤ 3600 then some (u 0 0 8 + a, itn (mDay (u 1 0 2).toNat (u 1 1 2).toNat (u 1 2 2).toNat) a.toNat u) else none
/-- what is known behind a call that has changed something -/
def KN (E : Nat → Nat) (lo : Nat → Nat → Prop) (co : Nat → Nat → xE) (w : xS) (ad : xAd) (s u : xS) (D P : Int) (h : Nat) (a b : Int) (K : Int64 → xT → Prop) (v : Int) (u' : xS) : Prop := ∀ ad' q' s' t', RR ad' q' lo s' w co t' → OB E lo co (D + 200000000) (P + 1000000) ad' q' s' u' → AE ad ad' → (∀ l : Nat, l < 12 → PD u' l = PD u l + (if h = 9 ∧ (l : Int) = a then b else 0)) → u' 0 0 8 = u 0 0 8 + (if h = 11 then a else 0) → s' 13 0 0 = s 13 0 0 → K (J v) t'
section ACT
variable {E : Nat → Nat} {ad ad' : xAd} {q q' : xL} {lo : Nat → Nat → Prop} {s s' u u' w : xS} {co : Nat → Nat → xE} {t : xT} {D P D' P' : Int} {m z : Nat} {K : Int64 → xT → Prop} {a b c : Int}
theorem OB.pdx {D2 P2 : Int} (h : OB E lo co D P ad q s u) (h' : OB E lo co D2 P2 ad' q' s' u') (hq : q.2.1 ≤ q'.2.1) (x : Nat → Int) (h7 : ∀ l, l < q.2.1 → s' 6 l 7 = s 6 l 7 + x l) (h8 : ∀ l, q.2.1 ≤ l → l < q'.2.1 → s' 6 l 7 = 0) (hx : ∀ l, q.2.1 ≤ l → l < 12 → x l = 0) : ∀ l : Nat, l < 12 → PD u' l = PD u l + x l := fun l hl => by
  by_cases c1 : l < q.2.1
  · rw [h.pd c1, h'.pd (by omega), h7 l c1]
  · rw [h.pd0 (by omega) hl, hx l (by omega) hl]
    by_cases c2 : l < q'.2.1
    · rw [h'.pd c2, h8 l (by omega) c2]
      rfl
    · rw [h'.pd0 (by omega) hl]
      rfl
theorem OB.pdn {D2 P2 : Int} {h0 : Nat} (h : OB E lo co D P ad q s u) (h' : OB E lo co D2 P2 ad' q' s' u') (h9 : h0 ≠ 9) (hq : q.2.1 ≤ q'.2.1) (h7 : ∀ l, l < q.2.1 → s' 6 l 7 = s 6 l 7) (h8 : ∀ l, q.2.1 ≤ l → l < q'.2.1 → s' 6 l 7 = 0) : ∀ l : Nat, l < 12 → PD u' l = PD u l + (if h0 = 9 ∧ (l : Int) = a then b else 0) :=
  h.pdx h' hq (fun l => if h0 = 9 ∧ (l : Int) = a then b else 0) (fun l hl => by rw [if_neg (fun g => h9 g.1), h7 l hl]; omega) h8 (fun l _ _ => if_neg (fun g => h9 g.1))
theorem dayn {h0 : Nat} (h11 : h0 ≠ 11) (e : u' 0 0 8 = u 0 0 8) : u' 0 0 8 = u 0 0 8 + (if h0 = 11 then a else 0) := by
  rw [if_neg h11, e]
  omega
theorem OB.day' {D2 P2 : Int} (h : OB E lo co D P ad q s u) (h' : OB E lo co D2 P2 ad' q' s' u') (e : s' 0 0 8 = s 0 0 8) : u' 0 0 8 = u 0 0 8 := by rw [h.t8.1, h'.t8.1, e]
theorem ac_pay (hR : RR ad q lo s w co t) (hL : OB E lo co D P ad q s u) (h1 : 720 ≤ m) (h2 : 3200 ≤ z) (ha : i32 a) (hb : i32 b) (k0 : doP 9 a b c u = none → K (-9000000000000 : Int64) t) (k1 : ∀ v u', doP 9 a b c u = some (v, u') → KN E lo co w ad s u D P 9 a b K v u') : V_X7_pay_0 (KXt K) K (ad 0 0) (I a) (I b) t m z := by
  have hS := hL.2.2.1.2.1
  have hu := hL.u0.2.1
  refine sp_pay hR hL.2.1.n1 (Nat.le_refl _) ha hb (by omega) (by omega) (fun hc => kx1 (k0 (if_neg (by omega)))) (fun hc hd => kx2 (k0 (if_neg (by omega)))) (fun hc hd t hR => ?_)
  have o : ∀ p i, p ≠ 0 → p ≠ 6 → toTen a.toNat (-b) (su s 6 a.toNat 7 (s 6 a.toNat 7 + b)) p i = s p i := fun p i h0 h6 => by rw [toTen_o h0 (by omega), su_f _ (by omega)]
  have hO := (hL.dd (hL.2.1.of (fun k => o 1 k (by decide) (by decide)) (fun k => o 2 k (by decide) (by decide)) (fun l _ => o 9 l (by decide) (by decide)) (o 12 0 (by decide) (by decide)) (o 13 0 (by decide) (by decide))) (op_pay (l := a.toNat) (x := b) (by omega) hd hL.2.2)).up (D' := D + 200000000) (P' := P + 1000000) (by omega) (by omega)
  rw [show s 6 a.toNat 5 + -b = u 6 a.toNat 5 - b by rw [hS.r6 _ 5 (by decide)]; omega]
  refine k1 _ _ (if_pos (by omega)) _ _ _ _ hR hO AE.rf ?_ (dayn (by decide) (by rw [su_r, if_neg (by omega), su_r, if_neg (by omega)])) (by rw [o 13 0 (by decide) (by decide)])
  refine hL.pdx hO (Nat.le_refl _) (fun l => if 9 = 9 ∧ (l : Int) = a then b else 0) (fun l hl => ?_) (fun l g1 g2 => by omega) (fun l g1 g2 => if_neg (by omega))
  unfold toTen
  simp (config := { decide := true }) only [su_r, su_f, sup_n, not_false_eq_true, eq_self_iff_true, true_or, or_true, false_or, or_false, true_and, and_true, false_and, and_false, if_true, if_false, ite_true, ite_false]
  by_cases cl : l = a.toNat
  · rw [if_pos cl, if_pos (by omega), cl]
  · rw [if_neg cl, if_neg (by omega)]
    omega
theorem ac_end (hR : RR ad q lo s w co t) (hL : OB E lo co D P ad q s u) (h1 : 720 ≤ m) (h2 : 3200 ≤ z) (ha : i32 a) (k0 : doP 2 a b c u = none → K (-9000000000000 : Int64) t) (k1 : ∀ v u', doP 2 a b c u = some (v, u') → KN E lo co w ad s u D P 2 a b K v u') : V_X7_end_0 (KXt K) (fun x t => K x.toInt64 t) (ad 0 0) (I a) t m z := by
  have hS := hL.2.2.1.2.1
  have hu := hL.u0.2.1
  have hM := hL.M
  have ht := hL.t8
  have hlast : ∀ l, l < q.2.1 → (s 6 l 1 = -1 ↔ u 21 22 l = 1000) := fun l hl => by
    have h := hL.2.2.1.2.2.1.2.2.2.2 l hl
    have h3 := (hL.2.2.1.1.2.1 l hl).2.2.1
    rw [h]
    by_cases c : s 6 l 1 = -1
    · rw [if_pos c]
      exact ⟨fun _ => rfl, fun _ => c⟩
    · rw [if_neg c]
      exact ⟨fun h => absurd h c, fun h => by omega⟩
  refine sp_end hR hL.2.2.2 hL.2.1.n1 (Nat.le_refl _) ha hL.okl (by omega) (by omega) (fun hc => kx1 (k0 (if_neg (by omega)))) (fun hc hd => kx3 (k0 (if_neg (fun g => hd ((hlast _ (by omega)).mpr g.2))))) (fun hc hd t hR => ?_)
  have hO := (hL.dd (hL.2.1.of (fun k => su_f _ (by omega)) (fun k => su_f _ (by omega)) (fun l _ => su_f _ (by omega)) (su_f _ (by omega)) (su_f _ (by omega))) (op_end (l := a.toNat) (by omega) hd hL.2.2)).up (D' := D + 200000000) (P' := P + 1000000) (by omega) (by omega)
  show K (I (s 0 0 8 / 30)).toInt64 t
  rw [I_long ⟨by omega, by omega⟩, ← ht.1]
  exact k1 _ _ (if_pos ⟨by omega, (hlast _ (by omega)).mp hd⟩) _ _ _ _ hR hO AE.rf (hL.pdn hO (by decide) (Nat.le_refl _) (fun l hl => by rw [su_r, if_neg (by omega)]) (fun l g1 g2 => by omega)) (dayn (by decide) (by rw [su_r, if_neg (by omega), su_r, if_neg (by omega)])) (by rw [su_f _ (by omega)])
theorem ac_index (hR : RR ad q lo s w co t) (hL : OB E lo co D P ad q s u) (h1 : 720 ≤ m) (h2 : 3200 ≤ z) (ha : i32 a) (k0 : doP 3 a b c u = none → K (-9000000000000 : Int64) t) (k1 : ∀ v u', doP 3 a b c u = some (v, u') → KN E lo co w ad s u D P 3 a b K v u') : V_X7_index_0 (KXt K) (fun x t => K x.toInt64 t) (ad 0 0) (I a) t m z := by
  have hM := hL.M
  have ht := hL.t8
  refine sp_index hR hL.2.2.2 ha (by omega) (by omega) (fun hc => kx2 (k0 (if_neg hc))) (fun hc t hR => ?_)
  have hO := (hL.dd (hL.2.1.of (fun k => su_f _ (by omega)) (fun k => su_f _ (by omega)) (fun l _ => su_f _ (by omega)) (su_f _ (by omega)) (su_f _ (by omega))) (op_index hc hL.2.2)).up (D' := D + 200000000) (P' := P + 1000000) (by omega) (by omega)
  have hr := (hL.2.2.1.1.2.2.2.2.1.2 (nowN s) (by omega)).1
  show K (I (s 4 0 (nowN s))).toInt64 t
  have en : nowN u = nowN s := by unfold nowN; rw [ht.1]
  rw [I_long ⟨by omega, by omega⟩, ← hL.2.2.1.2.2.1.1 _ (Nat.le_refl _), ← en]
  exact k1 _ _ (if_pos hc) _ _ _ _ hR hO AE.rf (hL.pdn hO (by decide) (Nat.le_refl _) (fun l hl => by rw [su_f _ (by omega)]) (fun l g1 g2 => by omega)) (dayn (by decide) (by rw [su_r, if_neg (by omega), su_r, if_neg (by omega)])) (by rw [su_f _ (by omega)])
theorem ac_read (hR : RR ad q lo s w co t) (hL : OB E lo co D P ad q s u) (h1 : 720 ≤ m) (h2 : 3200 ≤ z) (ha : i32 a) (hb : i32 b) (k0 : doP 4 a b c u = none → K (-9000000000000 : Int64) t) (k1 : ∀ v u', doP 4 a b c u = some (v, u') → KN E lo co w ad s u D P 4 a b K v u') : V_X7_read_0 (KXt K) (fun x t => K x.toInt64 t) (ad 0 0) (I a) (I b) t m z := by
  have hS := hL.2.2.1.2.1
  have hu := hL.u0.1
  have hM := hL.M
  have e3 := hS.r5 a.toNat 3 (by decide)
  have hG := hL.2.2.1.1
  refine sp_read hR hL.2.2.2 hL.2.1.n0 (Nat.le_refl _) ha hb (fun f hf => hG.1.okF (by omega) rfl hf) (by omega) (by omega) (fun hc => kx1 (k0 (if_neg (by omega)))) (fun hc hd => kx2 (k0 (if_neg (by omega)))) (fun hc hd t hR => ?_)
  have h0 := (hG.1 a.toNat (by omega)).2.1
  have o : ∀ p i, p ≠ 5 → su (su s 5 a.toNat 3 b) 5 a.toNat 5 (s 0 0 8 / 30) p i = s p i := fun p i hp => by rw [su_f _ (by omega), su_f _ (by omega)]
  have hO := (hL.dd (hL.2.1.of (fun k => o 1 k (by decide)) (fun k => o 2 k (by decide)) (fun l _ => o 9 l (by decide)) (o 12 0 (by decide)) (o 13 0 (by decide))) (op_read (f := a.toNat) (x := b) (by omega) (by omega) hL.2.2)).up (D' := D + 200000000) (P' := P + 1000000) (by omega) (by omega)
  show K (I (b - s 5 a.toNat 3)).toInt64 t
  rw [I_long ⟨by omega, by omega⟩, ← e3]
  exact k1 _ _ (if_pos (by omega)) _ _ _ _ hR hO AE.rf (hL.pdn hO (by decide) (Nat.le_refl _) (fun l hl => by rw [o 6 l (by decide)]) (fun l g1 g2 => by omega)) (dayn (by decide) (by rw [su_r, if_neg (by omega), su_r, if_neg (by omega), su_r, if_neg (by omega)])) (by rw [o 13 0 (by decide)])
theorem ac_heat (hR : RR ad q lo s w co t) (hL : OB E lo co D P ad q s u) (h1 : 720 ≤ m) (h2 : 3200 ≤ z) (ha : i32 a) (k0 : doP 5 a b c u = none → K (-9000000000000 : Int64) t) (k1 : ∀ v u', doP 5 a b c u = some (v, u') → KN E lo co w ad s u D P 5 a b K v u') : V_X7_heat_0 (KXt K) (fun x t => K x.toInt64 t) (ad 0 0) (I a) t m z := by
  have hM := hL.M
  have ec : u 20 0 11 = s 4 100 (nowN s) := hL.2.2.1.2.2.1.2.2.1
  have hc0 := (hL.2.2.1.1.2.2.2.2.1.2 (nowN s) (by omega)).2
  refine sp_heat hR hL.2.2.2 ha hc0 (by omega) (by omega) (fun hc => kx2 (k0 (if_neg (by omega)))) (fun hc hd => kx3 (k0 (if_neg (by omega)))) (fun hc hd t hR => ?_)
  have hO := (hL.dd (hL.2.1.of (fun k => su_f _ (by omega)) (fun k => su_f _ (by omega)) (fun l _ => su_f _ (by omega)) (su_f _ (by omega)) (su_f _ (by omega))) (op_heat (x := s 4 100 (nowN s) + a) (by omega) hL.2.2)).up (D' := D + 200000000) (P' := P + 1000000) (by omega) (by omega)
  show K (I (s 4 100 (nowN s) + a)).toInt64 t
  rw [I_long ⟨by omega, by omega⟩]
  rw [← ec] at hO hR ⊢
  exact k1 _ _ (if_pos (by omega)) _ _ _ _ hR hO AE.rf (hL.pdn hO (by decide) (Nat.le_refl _) (fun l hl => by rw [su_f _ (by omega)]) (fun l g1 g2 => by omega)) (dayn (by decide) (by rw [su_r, if_neg (by omega), su_r, if_neg (by omega)])) (by rw [su_f _ (by omega)])
theorem ac_mend (hR : RR ad q lo s w co t) (hL : OB E lo co D P ad q s u) (h1 : 720 ≤ m) (h2 : 3200 ≤ z) (ha : i32 a) (k0 : doP 7 a b c u = none → K (-9000000000000 : Int64) t) (k1 : ∀ v u', doP 7 a b c u = some (v, u') → KN E lo co w ad s u D P 7 a b K v u') : V_X7_mend_0 (KXt K) (fun x t => K x.toInt64 t) (ad 0 0) (I a) t m z := by
  have hS := hL.2.2.1.2.1
  have hu := hL.u0.2.2
  have e0 := hS.r11 a.toNat 0 (by decide)
  refine sp_mend hR hL.2.1.n2 (Nat.le_refl _) ha (fun r hr => hL.2.2.1.1.2.2.2.1.okR rfl rfl hr) (by omega) (by omega) (fun hc => kx1 (k0 (if_neg (by omega)))) (fun hc hd => kx3 (k0 (if_neg (by omega)))) (fun hc hd t hR => ?_)
  have hO := (hL.dd (hL.2.1.of (fun k => su_f _ (by omega)) (fun k => su_f _ (by omega)) (fun l _ => su_f _ (by omega)) (su_f _ (by omega)) (su_f _ (by omega))) (op_mend (r := a.toNat) (by omega) hL.2.2)).up (D' := D + 200000000) (P' := P + 1000000) (by omega) (by omega)
  show K (I (s 11 a.toNat 1)).toInt64 t
  rw [← hS.r11 a.toNat 1 (by decide), I_of (I (u 11 a.toNat 1)), I_long (I_rng _)]
  exact k1 _ _ (if_pos (by omega)) _ _ _ _ hR hO AE.rf (hL.pdn hO (by decide) (Nat.le_refl _) (fun l hl => by rw [su_f _ (by omega)]) (fun l g1 g2 => by omega)) (dayn (by decide) (by rw [su_r, if_neg (by omega), su_r, if_neg (by omega)])) (by rw [su_f _ (by omega)])
end ACT
