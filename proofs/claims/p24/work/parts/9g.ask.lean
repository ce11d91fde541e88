/-! ===== the calls that only ask ===== -/
def doA (h : Nat) (a b c : Int) (u : xS) : Option Int := match h with
  | 0 => if 0 ≤ a ∧ a < u 1 1 2 then some (u 6 a.toNat 5) else none
  | 1 => if 0 ≤ a ∧ a < u 1 1 2 then some (u 6 a.toNat 5) else none
  | 2 => if 0 ≤ a ∧ a < u 1 1 2 then some (u 6 a.toNat 6) else none
  | 3 => if ((0 ≤ a ∧ a < u 1 1 2) ∧ 0 ≤ b ∧ b ≤ u 0 0 8 / 30) ∧ 0 ≤ c ∧ c ≤ 3 then some (if u 9 a.toNat b.toNat = 0 then -1 else u 10 (200 * a.toNat + b.toNat) c.toNat) else none
  | 4 => if (0 ≤ a ∧ a < u 1 1 2) ∧ (0 ≤ b ∧ b ≤ u 0 0 8 / 30) ∧ 0 ≤ c then some (if u 9 a.toNat b.toNat = 0 then 32 else lnC (lnT (u 10 (200 * a.toNat + b.toNat)) a b) c) else none
  | 5 => if (0 ≤ a ∧ a < u 1 0 2) ∧ 0 ≤ b ∧ b ≤ u 0 0 8 / 30 then some (u 4 (200 + a.toNat) b.toNat) else none
  | 6 => if 0 ≤ a ∧ a < u 1 0 2 then some (u 21 8 a.toNat) else none
  | _ => if 0 ≤ a ∧ a < u 1 1 2 then some (u 7 a.toNat 0) else none
/-- how much the builder may still want -/
def lam (s : xS) : Nat := if s 13 0 0 < 70 then 1 else 0
theorem pot_lam {s : xS} : pot (s 13 0 0) ≤ 2 * lam s := by
  unfold pot lam
  repeat' split
  all_goals omega
/-- what is known behind a call that has asked -/
def KA (E : Nat → Nat) (lo : Nat → Nat → Prop) (co : Nat → Nat → xE) (w : xS) (ad : xAd) (q : xL) (u : xS) (D P : Int) (L : Nat) (K : Int64 → xT → Prop) (v : Int) : Prop := ∀ ad' s' t', RR ad' q lo s' w co t' → OB E lo co D P ad' q s' u → AE ad ad' → lam s' ≤ L → K (J v) t'
section ASK
variable {E : Nat → Nat} {ad ad' : xAd} {q q' : xL} {lo : Nat → Nat → Prop} {s s' u u' w : xS} {co : Nat → Nat → xE} {t : xT} {D P D' P' : Int} {m z : Nat} {K : Int64 → xT → Prop} {a b c : Int}
theorem as_owes (hR : RR ad q lo s w co t) (hL : OB E lo co D P ad q s u) (h1 : 6 ≤ m) (h2 : 40 ≤ z) (ha : i32 a) (k0 : doA 0 a b c u = none → K (-9000000000000 : Int64) t) (k1 : ∀ v, doA 0 a b c u = some v → KA E lo co w ad q u D P (lam s) K v) : V_X7_owes_0 (KXt K) K (ad 0 0) (I a) t m z := by
  have hS := hL.2.2.1.2.1
  have hu := hL.u0.2.1
  refine sp_owes hR hL.2.1.n1 (Nat.le_refl _) ha (by omega) (by omega) (fun hc => kx1 (k0 (if_neg (by omega)))) (fun hc => ?_)
  rw [← hS.r6 a.toNat 5 (by decide)]
  exact k1 _ (if_pos (by omega)) _ _ _ hR hL AE.rf (Nat.le_refl _)
theorem as_desk (hR : RR ad q lo s w co t) (hL : OB E lo co D P ad q s u) (h1 : 6 ≤ m) (h2 : 40 ≤ z) (ha : i32 a) (k0 : doA 2 a b c u = none → K (-9000000000000 : Int64) t) (k1 : ∀ v, doA 2 a b c u = some v → KA E lo co w ad q u D P (lam s) K v) : V_X7_desk_0 (KXt K) K (ad 0 0) (I a) t m z := by
  have hS := hL.2.2.1.2.1
  have hu := hL.u0.2.1
  refine sp_desk hR hL.2.1.n1 (Nat.le_refl _) ha (by omega) (by omega) (fun hc => kx1 (k0 (if_neg (by omega)))) (fun hc => ?_)
  rw [← hS.r6 a.toNat 6 (by decide)]
  exact k1 _ (if_pos (by omega)) _ _ _ hR hL AE.rf (Nat.le_refl _)
theorem as_planOf (hR : RR ad q lo s w co t) (hL : OB E lo co D P ad q s u) (h1 : 6 ≤ m) (h2 : 40 ≤ z) (ha : i32 a) (k0 : doA 7 a b c u = none → K (-9000000000000 : Int64) t) (k1 : ∀ v, doA 7 a b c u = some v → KA E lo co w ad q u D P (lam s) K v) : V_X7_planOf_0 (KXt K) (fun x t => K x.toInt64 t) (ad 0 0) (I a) t m z := by
  have hS := hL.2.2.1.2.1
  have hu := hL.u0.2.1
  refine sp_planOf hR hL.2.1.n1 (Nat.le_refl _) ha (by omega) (by omega) (fun hc => kx1 (k0 (if_neg (by omega)))) (fun hc => ?_)
  have hn := (hL.2.2.1.1.2.2.2.2.2.2.1 a.toNat (by omega)).2.2.1
  show K (I (s 7 a.toNat 0)).toInt64 t
  rw [I_long ⟨by omega, by omega⟩, ← hS.r7 a.toNat 0 (by decide)]
  exact k1 _ (if_pos (by omega)) _ _ _ hR hL AE.rf (Nat.le_refl _)
theorem as_points (hR : RR ad q lo s w co t) (hL : OB E lo co D P ad q s u) (h1 : 6 ≤ m) (h2 : 40 ≤ z) (ha : i32 a) (k0 : doA 6 a b c u = none → K (-9000000000000 : Int64) t) (k1 : ∀ v, doA 6 a b c u = some v → KA E lo co w ad q u D P (lam s) K v) : V_X7_points_0 (KXt K) (fun x t => K x.toInt64 t) (ad 0 0) (I a) t m z := by
  have hu := hL.u0.1
  have hM := hL.M
  have hn := hL.n
  refine sp_points hR hL.2.2.2 hL.2.1.n0 (Nat.le_refl _) ha (by omega) (by omega) (fun hc => kx1 (k0 (if_neg (by omega)))) (fun hc => ?_)
  have h3 := ((hL.2.2.1.1.1 a.toNat (by omega)).2.2.2.2 (nowN s) (by omega)).2.2
  show K (I (s 4 (300 + a.toNat) (nowN s))).toInt64 t
  rw [I_long ⟨by omega, by omega⟩, ← hL.2.2.1.2.2.1.2.2.2.1 a.toNat (by omega)]
  exact k1 _ (if_pos (by omega)) _ _ _ hR hL AE.rf (Nat.le_refl _)
theorem as_use (hR : RR ad q lo s w co t) (hL : OB E lo co D P ad q s u) (h1 : 6 ≤ m) (h2 : 40 ≤ z) (ha : i32 a) (hb : i32 b) (k0 : doA 5 a b c u = none → K (-9000000000000 : Int64) t) (k1 : ∀ v, doA 5 a b c u = some v → KA E lo co w ad q u D P (lam s) K v) : V_X7_use_0 (KXt K) (fun x t => K x.toInt64 t) (ad 0 0) (I a) (I b) t m z := by
  have hS := hL.2.2.1.2.1
  have hu := hL.u0.1
  have hM := hL.M
  have hn := hL.n
  have ht := hL.t8
  refine sp_use hR hL.2.2.2 hL.2.1.n0 (Nat.le_refl _) ha hb (by omega) (by omega) (fun hc => kx1 (k0 (if_neg (by omega)))) (fun hc => ?_)
  have h3 := ((hL.2.2.1.1.1 a.toNat (by omega)).2.2.2.2 b.toNat (by omega)).1
  show K (I (s 4 (200 + a.toNat) b.toNat)).toInt64 t
  rw [I_long ⟨by omega, by omega⟩, ← hS.ru (f := a.toNat) (by omega)]
  exact k1 _ (if_pos (by omega)) _ _ _ hR hL AE.rf (Nat.le_refl _)
theorem as_bill (hR : RR ad q lo s w co t) (hL : OB E lo co D P ad q s u) (h1 : 6 ≤ m) (h2 : 40 ≤ z) (ha : i32 a) (hb : i32 b) (hc0 : i32 c) (k0 : doA 3 a b c u = none → K (-9000000000000 : Int64) t) (k1 : ∀ v, doA 3 a b c u = some v → KA E lo co w ad q u D P (lam s) K v) : V_X7_bill_0 (KXt K) K (ad 0 0) (I a) (I b) (I c) t m z := by
  have hS := hL.2.2.1.2.1
  have hu := hL.u0.2.1
  have hM := hL.M
  have hn := hL.n
  have ht := hL.t8
  refine sp_bill hR hL.2.1.2.2.2.1 hL.2.2.2 hL.2.1.n1 (Nat.le_refl _) ha hb hc0 hL.sbl (by omega) (by omega) (fun hc => kx1 (k0 (if_neg (by omega)))) (fun hc hd => kx2 (k0 (if_neg (by omega)))) (fun hc hd => ?_)
  rw [← hS.r9, ← hS.r10 (i := 200 * a.toNat + b.toNat) (k := c.toNat) (by omega) (by omega)]
  exact k1 _ (if_pos (by omega)) _ _ _ hR hL AE.rf (Nat.le_refl _)
theorem as_anew (hR : RR ad q lo s w co t) (hL : OB E lo co D P ad q s u) (h1 : 6 ≤ m) (h2 : 40 ≤ z) (ha : i32 a) (k0 : doA 1 a b c u = none → K (-9000000000000 : Int64) t) (k1 : ∀ v, doA 1 a b c u = some v → KA E lo co w ad q u D P (lam s) K v) : V_X7_owesAnew_0 (KXt K) K (ad 0 0) (I a) t m z := by
  have hS := hL.2.2.1.2.1
  have hu := hL.u0.2.1
  have hM := hL.M
  have hn := hL.n
  have hG := hL.2.2.1.1
  refine sp_owesAnew hR hL.2.2.2 hL.2.1.n1 (Nat.le_refl _) hn.2.1 ha (fun k hk => ⟨okW_of_G hG.1 hG.2.1 hG.2.2.2.2.1 (by omega) hG.2.2.1 rfl rfl (by omega) hk, okM_of_G hG.1 hG.2.2.2.2.1 hM.2.2 rfl (by omega)⟩) (by omega) (by omega) (fun hc => kx1 (k0 (if_neg (by omega)))) (fun hc t hR => ?_)
  have hF : Fx s (lp (oaS q.2.1 a.toNat) 0 (nowN s) s) := Fx.lps _ _ _
  have hL' := hL.irr (hL.2.1.of (fun k => hF 1 k (by decide) (by omega)) (fun k => hF 2 k (by decide) (by omega)) (fun l _ => hF 9 l (by decide) (by omega)) (hF 12 0 (by decide) (by omega)) (hF 13 0 (by decide) (by omega))) (fun p i h => hF p i (by omega) (by omega)) (fun k => by rw [hF 0 0 (by decide) (by omega)]) (fun k => by rw [hF 1 k (by decide) (by omega)])
  rw [anew_eq hL.2.2 (by omega), ← hS.r6 a.toNat 5 (by decide)]
  refine k1 _ (if_pos (by omega)) _ _ _ hR hL' AE.rf ?_
  unfold lam
  rw [hF 13 0 (by decide) (by omega)]
  exact Nat.le_refl _
theorem lnC_r {l : List Int} {x : Int} (h : rgL l) : 0 ≤ lnC l x ∧ lnC l x ≤ 127 := by
  unfold lnC
  split
  · rw [List.getD_eq_getElem?_getD]
    cases hg : l[x.toNat]? with
    | none => exact ⟨by decide, by decide⟩
    | some y => exact h y (List.mem_of_getElem? hg)
  · exact ⟨by decide, by decide⟩
theorem as_line0 {KX : String → xT → Prop} {KI : Int32 → xT → Prop} (hR : RR ad q lo s w co t) (hL : OB E lo co D P ad q s u) (h1 : 6 ≤ m) (h2 : 40 ≤ z) (h3 : doA 4 a b c u ≠ none → u 9 a.toNat b.toNat ≠ 0 → 6 + 28 * lam s ≤ m ∧ 40 + 3920 * lam s ≤ z) (ha : i32 a) (hb : i32 b) (hc0 : i32 c) (k0 : doA 4 a b c u = none → KX IOB t) (k2 : ∀ v, doA 4 a b c u = some v → ∀ ad' s' t', RR ad' q lo s' w co t' → OB E lo co D P ad' q s' u → AE ad ad' → lam s' ≤ (if u 9 a.toNat b.toNat = 0 then lam s else 0) → (0 ≤ v ∧ v ≤ 127) → KI (I v) t') : V_X7_line_0 E KX KI (ad 0 0) (I a) (I b) (I c) t m z := by
  have hS := hL.2.2.1.2.1
  have hu := hL.u0.2.1
  have hM := hL.M
  have hn := hL.n
  have ht := hL.t8
  have hD := hL.2.2
  have hp := pot_lam (s := s)
  have hb4 : ∀ l m, l < q.2.1 → m < 121 → s 9 l m ≠ 0 → 0 ≤ bT s (200 * l + m) ∧ bT s (200 * l + m) < 100000000 := fun l m hl hm h9 => hD.1.1.bT (by omega) hM.2.2 hl hm h9
  have hb3 : ∀ l m, l < q.2.1 → m < 121 → s 9 l m ≠ 0 → s 10 (200 * l + m) 3 < 100000000 := fun l m hl hm h9 => by
    have := (hD.1.1.bill (by omega) hM.2.2 hl hm).2 h9
    omega
  have ev : ((0 ≤ a ∧ a < q.2.1) ∧ (0 ≤ b ∧ b ≤ s 0 0 8 / 30) ∧ 0 ≤ c) → doA 4 a b c u = some (if u 9 a.toNat b.toNat = 0 then 32 else lnC (lnT (u 10 (200 * a.toNat + b.toNat)) a b) c) := fun h => if_pos (by omega)
  refine sp_line hL.1 hR hL.2.1.2.2.2.1 hL.2.1.2.2.2.2.1 hL.2.2.2 hL.2.1.n1 (Nat.le_refl _) hn.2.1 ha hb hc0 hL.sbl hb4 hb3 (by omega) (by omega) (fun hc hd => ?_) (fun hc => k0 (if_neg (by omega))) (fun hc hd => ?_) (fun hc hd ad' s' t' hB hR hS' h70 => ?_)
  · have := h3 (by rw [ev hc]; exact fun h => nomatch h) (by rw [hS.r9]; exact hd)
    omega
  · have e9 : u 9 a.toNat b.toNat = 0 := by rw [hS.r9]; exact hd
    have e := ev hc
    rw [if_pos e9] at e
    have k := k2 _ e
    rw [if_pos e9] at k
    exact k _ _ _ hR hL AE.rf (Nat.le_refl _) ⟨by decide, by decide⟩
  · have e9 : ¬ u 9 a.toNat b.toNat = 0 := by rw [hS.r9]; exact hd
    have e := ev hc
    rw [if_neg e9] at e
    have k := k2 _ e
    rw [if_neg e9] at k
    obtain ⟨hA, hEs, -⟩ := hB
    have hQ := hL.2.1
    have hQ' : GQ E ad' q s' := ⟨hQ.1.of (hEs 1 0 (by decide) (by decide)) (hEs 2 0 (by decide) (by decide)) (hA 2 0 (by decide)) id, hQ.2.1.of (hEs 1 1 (by decide) (by decide)) (hEs 2 1 (by decide) (by decide)) (hA 2 1 (by decide)) id, hQ.2.2.1.of (hEs 1 2 (by decide) (by decide)) (hEs 2 2 (by decide) (by decide)) (hA 2 2 (by decide)) id, fun l m hl hm => by rw [hEs 9 l (by decide) (by decide)]; exact hQ.2.2.2.1 l m hl hm, hS', hQ.2.2.2.2.2⟩
    have hD' : DRel q.1 q.2.1 q.2.2.1 D P s' u := hD.irr (fun p i h => hEs p i (by omega) (by omega)) (fun k => by rw [hEs 0 0 (by decide) (by decide)]) (fun k => by rw [hEs 1 k (by decide) (by decide)]) hn.2.1
    have hk := hL.sbl a.toNat b.toNat (by omega) (by omega) hd
    have h4 := hb4 a.toNat b.toNat (by omega) (by omega) hd
    have h3' := hb3 a.toNat b.toNat (by omega) (by omega) hd
    have hg : ∀ k, k < 4 → 0 ≤ s 10 (200 * a.toNat + b.toNat) k ∧ s 10 (200 * a.toNat + b.toNat) k < 100000000 := fun k hk4 => by
      obtain ⟨a1, a2, a3, a4⟩ := hk
      obtain rfl | rfl | rfl | rfl : k = 0 ∨ k = 1 ∨ k = 2 ∨ k = 3 := by omega
      · omega
      · omega
      · omega
      · omega
    have hr : rgL (lnT (s 10 (200 * a.toNat + b.toNat)) a b) := lnT_r (by omega) (by omega) hg h4
    rw [lnT_congr (g := s 10 (200 * a.toNat + b.toNat)) (fun k hk => hS.r10 (by omega) hk)] at k
    exact k _ _ _ hR ⟨hL.1.of (fun p i hp => hA p i (by omega)), hQ', hD'⟩ ⟨hA 0 0 (by decide), fun p i hp => hA p i (by omega)⟩ (by unfold lam; rw [if_neg (by omega)]; exact Nat.le_refl _) (lnC_r hr)
theorem as_line (hR : RR ad q lo s w co t) (hL : OB E lo co D P ad q s u) (h1 : 6 ≤ m) (h2 : 40 ≤ z) (h3 : doA 4 a b c u ≠ none → u 9 a.toNat b.toNat ≠ 0 → 6 + 28 * lam s ≤ m ∧ 40 + 3920 * lam s ≤ z) (ha : i32 a) (hb : i32 b) (hc0 : i32 c) (k0 : doA 4 a b c u = none → K (-9000000000000 : Int64) t) (k1 : ∀ v, doA 4 a b c u = some v → KA E lo co w ad q u D P (if u 9 a.toNat b.toNat = 0 then lam s else 0) K v) : V_X7_line_0 E (KXt K) (fun x t => K x.toInt64 t) (ad 0 0) (I a) (I b) (I c) t m z :=
  as_line0 hR hL h1 h2 h3 ha hb hc0 (fun h => kx1 (k0 h)) (fun v hv ad' s' t' hR hO hA hl hv2 => by
    show K (I v).toInt64 t'
    rw [I_long ⟨by omega, by omega⟩]
    exact k1 v hv ad' s' t' hR hO hA hl)
end ASK
