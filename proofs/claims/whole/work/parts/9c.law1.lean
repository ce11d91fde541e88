/-! ===== the law's turns: what holds between them ===== -/
def LQ (E : Nat → Nat) (ad : xAd) (q : xL) (s : xS) (k n : Nat) : Prop := LI q s k n ∧ LZ s k n ∧ LE E ad q s k ∧ s 2 k 0 ≤ 100
def BLv (q : xL) : Prop := ∀ i, q.2.2.2.1 i → ∃ l m, l < q.2.1 ∧ m < 121 ∧ i = 200 * l + m
def GQ (E : Nat → Nat) (ad : xAd) (q : xL) (s : xS) : Prop := LQ E ad q s 0 q.1 ∧ LQ E ad q s 1 q.2.1 ∧ LQ E ad q s 2 q.2.2.1 ∧ HB q s ∧ SBk s ∧ (q.1 ≤ 8 ∧ q.2.1 ≤ 12 ∧ q.2.2.1 ≤ 60) ∧ BLv q
/-- all but the heap -/
def LB (E : Nat → Nat) (lo : Nat → Nat → Prop) (a1 a2 a3 : Nat) (D P : Int) (ad : xAd) (q : xL) (s u : xS) (co : Nat → Nat → xE) : Prop := RO E ad lo co ∧ (lo 35 0 ∧ ∃ g, co 35 0 = .inl (1, 1, .inr (.inl g))) ∧ (ad 0 0 = a1 ∧ ad 20 0 = a2 ∧ ad 35 0 = a3) ∧ GQ E ad q s ∧ DRel q.1 q.2.1 q.2.2.1 D P s u
def LInv (E : Nat → Nat) (lo : Nat → Nat → Prop) (a1 a2 a3 : Nat) (D P : Int) (t : xT) : Prop := ∃ ad q s u co, RR ad q lo s u co t ∧ LB E lo a1 a2 a3 D P ad q s u co
def Bd (D P : Int) : Prop := (0 ≤ D ∧ D ≤ 700000000000) ∧ (0 ≤ P ∧ P ≤ 90000000000)
/-- what the law does with an answer -/
def LK (R : xT → Prop) (a2 a3 : Nat) (x2 : Int32) (x6 : Int64) (t : xT) : Prop := xis t a2 8 ∧ V_X8_thrown_0 (fun x_8 t_7 => ((x_8 = x2 → ((¬ x2 = 0 → R t_7) ∧ (x2 = 0 → xaJ t_7 a3 (0 : Int32) fun y_9 => ((y_9 = x6 → R t_7) ∧ (¬ y_9 = x6 → ((0 : Int32) = 1)))))) ∧ (¬ x_8 = x2 → ((0 : Int32) = 1)))) a2 t
def coP (w : Int64) (co : Nat → Nat → xE) : Nat → Nat → xE := fun p i => if p = 35 ∧ i = 0 then .inl (1, 1, .inr (.inl fun _ => w)) else co p i
theorem kx2a {A B : String} {X Y : Prop} (h : ¬ A = B) (x : X) : (A = A ∨ A = B) ∧ (A = A → X) ∧ (A = B → Y) := ⟨Or.inl rfl, fun _ => x, fun e => absurd e h⟩
theorem kx2b {A B : String} {X Y : Prop} (h : ¬ B = A) (y : Y) : (B = A ∨ B = B) ∧ (B = A → X) ∧ (B = B → Y) := ⟨Or.inr rfl, fun e => absurd e h, fun _ => y⟩
theorem kx3a {A B C : String} {X Y Z : Prop} (h : ¬ A = B) (h2 : ¬ A = C) (x : X) : (A = A ∨ A = B ∨ A = C) ∧ (A = A → X) ∧ (A = B → Y) ∧ (A = C → Z) := ⟨Or.inl rfl, fun _ => x, fun e => absurd e h, fun e => absurd e h2⟩
theorem kx3b {A B C : String} {X Y Z : Prop} (h : ¬ B = A) (h2 : ¬ B = C) (y : Y) : (B = A ∨ B = B ∨ B = C) ∧ (B = A → X) ∧ (B = B → Y) ∧ (B = C → Z) := ⟨Or.inr (Or.inl rfl), fun e => absurd e h, fun _ => y, fun e => absurd e h2⟩
theorem kx3c {A B C : String} {X Y Z : Prop} (h : ¬ C = A) (h2 : ¬ C = B) (z : Z) : (C = A ∨ C = B ∨ C = C) ∧ (C = A → X) ∧ (C = B → Y) ∧ (C = C → Z) := ⟨Or.inr (Or.inr rfl), fun e => absurd e h, fun e => absurd e h2, fun _ => z⟩
section LAWB
variable {E : Nat → Nat} {ad ad' : xAd} {q q' : xL} {lo : Nat → Nat → Prop} {s s' u u' : xS} {co : Nat → Nat → xE} {t : xT} {a1 a2 a3 : Nat} {D P D' P' : Int} {R : xT → Prop}
theorem LQ.of {k n : Nat} (h : LQ E ad q s k n) (h1 : s' 1 k = s 1 k) (h2 : s' 2 k = s 2 k) (ha : ad' 2 k = ad 2 k) (hq : q.2.2.2.2 k → q'.2.2.2.2 k) : LQ E ad' q' s' k n := by
  obtain ⟨⟨a, b, c, d, e⟩, f, g, i⟩ := h
  unfold LQ LI LZ LE
  rw [h1, h2, ha]
  exact ⟨⟨a, b, c, d, fun hn => hq (e hn)⟩, f, g.elim Or.inl (fun g => Or.inr ⟨g.1, hq g.2⟩), i⟩
/-- nothing of the lists, the bills, the builder has changed -/
theorem GQ.of (h : GQ E ad q s) (h1 : ∀ k, s' 1 k = s 1 k) (h2 : ∀ k, s' 2 k = s 2 k) (h9 : ∀ l, l < q.2.1 → s' 9 l = s 9 l) (h12 : s' 12 0 = s 12 0) (h13 : s' 13 0 = s 13 0) : GQ E ad q s' := by
  obtain ⟨a, b, c, d, e, f, g⟩ := h
  refine ⟨a.of (h1 0) (h2 0) rfl id, b.of (h1 1) (h2 1) rfl id, c.of (h1 2) (h2 2) rfl id, fun l m hl hm => ?_, ?_, f, g⟩
  · rw [h9 l hl]
    exact d l m hl hm
  · unfold SBk at e ⊢
    rw [h12, h13]
    exact e
theorem GQ.n0 (h : GQ E ad q s) : LI q s 0 q.1 := h.1.1
theorem GQ.n1 (h : GQ E ad q s) : LI q s 1 q.2.1 := h.2.1.1
theorem GQ.n2 (h : GQ E ad q s) : LI q s 2 q.2.2.1 := h.2.2.1.1
theorem LB.u0 (h : LB E lo a1 a2 a3 D P ad q s u co) : u 1 0 2 = q.1 ∧ u 1 1 2 = q.2.1 ∧ u 1 2 2 = q.2.2.1 := by
  have hS := h.2.2.2.2.1.2.1
  rw [hS.rn, hS.rn, hS.rn]
  exact ⟨h.2.2.2.1.n0.1, h.2.2.2.1.n1.1, h.2.2.2.1.n2.1⟩
theorem LB.tu (h : LB E lo a1 a2 a3 D P ad q s u co) : okT u := by
  have hT := h.2.2.2.2.2
  unfold okT at hT ⊢
  rw [h.2.2.2.2.1.2.1.rd]
  exact hT
theorem LB.M (h : LB E lo a1 a2 a3 D P ad q s u co) : nowN s ≤ 120 ∧ (nowN s : Int) = s 0 0 8 / 30 ∧ 1800 * s 0 0 8 ≤ 100000000 := by
  have hT := h.2.2.2.2.2
  unfold okT at hT
  unfold nowN
  omega
theorem LB.dd (h : LB E lo a1 a2 a3 D P ad q s u co) (hQ : GQ E ad q s') (hD : DRel q.1 q.2.1 q.2.2.1 D' P' s' u') : LB E lo a1 a2 a3 D' P' ad q s' u' co := ⟨h.1, h.2.1, h.2.2.1, hQ, hD⟩
theorem LB.up (h : LB E lo a1 a2 a3 D P ad q s u co) (hD : D ≤ D') (hP : P ≤ P') : LB E lo a1 a2 a3 D' P' ad q s u co := h.dd h.2.2.2.1 (h.2.2.2.2.up hD hP)
theorem LB.thr {c : Int} (h : LB E lo a1 a2 a3 D P ad q s u co) : LB E lo a1 a2 a3 (D + 200000000) (P + 1000000) ad q s (su u 20 0 0 c) co := h.dd h.2.2.2.1 (h.2.2.2.2.thr.up (by omega) (by omega))
theorem LB.out {w : Int64} (h : LB E lo a1 a2 a3 D P ad q s u co) : LB E lo a1 a2 a3 D P ad q s u (coP w co) := by
  obtain ⟨⟨r0, r1, r2, r3, r4⟩, ⟨h35, g, hg⟩, c, d, e⟩ := h
  exact ⟨⟨r0, r1, r2, r3, r4⟩, ⟨h35, fun _ => w, rfl⟩, c, d, e⟩
theorem out_put {w : Int64} {K : xT → Prop} (h35 : lo 35 0 ∧ ∃ g, co 35 0 = .inl (1, 1, .inr (.inl g))) (hR : RR ad q lo s' u co t) (kk : ∀ t, RR ad q lo s' u (coP w co) t → K t) : xsJ t (ad 35 0) (0 : Int32) w K := by
  obtain ⟨h35, g, hg⟩ := h35
  obtain ⟨e, h1, h2⟩ := hR.1 35 0 h35
  rw [show xce ad s' u co 35 0 = co 35 0 from rfl, hg] at h2
  obtain ⟨f, rfl, hf⟩ := sim_long h2
  refine ⟨1, f, h1, (I_in (a := 0) ⟨by decide, by decide⟩).mpr (by decide), kk _ (hR.up (p := 35) (i := 0) h35 ?_ (fun p' i' _ hq => ?_))⟩
  · refine ⟨rfl, rfl, fun j hj => ?_⟩
    obtain rfl : j = 0 := by omega
    rfl
  · unfold xce
    by_cases c1 : p' < 20
    · rw [if_pos c1, if_pos c1]
    · rw [if_neg c1, if_neg c1]
      by_cases c2 : p' < 22
      · rw [if_pos c2, if_pos c2]
      · rw [if_neg c2, if_neg c2]
        exact if_neg hq
theorem lk_thr {x6 : Int64} {c : Int} (hR : RR ad q lo s (su u 20 0 0 c) co t) (hc : 0 < c ∧ c ≤ 10) (kk : R t) : LK R (ad 20 0) a3 (I c) x6 t := by
  refine ⟨xis_R hR (p := 20) (i := 0) rfl rfl, mm_thrown hR ?_⟩
  rw [show su u 20 0 0 c 20 0 0 = c by rw [su_r, if_pos ⟨rfl, rfl, rfl⟩]]
  refine ⟨fun _ => ⟨fun _ => kk, fun h => ?_⟩, fun h => absurd rfl h⟩
  have : c = 0 := (I_eq ⟨by omega, by omega⟩ ⟨by decide, by decide⟩).mp h
  omega
theorem lk_ok {x6 w : Int64} (h35 : lo 35 0) (hR : RR ad q lo s u (coP w co) t) (ht : u 20 0 0 = 0) (hx : w = x6) (kk : R t) : LK R (ad 20 0) (ad 35 0) 0 x6 t := by
  refine ⟨xis_R hR (p := 20) (i := 0) rfl rfl, mm_thrown hR ?_⟩
  rw [ht]
  refine ⟨fun _ => ⟨fun h => absurd rfl h, fun _ => ?_⟩, fun h => absurd rfl h⟩
  refine xaJ_R hR (p := 35) (i := 0) (n := 1) (g := fun _ => w) (z := 0) h35 rfl (by decide) (by decide) ?_
  exact ⟨fun _ => kk, fun h => absurd hx h⟩
theorem LB.x7 (h : LB E lo a1 a2 a3 D P ad q s u co) (hR : RR ad q lo s' u' co t) : xis t (ad 0 0) 7 := xis_R hR (p := 0) (i := 0) rfl rfl
theorem LB.x8 (h : LB E lo a1 a2 a3 D P ad q s u co) {co' : Nat → Nat → xE} (hR : RR ad q lo s' u' co' t) : xis t (ad 20 0) 8 := xis_R hR (p := 20) (i := 0) rfl rfl
/-! ===== calls that only ask ===== -/
variable {m z : Nat}
theorem su_thr {c : Int} : su u 20 0 0 c 20 0 0 = c := by rw [su_r, if_pos ⟨rfl, rfl, rfl⟩]
theorem lw_index {K : Int32 → xT → Prop} {x : Int} (hI : LInv E lo a1 a2 a3 D P t) (h1 : 720 ≤ m) (h2 : 3200 ≤ z) (hx : i32 x) (kk : ∀ t, LInv E lo a1 a2 a3 (D + 200000000) (P + 1000000) t → R t) (hK : ∀ x2 t1, (xis t1 a2 8 ∧ V_X8_index_0 (fun x_6 t_5 => LK R a2 a3 x2 x_6.toInt64 t_5) a2 (I x) t1) → K x2 t1) : V_L_index_0 K a1 (I x) a3 t m z := by
  obtain ⟨ad, q, s, u, co, hR, hL⟩ := hI
  obtain ⟨rfl, rfl, rfl⟩ := hL.2.2.1
  have hD := hL.2.2.2.2
  have hTu := hL.tu
  have hS := hD.1.2.1
  refine ⟨hL.x7 hR, m, z, Nat.le_refl _, Nat.le_refl _, ?_⟩
  refine sp_index hR hD.2 hx (by omega) (by omega) (fun hc => ⟨rfl, fun _ => hK 1 t ⟨hL.x8 hR, ?_⟩⟩) (fun hc t hR => ?_)
  · exact mm_index hR hTu hx (fun _ t hR => lk_thr hR (by decide) (kk t ⟨_, _, _, _, _, hR, hL.thr⟩)) (fun h => absurd h hc)
  · refine out_put hL.2.1 hR (fun t hR => hK 0 t ⟨hL.x8 hR, ?_⟩)
    refine mm_index hR hTu hx (fun h => absurd hc h) (fun _ t hR => lk_ok hL.2.1.1 hR (by rw [su_r, if_neg (by omega)]; exact su_thr) ?_ (kk t ⟨_, _, _, _, _, hR, (hL.dd (hL.2.2.2.1.of (fun k => su_f _ (by omega)) (fun k => su_f _ (by omega)) (fun l _ => su_f _ (by omega)) (su_f _ (by omega)) (su_f _ (by omega))) ((op_index hc hD).up (by omega) (by omega))).out⟩))
    rw [show nowN u = nowN s by unfold nowN; rw [hS.rd], hD.1.2.2.1.1 _ (Nat.le_refl _)]
end LAWB
