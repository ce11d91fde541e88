/-! ===== one object of the class: what holds between its calls ===== -/
def LQ (E : Nat → Nat) (ad : xAd) (q : xL) (s : xS) (k n : Nat) : Prop := LI q s k n ∧ LZ s k n ∧ LE E ad q s k ∧ s 2 k 0 ≤ 100
def BLv (q : xL) : Prop := ∀ i, q.2.2.2.1 i → ∃ l m, l < q.2.1 ∧ m < 121 ∧ i = 200 * l + m
def GQ (E : Nat → Nat) (ad : xAd) (q : xL) (s : xS) : Prop := LQ E ad q s 0 q.1 ∧ LQ E ad q s 1 q.2.1 ∧ LQ E ad q s 2 q.2.2.1 ∧ HB q s ∧ SBk s ∧ (q.1 ≤ 8 ∧ q.2.1 ≤ 12 ∧ q.2.2.1 ≤ 60) ∧ BLv q
/-- all but the heap -/
def OB (E : Nat → Nat) (lo : Nat → Nat → Prop) (co : Nat → Nat → xE) (D P : Int) (ad : xAd) (q : xL) (s u : xS) : Prop := RO E ad lo co ∧ GQ E ad q s ∧ DRel q.1 q.2.1 q.2.2.1 D P s u
def Bd (D P : Int) : Prop := (0 ≤ D ∧ D ≤ 700000000000) ∧ (0 ≤ P ∧ P ≤ 90000000000)
/-- what is caught -/
def KXt (K : Int64 → xT → Prop) : String → xT → Prop := fun Ex t => (Ex = "java/lang/IndexOutOfBoundsException" ∨ Ex = "java/lang/IllegalArgumentException" ∨ Ex = "java/lang/IllegalStateException") ∧ (Ex = "java/lang/IndexOutOfBoundsException" → K (-9000000000000 : Int64) t) ∧ (Ex = "java/lang/IllegalArgumentException" → K (-9000000000000 : Int64) t) ∧ (Ex = "java/lang/IllegalStateException" → K (-9000000000000 : Int64) t)
theorem kxt {K : Int64 → xT → Prop} {Ex : String} {t : xT} (h : Ex = "java/lang/IndexOutOfBoundsException" ∨ Ex = "java/lang/IllegalArgumentException" ∨ Ex = "java/lang/IllegalStateException") (k : K (-9000000000000 : Int64) t) : KXt K Ex t := ⟨h, fun _ => k, fun _ => k, fun _ => k⟩
theorem kx1 {K : Int64 → xT → Prop} {t : xT} (k : K (-9000000000000 : Int64) t) : KXt K IOB t := kxt (Or.inl rfl) k
theorem kx2 {K : Int64 → xT → Prop} {t : xT} (k : K (-9000000000000 : Int64) t) : KXt K IAE t := kxt (Or.inr (Or.inl rfl)) k
theorem kx3 {K : Int64 → xT → Prop} {t : xT} (k : K (-9000000000000 : Int64) t) : KXt K ISE t := kxt (Or.inr (Or.inr rfl)) k
section OBJ
variable {E : Nat → Nat} {ad ad' : xAd} {q q' : xL} {lo : Nat → Nat → Prop} {s s' u u' w : xS} {co : Nat → Nat → xE} {t : xT} {D P D' P' : Int}
theorem LQ.of {k n : Nat} (h : LQ E ad q s k n) (h1 : s' 1 k = s 1 k) (h2 : s' 2 k = s 2 k) (ha : ad' 2 k = ad 2 k) (hq : q.2.2.2.2 k → q'.2.2.2.2 k) : LQ E ad' q' s' k n := by
  obtain ⟨⟨a, b, c, d, e⟩, f, g, i⟩ := h
  unfold LQ LI LZ LE
  rw [h1, h2, ha]
  exact ⟨⟨a, b, c, d, fun hn => hq (e hn)⟩, f, g.elim Or.inl (fun g => Or.inr ⟨g.1, hq g.2⟩), i⟩
/-- nothing of the lists, the bills, the builder has changed -/
theorem GQ.of (h : GQ E ad q s) (h1 : ∀ k, s' 1 k = s 1 k) (h2 : ∀ k, s' 2 k = s 2 k) (h9 : ∀ l, l < q.2.1 → s' 9 l = s 9 l) (h12 : s' 12 0 = s 12 0) (h13 : s' 13 0 = s 13 0) : GQ E ad q s' := by
  obtain ⟨a, b, c, d, e, f, g⟩ := h
  refine ⟨a.of (h1 0) (h2 0) rfl id, b.of (h1 1) (h2 1) rfl id, c.of (h1 2) (h2 2) rfl id, fun l m hl hm => ?_, ?_, f, g⟩
  · rw [h9 l hl]
    exact d l m hl hm
  · unfold SBk at e ⊢
    rw [h12, h13]
    exact e
theorem GQ.n0 (h : GQ E ad q s) : LI q s 0 q.1 := h.1.1
theorem GQ.n1 (h : GQ E ad q s) : LI q s 1 q.2.1 := h.2.1.1
theorem GQ.n2 (h : GQ E ad q s) : LI q s 2 q.2.2.1 := h.2.2.1.1
theorem OB.u0 (h : OB E lo co D P ad q s u) : u 1 0 2 = q.1 ∧ u 1 1 2 = q.2.1 ∧ u 1 2 2 = q.2.2.1 := by
  have hS := h.2.2.1.2.1
  rw [hS.rn, hS.rn, hS.rn]
  exact ⟨h.2.1.n0.1, h.2.1.n1.1, h.2.1.n2.1⟩
theorem OB.n (h : OB E lo co D P ad q s u) : q.1 ≤ 8 ∧ q.2.1 ≤ 12 ∧ q.2.2.1 ≤ 60 := h.2.1.2.2.2.2.2.1
theorem OB.t8 (h : OB E lo co D P ad q s u) : u 0 0 8 = s 0 0 8 ∧ 0 ≤ s 0 0 8 ∧ s 0 0 8 ≤ 3600 := ⟨h.2.2.1.2.1.rd, h.2.2.2⟩
theorem OB.M (h : OB E lo co D P ad q s u) : nowN s ≤ 120 ∧ (nowN s : Int) = s 0 0 8 / 30 ∧ 1800 * s 0 0 8 ≤ 100000000 := by
  have hT := h.2.2.2
  unfold okT at hT
  unfold nowN
  omega
theorem OB.dd (h : OB E lo co D P ad q s u) (hQ : GQ E ad q s') (hD : DRel q.1 q.2.1 q.2.2.1 D' P' s' u') : OB E lo co D' P' ad q s' u' := ⟨h.1, hQ, hD⟩
theorem OB.up (h : OB E lo co D P ad q s u) (hD : D ≤ D') (hP : P ≤ P') : OB E lo co D' P' ad q s u := h.dd h.2.1 (h.2.2.up hD hP)
theorem OB.x7 (hR : RR ad q lo s w co t) : xis t (ad 0 0) 7 := xis_R hR (p := 0) (i := 0) rfl rfl
theorem OB.okl (h : OB E lo co D P ad q s u) : ∀ l, l < q.2.1 → okL q s l := fun l hl => h.2.2.1.1.2.1.okL (by have := h.M; omega) rfl rfl hl
theorem OB.sbl (h : OB E lo co D P ad q s u) : ∀ l m, l < q.2.1 → m < 121 → okBl s l m := fun l m hl hm => h.2.2.1.1.okBl (by have := h.M; omega) h.M.2.2 hl hm
theorem OB.irr (h : OB E lo co D P ad q s u) (hQ : GQ E ad q s') (e : ∀ p i, p = 4 ∨ p = 5 ∨ p = 6 ∨ p = 7 ∨ p = 9 ∨ p = 11 ∨ (p = 10 ∧ i ≠ 9999) → s' p i = s p i) (e0 : ∀ k, s' 0 0 k = s 0 0 k) (e1 : ∀ k, s' 1 k 2 = s 1 k 2) : OB E lo co D P ad q s' u := h.dd hQ (h.2.2.irr e e0 e1 h.n.2.1)
theorem OB.cl (h : OB E lo co D P ad q s u) : CL q lo s := by
  have hQ := h.2.1
  refine CL_of (fun l hl => ?_) (fun r hr => ?_) (fun k hk => ?_) hQ.2.2.2.1
  · have := (h.2.2.1.1.2.1 l hl).1
    omega
  · have := (h.2.2.1.1.2.2.2.1 r hr).1
    omega
  · obtain rfl | rfl | rfl : k = 0 ∨ k = 1 ∨ k = 2 := by omega
    · exact ⟨q.1, Nat.le_refl _, hQ.1.1, hQ.1.2.1⟩
    · exact ⟨q.2.1, Nat.le_refl _, hQ.2.1.1, hQ.2.1.2.1⟩
    · exact ⟨q.2.2.1, Nat.le_refl _, hQ.2.2.1.1, hQ.2.2.1.2.1⟩
theorem LQ.add {k n : Nat} {c : Int} (h : LI q s k n) (hc : (n : Int) + 1 ≤ c ∧ 10 ≤ c ∧ c ≤ 100) : LQ E ad' (qc q k) (addS s k n c) k (n + 1) := by
  refine ⟨LI_addS h ⟨hc.1, by omega⟩, LZ_addS, Or.inr ⟨?_, Or.inr rfl⟩, ?_⟩
  · rw [addS_2]
    show 10 ≤ (if 0 = 0 then c else _)
    rw [if_pos rfl]
    exact hc.2.1
  · rw [addS_2]
    show (if 0 = 0 then c else _) ≤ 100
    rw [if_pos rfl]
    exact hc.2.2
theorem RR_mono {lv lv' : Nat → Nat → Prop} {ce : Nat → Nat → xE} (h : Rel ad lv ce t) (hl : ∀ p i, lv' p i → lv p i) : Rel ad lv' ce t := ⟨fun p i g => h.1 p i (hl p i g), fun p i p' i' g g' => h.2 p i p' i' (hl p i g) (hl p' i' g')⟩
/-- what was paid, out of the common cells -/
def PD (u : xS) (l : Nat) : Int := TT u l - u 6 l 5
theorem TT_S0 (hS : S0 s u) {l : Nat} (hl : l < 12) : TT u l = TT s l := sumn_congr 121 (fun m hm => by
  unfold bT
  rw [hS.r9, hS.r10 (by omega) (by decide), hS.r10 (by omega) (by decide), hS.r10 (by omega) (by decide), hS.r10 (by omega) (by decide)])
theorem OB.pd (h : OB E lo co D P ad q s u) {l : Nat} (hl : l < q.2.1) : PD u l = s 6 l 7 := by
  have hS := h.2.2.1.2.1
  obtain ⟨-, -, -, -, -, -, hA, -, -⟩ := h.2.2.1.1
  have h1 := (hA l hl).2.1.1
  unfold PD
  rw [TT_S0 hS (by have := h.n; omega), hS.r6 l 5 (by decide)]
  omega
theorem TT_0 {l : Nat} (h : ∀ m, s 9 l m = 0) : TT s l = 0 := by
  have : ∀ n, sumn (fun m => if s 9 l m = 0 then 0 else bT s (200 * l + m)) n = 0 := fun n => by
    induction n with
    | zero => rfl
    | succ n ih =>
      show sumn (fun m => if s 9 l m = 0 then 0 else bT s (200 * l + m)) n + (if s 9 l n = 0 then 0 else bT s (200 * l + n)) = 0
      rw [ih, if_pos (h n)]
      rfl
  exact this 121
theorem OB.pd0 (h : OB E lo co D P ad q s u) {l : Nat} (hl : q.2.1 ≤ l) (h12 : l < 12) : PD u l = 0 := by
  have hS := h.2.2.1.2.1
  obtain ⟨-, -, -, -, -, -, -, -, hD⟩ := h.2.2.1.1
  obtain ⟨e5, -, -, e9, -⟩ := hD.2.1 l hl h12
  unfold PD
  rw [TT_S0 hS h12, hS.r6 l 5 (by decide), TT_0 e9, e5]
  rfl
end OBJ
