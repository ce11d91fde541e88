/-! ===== what holds between calls ===== -/
/-- the numbers of a bill, as they can be made again at any time -/
def bl (s : xS) (n l m : Nat) : Nat → Int := fun k => match k with
  | 0 => cBill s l m 0
  | 1 => cBill s l m 1
  | 2 => cBill s l m 2
  | _ => HS n (s 4 100 m) (wrS s m) (fun j => useb s j m) l
theorem cBill_sh {s : xS} {n l m k : Nat} (hl : l < n) (hk : k < 4) : cBill (shHeat n m s) l m k = bl s n l m k := by
  have h6 : shHeat n m s 6 = s 6 := funext fun i => E8.shHeat 6 i (by decide)
  have h4 : shHeat n m s 4 = s 4 := funext fun i => E8.shHeat 4 i (by decide)
  obtain rfl | rfl | rfl | rfl : k = 0 ∨ k = 1 ∨ k = 2 ∨ k = 3 := by omega
  · show shHeat n m s 6 l 8 * shHeat n m s 4 0 m / 100 = s 6 l 8 * s 4 0 m / 100
    rw [h6, h4]
  · show low (shHeat n m s 6 l 8 * shHeat n m s 4 0 m / 100) (shHeat n m s 4 (300 + (shHeat n m s 6 l 0).toNat) m) = low (s 6 l 8 * s 4 0 m / 100) (s 4 (300 + (s 6 l 0).toNat) m)
    rw [h6, h4]
  · show ben (shHeat n m s 6 l 8 * shHeat n m s 4 0 m / 100 - low (shHeat n m s 6 l 8 * shHeat n m s 4 0 m / 100) (shHeat n m s 4 (300 + (shHeat n m s 6 l 0).toNat) m)) (incn (shHeat n m s 4 (400 + l)) (m + 1)) = ben (s 6 l 8 * s 4 0 m / 100 - low (s 6 l 8 * s 4 0 m / 100) (s 4 (300 + (s 6 l 0).toNat) m)) (incn (s 4 (400 + l)) (m + 1))
    rw [h6, h4]
  · exact shHeat_HS hl
/-- what all has been billed -/
def TT (s : xS) (l : Nat) : Int := sumn (fun m => if s 9 l m = 0 then 0 else bT s (200 * l + m)) 121
def GF (s : xS) (nf M : Nat) (Bp : Int) : Prop := ∀ f, f < nf → (1 ≤ s 5 f 0 ∧ s 5 f 0 ≤ 9) ∧ (0 ≤ s 5 f 3 ∧ s 5 f 3 ≤ 1000000) ∧ (0 ≤ s 5 f 4 ∧ s 5 f 4 ≤ 1000000 * (M : Int)) ∧ (-1 ≤ s 5 f 5 ∧ s 5 f 5 ≤ 1000) ∧ ∀ m, m < 121 → (-1 ≤ s 4 (200 + f) m ∧ s 4 (200 + f) m ≤ 1000000) ∧ (M ≤ m → s 4 (200 + f) m = -1) ∧ (0 ≤ s 4 (300 + f) m ∧ s 4 (300 + f) m ≤ Bp)
def GL (s : xS) (nf n M : Nat) : Prop := ∀ l, l < n → (0 ≤ s 6 l 0 ∧ s 6 l 0 < nf) ∧ (0 ≤ s 6 l 8 ∧ s 6 l 8 ≤ 500000) ∧ (s 6 l 1 = -1 ∨ 0 ≤ s 6 l 1 ∧ s 6 l 1 ≤ M) ∧ (0 ≤ s 6 l 9 ∧ s 6 l 9 ≤ M + 1) ∧ ∀ m, m < 121 → -1 ≤ s 4 (400 + l) m ∧ s 4 (400 + l) m ≤ 1000000
def GU (s : xS) (n M : Nat) : Prop := ∀ l, l < n → ∀ m : Nat, m < M → s 6 l 9 ≤ m → 0 ≤ s 4 (200 + (s 6 l 0).toNat) m
def GR (s : xS) (nf nr : Nat) : Prop := ∀ r, r < nr → (0 ≤ s 11 r 2 ∧ s 11 r 2 < nf) ∧ (s 11 r 0 = 0 ∨ s 11 r 0 = 1) ∧ (0 ≤ s 11 r 3 ∧ s 11 r 3 ≤ 2) ∧ (0 ≤ s 11 r 4 ∧ s 11 r 4 ≤ 3600)
def GM (s : xS) : Prop := (50 ≤ s 0 0 7 ∧ s 0 0 7 ≤ 200) ∧ ∀ m, m < 121 → (50 ≤ s 4 0 m ∧ s 4 0 m ≤ 200) ∧ (0 ≤ s 4 100 m ∧ s 4 100 m ≤ 10000000)
def GZ (s : xS) (nf M : Nat) : Prop := ∀ m, m < 121 → M < m → s 4 100 m = 0 ∧ ∀ f, f < nf → s 4 (300 + f) m = 0
/-- the bills of a lease -/
def LH (s : xS) (n M l : Nat) : Prop := ∀ m, m < 121 → ((m < M ∧ runb s l m ≠ 0) → s 9 l m = 1 ∧ ∀ k, k < 4 → s 10 (200 * l + m) k = bl s n l m k) ∧ (¬ (m < M ∧ runb s l m ≠ 0) → s 9 l m = 0)
/-- the accounts of a lease -/
def LC (s : xS) (D P : Int) (l : Nat) : Prop := s 6 l 5 = TT s l - s 6 l 7 ∧ (0 ≤ s 6 l 7 ∧ s 6 l 7 ≤ P) ∧ (-D ≤ s 6 l 6 ∧ s 6 l 6 ≤ D)
def LN (s : xS) (M l : Nat) : Prop := (0 ≤ s 7 l 0 ∧ s 7 l 0 ≤ 3) ∧ (0 ≤ s 7 l 1 ∧ s 7 l 1 ≤ 1000000000000) ∧ (0 ≤ s 7 l 2 ∧ s 7 l 2 ≤ 1000000000000) ∧ (0 ≤ s 7 l 3 ∧ s 7 l 3 ≤ M)
def GO (s : xS) (n : Nat) : Prop := s 0 0 9 = -sumn (fun l => s 6 l 5 + s 6 l 6) n
/-- what doesn't live yet is as it will begin -/
def GD (s : xS) (nf n nr : Nat) : Prop := (∀ f, nf ≤ f → f < 8 → s 5 f 3 = 0 ∧ s 5 f 4 = 0 ∧ (∀ m, s 4 (200 + f) m = -1) ∧ ∀ m, s 4 (300 + f) m = 0) ∧ (∀ l, n ≤ l → l < 12 → s 6 l 5 = 0 ∧ s 6 l 6 = 0 ∧ (∀ k, k < 4 → s 7 l k = 0) ∧ (∀ m, s 9 l m = 0) ∧ ∀ m, s 4 (400 + l) m = -1) ∧ ∀ r, nr ≤ r → r < 60 → s 11 r 0 = 0 ∧ s 11 r 1 = 0
/-- all of the class's invariant that isn't a list -/
def GG (nf n nr M : Nat) (Bp D P : Int) (s : xS) : Prop := GF s nf M Bp ∧ GL s nf n M ∧ GU s n M ∧ GR s nf nr ∧ GM s ∧ GZ s nf M ∧ (∀ l, l < n → LH s n M l ∧ LC s D P l ∧ LN s M l) ∧ GO s n ∧ GD s nf n nr
/-- the cells that class and model have in common -/
def Cm (p i k : Nat) : Prop := match p with
  | 0 => i = 0 ∧ k = 8
  | 1 => k = 2
  | 4 => (200 ≤ i ∧ i < 208) ∨ (400 ≤ i ∧ i < 412)
  | 5 => k = 0 ∨ k = 3 ∨ k = 4 ∨ k = 5
  | 6 => k = 0 ∨ k = 5 ∨ k = 6 ∨ k = 8 ∨ k = 9
  | 7 => k < 4
  | 9 => True
  | 10 => k < 4 ∧ i ≠ 9999
  | 11 => k < 5
  | _ => False
def S0 (s u : xS) : Prop := ∀ p i k, Cm p i k → u p i k = s p i k
theorem S0.both {s u : xS} {p i k : Nat} {x : Int} (h : S0 s u) : S0 (su s p i k x) (su u p i k x) := fun p' i' k' hc => by
  rw [su_r, su_r, h p' i' k' hc]
theorem S0.cls {s u : xS} {p i k : Nat} {x : Int} (h : S0 s u) (hn : ¬ Cm p i k) : S0 (su s p i k x) u := fun p' i' k' hc => by
  rw [su_r, if_neg (fun e => hn (by rw [← e.1, ← e.2.1, ← e.2.2]; exact hc)), h p' i' k' hc]
theorem S0.mdl {s u : xS} {p i k : Nat} {x : Int} (h : S0 s u) (hn : ¬ Cm p i k) : S0 s (su u p i k x) := fun p' i' k' hc => by
  rw [su_r, if_neg (fun e => hn (by rw [← e.1, ← e.2.1, ← e.2.2]; exact hc)), h p' i' k' hc]
theorem S0.lps {f : Nat → xS → xS} {u : xS} (hf : ∀ j s, S0 s u → S0 (f j s) u) : ∀ (r i : Nat) (s : xS), S0 s u → S0 (lp f i r s) u := by
  intro r
  induction r with
  | zero => exact fun _ _ h => h
  | succ r ih => exact fun i s h => ih (i + 1) (f i s) (hf i s h)
theorem S0.lpm {f : Nat → xS → xS} {s : xS} (hf : ∀ j u, S0 s u → S0 s (f j u)) : ∀ (r i : Nat) (u : xS), S0 s u → S0 s (lp f i r u) := by
  intro r
  induction r with
  | zero => exact fun _ _ h => h
  | succ r ih => exact fun i u h => ih (i + 1) (f i u) (hf i u h)
/-- the cells that each has in its own way -/
def S1 (s u : xS) (M n : Nat) : Prop := (∀ m, m ≤ M → u 21 10 m = s 4 0 m) ∧ u 21 10 (M + 1) = s 0 0 7 ∧ u 20 0 11 = s 4 100 M ∧ (∀ f, f < 8 → u 21 8 f = s 4 (300 + f) M) ∧ ∀ l, l < n → u 21 22 l = if s 6 l 1 = -1 then 1000 else s 6 l 1
def AD (s u : xS) (M nf : Nat) : Prop := ∀ f, f < nf → okg (s 4 (200 + f)) (u 21 4 f) M ∧ u 21 4 f ≤ M
/-- two loops side by side -/
theorem lp_rel {R : Nat → xS → xS → Prop} {f g : Nat → xS → xS} : ∀ (r i : Nat) (s u : xS), (∀ j s u, i ≤ j → j < i + r → R j s u → R (j + 1) (f j s) (g j u)) → R i s u → R (i + r) (lp f i r s) (lp g i r u) := by
  intro r
  induction r with
  | zero => exact fun i s u _ h => h
  | succ r ih =>
    intro i s u hf h
    have := ih (i + 1) (f i s) (g i u) (fun j s u h1 h2 => hf j s u (by omega) (by omega)) (hf i s u (Nat.le_refl _) (by omega) h)
    rw [show i + 1 + r = i + (r + 1) by omega] at this
    exact this
theorem lp_inv {R : Nat → xS → Prop} {f : Nat → xS → xS} : ∀ (r i : Nat) (s : xS), (∀ j s, i ≤ j → j < i + r → R j s → R (j + 1) (f j s)) → R i s → R (i + r) (lp f i r s) := by
  intro r
  induction r with
  | zero => exact fun i s _ h => h
  | succ r ih =>
    intro i s hf h
    have := ih (i + 1) (f i s) (fun j s h1 h2 => hf j s (by omega) (by omega)) (hf i s (Nat.le_refl _) (by omega) h)
    rw [show i + 1 + r = i + (r + 1) by omega] at this
    exact this
/-- what bills are made of is the same -/
def St (s s' : xS) : Prop := s' 4 = s 4 ∧ s' 5 = s 5 ∧ ∀ j, s' 6 j 0 = s 6 j 0 ∧ s' 6 j 1 = s 6 j 1 ∧ s' 6 j 8 = s 6 j 8 ∧ s' 6 j 9 = s 6 j 9
theorem St.rf {s : xS} : St s s := ⟨rfl, rfl, fun _ => ⟨rfl, rfl, rfl, rfl⟩⟩
theorem St.tr {a b c : xS} (h : St a b) (g : St b c) : St a c := ⟨g.1.trans h.1, g.2.1.trans h.2.1, fun j => ⟨(g.2.2 j).1.trans (h.2.2 j).1, (g.2.2 j).2.1.trans (h.2.2 j).2.1, (g.2.2 j).2.2.1.trans (h.2.2 j).2.2.1, (g.2.2 j).2.2.2.trans (h.2.2 j).2.2.2⟩⟩
theorem St.runb {s s' : xS} (h : St s s') {l : Nat} {m : Int} : runb s' l m = runb s l m := by
  unfold _root_.Jvm.Pilot.CRentStreamLaw_law_r6381_6d719a.runb
  rw [(h.2.2 l).2.1, (h.2.2 l).2.2.2]
theorem St.useb {s s' : xS} (h : St s s') {l m : Nat} : useb s' l m = useb s l m := by
  unfold _root_.Jvm.Pilot.CRentStreamLaw_law_r6381_6d719a.useb
  rw [h.runb, (h.2.2 l).1, h.1]
/-- a bill's numbers rest on few cells -/
theorem bl_congr {s s' : xS} {n l m : Nat} (hl : l < n) (h6 : ∀ j, j < n → s' 6 j 0 = s 6 j 0) (hr : ∀ j, j < n → runb s' j m = runb s j m) (h8 : s' 6 l 8 = s 6 l 8) (h5 : ∀ j, j < n → s' 5 (s 6 j 0).toNat 0 = s 5 (s 6 j 0).toNat 0) (hu : ∀ j, j < n → runb s j m ≠ 0 → s' 4 (200 + (s 6 j 0).toNat) m = s 4 (200 + (s 6 j 0).toNat) m) (h0 : s' 4 0 m = s 4 0 m) (hp : s' 4 (300 + (s 6 l 0).toNat) m = s 4 (300 + (s 6 l 0).toNat) m) (hc : s' 4 100 m = s 4 100 m) (ht : incn (s' 4 (400 + l)) (m + 1) = incn (s 4 (400 + l)) (m + 1)) (k : Nat) : bl s' n l m k = bl s n l m k := by
  have e0 : cBill s' l m 0 = cBill s l m 0 := by
    show s' 6 l 8 * s' 4 0 m / 100 = s 6 l 8 * s 4 0 m / 100
    rw [h8, h0]
  have e1 : cBill s' l m 1 = cBill s l m 1 := by
    show low (s' 6 l 8 * s' 4 0 m / 100) (s' 4 (300 + (s' 6 l 0).toNat) m) = low (s 6 l 8 * s 4 0 m / 100) (s 4 (300 + (s 6 l 0).toNat) m)
    rw [h8, h0, h6 l hl, hp]
  have e2 : cBill s' l m 2 = cBill s l m 2 := by
    show ben (s' 6 l 8 * s' 4 0 m / 100 - low (s' 6 l 8 * s' 4 0 m / 100) (s' 4 (300 + (s' 6 l 0).toNat) m)) (incn (s' 4 (400 + l)) (m + 1)) = ben (s 6 l 8 * s 4 0 m / 100 - low (s 6 l 8 * s 4 0 m / 100) (s 4 (300 + (s 6 l 0).toNat) m)) (incn (s 4 (400 + l)) (m + 1))
    rw [h8, h0, h6 l hl, hp, ht]
  have e3 : HS n (s' 4 100 m) (wrS s' m) (fun j => useb s' j m) l = HS n (s 4 100 m) (wrS s m) (fun j => useb s j m) l := by
    rw [hc]
    refine HS_congr (fun j hj => ?_) (fun j hj => ?_) hl
    · unfold wrS
      rw [hr j hj, h6 j hj, h5 j hj]
    · show useb s' j m = useb s j m
      unfold useb
      rw [hr j hj, h6 j hj]
      by_cases c : runb s j m = 0
      · rw [if_pos c, if_pos c]
      · rw [if_neg c, if_neg c, hu j hj c]
  unfold bl
  split
  · exact e0
  · exact e1
  · exact e2
  · exact e3
theorem St.bl {s s' : xS} (h : St s s') {n l m : Nat} (hl : l < n) (k : Nat) : bl s' n l m k = bl s n l m k := bl_congr hl (fun j _ => (h.2.2 j).1) (fun j _ => h.runb) (h.2.2 l).2.2.1 (fun j _ => by rw [h.2.1]) (fun j _ _ => by rw [h.1]) (by rw [h.1]) (by rw [h.1]) (by rw [h.1]) (by rw [h.1]) k
theorem LH.of {s s' : xS} {n M l : Nat} (h : LH s n M l) (hS : St s s') (hl : l < n) (h9 : s' 9 l = s 9 l) (h10 : ∀ m, m < 121 → s' 10 (200 * l + m) = s 10 (200 * l + m)) : LH s' n M l := fun m hm => by
  rw [hS.runb, h9, h10 m hm]
  refine ⟨fun c => ⟨((h m hm).1 c).1, fun k hk => ?_⟩, (h m hm).2⟩
  rw [hS.bl hl]
  exact ((h m hm).1 c).2 k hk
theorem TT.of {s s' : xS} {l : Nat} (h9 : s' 9 l = s 9 l) (h10 : ∀ m, m < 121 → s' 10 (200 * l + m) = s 10 (200 * l + m)) : TT s' l = TT s l := sumn_congr 121 (fun m hm => by
  unfold bT
  rw [h9, h10 m hm])
theorem LC.of {s s' : xS} {D P : Int} {l : Nat} (h : LC s D P l) (h6 : s' 6 l = s 6 l) (h9 : s' 9 l = s 9 l) (h10 : ∀ m, m < 121 → s' 10 (200 * l + m) = s 10 (200 * l + m)) : LC s' D P l := by
  unfold LC at h ⊢
  rw [TT.of h9 h10, h6]
  exact h
theorem LN.of {s s' : xS} {M l : Nat} (h : LN s M l) (h7 : s' 7 l = s 7 l) : LN s' M l := by
  unfold LN at h ⊢
  rw [h7]
  exact h
section S0R
variable {s u : xS}
theorem S0.r6 (h : S0 s u) (l k : Nat) (hk : k = 0 ∨ k = 5 ∨ k = 6 ∨ k = 8 ∨ k = 9) : u 6 l k = s 6 l k := h 6 l k hk
theorem S0.r5 (h : S0 s u) (f k : Nat) (hk : k = 0 ∨ k = 3 ∨ k = 4 ∨ k = 5) : u 5 f k = s 5 f k := h 5 f k hk
theorem S0.r7 (h : S0 s u) (l k : Nat) (hk : k < 4) : u 7 l k = s 7 l k := h 7 l k hk
theorem S0.r9 (h : S0 s u) (l k : Nat) : u 9 l k = s 9 l k := h 9 l k trivial
theorem S0.r10 (h : S0 s u) {i k : Nat} (hi : i ≠ 9999) (hk : k < 4) : u 10 i k = s 10 i k := h 10 i k ⟨hk, hi⟩
theorem S0.r11 (h : S0 s u) (r k : Nat) (hk : k < 5) : u 11 r k = s 11 r k := h 11 r k hk
theorem S0.ru (h : S0 s u) {f : Nat} (hf : f < 8) : u 4 (200 + f) = s 4 (200 + f) := funext fun m => h 4 (200 + f) m (Or.inl ⟨by omega, by omega⟩)
theorem S0.rt (h : S0 s u) {l : Nat} (hl : l < 12) : u 4 (400 + l) = s 4 (400 + l) := funext fun m => h 4 (400 + l) m (Or.inr ⟨by omega, by omega⟩)
theorem S0.rd (h : S0 s u) : u 0 0 8 = s 0 0 8 := h 0 0 8 ⟨rfl, rfl⟩
theorem S0.rn (h : S0 s u) (k : Nat) : u 1 k 2 = s 1 k 2 := h 1 k 2 rfl
end S0R
