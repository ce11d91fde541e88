/-! ===== the start: cells one by one ===== -/
/-- a role, an address, a cell -/
abbrev xC : Type := Nat × Nat × Nat × xE
def Rw (t : xT) (l : List xC) : Prop := (∀ x ∈ l, t x.2.2.1 = some x.2.2.2) ∧ (l.map fun x => x.2.2.1).Nodup
section RAW
variable {t t' : xT} {l : List xC} {p i p2 i2 a b q : Nat} {e e' e1 e2 : xE}
theorem Rw.add (h : Rw t l) (hq : t q = none) (p i : Nat) : Rw (xup t q e) ((p, i, q, e) :: l) := by
  have hne : ∀ x ∈ l, x.2.2.1 ≠ q := fun x hx g => by
    have := h.1 x hx
    rw [g, hq] at this
    cases this
  refine ⟨fun x hx => ?_, ?_⟩
  · rcases List.mem_cons.mp hx with rfl | hx
    · exact xup_s _ _ _
    · rw [xup_n _ _ (hne x hx)]
      exact h.1 x hx
  · rw [List.map_cons, List.nodup_cons]
    refine ⟨fun g => ?_, h.2⟩
    obtain ⟨x, hx, g⟩ := List.mem_map.mp g
    exact hne x hx g
theorem Rw.set (h : Rw t ((p, i, a, e) :: l)) : Rw (xup t a e') ((p, i, a, e') :: l) := by
  have hn := h.2
  rw [List.map_cons, List.nodup_cons] at hn
  refine ⟨fun x hx => ?_, ?_⟩
  · rcases List.mem_cons.mp hx with rfl | hx
    · exact xup_s _ _ _
    · rw [xup_n _ _ (fun g => hn.1 (List.mem_map.mpr ⟨x, hx, g⟩))]
      exact h.1 x (List.mem_cons_of_mem _ hx)
  · rw [List.map_cons, List.nodup_cons]
    exact hn
theorem Rw.perm {l' : List xC} (h : Rw t l) (hp : l.Perm l') : Rw t l' := ⟨fun x hx => h.1 x (hp.mem_iff.mpr hx), (hp.map _).nodup_iff.mp h.2⟩
theorem Rw.swap {x y : xC} (h : Rw t (x :: y :: l)) : Rw t (y :: x :: l) := h.perm (List.Perm.swap y x l)
theorem Rw.rot {x y z : xC} (h : Rw t (x :: y :: z :: l)) : Rw t (z :: x :: y :: l) := h.perm ((List.Perm.cons x (List.Perm.swap z y l)).trans (List.Perm.swap z x (y :: l)))
theorem Rw.call (h : Rw t ((p, i, b, e) :: l)) (hq : t a = none) (ho : ∀ x, x ≠ b → x ≠ a → t' x = t x) (hb : t' b = some e1) (ha : t' a = some e2) (p2 i2 : Nat) : Rw t' ((p, i, b, e1) :: (p2, i2, a, e2) :: l) := by
  have h1 := ((h.add (e := e2) hq p2 i2).swap).set (e' := e1)
  refine ⟨fun x hx => ?_, h1.2⟩
  have hn := h1.2
  rw [List.map_cons, List.nodup_cons, List.map_cons, List.nodup_cons] at hn
  rcases List.mem_cons.mp hx with rfl | hx
  · exact hb
  · rcases List.mem_cons.mp hx with rfl | hx
    · exact ha
    · rw [ho _ (fun g => hn.1 (List.mem_cons_of_mem _ (List.mem_map.mpr ⟨x, hx, g⟩))) (fun g => hn.2.1 (List.mem_map.mpr ⟨x, hx, g⟩))]
      exact h.1 x (List.mem_cons_of_mem _ hx)
theorem Rw.pF {K : xT → Prop} {ci k : Nat} {fs : List Value} {v : Value} (h : Rw t ((p, i, a, .inr (ci, fs)) :: l)) (hk : k < fs.length) (kk : ∀ t', Rw t' ((p, i, a, .inr (ci, fs.set k v)) :: l) → K t') : xpF t a ci k v K := ⟨fs, h.1 _ List.mem_cons_self, hk, kk _ h.set⟩
theorem Rw.nw {K : Nat → xT → Prop} {n c s : Nat} (h : Rw t l) (p i : Nat) (hc : 1 ≤ c) (hs : n ≤ s) (kk : ∀ q t', Rw t' ((p, i, q, e) :: l) → K q t') : xnw e n t c s K := ⟨hc, hs, fun q hq => kk q _ (h.add hq p i)⟩
/-- a list is made -/
theorem Rw.lst {K : xT → Prop} {E : Nat → Nat} {v1 : Value} {z : Int32} (h : Rw t ((p, i, a, .inr (10, [.int 0, v1, .int 0])) :: l)) (kk : ∀ t', Rw t' ((p, i, a, .inr (10, [.int 0, .ref (E 0), .int 0])) :: l) → K t') : V_Jx4a65c_init_da8c8_0 E K a t := by
  unfold V_Jx4a65c_init_da8c8_0 V_Jxc12de_init_da8c8_0
  exact Rw.pF h (Nat.le_of_ble_eq_true rfl) (fun t' h => Rw.pF h (Nat.le_of_ble_eq_true rfl) (fun t' h => kk t' h))
/-- the class's object is made -/
theorem Rw.cls {K : xT → Prop} {E : Nat → Nat} {a0 o : Nat} (h : Rw t ((o, 0, a0, .inr (7, [.null, .null, .null, .null, .null, .null, .null, .int 0, .int 0, .long 0])) :: l))
    (kk : ∀ t' l0 l1 l2 x0 y0 x1 y1 b0 c0 s0 f0 f1 g, (∀ j, j < 121 → f0 j = I 100) → (∀ j, j < 121 → f1 j = I 0) → (∀ j : Nat, j < 16 → g j = I 0) → Rw t' ((o, 0, a0, .inr (7, [.ref l0, .ref l1, .ref l2, .ref x0, .ref x1, .ref b0, .ref s0, .int 100, .int 0, .long 0])) :: (o + 10, 9999, s0, .inr (0, [.int 0, .int 0, .int 0, .int 0])) :: (o + 12, 0, b0, .inr (9, [.ref c0, .int 0, .int 0, .int 0])) :: (o + 13, 0, c0, .inl (3, 16, .inl g)) :: (o + 3, 100, x1, .inr (4, [.ref y1])) :: (o + 4, 100, y1, .inl (0, 121, .inl f1)) :: (o + 3, 0, x0, .inr (4, [.ref y0])) :: (o + 4, 0, y0, .inl (0, 121, .inl f0)) :: (o + 1, 2, l2, .inr (10, [.int 0, .ref (E 0), .int 0])) :: (o + 1, 1, l1, .inr (10, [.int 0, .ref (E 0), .int 0])) :: (o + 1, 0, l0, .inr (10, [.int 0, .ref (E 0), .int 0])) :: l) → K t') : V_X7_init_0 E K a0 t 20 400 := by
  unfold V_X7_init_0
  refine Rw.nw h (o + 1) 0 (by omega) (by omega) (fun l0 t h => ?_)
  refine Rw.lst (z := 0) h (fun t h => Rw.pF h.swap (Nat.le_of_ble_eq_true rfl) (fun t h => ?_))
  refine Rw.nw h (o + 1) 1 (by omega) (by omega) (fun l1 t h => ?_)
  refine Rw.lst (z := 0) h (fun t h => Rw.pF h.swap (Nat.le_of_ble_eq_true rfl) (fun t h => ?_))
  refine Rw.nw h (o + 1) 2 (by omega) (by omega) (fun l2 t h => ?_)
  refine Rw.lst (z := 0) h (fun t h => Rw.pF h.swap (Nat.le_of_ble_eq_true rfl) (fun t h => ?_))
  refine Rw.nw h (o + 3) 0 (by omega) (by omega) (fun x0 t h => ?_)
  refine ⟨1, 121, by omega, by omega, sp_mInit (v := 100) (h.1 _ List.mem_cons_self) (by omega) (by omega) (fun y0 t' hq _ ho hx ⟨f0, hf0, hv0⟩ => ?_)⟩
  have h' := h.call hq ho hx hf0 (o + 4) 0
  clear h
  have h := h'
  clear h' ho hx hf0 hq
  refine Rw.pF h.rot (Nat.le_of_ble_eq_true rfl) (fun t h => ?_)
  refine Rw.nw h (o + 3) 100 (by omega) (by omega) (fun x1 t h => ?_)
  refine ⟨1, 121, by omega, by omega, sp_mInit (v := 0) (h.1 _ List.mem_cons_self) (by omega) (by omega) (fun y1 t' hq _ ho hx ⟨f1, hf1, hv1⟩ => ?_)⟩
  have h' := h.call hq ho hx hf1 (o + 4) 100
  clear h
  have h := h'
  clear h' ho hx hf1 hq
  refine Rw.pF h.rot (Nat.le_of_ble_eq_true rfl) (fun t h => ?_)
  refine Rw.nw h (o + 12) 0 (by omega) (by omega) (fun b0 t h => ?_)
  refine ⟨1, 16, by omega, by omega, ?_⟩
  unfold V_J4_init_da8c8_0
  refine ⟨1, 16, by omega, by omega, ?_⟩
  unfold V_J5_init_d00df_0
  refine ⟨fun g => absurd g (by decide), fun _ => ⟨by decide, by decide, by decide, by decide, fun c0 hq => ?_⟩⟩
  have h' := (h.add hq (o + 13) 0 (e := .inl (3, (16 : Int32).toNatClampNeg, .inl (fun _ => 0)))).swap
  clear h
  have h := h'
  clear h' hq
  refine Rw.pF h (Nat.le_of_ble_eq_true rfl) (fun t h => Rw.pF h (Nat.le_of_ble_eq_true rfl) (fun t h => ?_))
  refine Rw.pF h.rot (Nat.le_of_ble_eq_true rfl) (fun t h => ?_)
  refine Rw.nw h (o + 10) 9999 (by omega) (by omega) (fun s0 t h => ?_)
  unfold V_X0_init_0
  refine Rw.pF h (Nat.le_of_ble_eq_true rfl) (fun t h => Rw.pF h (Nat.le_of_ble_eq_true rfl) (fun t h => Rw.pF h (Nat.le_of_ble_eq_true rfl) (fun t h => Rw.pF h (Nat.le_of_ble_eq_true rfl) (fun t h => ?_))))
  refine Rw.pF h.swap (Nat.le_of_ble_eq_true rfl) (fun t h => Rw.pF h (Nat.le_of_ble_eq_true rfl) (fun t h => Rw.pF h (Nat.le_of_ble_eq_true rfl) (fun t h => Rw.pF h (Nat.le_of_ble_eq_true rfl) (fun t h => ?_))))
  exact kk t l0 l1 l2 x0 y0 x1 y1 b0 c0 s0 f0 f1 (fun _ => 0) hv0 hv1 (fun _ _ => rfl) h
end RAW
