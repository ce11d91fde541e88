/-! ===== the rows that read and write the picture ===== -/
theorem xP1 {D : va_G} {cl : List vw_C} {q : Nat × va_E} {H : Heap} (h : va_at D cl q H) : va_P D cl [q] H := by
  intro k q' hk
  have hz : k < 1 := (List.getElem?_eq_some_iff.mp hk).1
  rw [show k = 0 by omega] at hk
  cases hk
  exact h
theorem xCl_lt {ci : Nat} {q : vw_C} (h : xCl[ci]? = some q) : ci < 11 := (List.getElem?_eq_some_iff.mp h).1
/-- a field of the class number ci, its place k, by the entry idx of the class own: to be read -/
def xFL (own : String) (idx ci k : Nat) : Prop := ∃ (C : String) (T : u_T) (N : Nat) (ref : String), xCl[ci]? = some (C, T, N) ∧ (∀ w ∈ u_ws C T N, w ∈ xBW) ∧ k < N ∧ Cond.fieldLink own idx ref (T k).2.1 (T k).2.2.1 ∈ xBW ∧ (ref = (T k).1 ∨ Cond.sameField ref (T k).1 (T k).2.1 (T k).2.2.1 ∈ xBW)
/-- .. to be written (fin: a final field in its constructor) -/
def xFP (own : String) (idx ci k : Nat) (ty : FieldType) (fin : Bool) : Prop := ∃ (C : String) (T : u_T) (N : Nat) (ref : String) (ty0 : Nat → FieldType), xCl[ci]? = some (C, T, N) ∧ (∀ w ∈ u_ws C T N, w ∈ xBW) ∧ k < N ∧ Cond.fieldLink own idx ref (T k).2.1 (T k).2.2.1 ∈ xBW ∧ (ref = (T k).1 ∨ Cond.sameField ref (T k).1 (T k).2.1 (T k).2.2.1 ∈ xBW) ∧
  (∀ k, k < N → parseFieldDescriptor (T k).2.2.1 = some (ty0 k)) ∧ (∀ a, a < N → ∀ b, b < N → a ≠ b → (T a).2.1 ≠ (T b).2.1) ∧ (T k).2.2.2 = fin ∧ parseFieldDescriptor (T k).2.2.1 = some ty ∧ (fin = true → (T k).1 = own)
/-- a class that can be made: its number, its fields as they begin -/
def xNL (own : String) (idx ci : Nat) (fs : List Value) : Prop := ∃ (C : String) (T : u_T) (N : Nat) (ty0 : Nat → FieldType), xCl[ci]? = some (C, T, N) ∧ (∀ w ∈ u_ws C T N, w ∈ xBW) ∧ Cond.classLink own idx C ∈ xBW ∧ Cond.instantiable C N ∈ xBW ∧ Cond.initialized C ∈ xBW ∧ (∀ k, k < N → parseFieldDescriptor (T k).2.2.1 = some (ty0 k)) ∧ (∀ j, j < N → defaultValue (ty0 j) = vp_V fs j) ∧ N = fs.length
theorem xsame {s : State} {args : Array Value} {ref o n d : String} (hw : ∀ w ∈ xBW, w.before args s = true) (h : ref = o ∨ Cond.sameField ref o n d ∈ xBW) : ∀ x, s.fieldFound? o n d = some x → s.fieldFound? ref n d = some x := by
  intro x hx
  rcases h with h | h
  · rw [h]; exact hx
  · exact u_same (hw _ h) x hx
theorem xat_arr {G : xG} {s : State} {a k : Nat} {x : vp_A} {H : Heap} (hk : k < 7) (h : H[a]? = some (vp_cell (G.2.1 k) x)) (hA : xA G a) : xat G s a (.inl (k, x)) H := ⟨fun _ => ⟨h, hA⟩, fun q => absurd q (by omega), fun q => absurd q (by omega), fun q => absurd q (by omega)⟩
theorem xat_obj {G : xG} {s : State} {a ci : Nat} {fs : List Value} {H : Heap} (hk : ci < 11) (h : va_at G.1 xCl (a, .inr (ci, fs)) H) (hA : xA G a) : xat G s a (.inr (ci, fs)) H := ⟨fun _ => ⟨h, hA⟩, fun q => absurd q (by omega)⟩
theorem xcf {args : Array Value} {s : State} {own C : String} {T : u_T} {N k : Nat} {c : ClassId} {cf fi : Nat} {kf : Class} {f : Field} {Ts : List Cond} (hts : ∀ w ∈ Ts, w.before args s = true) (hin : ∀ w ∈ u_ws C T N, w ∈ Ts) (hk : k < N) (hfin : (T k).2.2.2 = true) (hdecl : (T k).1 = own) (hown : s.vm.findClass own = some c) (hi : s.fieldFound? (T k).1 (T k).2.1 (T k).2.2.1 = some (cf, kf, fi, f)) : c = cf := by
  have h := hts _ (hin _ (u_in_lay hk))
  unfold u_lay at h
  rw [if_pos hfin] at h
  obtain ⟨_, _, c', _, _, _, -, -, hf', -, -, -, hown2, -⟩ := Cond.laysFinal_spec h
  have e1 : c' = cf := by have := hi.symm.trans hf'; simp at this; exact this.1.symm
  rw [hdecl] at hown2
  rw [← e1]; exact Option.some.inj (hown.symm.trans hown2)
section XHEAP
variable {Γ : xΓ} {κ : xκ} {pc : Nat} {L : List (Nat × Value)} {rest : List Value} {τ : xT} {rc rs : Nat} {a : Nat}
theorem x_get {ci k idx : Nat} {fs : List Value} {v : Value} (d : decode κ.2.1 pc = .ok (.getfield idx, 3)) (w : xFL κ.1 idx ci k) (hτ : τ a = some (.inr (ci, fs))) (hv : fs[k]? = some v) (kk : xX Γ κ (pc + 3) L (v :: rest) τ rc rs) : xX Γ κ pc L (.ref a :: rest) τ rc rs := by
  intro ok H locs ls cs ss hW hS h1 h2 h
  obtain ⟨C, T, N, ref, hc, hin, hk, hl, hs⟩ := w
  have hci := xCl_lt hc
  exact va_get ok.1 ok.2.1 ok.2.2.2.2.1 hin ok.2.2.2.1 ok.2.2.2.2.2.1.1 (xP1 ((hW a _ hτ).1 (by omega)).1) 0 rfl hc k hk (ok.2.2.2.2.1 _ hl) (xsame ok.2.2.2.2.1 hs) hv d (kk ok H locs ls cs ss hW hS h1 h2 h)
theorem x_put {ci k idx : Nat} {fs : List Value} {v : Value} {ty : FieldType} (d : decode κ.2.1 pc = .ok (.putfield idx, 3)) (w : xFP κ.1 idx ci k ty false) (hτ : τ a = some (.inr (ci, fs))) (hn : narrow ty v = v) (hf : fits ty v = true) (hl : k < fs.length) (kk : xX Γ κ (pc + 3) L rest (xup τ a (.inr (ci, fs.set k v))) rc rs) : xX Γ κ pc L (v :: .ref a :: rest) τ rc rs := by
  intro ok H locs ls cs ss hW hS h1 h2 h
  obtain ⟨C, T, N, ref, ty0, hc, hin, hk, hlk, hs, hty, hnm, hfin, hd, -⟩ := w
  have hci := xCl_lt hc
  obtain ⟨hat, hA⟩ := (hW a _ hτ).1 (by omega)
  have hK := ok.2.2.2.2.2.1.1
  have hts := ok.2.2.2.2.1
  have hap := va_apart (own := κ.1) hts hin ty0 hty hnm hK hc
  obtain ⟨r, e1, cell, q1, q2, q3, q4⟩ := hat
  have hr : r = (C, T, N) := Option.some.inj (e1.symm.trans hc)
  subst hr
  obtain ⟨hSl, hfc, kC, hkC, hkind⟩ := hK.1 ci _ hc
  obtain ⟨cf, kf, fi, f, hi, hsl⟩ := hSl k hk
  have hlay := hts _ (hin _ (u_in_lay hk))
  unfold u_lay at hlay
  rw [if_neg (by rw [hfin]; decide)] at hlay
  have hst := (u_facts hfc hkC (u_lays hts hin hk) hi).1
  have h6 := u_store hfc hkC hkind hlay hi hd hn hf
  refine W.putK ok.1 ok.2.1 (f := f) ⟨ok.2.2.2.1, hts _ hlk, ⟨_, _, _, xsame hts hs _ hi⟩, hst⟩ (by rw [q2]; exact h6) q1 q3 (by rw [hsl]; exact k2_hasslot (q4 k hk)) rfl rfl d fun H' e1 e2 e3 => ?_
  rw [hsl] at e1 ⊢
  refine kk ok H' _ ls cs ss (hW.set (xat_obj hci ⟨_, hc, t_OB.to (V := updV (vp_V fs) k v) ⟨_, e1, q2, q3, t_set q4 hap hk v⟩ (fun j _ => vp_updV_set hl v j)⟩ hA) e3) (hS.put e2 e3 hA) h1 h2 h
theorem x_putF {ci k idx : Nat} {fs : List Value} {v : Value} {ty : FieldType} (d : decode κ.2.1 pc = .ok (.putfield idx, 3)) (w : xFP κ.1 idx ci k ty true) (hin2 : (gM Γ).name = "<init>") (hτ : τ a = some (.inr (ci, fs))) (hn : narrow ty v = v) (hf : fits ty v = true) (hl : k < fs.length) (kk : xX Γ κ (pc + 3) L rest (xup τ a (.inr (ci, fs.set k v))) rc rs) : xX Γ κ pc L (v :: .ref a :: rest) τ rc rs := by
  intro ok H locs ls cs ss hW hS h1 h2 h
  obtain ⟨C, T, N, ref, ty0, hc, hin, hk, hlk, hs, hty, hnm, hfin, hd, hdecl⟩ := w
  have hci := xCl_lt hc
  obtain ⟨hat, hA⟩ := (hW a _ hτ).1 (by omega)
  have hK := ok.2.2.2.2.2.1.1
  have hts := ok.2.2.2.2.1
  have hap := va_apart (own := κ.1) hts hin ty0 hty hnm hK hc
  obtain ⟨r, e1, cell, q1, q2, q3, q4⟩ := hat
  have hr : r = (C, T, N) := Option.some.inj (e1.symm.trans hc)
  subst hr
  obtain ⟨hSl, hfc, kC, hkC, hkind⟩ := hK.1 ci _ hc
  obtain ⟨cf, kf, fi, f, hi, hsl⟩ := hSl k hk
  have hst := (u_facts hfc hkC (u_lays hts hin hk) hi).1
  have h6 := u_fits hfc hkC hkind (u_lays hts hin hk) hi hd hn hf
  have hcf : (gm Γ).cls = cf := by
    have hy := hdecl rfl
    exact xcf hts hin hk hfin hy ok.2.2.2.1 hi
  refine W.putFinK ok.1 ok.2.1 ok.2.2.2.1 (hts _ hlk) (xsame hts hs _ hi) hst hcf hin2 (by rw [q2]; exact h6) q1 q3 (by rw [hsl]; exact k2_hasslot (q4 k hk)) rfl rfl d fun H' e1 e2 e3 => ?_
  rw [hsl] at e1 ⊢
  refine kk ok H' _ ls cs ss (hW.set (xat_obj hci ⟨_, hc, t_OB.to (V := updV (vp_V fs) k v) ⟨_, e1, q2, q3, t_set q4 hap hk v⟩ (fun j _ => vp_updV_set hl v j)⟩ hA) e3) (hS.put e2 e3 hA) h1 h2 h
/-- a String's own fields -/
theorem x_strV {idx v : Nat} {c : Int32} (d : decode κ.2.1 pc = .ok (.getfield idx, 3)) (w : Cond.fieldLink κ.1 idx "java/lang/String" "value" "[B" ∈ xBW) (hτ : τ a = some (.inr (11, [.ref v, .int c]))) (kk : xX Γ κ (pc + 3) L (.ref v :: rest) τ rc rs) : xX Γ κ pc L (.ref a :: rest) τ rc rs := by
  intro ok H locs ls cs ss hW hS h1 h2 h
  obtain ⟨-, v', c', e, ⟨cf, kf, fi, f, cell, q1, q2, q3, q4, q5, -⟩, -⟩ := (hW a _ hτ).2 rfl
  cases e
  exact W.getf ok.1 ok.2.1 ok.2.2.2.1 (ok.2.2.2.2.1 _ w) q1 q2 q3 q4 q5 rfl rfl d (kk ok H locs ls cs ss hW hS h1 h2 h)
theorem x_strC {idx v : Nat} {c : Int32} (d : decode κ.2.1 pc = .ok (.getfield idx, 3)) (w : Cond.fieldLink κ.1 idx "java/lang/String" "coder" "B" ∈ xBW) (hτ : τ a = some (.inr (11, [.ref v, .int c]))) (kk : xX Γ κ (pc + 3) L (.int c :: rest) τ rc rs) : xX Γ κ pc L (.ref a :: rest) τ rc rs := by
  intro ok H locs ls cs ss hW hS h1 h2 h
  obtain ⟨-, v', c', e, -, ⟨cf, kf, fi, f, cell, q1, q2, q3, q4, q5, -⟩⟩ := (hW a _ hτ).2 rfl
  cases e
  exact W.getf ok.1 ok.2.1 ok.2.2.2.1 (ok.2.2.2.2.1 _ w) q1 q2 q3 q4 q5 rfl rfl d (kk ok H locs ls cs ss hW hS h1 h2 h)
theorem x_iald {n : Nat} {f : Nat → Int32} {i : Int32} (d : decode κ.2.1 pc = .ok (.iaload, 1)) (hτ : τ a = some (.inl (0, n, .inl f))) (hin : vp_in i n) (kk : xX Γ κ (pc + 1) L (.int (f i.toNatClampNeg) :: rest) τ rc rs) : xX Γ κ pc L (.int i :: .ref a :: rest) τ rc rs := by
  intro ok H locs ls cs ss hW hS h1 h2 h
  exact va_iald ok.1 ok.2.1 ok.2.2.2.2.2.1.1 (xP1 (q := (a, .inl ((gG Γ).2.1 0, n, .inl f))) ((hW a _ hτ).1 (by decide)).1) 0 0 rfl rfl hin d (kk ok H locs ls cs ss hW hS h1 h2 h)
theorem x_lald {n : Nat} {f : Nat → Int64} {i : Int32} (d : decode κ.2.1 pc = .ok (.laload, 1)) (hτ : τ a = some (.inl (1, n, .inr (.inl f)))) (hin : vp_in i n) (kk : xX Γ κ (pc + 1) L (.long (f i.toNatClampNeg) :: rest) τ rc rs) : xX Γ κ pc L (.int i :: .ref a :: rest) τ rc rs := by
  intro ok H locs ls cs ss hW hS h1 h2 h
  exact va_lald ok.1 ok.2.1 ok.2.2.2.2.2.1.1 (xP1 (q := (a, .inl ((gG Γ).2.1 1, n, .inr (.inl f)))) ((hW a _ hτ).1 (by decide)).1) 0 1 rfl rfl hin d (kk ok H locs ls cs ss hW hS h1 h2 h)
theorem x_bald3 {n : Nat} {f : Nat → Int32} {i : Int32} (d : decode κ.2.1 pc = .ok (.baload, 1)) (hτ : τ a = some (.inl (3, n, .inl f))) (hin : vp_in i n) (kk : xX Γ κ (pc + 1) L (.int (f i.toNatClampNeg) :: rest) τ rc rs) : xX Γ κ pc L (.int i :: .ref a :: rest) τ rc rs := by
  intro ok H locs ls cs ss hW hS h1 h2 h
  exact va_bald ok.1 ok.2.1 ok.2.2.2.2.2.1.1 (xP1 (q := (a, .inl ((gG Γ).2.1 3, n, .inl f))) ((hW a _ hτ).1 (by decide)).1) 0 3 rfl rfl hin d (kk ok H locs ls cs ss hW hS h1 h2 h)
theorem x_bald7 {n : Nat} {f : Nat → Int32} {i : Int32} (d : decode κ.2.1 pc = .ok (.baload, 1)) (hτ : τ a = some (.inl (7, n, .inl f))) (hin : vp_in i n) (kk : xX Γ κ (pc + 1) L (.int (f i.toNatClampNeg) :: rest) τ rc rs) : xX Γ κ pc L (.int i :: .ref a :: rest) τ rc rs := by
  intro ok H locs ls cs ss hW hS h1 h2 h
  obtain ⟨g, e, cell, q1, q2, q3, q4, q5, q6, -⟩ := (hW a _ hτ).2.1 rfl
  cases e
  have hlt : i.toNatClampNeg < n := Nat.not_le.mp fun q => hin (Or.inr q)
  exact W.bald (v := .int (f i.toNatClampNeg)) ok.1 ok.2.1 q1 q2 q3 (fun q => by rcases q with q | q; exact hin (Or.inl q); exact absurd (Nat.le_trans q4 q) (by omega)) (q6 _ hlt) rfl rfl d (kk ok H locs ls cs ss hW hS h1 h2 h)
theorem x_iald9 {n : Nat} {f : Nat → Int32} {i : Int32} (d : decode κ.2.1 pc = .ok (.iaload, 1)) (hτ : τ a = some (.inl (9, n, .inl f))) (hin : vp_in i n) (kk : xX Γ κ (pc + 1) L (.int (f i.toNatClampNeg) :: rest) τ rc rs) : xX Γ κ pc L (.int i :: .ref a :: rest) τ rc rs := by
  intro ok H locs ls cs ss hW hS h1 h2 h
  obtain ⟨g, e, cell, q1, q2, q3, q4, q5, q6, -⟩ := (hW a _ hτ).2.2.2 (by decide)
  cases e
  have hlt : i.toNatClampNeg < n := Nat.not_le.mp fun q => hin (Or.inr q)
  exact W.iald (v := .int (f i.toNatClampNeg)) ok.1 ok.2.1 q1 q2 q3 (fun q => by rcases q with q | q; exact hin (Or.inl q); exact absurd (Nat.le_trans q4 q) (by omega)) (q6 _ hlt) rfl rfl d (kk ok H locs ls cs ss hW hS h1 h2 h)
theorem x_bald {n k : Nat} {f : Nat → Int32} {i : Int32} (d : decode κ.2.1 pc = .ok (.baload, 1)) (hτ : τ a = some (.inl (k, n, .inl f))) (hk : k = 3 ∨ k = 7) (hin : vp_in i n) (kk : xX Γ κ (pc + 1) L (.int (f i.toNatClampNeg) :: rest) τ rc rs) : xX Γ κ pc L (.int i :: .ref a :: rest) τ rc rs := by
  rcases hk with rfl | rfl
  · exact x_bald3 d hτ hin kk
  · exact x_bald7 d hτ hin kk
theorem x_aald5 {n : Nat} {f : Nat → Option Nat} {i : Int32} (d : decode κ.2.1 pc = .ok (.aaload, 1)) (hτ : τ a = some (.inl (5, n, .inr (.inr (.inr (.inr f)))))) (hin : vp_in i n) (kk : xX Γ κ (pc + 1) L (va_rf (f i.toNatClampNeg) :: rest) τ rc rs) : xX Γ κ pc L (.int i :: .ref a :: rest) τ rc rs := by
  intro ok H locs ls cs ss hW hS h1 h2 h
  exact va_aldq ok.1 ok.2.1 ok.2.2.2.2.2.1.1 (xP1 (q := (a, .inl ((gG Γ).2.1 5, n, .inr (.inr (.inr (.inr f)))))) ((hW a _ hτ).1 (by decide)).1) 0 5 rfl rfl hin d (kk ok H locs ls cs ss hW hS h1 h2 h)
theorem x_aald6 {n : Nat} {f : Nat → Option Nat} {i : Int32} (d : decode κ.2.1 pc = .ok (.aaload, 1)) (hτ : τ a = some (.inl (6, n, .inr (.inr (.inr (.inr f)))))) (hin : vp_in i n) (kk : xX Γ κ (pc + 1) L (va_rf (f i.toNatClampNeg) :: rest) τ rc rs) : xX Γ κ pc L (.int i :: .ref a :: rest) τ rc rs := by
  intro ok H locs ls cs ss hW hS h1 h2 h
  exact va_aldq ok.1 ok.2.1 ok.2.2.2.2.2.1.1 (xP1 (q := (a, .inl ((gG Γ).2.1 6, n, .inr (.inr (.inr (.inr f)))))) ((hW a _ hτ).1 (by decide)).1) 0 6 rfl rfl hin d (kk ok H locs ls cs ss hW hS h1 h2 h)
theorem xup_cell {G : xG} {k n j : Nat} {f : Nat → Int32} {x : Int32} : (vp_cell (G.2.1 k) (n, .inl f)).setSlot j (.int x) = vp_cell (G.2.1 k) (n, .inl (va_up f j x)) := by
  rw [vp_cell_i, vp_cell_i, arrV_store]
  congr 2
  funext q
  by_cases hq : q = j
  · subst hq
    simp [updV, va_up]
  · simp [updV, va_up, hq]
theorem xup_cellL {G : xG} {k n j : Nat} {f : Nat → Int64} {x : Int64} : (vp_cell (G.2.1 k) (n, .inr (.inl f))).setSlot j (.long x) = vp_cell (G.2.1 k) (n, .inr (.inl (va_up f j x))) := by
  rw [vp_cell_l, vp_cell_l, arrV_store]
  congr 2
  funext q
  by_cases hq : q = j
  · subst hq
    simp [updV, va_up]
  · simp [updV, va_up, hq]
theorem xup_cellQ {G : xG} {k n j : Nat} {f : Nat → Option Nat} {v : Nat} : (vp_cell (G.2.1 k) (n, .inr (.inr (.inr (.inr f))))).setSlot j (.ref v) = vp_cell (G.2.1 k) (n, .inr (.inr (.inr (.inr (va_up f j (some v)))))) := by
  rw [vp_cell_q, vp_cell_q, arrV_store]
  congr 2
  funext q
  by_cases hq : q = j
  · subst hq
    simp [updV, va_up, va_rf]
  · simp [updV, va_up, hq]
theorem x_iast {n : Nat} {f : Nat → Int32} {i : Int32} {x : Int32} (d : decode κ.2.1 pc = .ok (.iastore, 1)) (hτ : τ a = some (.inl (0, n, .inl f))) (hin : vp_in i n) (kk : xX Γ κ (pc + 1) L rest (xup τ a (.inl (0, n, .inl (va_up f i.toNatClampNeg x)))) rc rs) : xX Γ κ pc L (.int x :: .int i :: .ref a :: rest) τ rc rs := by
  intro ok H locs ls cs ss hW hS h1 h2 h
  obtain ⟨hc, hA⟩ := (hW a _ hτ).1 (by decide)
  refine W.iast ok.1 ok.2.1 hc ((ok.2.2.2.2.2.1.1.2 0 _ rfl).1 n (fun j => .int (f j))) (fun q => by cases q) (by show ¬ (i < 0 ∨ (arrV _ _ _).slots.size ≤ _); rw [arrV_size]; exact hin) rfl rfl d fun H1 e z oq => ?_
  refine kk ok H1 _ ls cs ss (hW.set (xat_arr (by decide) ?_ hA) oq) (hS.put z oq hA) h1 h2 h
  rw [e]
  exact congrArg some xup_cell
theorem x_last {n : Nat} {f : Nat → Int64} {i : Int32} {x : Int64} (d : decode κ.2.1 pc = .ok (.lastore, 1)) (hτ : τ a = some (.inl (1, n, .inr (.inl f)))) (hin : vp_in i n) (kk : xX Γ κ (pc + 1) L rest (xup τ a (.inl (1, n, .inr (.inl (va_up f i.toNatClampNeg x))))) rc rs) : xX Γ κ pc L (.long x :: .int i :: .ref a :: rest) τ rc rs := by
  intro ok H locs ls cs ss hW hS h1 h2 h
  obtain ⟨hc, hA⟩ := (hW a _ hτ).1 (by decide)
  refine W.last ok.1 ok.2.1 hc ((ok.2.2.2.2.2.1.1.2 1 _ rfl).1 n (fun j => .long (f j))) (fun q => by cases q) (by show ¬ (i < 0 ∨ (arrV _ _ _).slots.size ≤ _); rw [arrV_size]; exact hin) rfl rfl d fun H1 e z oq => ?_
  refine kk ok H1 _ ls cs ss (hW.set (xat_arr (by decide) ?_ hA) oq) (hS.put z oq hA) h1 h2 h
  rw [e]
  exact congrArg some xup_cellL
theorem x_bast {n : Nat} {f : Nat → Int32} {i : Int32} {x : Int32} (d : decode κ.2.1 pc = .ok (.bastore, 1)) (hτ : τ a = some (.inl (3, n, .inl f))) (hin : vp_in i n) (kk : xX Γ κ (pc + 1) L rest (xup τ a (.inl (3, n, .inl (va_up f i.toNatClampNeg (vp_nar .byte x))))) rc rs) : xX Γ κ pc L (.int x :: .int i :: .ref a :: rest) τ rc rs := by
  intro ok H locs ls cs ss hW hS h1 h2 h
  obtain ⟨hc, hA⟩ := (hW a _ hτ).1 (by decide)
  refine W.bast ok.1 ok.2.1 hc ((ok.2.2.2.2.2.1.1.2 3 _ rfl).1 n (fun j => .int (f j))) (fun q => by cases q) (by show ¬ (i < 0 ∨ (arrV _ _ _).slots.size ≤ _); rw [arrV_size]; exact hin) rfl rfl d fun H1 e z oq => ?_
  refine kk ok H1 _ ls cs ss (hW.set (xat_arr (by decide) ?_ hA) oq) (hS.put z oq hA) h1 h2 h
  rw [e]
  exact congrArg some (xup_cell (x := vp_nar .byte x))
theorem x_aast5 {n v : Nat} {vs : List Value} {f : Nat → Option Nat} {i : Int32} (d : decode κ.2.1 pc = .ok (.aastore, 1)) (hτ : τ a = some (.inl (5, n, .inr (.inr (.inr (.inr f)))))) (hv : τ v = some (.inr (0, vs))) (hin : vp_in i n) (kk : xX Γ κ (pc + 1) L rest (xup τ a (.inl (5, n, .inr (.inr (.inr (.inr (va_up f i.toNatClampNeg (some v)))))))) rc rs) : xX Γ κ pc L (.ref v :: .int i :: .ref a :: rest) τ rc rs := by
  intro ok H locs ls cs ss hW hS h1 h2 h
  obtain ⟨hc, hA⟩ := (hW a _ hτ).1 (by decide)
  have hK := ok.2.2.2.2.2.1.1
  have hlt : i.toNatClampNeg < n := Nat.not_le.mp fun q => hin (Or.inr q)
  have h0 : ¬ i < 0 := fun q => hin (Or.inl q)
  obtain ⟨r', hr', cellV, g1, g2, g3, -⟩ := ((hW v _ hv).1 (by decide)).1
  have hcls := (hK.1 0 (RX0, TX0, 4) rfl).2
  obtain ⟨kA, comp, k1, k2, k3, -⟩ := (hK.2 5 _ rfl).2
  have hcomp : comp = (gG Γ).1.1 0 := Option.some.inj (k3.symm.trans hcls.1)
  subst hcomp
  obtain ⟨kC, hkC, -⟩ := hcls.2
  refine W.aast ok.1 ok.2.1 hc (fun q h => by cases h) (fun h => by cases h) k1 k2 rfl hkC ⟨h0, by show _ < (arrV _ _ _).slots.size; rw [arrV_size]; exact hlt⟩ g1 (fun q h => by rw [g3] at h; cases h) (by rw [g2]; exact hkC) (by rw [g2]; exact va_assign hcls) rfl rfl d fun H1 e z oq => ?_
  refine kk ok H1 _ ls cs ss (hW.set (xat_arr (by decide) ?_ hA) oq) (hS.put z oq hA) h1 h2 h
  rw [e]
  exact congrArg some xup_cellQ
/-- an object whose class may lie in a row of Objects -/
def xObj (ci : Nat) : Prop := ∃ q, xCl[ci]? = some q ∧ (q.1, "java/lang/Object") ∈ xCast
theorem x_aast6 {n v ci : Nat} {vs : List Value} {f : Nat → Option Nat} {i : Int32} (d : decode κ.2.1 pc = .ok (.aastore, 1)) (hτ : τ a = some (.inl (6, n, .inr (.inr (.inr (.inr f)))))) (hv : τ v = some (.inr (ci, vs))) (ho : xObj ci) (hin : vp_in i n) (kk : xX Γ κ (pc + 1) L rest (xup τ a (.inl (6, n, .inr (.inr (.inr (.inr (va_up f i.toNatClampNeg (some v)))))))) rc rs) : xX Γ κ pc L (.ref v :: .int i :: .ref a :: rest) τ rc rs := by
  intro ok H locs ls cs ss hW hS h1 h2 h
  obtain ⟨hc, hA⟩ := (hW a _ hτ).1 (by decide)
  have hK := ok.2.2.2.2.2.1.1
  have hlt : i.toNatClampNeg < n := Nat.not_le.mp fun q => hin (Or.inr q)
  have h0 : ¬ i < 0 := fun q => hin (Or.inl q)
  obtain ⟨r, hr, hcast⟩ := ho
  have hci := xCl_lt hr
  obtain ⟨cellV, g1, g3, g4⟩ := va_recv hK (xP1 ((hW v _ hv).1 (by omega)).1) hr (q0 := 0) rfl
  obtain ⟨kC, hkC, -⟩ := Vm.findClass_spec g4
  obtain ⟨kA, comp, k1, k2, k3, -⟩ := (hK.2 6 _ rfl).2
  obtain ⟨kE, hkE, -⟩ := Vm.findClass_spec k3
  obtain ⟨c0, t0, f1, f2, f3⟩ := Cond.castable_spec (va_Nw.use (A := ga Γ) rfl (ok.2.2.2.2.2.1.2.2.1 _ hcast))
  cases g4.symm.trans f1
  cases k3.symm.trans f2
  refine W.aast ok.1 ok.2.1 hc (fun q h => by cases h) (fun h => by cases h) k1 k2 rfl hkE ⟨h0, by show _ < (arrV _ _ _).slots.size; rw [arrV_size]; exact hlt⟩ g1 (fun q h => by rw [h] at g3; cases g3) hkC f3 rfl rfl d fun H1 e z oq => ?_
  refine kk ok H1 _ ls cs ss (hW.set (xat_arr (by decide) ?_ hA) oq) (hS.put z oq hA) h1 h2 h
  rw [e]
  exact congrArg some xup_cellQ
theorem x_alen {k : Nat} {x : vp_A} (d : decode κ.2.1 pc = .ok (.arraylength, 1)) (hτ : τ a = some (.inl (k, x))) (kk : xX Γ κ (pc + 1) L (.int (Int32.ofNat x.1) :: rest) τ rc rs) : xX Γ κ pc L (.ref a :: rest) τ rc rs := by
  intro ok H locs ls cs ss hW hS h1 h2 h
  obtain ⟨e1, e2, e3, e4⟩ := hW a _ hτ
  have hK := ok.2.2.2.2.2.1.1
  rcases Nat.lt_trichotomy k 7 with q | q | q
  · obtain ⟨ty, ht⟩ : ∃ ty, (xTys (gG Γ))[k]? = some ((gG Γ).2.1 k, ty) := by
      match k, q with
      | 0, _ => exact ⟨_, rfl⟩
      | 1, _ => exact ⟨_, rfl⟩
      | 2, _ => exact ⟨_, rfl⟩
      | 3, _ => exact ⟨_, rfl⟩
      | 4, _ => exact ⟨_, rfl⟩
      | 5, _ => exact ⟨_, rfl⟩
      | 6, _ => exact ⟨_, rfl⟩
      | k + 7, q => exact absurd q (by omega)
    exact va_alen ok.1 ok.2.1 hK (xP1 (q := (a, .inl ((gG Γ).2.1 k, x))) (e1 q).1) 0 k rfl ht rfl d (kk ok H locs ls cs ss hW hS h1 h2 h)
  · obtain ⟨f, -, cell, q1, q2, q3, q4, q5, -⟩ := e2 q
    exact W.alen (n := Int32.ofNat x.1) ok.1 ok.2.1 q1 q2 q5 rfl rfl d (kk ok H locs ls cs ss hW hS h1 h2 h)
  · by_cases q8 : k = 8
    · obtain ⟨z, cell, q1, q2, q3, q4, q5, -⟩ := e3 q8
      refine W.alen (n := Int32.ofNat x.1) ok.1 ok.2.1 q1 q2 (by rw [z]; exact q5) rfl rfl d (kk ok H locs ls cs ss hW hS h1 h2 h)
    · obtain ⟨f, -, cell, q1, q2, q3, q4, q5, -⟩ := e4 (by omega)
      exact W.alen (n := Int32.ofNat x.1) ok.1 ok.2.1 q1 q2 q5 rfl rfl d (kk ok H locs ls cs ss hW hS h1 h2 h)
theorem x_ccast {ci idx : Nat} {fs : List Value} {q : vw_C} (d : decode κ.2.1 pc = .ok (.checkcast idx, 3)) (hc : xCl[ci]? = some q) (w : Cond.classLink κ.1 idx q.1 ∈ xBW) (hτ : τ a = some (.inr (ci, fs))) (kk : xX Γ κ (pc + 3) L (.ref a :: rest) τ rc rs) : xX Γ κ pc L (.ref a :: rest) τ rc rs := by
  intro ok H locs ls cs ss hW hS h1 h2 h
  have hci := xCl_lt hc
  exact va_castS ok.1 ok.2.1 ok.2.2.2.1 (ok.2.2.2.2.1 _ w) (ok.2.2.2.2.2.1.1.1 ci q hc).2 (va_recv ok.2.2.2.2.2.1.1 (xP1 ((hW a _ hτ).1 (by omega)).1) hc (q0 := 0) rfl) d (kk ok H locs ls cs ss hW hS h1 h2 h)
theorem x_gets {C n dd : String} {v : Value} {idx : Nat} (d : decode κ.2.1 pc = .ok (.getstatic idx, 3)) (hq : (C, n, dd, v) ∈ xSta (gG Γ)) (w : Cond.fieldLink κ.1 idx C n dd ∈ xBW) (kk : xX Γ κ (pc + 3) L (v :: rest) τ rc rs) : xX Γ κ pc L rest τ rc rs := by
  intro ok H locs ls cs ss hW hS h1 h2 h
  exact va_gets ok.1 ok.2.1 (ok.2.2.2.2.2.1.2.2.2.2.2.1 _ hq) hS ok.2.2.2.1 (ok.2.2.2.2.1 _ w) (fun _ hx => hx) d (kk ok H locs ls cs ss hW hS h1 h2 h)
theorem x_getsq {C n dd : String} {idx : Nat} (d : decode κ.2.1 pc = .ok (.getstatic idx, 3)) (hq : (C, n, dd) ∈ xStq) (w : Cond.fieldLink κ.1 idx C n dd ∈ xBW) (kk : ∀ o : Option Nat, xX Γ κ (pc + 3) L (va_rf o :: rest) τ rc rs) : xX Γ κ pc L rest τ rc rs := by
  intro ok H locs ls cs ss hW hS h1 h2 h
  rcases (ok.2.2.2.2.2.1.2.2.2.2.2.2.1 _ hq).1 with q | ⟨t, q⟩
  · exact va_gets ok.1 ok.2.1 q hS ok.2.2.2.1 (ok.2.2.2.2.1 _ w) (fun _ hx => hx) d (kk none ok H locs ls cs ss hW hS h1 h2 h)
  · exact va_gets ok.1 ok.2.1 q hS ok.2.2.2.1 (ok.2.2.2.2.1 _ w) (fun _ hx => hx) d (kk (some t) ok H locs ls cs ss hW hS h1 h2 h)
theorem x_new {ci idx : Nat} {fs : List Value} (d : decode κ.2.1 pc = .ok (.new idx, 3)) (w : xNL κ.1 idx ci fs) (hrc : 1 ≤ rc) (hrs : fs.length ≤ rs) (kk : ∀ q : Nat, τ q = none → xX Γ κ (pc + 3) L (.ref q :: rest) (xup τ q (.inr (ci, fs))) (rc - 1) (rs - fs.length)) : xX Γ κ pc L rest τ rc rs := by
  intro ok H locs ls cs ss hW hS h1 h2 h
  obtain ⟨C, T, N, ty0, hc, hin, w1, w2, w3, hty, hfs, hN⟩ := w
  have hci := xCl_lt hc
  have hts := ok.2.2.2.2.1
  have hKn := ok.2.2.2.2.2.1.1.1 ci _ hc
  refine W.newcK ok.1 ok.2.1 ok.2.2.2.1 (hts _ w1) (hts _ w2) (hts _ w3) rfl d (by omega) (by omega) hKn.2.1 rfl fun H1 kC hkC e1 z1 o1 => ?_
  refine kk H.size hW.fresh ok H1 locs ls (cs + 1) (ss + N) (hW.push (xat_obj hci ⟨_, hc, (u_born ty0 hts hin hKn hkC e1 hty).to hfs⟩ ?_) o1) ⟨Nat.le_trans hS.1 (by omega), fun x q1 q2 => (o1 x (Nat.lt_of_lt_of_le q1 hS.1)).trans (hS.2.1 x q1 q2), hS.2.2⟩ (by omega) (by omega) h
  exact Nat.le_trans ok.2.2.2.2.2.1.2.2.2.2.2.2.2.2.2.2.2.1 hS.1
theorem x_newa0 {n : Int32} (d : decode κ.2.1 pc = .ok (.newarray .int, 2)) (w : Cond.arrayClass .int ∈ xBW) (hn : ¬ n < 0) (hb : n.toNatClampNeg * 8 ≤ 536870912) (hrc : 1 ≤ rc) (hrs : n.toNatClampNeg ≤ rs) (kk : ∀ q : Nat, τ q = none → xX Γ κ (pc + 2) L (.ref q :: rest) (xup τ q (.inl (0, n.toNatClampNeg, .inl (fun _ => 0)))) (rc - 1) (rs - n.toNatClampNeg)) : xX Γ κ pc L (.int n :: rest) τ rc rs := by
  intro ok H locs ls cs ss hW hS h1 h2 h
  refine va_newaK (atype := .int) ok.1 ok.2.1 (ok.2.2.2.2.1 _ w) rfl d rfl hn rfl (by show _ * 4 ≤ _; omega) (by omega) (by omega) rfl fun H1 cA e1 z1 o1 hAr hNm => ?_
  have hcA : cA = (gG Γ).2.1 0 := Option.some.inj (hNm.symm.trans (ok.2.2.2.2.2.1.1.2 0 _ rfl).2)
  subst hcA
  refine kk H.size hW.fresh ok H1 locs ls (cs + 1) (ss + n.toNatClampNeg) (hW.push (xat_arr (by decide) e1 ?_) o1) ⟨Nat.le_trans hS.1 (by omega), fun x q1 q2 => (o1 x (Nat.lt_of_lt_of_le q1 hS.1)).trans (hS.2.1 x q1 q2), hS.2.2⟩ (by omega) (by omega) h
  exact Nat.le_trans ok.2.2.2.2.2.1.2.2.2.2.2.2.2.2.2.2.2.1 hS.1
theorem x_newa1 {n : Int32} (d : decode κ.2.1 pc = .ok (.newarray .long, 2)) (w : Cond.arrayClass .long ∈ xBW) (hn : ¬ n < 0) (hb : n.toNatClampNeg * 8 ≤ 536870912) (hrc : 1 ≤ rc) (hrs : n.toNatClampNeg ≤ rs) (kk : ∀ q : Nat, τ q = none → xX Γ κ (pc + 2) L (.ref q :: rest) (xup τ q (.inl (1, n.toNatClampNeg, .inr (.inl (fun _ => 0))))) (rc - 1) (rs - n.toNatClampNeg)) : xX Γ κ pc L (.int n :: rest) τ rc rs := by
  intro ok H locs ls cs ss hW hS h1 h2 h
  refine va_newaK (atype := .long) ok.1 ok.2.1 (ok.2.2.2.2.1 _ w) rfl d rfl hn rfl (by show _ * 8 ≤ _; omega) (by omega) (by omega) rfl fun H1 cA e1 z1 o1 hAr hNm => ?_
  have hcA : cA = (gG Γ).2.1 1 := Option.some.inj (hNm.symm.trans (ok.2.2.2.2.2.1.1.2 1 _ rfl).2)
  subst hcA
  refine kk H.size hW.fresh ok H1 locs ls (cs + 1) (ss + n.toNatClampNeg) (hW.push (xat_arr (by decide) e1 ?_) o1) ⟨Nat.le_trans hS.1 (by omega), fun x q1 q2 => (o1 x (Nat.lt_of_lt_of_le q1 hS.1)).trans (hS.2.1 x q1 q2), hS.2.2⟩ (by omega) (by omega) h
  exact Nat.le_trans ok.2.2.2.2.2.1.2.2.2.2.2.2.2.2.2.2.2.1 hS.1
theorem x_newa3 {n : Int32} (d : decode κ.2.1 pc = .ok (.newarray .byte, 2)) (w : Cond.arrayClass .byte ∈ xBW) (hn : ¬ n < 0) (hb : n.toNatClampNeg * 8 ≤ 536870912) (hrc : 1 ≤ rc) (hrs : n.toNatClampNeg ≤ rs) (kk : ∀ q : Nat, τ q = none → xX Γ κ (pc + 2) L (.ref q :: rest) (xup τ q (.inl (3, n.toNatClampNeg, .inl (fun _ => 0)))) (rc - 1) (rs - n.toNatClampNeg)) : xX Γ κ pc L (.int n :: rest) τ rc rs := by
  intro ok H locs ls cs ss hW hS h1 h2 h
  refine va_newaK (atype := .byte) ok.1 ok.2.1 (ok.2.2.2.2.1 _ w) rfl d rfl hn rfl (by show _ * 1 ≤ _; omega) (by omega) (by omega) rfl fun H1 cA e1 z1 o1 hAr hNm => ?_
  have hcA : cA = (gG Γ).2.1 3 := Option.some.inj (hNm.symm.trans (ok.2.2.2.2.2.1.1.2 3 _ rfl).2)
  subst hcA
  refine kk H.size hW.fresh ok H1 locs ls (cs + 1) (ss + n.toNatClampNeg) (hW.push (xat_arr (by decide) e1 ?_) o1) ⟨Nat.le_trans hS.1 (by omega), fun x q1 q2 => (o1 x (Nat.lt_of_lt_of_le q1 hS.1)).trans (hS.2.1 x q1 q2), hS.2.2⟩ (by omega) (by omega) h
  exact Nat.le_trans ok.2.2.2.2.2.1.2.2.2.2.2.2.2.2.2.2.2.1 hS.1
theorem x_anew5 {n : Int32} {idx : Nat} (d : decode κ.2.1 pc = .ok (.anewarray idx, 3)) (w : Cond.classLink κ.1 idx "RentStream$Bill" ∈ xBW) (hn : ¬ n < 0) (hb : n.toNatClampNeg * 8 ≤ 536870912) (hrc : 1 ≤ rc) (hrs : n.toNatClampNeg ≤ rs) (kk : ∀ q : Nat, τ q = none → xX Γ κ (pc + 3) L (.ref q :: rest) (xup τ q (.inl (5, n.toNatClampNeg, .inr (.inr (.inr (.inr (fun _ => none))))))) (rc - 1) (rs - n.toNatClampNeg)) : xX Γ κ pc L (.int n :: rest) τ rc rs := by
  intro ok H locs ls cs ss hW hS h1 h2 h
  refine W.anew ok.1 ok.2.1 ok.2.2.2.1 (ok.2.2.2.2.1 _ w) (va_AO.use ok.2.2.2.2.2.1.2.2.2.2.2.2.2.1) rfl d rfl hn (by omega) (by omega) (by omega) fun cA kA comp f1 f2 f3 f4 => ?_
  generalize hH1 : H.push ({ cls := cA, slots := Array.replicate n.toNatClampNeg .null, vm := .none } : Cell) = H1
  have z1 : H1.size = H.size + 1 := by rw [← hH1, Array.size_push]
  have e1 : H1[H.size]? = some (arrV cA n.toNatClampNeg (fun _ => .null)) := by rw [← hH1, Array.getElem?_push_size, ← arrV_new]
  have o1 : ∀ q : Nat, q < H.size → H1[q]? = H[q]? := fun q hq => by rw [← hH1, Array.getElem?_push, if_neg (Nat.ne_of_lt hq)]
  obtain ⟨kA', comp', g1, g2, g3, g4⟩ := (ok.2.2.2.2.2.1.1.2 5 _ rfl).2
  have hcA : cA = (gG Γ).2.1 5 := Option.some.inj (f1.symm.trans g4)
  subst hcA
  refine kk H.size hW.fresh ok H1 locs ls (cs + 1) (ss + n.toNatClampNeg) (hW.push (xat_arr (by decide) e1 ?_) o1) ⟨Nat.le_trans hS.1 (by omega), fun x q1 q2 => (o1 x (Nat.lt_of_lt_of_le q1 hS.1)).trans (hS.2.1 x q1 q2), hS.2.2⟩ (by omega) (by omega) h
  exact Nat.le_trans ok.2.2.2.2.2.1.2.2.2.2.2.2.2.2.2.2.2.1 hS.1
theorem x_anew6 {n : Int32} {idx : Nat} (d : decode κ.2.1 pc = .ok (.anewarray idx, 3)) (w : Cond.classLink κ.1 idx "java/lang/Object" ∈ xBW) (hn : ¬ n < 0) (hb : n.toNatClampNeg * 8 ≤ 536870912) (hrc : 1 ≤ rc) (hrs : n.toNatClampNeg ≤ rs) (kk : ∀ q : Nat, τ q = none → xX Γ κ (pc + 3) L (.ref q :: rest) (xup τ q (.inl (6, n.toNatClampNeg, .inr (.inr (.inr (.inr (fun _ => none))))))) (rc - 1) (rs - n.toNatClampNeg)) : xX Γ κ pc L (.int n :: rest) τ rc rs := by
  intro ok H locs ls cs ss hW hS h1 h2 h
  refine W.anew ok.1 ok.2.1 ok.2.2.2.1 (ok.2.2.2.2.1 _ w) (va_AO.use ok.2.2.2.2.2.1.2.2.2.2.2.2.2.2.1) rfl d rfl hn (by omega) (by omega) (by omega) fun cA kA comp f1 f2 f3 f4 => ?_
  generalize hH1 : H.push ({ cls := cA, slots := Array.replicate n.toNatClampNeg .null, vm := .none } : Cell) = H1
  have z1 : H1.size = H.size + 1 := by rw [← hH1, Array.size_push]
  have e1 : H1[H.size]? = some (arrV cA n.toNatClampNeg (fun _ => .null)) := by rw [← hH1, Array.getElem?_push_size, ← arrV_new]
  have o1 : ∀ q : Nat, q < H.size → H1[q]? = H[q]? := fun q hq => by rw [← hH1, Array.getElem?_push, if_neg (Nat.ne_of_lt hq)]
  obtain ⟨kA', comp', g1, g2, g3, g4⟩ := (ok.2.2.2.2.2.1.1.2 6 _ rfl).2
  have hcA : cA = (gG Γ).2.1 6 := Option.some.inj (f1.symm.trans g4)
  subst hcA
  refine kk H.size hW.fresh ok H1 locs ls (cs + 1) (ss + n.toNatClampNeg) (hW.push (xat_arr (by decide) e1 ?_) o1) ⟨Nat.le_trans hS.1 (by omega), fun x q1 q2 => (o1 x (Nat.lt_of_lt_of_le q1 hS.1)).trans (hS.2.1 x q1 q2), hS.2.2⟩ (by omega) (by omega) h
  exact Nat.le_trans ok.2.2.2.2.2.1.2.2.2.2.2.2.2.2.2.2.2.1 hS.1
end XHEAP
