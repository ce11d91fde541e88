/-! ===== arraycopy, getClass, class objects; the private methods of AbstractStringBuilder ===== -/
theorem xsel_private {C : String} {y : MethodName} {s : State} {args : Array Value} {n : Nat} (hy : y.cls ≠ "java/lang/invoke/MethodHandle" ∧ y.cls ≠ "java/lang/invoke/VarHandle") (hins : (Cond.instantiable C n).before args s = true) (hpriv : (Cond.privateMethod y).before args s = true) (hinst : (Cond.instanceMethod y).before args s = true) (hsame : (Cond.sameMethod y.cls y.cls y.name y.desc).before args s = true) : (Cond.selects C y y).before args s = true := by
  obtain ⟨c, k, hc, hk, -, -, -, -⟩ := Cond.instantiable_spec hins
  obtain ⟨mk, methM, hnamed, hmethM, -, -⟩ := Cond.instanceMethod_spec hinst
  have hfound : s.methodFound? y.cls y.name y.desc = some mk := State.methodFound?_of_named hnamed hy
  obtain ⟨-, k2, hk2, hni⟩ := Cond.sameMethod_spec (findClass_of_methodNamed hnamed) hfound hsame
  have hsel : selectMethod {} s.vm c mk = .method mk := selectMethod_private hmethM (Cond.privateMethod_at hpriv mk methM hnamed hmethM)
  simp only [Cond.before, Cond.holds, Cond.value, hc, hfound, hnamed, hsel, hk2]
  simp; exact hni
theorem xtb_ok {args : Array Value} {s : State} (h : ∀ w ∈ lw_tbl, w.before args s = true) : ∀ w ∈ xtb, w.before args s = true := by
  intro w hw
  rcases List.mem_append.mp hw with q | q
  · obtain ⟨y, hy, rfl⟩ := List.mem_map.mp q
    have key : (y.cls ≠ "java/lang/invoke/MethodHandle" ∧ y.cls ≠ "java/lang/invoke/VarHandle") ∧ Cond.privateMethod y ∈ lw_tbl ∧ Cond.instanceMethod y ∈ lw_tbl ∧ Cond.sameMethod y.cls y.cls y.name y.desc ∈ lw_tbl := by
      simp only [xSB, List.mem_cons, List.not_mem_nil, or_false] at hy
      rcases hy with rfl | rfl | rfl | rfl
      · exact ⟨by decide +kernel, List.mem_of_getElem? (i := 24 + 813) (by decide +kernel), List.mem_of_getElem? (i := 24 + 814) (by decide +kernel), List.mem_of_getElem? (i := 24 + 1137) (by decide +kernel)⟩
      · exact ⟨by decide +kernel, List.mem_of_getElem? (i := 24 + 817) (by decide +kernel), List.mem_of_getElem? (i := 24 + 818) (by decide +kernel), List.mem_of_getElem? (i := 24 + 1138) (by decide +kernel)⟩
      · exact ⟨by decide +kernel, List.mem_of_getElem? (i := 24 + 873) (by decide +kernel), List.mem_of_getElem? (i := 24 + 874) (by decide +kernel), List.mem_of_getElem? (i := 24 + 1139) (by decide +kernel)⟩
      · exact ⟨by decide +kernel, List.mem_of_getElem? (i := 24 + 877) (by decide +kernel), List.mem_of_getElem? (i := 24 + 878) (by decide +kernel), List.mem_of_getElem? (i := 24 + 1140) (by decide +kernel)⟩
    exact xsel_private key.1 (h _ (List.mem_of_getElem? (i := 24 + 79) (by decide +kernel) : Cond.instantiable "java/lang/StringBuilder" 4 ∈ lw_tbl)) (h _ key.2.1) (h _ key.2.2.1) (h _ key.2.2.2)
  · exact h w q
theorem xnn {z : Int32} (hz : ¬ z < 0) : z.toInt = (z.toNatClampNeg : Int) := by
  have hz0 : (0 : Int) ≤ z.toInt := by
    have := Int32.not_lt.mp hz
    simpa using Int32.le_iff_toInt_le.mp this
  show z.toInt = ((z.toInt.toNat : Nat) : Int)
  omega
section XNAT
variable {Γ : xΓ} {κ : xκ} {pc : Nat} {L : List (Nat × Value)} {rest : List Value} {τ : xT} {rc rs : Nat} {a b : Nat}
/-- the words of System.arraycopy -/
def xLC (own : String) (idx : Nat) : Prop := Cond.methodLink own idx arraycopyName ∈ xBW ∧ Cond.native arraycopyName ∈ xBW ∧ Cond.static arraycopyName ∈ xBW ∧ Cond.initialized "java/lang/System" ∈ xBW
theorem xbytes {G : xG} {s : State} {H : Heap} {k n : Nat} {f : Nat → Int32} (hK : va_K G.1 xCl (xTys G) s) (hk : k = 3 ∨ k = 7) (h : xat G s a (.inl (k, n, .inl f)) H) : ∃ cell : Cell, H[a]? = some cell ∧ s.isArrayOf cell .byte ∧ cell.vm ≠ .unknown ∧ n ≤ cell.slots.size ∧ ∀ j : Nat, j < n → cell.slots[j]? = some (.int (f j)) := by
  rcases hk with rfl | rfl
  · refine ⟨_, (h.1 (by decide)).1, (hK.2 3 _ rfl).1 n (fun j => .int (f j)), (fun q => by cases q), (by show n ≤ (arrV _ _ _).slots.size; rw [arrV_size]; exact Nat.le_refl _), fun j hj => ?_⟩
    show (arrV _ _ _).slots[_]? = _
    rw [arrV_read _ _ hj]
  · obtain ⟨g, e, cell, q1, q2, q3, q4, q5, q6, -⟩ := h.2.1 rfl
    cases e
    exact ⟨cell, q1, q2, q3, q4, q6⟩
theorem x_copyB {idx k n0 n1 : Nat} {f g : Nat → Int32} {sp dp n : Int32} (d : decode κ.2.1 pc = .ok (.invokestatic idx, 3)) (w : xLC κ.1 idx) (hfr : 1 ≤ κ.2.2.2.1) (hlo : 60 ≤ κ.2.2.2.2) (hcat : (rest.map fun v => v.category).sum ≤ 8)
    (h0 : τ b = some (.inl (k, n0, .inl f))) (hk : k = 3 ∨ k = 7) (h1 : τ a = some (.inl (3, n1, .inl g))) (hs : ¬ sp < 0) (hd : ¬ dp < 0) (hn : ¬ n < 0) (h4 : sp.toNatClampNeg + n.toNatClampNeg ≤ n0) (h5 : dp.toNatClampNeg + n.toNatClampNeg ≤ n1) (hfit : ∀ i : Nat, i < n.toNatClampNeg → fits .byte (.int (f (sp.toNatClampNeg + i))) = true)
    (kk : xX Γ κ (pc + 3) L rest (xup τ a (.inl (3, n1, .inl (va_cpy f g sp.toNatClampNeg dp.toNatClampNeg n.toNatClampNeg)))) rc rs) : xX Γ κ pc L (.int n :: .int dp :: .ref a :: .int sp :: .ref b :: rest) τ rc rs := by
  intro ok H locs ls cs ss hW hS g1 g2 h T hT X
  have hK := ok.2.2.2.2.2.1.1
  have hts := ok.2.2.2.2.1
  obtain ⟨w1, w2, w3, w4⟩ := w
  obtain ⟨scr, hc0, hs2, hs3, hs4, hs5⟩ := xbytes hK hk (hW b _ h0)
  obtain ⟨hc1, hA⟩ := (hW a _ h1).1 (by decide)
  obtain ⟨hs6, k0, hk0, cm0, hkk0⟩ := hs2
  obtain ⟨-, k1, hk1, cm1, hkk1⟩ := (hK.2 3 _ rfl).1 n1 (fun j => .int (g j))
  have h10 := ok.2.2.2.2.2.2.2.1
  have hw9 : nativeFrameWords "java/lang/System" "arraycopy" 5 ≤ 40 := by decide
  obtain ⟨vm', X', step⟩ := X.arraycopy ok.1 ok.2.2.2.1 (hts _ w1) (hts _ w2) (hts _ w3) (hts _ w4) (src := b) (dst := a) (cs := scr) (cd := vp_cell ((gG Γ).2.1 3) (n1, .inl g)) (srcPos := sp) (destPos := dp) (n := n) (by rw [hT]; exact hc0) (by rw [hT]; exact hc1)
    hs6 (fun _ h => by cases h) hs3 (fun h => by cases h) hk0 hk1 hkk0 hkk1 (by simp [refKind]) hs hd hn
    (by rw [xnn hs, xnn hn]; omega)
    (by rw [xnn hd, xnn hn]; show ¬ _ > ((arrV ((gG Γ).2.1 3) n1 (fun j => .int (g j))).slots.size : Int); rw [arrV_size]; omega)
    (fun vm₁ _ i hi => by
      have e : scr.slots.getD (sp.toNatClampNeg + i) .null = .int (f (sp.toNatClampNeg + i)) := by
        rw [Array.getD_eq_getD_getElem?, hs5 _ (by omega)]
        rfl
      refine ⟨?_, ?_⟩
      · rw [e]
        exact hfit i hi
      · rw [e]
        exact trivial)
    (g := F0 (gm Γ) pc ls (.int n :: .int dp :: .ref a :: .int sp :: .ref b :: rest)) rfl (by rw [ok.2.2.1]; exact h.1) (rest := rest) rfl (by rw [ok.2.1]; exact d) (Nat.le_trans hfr ok.2.2.2.2.2.2.1) (by show 2 * 0 + _ + _ ≤ _; omega)
  have e1 : copied scr (vp_cell ((gG Γ).2.1 3) (n1, .inl g)) sp dp n = vp_cell ((gG Γ).2.1 3) (n1, .inl (va_cpy f g sp.toNatClampNeg dp.toNatClampNeg n.toNatClampNeg)) := va_copiedX (fun z => .int z) scr ((gG Γ).2.1 3) f g hs5 h4
  rw [e1] at X' step
  have hl : a < H.size := (Array.getElem?_eq_some_iff.mp hc1).1
  generalize hcell : vp_cell ((gG Γ).2.1 3) (n1, .inl (va_cpy f g sp.toNatClampNeg dp.toNatClampNeg n.toNatClampNeg)) = cell at X' step
  have hheap : ((T.setVm vm').setCell a cell).heap = H.setIfInBounds a cell := by rw [← hT]; rfl
  have oq : ∀ q : Nat, q ≠ a → (H.setIfInBounds a cell)[q]? = H[q]? := fun q hq => by simp [Array.getElem?_setIfInBounds, Ne.symm hq]
  obtain ⟨t, a1, b1⟩ := kk ok _ _ ls cs ss (hW.set (xat_arr (by decide) (by rw [hcell]; simp [Array.getElem?_setIfInBounds, hl]) hA) oq) ⟨by simp; exact hS.1, fun q g1 g2 => by
      rw [oq q (fun e => g2 (by rw [e]; exact hA))]
      exact hS.2.1 q g1 g2, fun q hq => by
      rcases List.mem_append.mp hq with h | h
      · exact hS.2.2 q h
      · obtain ⟨z, -, hz⟩ := List.mem_map.mp h
        rw [← hz]
        exact hA⟩ g1 g2 h _ hheap X'
  exact ⟨t, step t a1, b1⟩
theorem x_copyQ {idx n0 n1 : Nat} {f g : Nat → Option Nat} {sp dp n : Int32} (d : decode κ.2.1 pc = .ok (.invokestatic idx, 3)) (w : xLC κ.1 idx) (hfr : 1 ≤ κ.2.2.2.1) (hlo : 60 ≤ κ.2.2.2.2) (hcat : (rest.map fun v => v.category).sum ≤ 8)
    (h0 : τ b = some (.inl (6, n0, .inr (.inr (.inr (.inr f)))))) (h1 : τ a = some (.inl (6, n1, .inr (.inr (.inr (.inr g)))))) (hs : ¬ sp < 0) (hd : ¬ dp < 0) (hn : ¬ n < 0) (h4 : sp.toNatClampNeg + n.toNatClampNeg ≤ n0) (h5 : dp.toNatClampNeg + n.toNatClampNeg ≤ n1) (hel : ∀ i : Nat, i < n.toNatClampNeg → ∀ y : Nat, f (sp.toNatClampNeg + i) = some y → ∃ ci fs, τ y = some (.inr (ci, fs)) ∧ xObj ci)
    (kk : xX Γ κ (pc + 3) L rest (xup τ a (.inl (6, n1, .inr (.inr (.inr (.inr (va_cpy f g sp.toNatClampNeg dp.toNatClampNeg n.toNatClampNeg))))))) rc rs) : xX Γ κ pc L (.int n :: .int dp :: .ref a :: .int sp :: .ref b :: rest) τ rc rs := by
  intro ok H locs ls cs ss hW hS g1 g2 h T hT X
  have hK := ok.2.2.2.2.2.1.1
  have hts := ok.2.2.2.2.1
  obtain ⟨w1, w2, w3, w4⟩ := w
  obtain ⟨hc0, -⟩ := (hW b _ h0).1 (by decide)
  obtain ⟨hc1, hA⟩ := (hW a _ h1).1 (by decide)
  obtain ⟨-, k0, hk0, cm0, hkk0⟩ := (hK.2 6 _ rfl).1 n0 (fun j => va_rf (f j))
  obtain ⟨-, k1, hk1, cm1, hkk1⟩ := (hK.2 6 _ rfl).1 n1 (fun j => va_rf (g j))
  have h10 := ok.2.2.2.2.2.2.2.1
  have hw9 : nativeFrameWords "java/lang/System" "arraycopy" 5 ≤ 40 := by decide
  obtain ⟨vm', X', step⟩ := X.arraycopy ok.1 ok.2.2.2.1 (hts _ w1) (hts _ w2) (hts _ w3) (hts _ w4) (src := b) (dst := a) (cs := vp_cell ((gG Γ).2.1 6) (n0, .inr (.inr (.inr (.inr f))))) (cd := vp_cell ((gG Γ).2.1 6) (n1, .inr (.inr (.inr (.inr g))))) (srcPos := sp) (destPos := dp) (n := n) (by rw [hT]; exact hc0) (by rw [hT]; exact hc1)
    (fun _ h => by cases h) (fun _ h => by cases h) (fun h => by cases h) (fun h => by cases h) hk0 hk1 hkk0 hkk1 rfl hs hd hn
    (by rw [xnn hs, xnn hn]; show ¬ _ > ((arrV ((gG Γ).2.1 6) n0 (fun j => va_rf (f j))).slots.size : Int); rw [arrV_size]; omega)
    (by rw [xnn hd, xnn hn]; show ¬ _ > ((arrV ((gG Γ).2.1 6) n1 (fun j => va_rf (g j))).slots.size : Int); rw [arrV_size]; omega)
    (fun vm₁ hal i hi => by
      have e : (vp_cell ((gG Γ).2.1 6) (n0, .inr (.inr (.inr (.inr f))))).slots.getD (sp.toNatClampNeg + i) .null = va_rf (f (sp.toNatClampNeg + i)) := by
        show (arrV ((gG Γ).2.1 6) n0 (fun j => va_rf (f j))).slots.getD _ _ = _
        rw [Array.getD_eq_getD_getElem?, arrV_read _ _ (by omega)]
        rfl
      rw [e]
      cases hy : f (sp.toNatClampNeg + i) with
      | none => exact ⟨rfl, trivial⟩
      | some y =>
        obtain ⟨ci, fs, hτy, r, hr, hcast⟩ := hel i hi y hy
        have hci := xCl_lt hr
        obtain ⟨cellV, e1, e3, e4⟩ := va_recv hK (xP1 ((hW y _ hτy).1 (by omega)).1) hr (q0 := 0) rfl
        obtain ⟨kC, hkC, -⟩ := Vm.findClass_spec e4
        obtain ⟨c0, t0, f1, f2, f3⟩ := Cond.castable_spec (va_Nw.use (A := ga Γ) rfl (ok.2.2.2.2.2.1.2.2.1 _ hcast))
        cases e4.symm.trans f1
        obtain ⟨kA, comp, r1, r2, r3, -⟩ := (hK.2 6 _ rfl).2
        cases hk1.symm.trans r1
        cases hkk1.symm.trans r2
        cases r3.symm.trans f2
        obtain ⟨kE, hkE, -⟩ := Vm.findClass_spec r3
        obtain ⟨kC', hkC', -⟩ := hal.2.2 _ _ hkC
        obtain ⟨kE', hkE', -⟩ := hal.2.2 _ _ hkE
        refine ⟨rfl, cellV, (show T.heap[y]? = some cellV by rw [hT]; exact e1), (fun q h => by rw [h] at e3; cases e3), ⟨kC', hkC'⟩, ?_, ?_⟩
        · exact ⟨kE', hkE'⟩
        · show vm₁.assignable _ _ = true
          rw [hal.assignable]
          exact f3)
    (g := F0 (gm Γ) pc ls (.int n :: .int dp :: .ref a :: .int sp :: .ref b :: rest)) rfl (by rw [ok.2.2.1]; exact h.1) (rest := rest) rfl (by rw [ok.2.1]; exact d) (Nat.le_trans hfr ok.2.2.2.2.2.2.1) (by show 2 * 0 + _ + _ ≤ _; omega)
  have e1 : copied (vp_cell ((gG Γ).2.1 6) (n0, .inr (.inr (.inr (.inr f))))) (vp_cell ((gG Γ).2.1 6) (n1, .inr (.inr (.inr (.inr g))))) sp dp n = vp_cell ((gG Γ).2.1 6) (n1, .inr (.inr (.inr (.inr (va_cpy f g sp.toNatClampNeg dp.toNatClampNeg n.toNatClampNeg))))) := by
    rw [vp_cell_q, vp_cell_q, vp_cell_q]
    exact va_copied (fun z => va_rf z) _ _ f g h4
  rw [e1] at X' step
  have hl : a < H.size := (Array.getElem?_eq_some_iff.mp hc1).1
  generalize hcell : vp_cell ((gG Γ).2.1 6) (n1, .inr (.inr (.inr (.inr (va_cpy f g sp.toNatClampNeg dp.toNatClampNeg n.toNatClampNeg))))) = cell at X' step
  have hheap : ((T.setVm vm').setCell a cell).heap = H.setIfInBounds a cell := by rw [← hT]; rfl
  have oq : ∀ q : Nat, q ≠ a → (H.setIfInBounds a cell)[q]? = H[q]? := fun q hq => by simp [Array.getElem?_setIfInBounds, Ne.symm hq]
  obtain ⟨t, a1, b1⟩ := kk ok _ _ ls cs ss (hW.set (xat_arr (by decide) (by rw [hcell]; simp [Array.getElem?_setIfInBounds, hl]) hA) oq) ⟨by simp; exact hS.1, fun q g1 g2 => by
      rw [oq q (fun e => g2 (by rw [e]; exact hA))]
      exact hS.2.1 q g1 g2, fun q hq => by
      rcases List.mem_append.mp hq with h | h
      · exact hS.2.2 q h
      · obtain ⟨z, -, hz⟩ := List.mem_map.mp h
        rw [← hz]
        exact hA⟩ g1 g2 h _ hheap X'
  exact ⟨t, step t a1, b1⟩
/-- the class object of Object[] -/
theorem x_ldcM {idx : Nat} (d : decode κ.2.1 pc = .ok (.ldc idx, 2)) (w : Cond.classLink κ.1 idx "[Ljava/lang/Object;" ∈ xBW) (kk : xX Γ κ (pc + 2) L (.ref ((gG Γ).2.2.2 5) :: rest) τ rc rs) : xX Γ κ pc L rest τ rc rs := by
  intro ok H locs ls cs ss hW hS h1 h2 h
  exact va_ldcM ok.1 ok.2.1 ok.2.2.2.1 (ok.2.2.2.2.1 _ w) ok.2.2.2.2.2.1.2.2.2.2.2.2.2.2.2.2.1 d (kk ok H locs ls cs ss hW hS h1 h2 h)
abbrev xGetC : MethodName := ⟨"java/lang/Object", "getClass", "()Ljava/lang/Class;"⟩
theorem x_getC {idx n : Nat} {f : Nat → Option Nat} (d : decode κ.2.1 pc = .ok (.invokevirtual idx, 3)) (w : ∀ w ∈ [Cond.methodLink κ.1 idx xGetC, .selects "[Ljava/lang/Object;" xGetC xGetC, .instanceMethod xGetC, .native xGetC], w ∈ xBW) (hfr : 1 ≤ κ.2.2.2.1) (hlo : 60 ≤ κ.2.2.2.2) (hcat : (rest.map fun v => v.category).sum ≤ 8) (h0 : τ a = some (.inl (6, n, .inr (.inr (.inr (.inr f)))))) (kk : xX Γ κ (pc + 3) L (.ref ((gG Γ).2.2.2 5) :: rest) τ rc rs) : xX Γ κ pc L (.ref a :: rest) τ rc rs := by
  intro ok H locs ls cs ss hW hS h1 h2 h
  have hts := ok.2.2.2.2.1
  have h10 := ok.2.2.2.2.2.2.2.1
  refine va_getC ok.1 ok.2.1 (by rw [ok.2.2.1]; exact h.1.symm) ok.2.2.2.1 (hts _ (w _ (by simp))) (va_Nw.use rfl (ok.2.2.2.2.2.1.2.2.2.1 xGetC (by simp [xDecl]))) (hts _ (w _ (by simp))) (hts _ (w _ (by simp))) (hts _ (w _ (by simp))) ok.2.2.2.2.2.1.2.2.2.2.2.2.2.2.2.2.1 ⟨_, ((hW a _ h0).1 (by decide)).1, rfl, ?_⟩ (Nat.le_trans hfr ok.2.2.2.2.2.2.1) (by omega) d (kk ok H locs ls cs ss hW hS h1 h2 h)
  exact va_nmO (ok.2.2.2.2.2.1.1.2 6 _ rfl).2 (by decide)
/-- the words of Math.max and min -/
def xLM (own : String) (idx : Nat) (y : MethodName) (cc : ByteArray) (n : Nat) (ty : FieldType) : Prop := Cond.methodLink own idx y ∈ xBW ∧ Cond.static y ∈ xBW ∧ Cond.initialized "java/lang/Math" ∈ xBW ∧ Cond.code y cc n (some ty) ∈ xBW
theorem x_mmax {idx : Nat} {x y : Int32} (d : decode κ.2.1 pc = .ok (.invokestatic idx, 3)) (w : xLM κ.1 idx Lib.Math.max.name Lib.Math.max.code 2 .int) (hfr : 1 ≤ κ.2.2.2.1) (hlo : 60 ≤ κ.2.2.2.2) (hcat : (rest.map fun v => v.category).sum ≤ 8) (kk : xX Γ κ (pc + 3) L (.int (if x < y then y else x) :: rest) τ rc rs) : xX Γ κ pc L (.int y :: .int x :: rest) τ rc rs := by
  intro ok H locs ls cs ss hW hS h1 h2 h
  have hts := ok.2.2.2.2.1
  have h10 := ok.2.2.2.2.2.2.2.1
  obtain ⟨w1, w2, w3, w4⟩ := w
  exact va_mmax ok.1 ok.2.1 (by rw [ok.2.2.1]; exact h.1.symm) ok.2.2.2.1 (hts _ w1) (hts _ w2) (hts _ w3) (hts _ w4) (Nat.le_trans hfr ok.2.2.2.2.2.2.1) (by omega) (by omega) (by omega) d (kk ok H locs ls cs ss hW hS h1 h2 h)
theorem x_mmin {idx : Nat} {x y : Int32} (d : decode κ.2.1 pc = .ok (.invokestatic idx, 3)) (w : xLM κ.1 idx Lib.Math.min.name Lib.Math.min.code 2 .int) (hfr : 1 ≤ κ.2.2.2.1) (hlo : 60 ≤ κ.2.2.2.2) (hcat : (rest.map fun v => v.category).sum ≤ 8) (kk : xX Γ κ (pc + 3) L (.int (if y < x then y else x) :: rest) τ rc rs) : xX Γ κ pc L (.int y :: .int x :: rest) τ rc rs := by
  intro ok H locs ls cs ss hW hS h1 h2 h
  have hts := ok.2.2.2.2.1
  have h10 := ok.2.2.2.2.2.2.2.1
  obtain ⟨w1, w2, w3, w4⟩ := w
  exact va_mmin ok.1 ok.2.1 (by rw [ok.2.2.1]; exact h.1.symm) ok.2.2.2.1 (hts _ w1) (hts _ w2) (hts _ w3) (hts _ w4) (Nat.le_trans hfr ok.2.2.2.2.2.2.1) (by omega) (by omega) (by omega) d (kk ok H locs ls cs ss hW hS h1 h2 h)
theorem x_mmax_long {idx : Nat} {x y : Int64} (d : decode κ.2.1 pc = .ok (.invokestatic idx, 3)) (w : xLM κ.1 idx Lib.MathLoose.max_long.x Lib.MathLoose.max_long.code 4 .long) (hfr : 1 ≤ κ.2.2.2.1) (hlo : 60 ≤ κ.2.2.2.2) (hcat : (rest.map fun v => v.category).sum ≤ 8) (kk : xX Γ κ (pc + 3) L (.long (if y < x then x else y) :: rest) τ rc rs) : xX Γ κ pc L (.long y :: .long x :: rest) τ rc rs := by
  intro ok H locs ls cs ss hW hS h1 h2 h
  have hts := ok.2.2.2.2.1
  have h10 := ok.2.2.2.2.2.2.2.1
  obtain ⟨w1, w2, w3, w4⟩ := w
  exact va_mmax_long ok.1 ok.2.1 (by rw [ok.2.2.1]; exact h.1.symm) ok.2.2.2.1 (hts _ w1) (hts _ w2) (hts _ w3) (hts _ w4) (Nat.le_trans hfr ok.2.2.2.2.2.2.1) (by omega) (by omega) (by omega) d (kk ok H locs ls cs ss hW hS h1 h2 h)
theorem x_mmin_long {idx : Nat} {x y : Int64} (d : decode κ.2.1 pc = .ok (.invokestatic idx, 3)) (w : xLM κ.1 idx Lib.MathLoose.min_long.x Lib.MathLoose.min_long.code 4 .long) (hfr : 1 ≤ κ.2.2.2.1) (hlo : 60 ≤ κ.2.2.2.2) (hcat : (rest.map fun v => v.category).sum ≤ 8) (kk : xX Γ κ (pc + 3) L (.long (if y < x then y else x) :: rest) τ rc rs) : xX Γ κ pc L (.long y :: .long x :: rest) τ rc rs := by
  intro ok H locs ls cs ss hW hS h1 h2 h
  have hts := ok.2.2.2.2.1
  have h10 := ok.2.2.2.2.2.2.2.1
  obtain ⟨w1, w2, w3, w4⟩ := w
  exact va_mmin_long ok.1 ok.2.1 (by rw [ok.2.2.1]; exact h.1.symm) ok.2.2.2.1 (hts _ w1) (hts _ w2) (hts _ w3) (hts _ w4) (Nat.le_trans hfr ok.2.2.2.2.2.2.1) (by omega) (by omega) (by omega) d (kk ok H locs ls cs ss hW hS h1 h2 h)
end XNAT
