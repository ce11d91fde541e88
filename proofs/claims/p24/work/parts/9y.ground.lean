/-! ===== the ground at the law's entry: classes, texts, statics, the five cells that stand before ===== -/
section GROUND
variable {s : State} {args : Array Value}
theorem gr_bw (hts : ∀ w ∈ lw_tbl, w.before args s = true) : ∀ w ∈ xBW, w.before args s = true := fun w hw => xtb_ok hts w (List.mem_filter.mp hw).1
theorem gr_cl (hts : ∀ w ∈ lw_tbl, w.before args s = true) : ∃ D : va_G, ∀ (c : Nat) (q : vw_C), xCl[c]? = some q → u_Kn s q.1 q.2.1 q.2.2 (D.1 c) (D.2 c) := by
  have h : ∀ c : Nat, ∃ x : ClassId × (Nat → Nat), ∀ q : vw_C, xCl[c]? = some q → u_Kn s q.1 q.2.1 q.2.2 x.1 x.2 := by
    intro c
    have key : ∀ (C : String) (T : u_T) (N n : Nat), (∀ w ∈ u_ws C T N, w ∈ xBW) → Cond.instantiable C n ∈ lw_tbl → ∃ x : ClassId × (Nat → Nat), ∀ q : vw_C, some ((C, T, N) : vw_C) = some q → u_Kn s q.1 q.2.1 q.2.2 x.1 x.2 := by
      intro C T N n h1 h2
      obtain ⟨cC, iS, h⟩ := u_known (args := args) (gr_bw hts) h1 (hts _ h2)
      refine ⟨(cC, iS), fun q e => ?_⟩
      cases e
      exact h
    match c with
    | 0 => exact key RX0 TX0 4 4 xin0 (List.mem_of_getElem? (i := 24 + 112) (by decide +kernel))
    | 1 => exact key RX1 TX1 6 6 xin1 (List.mem_of_getElem? (i := 24 + 262) (by decide +kernel))
    | 2 => exact key RX2 TX2 3 3 xin2 (List.mem_of_getElem? (i := 24 + 435) (by decide +kernel))
    | 3 => exact key RX3 TX3 11 11 xin3 (List.mem_of_getElem? (i := 24 + 403) (by decide +kernel))
    | 4 => exact key RX4 TX4 1 1 xin4 (List.mem_of_getElem? (i := 24 + 68) (by decide +kernel))
    | 5 => exact key RX5 TX5 4 4 xin5 (List.mem_of_getElem? (i := 24 + 415) (by decide +kernel))
    | 6 => exact key RX6 TX6 5 5 xin6 (List.mem_of_getElem? (i := 24 + 556) (by decide +kernel))
    | 7 => exact key RX7 TX7 10 10 xin7 (List.mem_of_getElem? (i := 24 + 34) (by decide +kernel))
    | 8 => exact key RX0 TX0 4 4 xin8 (List.mem_of_getElem? (i := 24 + 112) (by decide +kernel))
    | 9 => exact key RJ4 TJ4 4 4 xin9 (List.mem_of_getElem? (i := 24 + 79) (by decide +kernel))
    | 10 => exact key RJx4a65c TJx4a65c 3 3 xin10 (List.mem_of_getElem? (i := 24 + 42) (by decide +kernel))
    | _ + 11 => exact ⟨(0, fun _ => 0), fun q e => by cases e⟩
  obtain ⟨F, hF⟩ := Classical.axiomOfChoice h
  exact ⟨(fun c => (F c).1, fun c => (F c).2), fun c q e => hF c q e⟩
theorem gr_arr {ty : FieldType} (h : (Cond.arrayClass ty).before args s = true) (hR : ∀ cA : ClassId, s.vm.findClass ("[" ++ ty.toString) = some cA → va_RA s cA ty) : ∃ cA : ClassId, ArrOfT s cA ty ∧ va_RA s cA ty := by
  obtain ⟨cA, kA, comp, h1, h2, h3⟩ := Cond.arrayClass_spec h
  exact ⟨cA, fun n z => ⟨fun k h => (by cases h), kA, h2, comp, h3⟩, hR cA h1⟩
theorem gr_arrO {C : String} (h : (Cond.arrayOver (.object C)).before args s = true) : ∃ cA : ClassId, ArrOfT s cA (.object C) ∧ va_RA s cA (.object C) := by
  obtain ⟨comp, cA, kA, h1, h2, h3, h4, h5⟩ := Cond.arrayOver_spec h
  exact ⟨cA, fun n z => ⟨fun k h => (by cases h), kA, h3, comp, h4⟩, kA, comp, h3, h4, h1, h5⟩
theorem gr_K (hts : ∀ w ∈ lw_tbl, w.before args s = true) : ∃ (D : va_G) (Q : Nat → ClassId), ∀ (N : Nat) (E : Nat → Nat), va_K D xCl (xTys (D, Q, N, E)) s := by
  obtain ⟨D, hD⟩ := gr_cl hts
  obtain ⟨q0, h0⟩ := gr_arr (ty := .int) (hts _ (List.mem_of_getElem? (i := 24 + 77) (by decide +kernel))) (fun _ h => h)
  obtain ⟨q1, h1⟩ := gr_arr (ty := .long) (hts _ (List.mem_of_getElem? (i := 24 + 1132) (by decide +kernel))) (fun _ h => h)
  obtain ⟨q2, h2⟩ := gr_arr (ty := .int) (hts _ (List.mem_of_getElem? (i := 24 + 77) (by decide +kernel))) (fun _ h => h)
  obtain ⟨q3, h3⟩ := gr_arr (ty := .byte) (hts _ (List.mem_of_getElem? (i := 24 + 110) (by decide +kernel))) (fun _ h => h)
  obtain ⟨q4, h4⟩ := gr_arr (ty := .int) (hts _ (List.mem_of_getElem? (i := 24 + 77) (by decide +kernel))) (fun _ h => h)
  obtain ⟨q5, h5⟩ := gr_arrO (C := "RentStream$Bill") (hts _ (List.mem_of_getElem? (i := 24 + 453) (by decide +kernel)))
  obtain ⟨q6, h6⟩ := gr_arrO (C := "java/lang/Object") (hts _ (List.mem_of_getElem? (i := 24 + 347) (by decide +kernel)))
  refine ⟨D, fun k => match k with | 0 => q0 | 1 => q1 | 2 => q2 | 3 => q3 | 4 => q4 | 5 => q5 | _ => q6, fun N E => ⟨hD, fun k q e => ?_⟩⟩
  match k with
  | 0 => cases e; exact h0
  | 1 => cases e; exact h1
  | 2 => cases e; exact h2
  | 3 => cases e; exact h3
  | 4 => cases e; exact h4
  | 5 => cases e; exact h5
  | 6 => cases e; exact h6
  | _ + 7 => cases e
theorem gr_str (hts : ∀ w ∈ lw_tbl, w.before args s = true) (hgv : (Jvm.Cond.and given_1 narrow_1).before args s = true) : ∀ q ∈ xStr, ∃ a, vk_R q.1 q.2.1 q.2.2 a s := by
  intro q hq
  have h1 : ∀ q ∈ xStr, Cond.stringRef q.1 q.2.1 q.2.2 ∈ lw_tbl := List.forall_mem_cons.mpr ⟨List.mem_of_getElem? (i := 24 + 215) (by decide +kernel), List.forall_mem_cons.mpr ⟨List.mem_of_getElem? (i := 24 + 254) (by decide +kernel), List.forall_mem_cons.mpr ⟨List.mem_of_getElem? (i := 24 + 374) (by decide +kernel), List.forall_mem_cons.mpr ⟨List.mem_of_getElem? (i := 24 + 396) (by decide +kernel), List.forall_mem_cons.mpr ⟨List.mem_of_getElem? (i := 24 + 402) (by decide +kernel), List.forall_mem_cons.mpr ⟨List.mem_of_getElem? (i := 24 + 517) (by decide +kernel), List.forall_mem_cons.mpr ⟨List.mem_of_getElem? (i := 24 + 518) (by decide +kernel), List.forall_mem_cons.mpr ⟨List.mem_of_getElem? (i := 24 + 523) (by decide +kernel), List.forall_mem_cons.mpr ⟨List.mem_of_getElem? (i := 24 + 533) (by decide +kernel), List.forall_mem_cons.mpr ⟨List.mem_of_getElem? (i := 24 + 542) (by decide +kernel), List.forall_mem_cons.mpr ⟨List.mem_of_getElem? (i := 24 + 544) (by decide +kernel), List.forall_mem_cons.mpr ⟨List.mem_of_getElem? (i := 24 + 553) (by decide +kernel), List.forall_mem_cons.mpr ⟨List.mem_of_getElem? (i := 24 + 554) (by decide +kernel), List.forall_mem_cons.mpr ⟨List.mem_of_getElem? (i := 24 + 583) (by decide +kernel), List.forall_mem_cons.mpr ⟨List.mem_of_getElem? (i := 24 + 584) (by decide +kernel), List.forall_mem_cons.mpr ⟨List.mem_of_getElem? (i := 24 + 593) (by decide +kernel), List.forall_mem_cons.mpr ⟨List.mem_of_getElem? (i := 24 + 628) (by decide +kernel), List.forall_mem_cons.mpr ⟨List.mem_of_getElem? (i := 24 + 629) (by decide +kernel), List.forall_mem_cons.mpr ⟨List.mem_of_getElem? (i := 24 + 638) (by decide +kernel), List.forall_mem_cons.mpr ⟨List.mem_of_getElem? (i := 24 + 639) (by decide +kernel), List.forall_mem_cons.mpr ⟨List.mem_of_getElem? (i := 24 + 774) (by decide +kernel), List.forall_mem_cons.mpr ⟨List.mem_of_getElem? (i := 24 + 785) (by decide +kernel), List.forall_mem_cons.mpr ⟨List.mem_of_getElem? (i := 24 + 1070) (by decide +kernel), fun _ h => absurd h List.not_mem_nil⟩⟩⟩⟩⟩⟩⟩⟩⟩⟩⟩⟩⟩⟩⟩⟩⟩⟩⟩⟩⟩⟩⟩
  have h2 : ∀ q ∈ xStr, Cond.exactly (.string q.1 q.2.1) "java/lang/String" ∈ flatC (Jvm.Cond.and given_1 narrow_1) := List.forall_mem_cons.mpr ⟨List.mem_of_getElem? (i := 281) (by decide +kernel), List.forall_mem_cons.mpr ⟨List.mem_of_getElem? (i := 303) (by decide +kernel), List.forall_mem_cons.mpr ⟨List.mem_of_getElem? (i := 320) (by decide +kernel), List.forall_mem_cons.mpr ⟨List.mem_of_getElem? (i := 336) (by decide +kernel), List.forall_mem_cons.mpr ⟨List.mem_of_getElem? (i := 357) (by decide +kernel), List.forall_mem_cons.mpr ⟨List.mem_of_getElem? (i := 395) (by decide +kernel), List.forall_mem_cons.mpr ⟨List.mem_of_getElem? (i := 412) (by decide +kernel), List.forall_mem_cons.mpr ⟨List.mem_of_getElem? (i := 428) (by decide +kernel), List.forall_mem_cons.mpr ⟨List.mem_of_getElem? (i := 451) (by decide +kernel), List.forall_mem_cons.mpr ⟨List.mem_of_getElem? (i := 473) (by decide +kernel), List.forall_mem_cons.mpr ⟨List.mem_of_getElem? (i := 495) (by decide +kernel), List.forall_mem_cons.mpr ⟨List.mem_of_getElem? (i := 512) (by decide +kernel), List.forall_mem_cons.mpr ⟨List.mem_of_getElem? (i := 534) (by decide +kernel), List.forall_mem_cons.mpr ⟨List.mem_of_getElem? (i := 553) (by decide +kernel), List.forall_mem_cons.mpr ⟨List.mem_of_getElem? (i := 571) (by decide +kernel), List.forall_mem_cons.mpr ⟨List.mem_of_getElem? (i := 588) (by decide +kernel), List.forall_mem_cons.mpr ⟨List.mem_of_getElem? (i := 605) (by decide +kernel), List.forall_mem_cons.mpr ⟨List.mem_of_getElem? (i := 627) (by decide +kernel), List.forall_mem_cons.mpr ⟨List.mem_of_getElem? (i := 662) (by decide +kernel), List.forall_mem_cons.mpr ⟨List.mem_of_getElem? (i := 683) (by decide +kernel), List.forall_mem_cons.mpr ⟨List.mem_of_getElem? (i := 706) (by decide +kernel), List.forall_mem_cons.mpr ⟨List.mem_of_getElem? (i := 727) (by decide +kernel), List.forall_mem_cons.mpr ⟨List.mem_of_getElem? (i := 847) (by decide +kernel), fun _ h => absurd h List.not_mem_nil⟩⟩⟩⟩⟩⟩⟩⟩⟩⟩⟩⟩⟩⟩⟩⟩⟩⟩⟩⟩⟩⟩⟩
  obtain ⟨a, c, cA, kA, q1, -⟩ := Cond.exactly_spec (flat_of_before _ hgv _ (h2 q hq))
  exact ⟨a, vk_R.of (hts _ (h1 q hq)) q1⟩
theorem gr_tt {ty ty2 : FieldType} {t N M : Nat} {f g : Nat → Value} {A : Nat → Prop} {H : Heap} (h1 : va_T ty t N f A s H) (h2 : va_T ty2 t M g A s H) : ty = ty2 ∧ Int32.ofNat N = Int32.ofNat M ∧ ∀ j : Nat, j < N → j < M → f j = g j := by
  obtain ⟨c1, a1, a2, a3, a4, a5, a6, a7⟩ := h1
  obtain ⟨c2, b1, b2, b3, b4, b5, b6, b7⟩ := h2
  cases a1.symm.trans b1
  obtain ⟨-, k1, d1, p1, e1⟩ := a2
  obtain ⟨-, k2, d2, p2, e2⟩ := b2
  cases d1.symm.trans d2
  have e3 := e1.symm.trans e2
  cases e3
  refine ⟨rfl, a5.symm.trans b5, fun j h1 h2 => ?_⟩
  exact Option.some.inj ((a6 j h1).symm.trans (b6 j h2))
theorem gr_ot {E : String} {n : Nat} {ty : FieldType} {t N : Nat} {f : Nat → Value} {A : Nat → Prop} {H : Heap} (hi : (Cond.instantiable E n).before args s = true) (h1 : va_O E t A s H) (h2 : va_T ty t N f A s H) : False := by
  obtain ⟨c1, a1, a2, a3, a4⟩ := h1
  obtain ⟨c2, b1, b2, b3, b4, b5, b6, b7⟩ := h2
  cases a1.symm.trans b1
  obtain ⟨cC, kC, hfc, hk, hkind, -⟩ := Cond.instantiable_spec hi
  obtain ⟨-, k1, d1, p1, e1⟩ := b2
  cases a3.symm.trans hfc
  cases hk.symm.trans d1
  rw [hkind] at e1
  cases e1
theorem gr_m1 : ∀ j : Nat, j < 100 → Cond.eq (.elem (.static "java/lang/Integer" "DigitOnes" "[B") (.int (Int32.ofNat j))) (.int (I (48 + (j : Int) % 10))) ∈ flatC (Jvm.Cond.and given_1 narrow_1) := by
  have h : ∀ j : Nat, j < 100 → (flatC (Jvm.Cond.and given_1 narrow_1))[18 + j]? = some (Cond.eq (.elem (.static "java/lang/Integer" "DigitOnes" "[B") (.int (Int32.ofNat j))) (.int (I (48 + (j : Int) % 10)))) := by decide +kernel
  exact fun j hj => List.mem_of_getElem? (h j hj)
theorem gr_m2 : ∀ j : Nat, j < 100 → Cond.eq (.elem (.static "java/lang/Integer" "DigitTens" "[B") (.int (Int32.ofNat j))) (.int (I (48 + (j : Int) / 10))) ∈ flatC (Jvm.Cond.and given_1 narrow_1) := by
  have h : ∀ j : Nat, j < 100 → (flatC (Jvm.Cond.and given_1 narrow_1))[121 + j]? = some (Cond.eq (.elem (.static "java/lang/Integer" "DigitTens" "[B") (.int (Int32.ofNat j))) (.int (I (48 + (j : Int) / 10)))) := by decide +kernel
  exact fun j hj => List.mem_of_getElem? (h j hj)
theorem gr_m4 : ∀ j : Nat, j < 2 → Cond.eq (.elem (.field (.string "RentStream" 382) "java/lang/String" "value" "[B") (.int (Int32.ofNat j))) (.int (I (if j = 0 then 32 else 77))) ∈ flatC (Jvm.Cond.and given_1 narrow_1) := by
  have h : ∀ j : Nat, j < 2 → (flatC (Jvm.Cond.and given_1 narrow_1))[851 + j]? = some (Cond.eq (.elem (.field (.string "RentStream" 382) "java/lang/String" "value" "[B") (.int (Int32.ofNat j))) (.int (I (if j = 0 then 32 else 77)))) := by decide +kernel
  exact fun j hj => List.mem_of_getElem? (h j hj)
/-- the five cells, and the class object of Object[] -/
def gr_E (A : Nat → Prop) (E : Nat → Nat) (args : Array Value) (s : State) : Prop := ((Term.static "java/util/ArrayList" "DEFAULTCAPACITY_EMPTY_ELEMENTDATA" "[Ljava/lang/Object;").eval args s none [] s = some (.ref (E 0)) ∧ va_T (.object "java/lang/Object") (E 0) 0 (fun _ => .null) A s s.heap) ∧ ((Term.static "java/lang/Integer" "DigitOnes" "[B").eval args s none [] s = some (.ref (E 1)) ∧ va_T .byte (E 1) 100 (fun r => .int (I (48 + (r : Int) % 10))) A s s.heap) ∧ ((Term.static "java/lang/Integer" "DigitTens" "[B").eval args s none [] s = some (.ref (E 2)) ∧ va_T .byte (E 2) 100 (fun r => .int (I (48 + (r : Int) / 10))) A s s.heap) ∧ ((Term.string "RentStream" 382).eval args s none [] s = some (.ref (E 3)) ∧ va_O "java/lang/String" (E 3) A s s.heap ∧ va_OF "java/lang/String" "value" "[B" (.ref (E 4)) (E 3) A s s.heap ∧ va_OF "java/lang/String" "coder" "B" (.int 0) (E 3) A s s.heap) ∧ va_T .byte (E 4) 2 (fun j => .int (I (if j = 0 then 32 else 77))) A s s.heap ∧ va_Mi "[Ljava/lang/Object;" (E 5) s
theorem gr_cells {A : Nat → Prop} (hgv : (Jvm.Cond.and given_1 narrow_1).before args s = true) (hA : ∀ a : Nat, a < s.heap.size → ¬ A a) : ∃ E : Nat → Nat, gr_E A E args s := by
  have hn := flat_of_before _ hgv
  obtain ⟨e0, g0, h0⟩ := va_Tof (args := args) (s := s) (tm := (.static "java/util/ArrayList" "DEFAULTCAPACITY_EMPTY_ELEMENTDATA" "[Ljava/lang/Object;")) (ty := .object "java/lang/Object") (N := 0) (f := fun _ => .null) (A := A) (by decide) (hn _ (List.mem_of_getElem? (i := 5) (by decide +kernel))) (va_eqt (hn _ (List.mem_of_getElem? (i := 7) (by decide +kernel)))) (fun j hj => absurd hj (Nat.not_lt_zero _)) hA
  obtain ⟨e1, g1, h1⟩ := va_Tof (args := args) (s := s) (tm := (.static "java/lang/Integer" "DigitOnes" "[B")) (ty := .byte) (N := 100) (f := fun r => .int (I (48 + (r : Int) % 10))) (A := A) (by decide) (hn _ (List.mem_of_getElem? (i := 16) (by decide +kernel))) (va_eqt (hn _ (List.mem_of_getElem? (i := 17) (by decide +kernel)))) (fun j hj => va_eqt (hn _ (gr_m1 j hj))) hA
  obtain ⟨e2, g2, h2⟩ := va_Tof (args := args) (s := s) (tm := (.static "java/lang/Integer" "DigitTens" "[B")) (ty := .byte) (N := 100) (f := fun r => .int (I (48 + (r : Int) / 10))) (A := A) (by decide) (hn _ (List.mem_of_getElem? (i := 119) (by decide +kernel))) (va_eqt (hn _ (List.mem_of_getElem? (i := 120) (by decide +kernel)))) (fun j hj => va_eqt (hn _ (gr_m2 j hj))) hA
  obtain ⟨e4, g4, h4⟩ := va_Tof (args := args) (s := s) (tm := (.field (.string "RentStream" 382) "java/lang/String" "value" "[B")) (ty := .byte) (N := 2) (f := fun j => .int (I (if j = 0 then 32 else 77))) (A := A) (by decide) (hn _ (List.mem_of_getElem? (i := 849) (by decide +kernel))) (va_eqt (hn _ (List.mem_of_getElem? (i := 850) (by decide +kernel)))) (fun j hj => va_eqt (hn _ (gr_m4 j hj))) hA
  have hex : (Cond.exactly (.string "RentStream" 382) "java/lang/String").before args s = true := hn _ (List.mem_of_getElem? (i := 847) (by decide +kernel))
  obtain ⟨e3, c3, k3, cc3, g3, -⟩ := Cond.exactly_spec hex
  have h3 := va_Oof (A := A) hex g3 hA
  have hco : (Term.field (.string "RentStream" 382) "java/lang/String" "coder" "B").eval args s none [] s = some (.int 0) := va_eqt (hn _ (List.mem_of_getElem? (i := 848) (by decide +kernel)))
  obtain ⟨e5, h5⟩ := va_Mi.of (args := args) (s := s) (C := "[Ljava/lang/Object;") (hn _ (List.mem_of_getElem? (i := 280) (by decide +kernel)))
  exact ⟨fun k => match k with | 0 => e0 | 1 => e1 | 2 => e2 | 3 => e3 | 4 => e4 | _ => e5, ⟨g0, h0⟩, ⟨g1, h1⟩, ⟨g2, h2⟩, ⟨g3, h3, vk_OFof g3 g4 hA, vk_OFof g3 hco hA⟩, h4, h5⟩
theorem gr_ne {A : Nat → Prop} {E : Nat → Nat} (hts : ∀ w ∈ lw_tbl, w.before args s = true) (h : gr_E A E args s) : E 0 ≠ E 1 ∧ E 0 ≠ E 2 ∧ E 0 ≠ E 3 ∧ E 0 ≠ E 4 ∧ E 1 ≠ E 2 ∧ E 1 ≠ E 3 ∧ E 1 ≠ E 4 ∧ E 2 ≠ E 3 ∧ E 2 ≠ E 4 ∧ E 3 ≠ E 4 := by
  obtain ⟨⟨-, h0⟩, ⟨-, h1⟩, ⟨-, h2⟩, ⟨-, h3, -⟩, h4, -⟩ := h
  have hS : (Cond.instantiable "java/lang/String" 4).before args s = true := hts _ (List.mem_of_getElem? (i := 24 + 936) (by decide +kernel))
  refine ⟨fun e => ?_, fun e => ?_, fun e => ?_, fun e => ?_, fun e => ?_, fun e => ?_, fun e => ?_, fun e => ?_, fun e => ?_, fun e => ?_⟩
  · rw [e] at h0; exact absurd (gr_tt h0 h1).1 (by decide)
  · rw [e] at h0; exact absurd (gr_tt h0 h2).1 (by decide)
  · rw [e] at h0; exact gr_ot hS h3 h0
  · rw [e] at h0; exact absurd (gr_tt h0 h4).1 (by decide)
  · rw [e] at h1; exact absurd ((gr_tt h1 h2).2.2 1 (by decide) (by decide)) (by decide)
  · rw [e] at h1; exact gr_ot hS h3 h1
  · rw [e] at h1; exact absurd (gr_tt h1 h4).2.1 (by decide)
  · rw [e] at h2; exact gr_ot hS h3 h2
  · rw [e] at h2; exact absurd (gr_tt h2 h4).2.1 (by decide)
  · rw [← e] at h4; exact gr_ot hS h3 h4
def gr_t (E : Nat → Nat) (b L : Nat) (xs : Nat → Int32) : xT := xup (xup (xup (xup (xup (xup (fun _ => none) b (.inl (9, L, .inl xs))) (E 4) (coE E 34 0)) (E 3) (coE E 33 0)) (E 2) (coE E 32 0)) (E 1) (coE E 31 0)) (E 0) (coE E 30 0)
theorem gr_T {A : Nat → Prop} {b L : Nat} {xs : Nat → Int32} (hX : va_X b L xs s s.heap) (hA : ¬ A b) : va_T .int b L (fun j => .int (xs j)) A s s.heap := by
  obtain ⟨scr, h1, h2, h3, h4, h5⟩ := hX
  exact ⟨scr, h1, h2, h3, Nat.le_of_eq h4.symm, by rw [h4], h5, hA⟩
theorem gr_nb {A : Nat → Prop} {E : Nat → Nat} {b L : Nat} {xs : Nat → Int32} (hts : ∀ w ∈ lw_tbl, w.before args s = true) (h : gr_E A E args s) (hb : va_T .int b L (fun j => .int (xs j)) A s s.heap) : E 0 ≠ b ∧ E 1 ≠ b ∧ E 2 ≠ b ∧ E 3 ≠ b ∧ E 4 ≠ b := by
  obtain ⟨⟨-, h0⟩, ⟨-, h1⟩, ⟨-, h2⟩, ⟨-, h3, -⟩, h4, -⟩ := h
  have hS : (Cond.instantiable "java/lang/String" 4).before args s = true := hts _ (List.mem_of_getElem? (i := 24 + 936) (by decide +kernel))
  refine ⟨fun e => ?_, fun e => ?_, fun e => ?_, fun e => ?_, fun e => ?_⟩
  · rw [e] at h0; exact absurd (gr_tt h0 hb).1 (by decide)
  · rw [e] at h1; exact absurd (gr_tt h1 hb).1 (by decide)
  · rw [e] at h2; exact absurd (gr_tt h2 hb).1 (by decide)
  · rw [e] at h3; exact gr_ot hS h3 hb
  · rw [e] at h4; exact absurd (gr_tt h4 hb).1 (by decide)
theorem gr_Rw {A : Nat → Prop} {E : Nat → Nat} {b L : Nat} {xs : Nat → Int32} (hts : ∀ w ∈ lw_tbl, w.before args s = true) (h : gr_E A E args s) (hb : va_T .int b L (fun j => .int (xs j)) A s s.heap) : Rw (gr_t E b L xs) [(30, 0, E 0, coE E 30 0), (31, 0, E 1, coE E 31 0), (32, 0, E 2, coE E 32 0), (33, 0, E 3, coE E 33 0), (34, 0, E 4, coE E 34 0), (37, 0, b, .inl (9, L, .inl xs))] := by
  obtain ⟨n1, n2, n3, n4, n5, n6, n7, n8, n9, n10⟩ := gr_ne hts h
  obtain ⟨b0, b1, b2, b3, b4⟩ := gr_nb hts h hb
  refine Rw.add (Rw.add (Rw.add (Rw.add (Rw.add (Rw.add ⟨fun x hx => absurd hx List.not_mem_nil, List.nodup_nil⟩ rfl 37 0) ?_ 34 0) ?_ 33 0) ?_ 32 0) ?_ 31 0) ?_ 30 0
  · rw [xup_n _ _ b4]
  · rw [xup_n _ _ n10, xup_n _ _ b3]
  · rw [xup_n _ _ n8, xup_n _ _ n9, xup_n _ _ b2]
  · rw [xup_n _ _ n5, xup_n _ _ n6, xup_n _ _ n7, xup_n _ _ b1]
  · rw [xup_n _ _ n1, xup_n _ _ n2, xup_n _ _ n3, xup_n _ _ n4, xup_n _ _ b0]
theorem gr_xW {G : xG} {b L : Nat} {xs : Nat → Int32} (h : gr_E (xA G) G.2.2.2 args s) (hb : va_T .int b L (fun j => .int (xs j)) (xA G) s s.heap) : xW G s (gr_t G.2.2.2 b L xs) s.heap := by
  obtain ⟨⟨-, h0⟩, ⟨-, h1⟩, ⟨-, h2⟩, ⟨-, h3, h5, h6⟩, h4, -⟩ := h
  refine xW.set (H := s.heap) (xW.set (H := s.heap) (xW.set (H := s.heap) (xW.set (H := s.heap) (xW.set (H := s.heap) (xW.set (H := s.heap) (fun a e q => by cases q) ?_ (fun _ _ => rfl)) ?_ (fun _ _ => rfl)) ?_ (fun _ _ => rfl)) ?_ (fun _ _ => rfl)) ?_ (fun _ _ => rfl)) ?_ (fun _ _ => rfl)
  · exact ⟨fun q => absurd q (by decide), fun q => absurd q (by decide), fun q => absurd q (by decide), fun _ => ⟨_, rfl, hb⟩⟩
  · exact ⟨fun q => absurd q (by decide), fun _ => ⟨_, rfl, h4⟩, fun q => absurd q (by decide), fun q => absurd q (by decide)⟩
  · exact ⟨fun q => absurd rfl q, fun _ => ⟨h3, _, _, rfl, h5, h6⟩⟩
  · exact ⟨fun q => absurd q (by decide), fun _ => ⟨_, rfl, h2⟩, fun q => absurd q (by decide), fun q => absurd q (by decide)⟩
  · exact ⟨fun q => absurd q (by decide), fun _ => ⟨_, rfl, h1⟩, fun q => absurd q (by decide), fun q => absurd q (by decide)⟩
  · exact ⟨fun q => absurd q (by decide), fun q => absurd q (by decide), fun _ => ⟨rfl, h0⟩, fun q => absurd q (by decide)⟩
theorem gr_amb {D : va_G} {Q : Nat → ClassId} {N : Nat} {E : Nat → Nat} (hN : N = s.heap.size) (hK : va_K D xCl (xTys (D, Q, N, E)) s) (hts : ∀ w ∈ lw_tbl, w.before args s = true) (hgv : (Jvm.Cond.and given_1 narrow_1).before args s = true) (hA : ∀ a : Nat, a < s.heap.size → ¬ xA (D, Q, N, E) a) (h : gr_E (xA (D, Q, N, E)) E args s) : xAmb (D, Q, N, E) s := by
  have hn := flat_of_before _ hgv
  obtain ⟨⟨g0, -⟩, ⟨g1, -⟩, ⟨g2, -⟩, ⟨g3, -⟩, -, h5⟩ := h
  have w1 : ∀ q ∈ xNest, Cond.methodLinkNest q.1 q.2.1 q.2.2.1 q.2.2.2 ∈ lw_tbl := List.forall_mem_cons.mpr ⟨List.mem_of_getElem? (i := 24 + 113) (by decide +kernel), List.forall_mem_cons.mpr ⟨List.mem_of_getElem? (i := 24 + 416) (by decide +kernel), List.forall_mem_cons.mpr ⟨List.mem_of_getElem? (i := 24 + 436) (by decide +kernel), List.forall_mem_cons.mpr ⟨List.mem_of_getElem? (i := 24 + 607) (by decide +kernel), fun _ h => absurd h List.not_mem_nil⟩⟩⟩⟩
  have w2 : ∀ q ∈ xCast, Cond.castable q.1 q.2 ∈ lw_tbl := List.forall_mem_cons.mpr ⟨List.mem_of_getElem? (i := 24 + 174) (by decide +kernel), List.forall_mem_cons.mpr ⟨List.mem_of_getElem? (i := 24 + 247) (by decide +kernel), List.forall_mem_cons.mpr ⟨List.mem_of_getElem? (i := 24 + 367) (by decide +kernel), List.forall_mem_cons.mpr ⟨List.mem_of_getElem? (i := 24 + 1155) (by decide +kernel), List.forall_mem_cons.mpr ⟨List.mem_of_getElem? (i := 24 + 1157) (by decide +kernel), List.forall_mem_cons.mpr ⟨List.mem_of_getElem? (i := 24 + 1160) (by decide +kernel), List.forall_mem_cons.mpr ⟨List.mem_of_getElem? (i := 24 + 1170) (by decide +kernel), List.forall_mem_cons.mpr ⟨List.mem_of_getElem? (i := 24 + 1169) (by decide +kernel), fun _ h => absurd h List.not_mem_nil⟩⟩⟩⟩⟩⟩⟩⟩
  have w3 : ∀ q ∈ xDecl, Cond.declares q ∈ lw_tbl := List.forall_mem_cons.mpr ⟨List.mem_of_getElem? (i := 24 + 175) (by decide +kernel), List.forall_mem_cons.mpr ⟨List.mem_of_getElem? (i := 24 + 176) (by decide +kernel), List.forall_mem_cons.mpr ⟨List.mem_of_getElem? (i := 24 + 177) (by decide +kernel), List.forall_mem_cons.mpr ⟨List.mem_of_getElem? (i := 24 + 178) (by decide +kernel), List.forall_mem_cons.mpr ⟨List.mem_of_getElem? (i := 24 + 179) (by decide +kernel), List.forall_mem_cons.mpr ⟨List.mem_of_getElem? (i := 24 + 180) (by decide +kernel), List.forall_mem_cons.mpr ⟨List.mem_of_getElem? (i := 24 + 1167) (by decide +kernel), fun _ h => absurd h List.not_mem_nil⟩⟩⟩⟩⟩⟩⟩
  refine ⟨hK, fun q hq => va_Nw.of rfl (hts _ (w1 q hq)), fun q hq => va_Nw.of rfl (hts _ (w2 q hq)), fun q hq => va_Nw.of rfl (hts _ (w3 q hq)), gr_str hts hgv, ?_, ?_, va_AO.of (hts _ (List.mem_of_getElem? (i := 24 + 453) (by decide +kernel))), va_AO.of (hts _ (List.mem_of_getElem? (i := 24 + 347) (by decide +kernel))), vk_R.of (hts _ (List.mem_of_getElem? (i := 24 + 1070) (by decide +kernel))) g3, h5, Nat.le_of_eq hN, ?_⟩
  · refine List.forall_mem_cons.mpr ⟨?_, List.forall_mem_cons.mpr ⟨?_, List.forall_mem_cons.mpr ⟨?_, List.forall_mem_cons.mpr ⟨?_, fun _ h => absurd h List.not_mem_nil⟩⟩⟩⟩
    · exact va_Zof (hts _ (List.mem_of_getElem? (i := 24 + 88) (by decide +kernel))) (hts _ (List.mem_of_getElem? (i := 24 + 8) (by decide +kernel))) (va_eqt (hn _ (List.mem_of_getElem? (i := 8) (by decide +kernel)))) hA
    · exact va_Zof (hts (Cond.laysStatic "java/util/ArrayList" "DEFAULTCAPACITY_EMPTY_ELEMENTDATA" "[Ljava/lang/Object;") (List.mem_of_getElem? (i := 24 + 54) (by decide +kernel))) (hts (Cond.initialized "java/util/ArrayList") (List.mem_of_getElem? (i := 24 + 4) (by decide +kernel))) g0 hA
    · exact va_Zof (hts (Cond.laysStatic "java/lang/Integer" "DigitOnes" "[B") (List.mem_of_getElem? (i := 24 + 920) (by decide +kernel))) (hts (Cond.initialized "java/lang/Integer") (List.mem_of_getElem? (i := 24 + 31) (by decide +kernel))) g1 hA
    · exact va_Zof (hts (Cond.laysStatic "java/lang/Integer" "DigitTens" "[B") (List.mem_of_getElem? (i := 24 + 922) (by decide +kernel))) (hts (Cond.initialized "java/lang/Integer") (List.mem_of_getElem? (i := 24 + 31) (by decide +kernel))) g2 hA
  · refine List.forall_mem_cons.mpr ⟨?_, List.forall_mem_cons.mpr ⟨?_, List.forall_mem_cons.mpr ⟨?_, fun _ h => absurd h List.not_mem_nil⟩⟩⟩
    · exact vx_Zqof (hts _ (List.mem_of_getElem? (i := 24 + 199) (by decide +kernel))) (hts _ (List.mem_of_getElem? (i := 24 + 11) (by decide +kernel))) (hn _ (List.mem_of_getElem? (i := 9) (by decide +kernel))) hA
    · exact vx_Zqof (hts _ (List.mem_of_getElem? (i := 24 + 201) (by decide +kernel))) (hts _ (List.mem_of_getElem? (i := 24 + 11) (by decide +kernel))) (hn _ (List.mem_of_getElem? (i := 10) (by decide +kernel))) hA
    · exact vx_Zqof (hts _ (List.mem_of_getElem? (i := 24 + 850) (by decide +kernel))) (hts _ (List.mem_of_getElem? (i := 24 + 23) (by decide +kernel))) (hn _ (List.mem_of_getElem? (i := 11) (by decide +kernel))) hA
  · exact List.forall_mem_cons.mpr ⟨va_Nc.of (args := args) (hn _ (List.mem_of_getElem? (i := 239) (by decide +kernel))), List.forall_mem_cons.mpr ⟨va_Nc.of (args := args) (hn _ (List.mem_of_getElem? (i := 227) (by decide +kernel))), List.forall_mem_cons.mpr ⟨va_Nc.of (args := args) (hn _ (List.mem_of_getElem? (i := 226) (by decide +kernel))), fun _ h => absurd h List.not_mem_nil⟩⟩⟩
end GROUND
theorem whole_start {p : Program} {e : Env} {s : State} {m : MethodId} {below : List Frame} {meth : Method} {c : Code} (l : Launch) (hflags : l.flags = flags0) {b L : Nat} {xs : Nat → Int32} (hL : L ≤ 260) (C0 : lw_At p s m meth c b L xs) : W p l e room_1 s m #[Value.ref b] below meth c s.heap [] 0 0 (lw_Z below #[Value.ref b] s) (entryFrame m ([Value.ref b] : List Value).toArray 16) := by
  obtain ⟨hx, hb, hr, hml, hown, hts, hX, hbl, hlocks, hgv⟩ := C0
  have hl : l.stackTraces = false := by
    unfold Launch.stackTraces
    rw [hflags]
    decide
  obtain ⟨D, Q, hK⟩ := gr_K hts
  have hA : ∀ a : Nat, a < s.heap.size → ¬ (fun q => s.heap.size ≤ q) a := fun a h1 h2 => absurd h1 (Nat.not_lt.mpr h2)
  obtain ⟨E, hE⟩ := gr_cells (A := fun q => s.heap.size ≤ q) hgv hA
  have hl0 := lv_entry [Value.ref b] (n := 16) (Nat.le_of_ble_eq_true rfl)
  have hbT := gr_T (A := fun q => s.heap.size ≤ q) hX (hA b hbl)
  rw [lg_entry_eq]
  generalize (lg_sl [Value.ref b] ++ List.replicate (16 - (lg_sl [Value.ref b]).length) Slot.unset).toArray = ls at hl0 ⊢
  exact S_L_law_0 (Γ := (p, l, e, room_1, s, m, #[Value.ref b], below, meth, c, lw_Z below #[Value.ref b] s, D, Q, s.heap.size, E)) hl ⟨rfl, ⟨b, rfl, rfl⟩, hb, hr, rfl⟩ (a0 := b) (t := gr_t E b L xs) (rc := 600130) (rs := 7301080) (law_start hL (gr_Rw hts hE hbT) (Nat.le_refl _) (Nat.le_refl _)) ⟨hx, hb, hml, hown, gr_bw hts, gr_amb rfl (hK _ _) hts hgv hA hE, Nat.le_of_ble_eq_true rfl, Nat.le_of_ble_eq_true rfl, hlocks, hl⟩ s.heap [] ls 0 0 (gr_xW (G := (D, Q, s.heap.size, E)) hE hbT) va_S.rf (Nat.le_refl _) (Nat.le_refl _) hl0
