/-! ===== THE WALKER'S GROUND: the picture of the heap, one predicate for 'the machine stands here', a row an instruction ===== -/
/-- the classes whose objects the picture holds -/
abbrev xCl : List vw_C := [(RX0, TX0, 4), (RX1, TX1, 6), (RX2, TX2, 3), (RX3, TX3, 11), (RX4, TX4, 1), (RX5, TX5, 4), (RX6, TX6, 5), (RX7, TX7, 10), (RX0, TX0, 4), (RJ4, TJ4, 4), (RJx4a65c, TJx4a65c, 3)]
/-- a cell: an array (its kind, its length and contents) or an object (the number of its class in xCl, its fields); kinds 0 int, 1 long, 2 boolean, 3 byte, 4 char, 5 Bill, 6 Object; 7: bytes nobody writes; 8: the empty Object row nobody writes; class 11: a String nobody writes -/
abbrev xE : Type := (Nat × vp_A) ⊕ (Nat × List Value)
abbrev xT : Type := Nat → Option xE
/-- class numbers, array classes, where the walk's own cells begin, the addresses of the things that stood before -/
abbrev xG : Type := va_G × (Nat → ClassId) × Nat × (Nat → Nat)
def xA (G : xG) : Nat → Prop := fun q => G.2.2.1 ≤ q
abbrev xTys (G : xG) : List (ClassId × FieldType) := [(G.2.1 0, .int), (G.2.1 1, .long), (G.2.1 2, .int), (G.2.1 3, .byte), (G.2.1 4, .int), (G.2.1 5, .object "RentStream$Bill"), (G.2.1 6, .object "java/lang/Object")]
def xup (τ : xT) (a : Nat) (e : xE) : xT := fun b => if b = a then some e else τ b
theorem xup_s (τ : xT) (a : Nat) (e : xE) : xup τ a e a = some e := if_pos rfl
theorem xup_n (τ : xT) {a b : Nat} (e : xE) (h : b ≠ a) : xup τ a e b = τ b := if_neg h
/-- what the picture's cell says of the heap -/
def xat (G : xG) (s : State) (a : Nat) (e : xE) (H : Heap) : Prop := match e with
  | .inl (k, x) => (k < 7 → H[a]? = some (vp_cell (G.2.1 k) x) ∧ xA G a) ∧ (k = 7 → ∃ f, x.2 = .inl f ∧ va_T .byte a x.1 (fun j => .int (f j)) (xA G) s H) ∧ (k = 8 → x.1 = 0 ∧ va_T (.object "java/lang/Object") a 0 (fun _ => .null) (xA G) s H) ∧ (8 < k → ∃ f, x.2 = .inl f ∧ va_T .int a x.1 (fun j => .int (f j)) (xA G) s H)
  | .inr (ci, fs) => (ci ≠ 11 → va_at G.1 xCl (a, .inr (ci, fs)) H ∧ xA G a) ∧ (ci = 11 → va_O "java/lang/String" a (xA G) s H ∧ ∃ (v : Nat) (c : Int32), fs = [.ref v, .int c] ∧ va_OF "java/lang/String" "value" "[B" (.ref v) a (xA G) s H ∧ va_OF "java/lang/String" "coder" "B" (.int c) a (xA G) s H)
def xW (G : xG) (s : State) (τ : xT) (H : Heap) : Prop := ∀ a e, τ a = some e → xat G s a e H
theorem xat.lt {G : xG} {s : State} {a : Nat} {e : xE} {H : Heap} (h : xat G s a e H) : a < H.size := by
  rcases e with ⟨k, x⟩ | ⟨ci, fs⟩
  · obtain ⟨h1, h2, h3, h4⟩ := h
    rcases Nat.lt_trichotomy k 7 with q | q | q
    · exact (Array.getElem?_eq_some_iff.mp (h1 q).1).1
    · obtain ⟨f, -, cell, hc, -⟩ := h2 q
      exact (Array.getElem?_eq_some_iff.mp hc).1
    · by_cases q8 : k = 8
      · obtain ⟨-, cell, hc, -⟩ := h3 q8
        exact (Array.getElem?_eq_some_iff.mp hc).1
      · obtain ⟨f, -, cell, hc, -⟩ := h4 (by omega)
        exact (Array.getElem?_eq_some_iff.mp hc).1
  · obtain ⟨h1, h2⟩ := h
    by_cases q : ci = 11
    · obtain ⟨⟨cell, hc, -⟩, -⟩ := h2 q
      exact (Array.getElem?_eq_some_iff.mp hc).1
    · exact (h1 q).1.lt
theorem va_T.keptAt {ty : FieldType} {t N : Nat} {f : Nat → Value} {A : Nat → Prop} {U : State} {H H1 : Heap} (h : va_T ty t N f A U H) (hq : H1[t]? = H[t]?) : va_T ty t N f A U H1 := by
  obtain ⟨cell, h1, h2⟩ := h
  exact ⟨cell, by rw [hq]; exact h1, h2⟩
theorem va_O.keptAt {E : String} {t : Nat} {A : Nat → Prop} {U : State} {H H1 : Heap} (h : va_O E t A U H) (hq : H1[t]? = H[t]?) : va_O E t A U H1 := by
  obtain ⟨cell, h1, h2⟩ := h
  exact ⟨cell, by rw [hq]; exact h1, h2⟩
theorem va_OF.keptAt {o n d : String} {v : Value} {t : Nat} {A : Nat → Prop} {U : State} {H H1 : Heap} (h : va_OF o n d v t A U H) (hq : H1[t]? = H[t]?) : va_OF o n d v t A U H1 := by
  obtain ⟨cf, k, i, f, cell, h1, h2, h3, h4⟩ := h
  exact ⟨cf, k, i, f, cell, h1, h2, by rw [hq]; exact h3, h4⟩
theorem xat.kept {G : xG} {s : State} {a : Nat} {e : xE} {H H1 : Heap} (h : xat G s a e H) (hq : H1[a]? = H[a]?) : xat G s a e H1 := by
  rcases e with ⟨k, x⟩ | ⟨ci, fs⟩
  · obtain ⟨h1, h2, h3, h4⟩ := h
    refine ⟨fun q => ⟨hq.trans (h1 q).1, (h1 q).2⟩, fun q => ?_, fun q => ⟨(h3 q).1, (h3 q).2.keptAt hq⟩, fun q => ?_⟩
    · obtain ⟨f, e1, e2⟩ := h2 q
      exact ⟨f, e1, e2.keptAt hq⟩
    · obtain ⟨f, e1, e2⟩ := h4 q
      exact ⟨f, e1, e2.keptAt hq⟩
  · obtain ⟨h1, h2⟩ := h
    refine ⟨fun q => ⟨(h1 q).1.kept hq, (h1 q).2⟩, fun q => ?_⟩
    obtain ⟨e1, v, c, e2, e3, e4⟩ := h2 q
    exact ⟨e1.keptAt hq, v, c, e2, e3.keptAt hq, e4.keptAt hq⟩
theorem xat.moved {G : xG} {s U : State} {a : Nat} {e : xE} {H : Heap} (hvm : s.vm.Alike U.vm) (h : xat G s a e H) : xat G U a e H := by
  rcases e with ⟨k, x⟩ | ⟨ci, fs⟩
  · obtain ⟨h1, h2, h3, h4⟩ := h
    refine ⟨h1, fun q => ?_, fun q => ⟨(h3 q).1, (h3 q).2.moved hvm⟩, fun q => ?_⟩
    · obtain ⟨f, e1, e2⟩ := h2 q
      exact ⟨f, e1, e2.moved hvm⟩
    · obtain ⟨f, e1, e2⟩ := h4 q
      exact ⟨f, e1, e2.moved hvm⟩
  · obtain ⟨h1, h2⟩ := h
    refine ⟨h1, fun q => ?_⟩
    obtain ⟨e1, v, c, e2, e3, e4⟩ := h2 q
    exact ⟨e1.moved hvm, v, c, e2, e3.moved hvm, e4.moved hvm⟩
theorem xW.moved {G : xG} {s U : State} {τ : xT} {H : Heap} (hvm : s.vm.Alike U.vm) (h : xW G s τ H) : xW G U τ H := fun a e ha => (h a e ha).moved hvm
theorem xW.kept {G : xG} {s : State} {τ : xT} {H H1 : Heap} (h : xW G s τ H) (hq : ∀ q : Nat, q < H.size → H1[q]? = H[q]?) : xW G s τ H1 := fun a e ha => (h a e ha).kept (hq a (h a e ha).lt)
theorem xW.set {G : xG} {s : State} {τ : xT} {H H1 : Heap} {a : Nat} {e : xE} (h : xW G s τ H) (he : xat G s a e H1) (oq : ∀ q : Nat, q ≠ a → H1[q]? = H[q]?) : xW G s (xup τ a e) H1 := by
  intro b e' hb
  by_cases hba : b = a
  · subst hba
    rw [xup_s] at hb
    cases hb
    exact he
  · rw [xup_n _ _ hba] at hb
    exact (h b e' hb).kept (oq b hba)
theorem xW.push {G : xG} {s : State} {τ : xT} {H H1 : Heap} {e : xE} (h : xW G s τ H) (he : xat G s H.size e H1) (oq : ∀ q : Nat, q < H.size → H1[q]? = H[q]?) : xW G s (xup τ H.size e) H1 := by
  intro b e' hb
  by_cases hba : b = H.size
  · subst hba
    rw [xup_s] at hb
    cases hb
    exact he
  · rw [xup_n _ _ hba] at hb
    exact (h b e' hb).kept (oq b (h b e' hb).lt)
theorem xW.fresh {G : xG} {s : State} {τ : xT} {H : Heap} (h : xW G s τ H) : τ H.size = none := by
  cases hq : τ H.size with
  | none => rfl
  | some e => exact absurd (h _ _ hq).lt (Nat.lt_irrefl _)
/-- private methods of AbstractStringBuilder, called on a StringBuilder -/
def xSB : List MethodName := [yJ5_ensureCapacityInternal_d00df, yJ5_newCapacity_0f7a4, yJ5_putStringAt_47b60, yJ5_inflateIfNeededFor_a7421]
def xtb : List Cond := (xSB.map fun y => Cond.selects "java/lang/StringBuilder" y y) ++ lw_tbl
/-- the words that every method stands on -/
def xBW : List Cond := xtb.filter goodWord
theorem xbw (i : Nat) {w : Cond} (h1 : xtb[i]? = some w) (h2 : goodWord w = true) : w ∈ xBW := List.mem_filter.mpr ⟨List.mem_of_getElem? h1, h2⟩
theorem xBW_good : ∀ w ∈ xBW, (w.onTables && w.keeps) = true ∨ ∃ ty, w = .arrayClass ty := fun _ h => good_of_word (List.mem_filter.mp h).2
/-- methods of nest mates; what may be cast; what declares a method; texts; statics -/
def xNest : List (String × Nat × MethodName × String) := [(RX7, 43, yX0_init, "RentStream"), (RX3, 26, yX5_init, "RentStream"), (RX3, 33, yX2_init, "RentStream"), (RX3, 88, yX7_benefitFor, "RentStream")]
def xCast : List (String × String) := [("java/lang/IllegalArgumentException", "java/lang/IllegalArgumentException"), ("java/lang/IllegalStateException", "java/lang/IllegalStateException"), ("java/lang/IndexOutOfBoundsException", "java/lang/IndexOutOfBoundsException"), ("RentStream$Flat", "java/lang/Object"), ("RentStream$Lease", "java/lang/Object"), ("RentStream$Repair", "java/lang/Object"), ("[Ljava/lang/Object;", "java/lang/Object"), ("[B", "java/lang/Object")]
def xDecl : List MethodName := [⟨"java/lang/RuntimeException", "<init>", "()V"⟩, ⟨"java/lang/RuntimeException", "<init>", "(Ljava/lang/String;)V"⟩, ⟨"java/lang/Exception", "<init>", "()V"⟩, ⟨"java/lang/Exception", "<init>", "(Ljava/lang/String;)V"⟩, ⟨"java/lang/Throwable", "<init>", "()V"⟩, ⟨"java/lang/Throwable", "<init>", "(Ljava/lang/String;)V"⟩, ⟨"java/lang/Object", "getClass", "()Ljava/lang/Class;"⟩]
def xStr : List (String × Nat × String) := [("RentStream", 61, "rooms out of range"), ("RentStream", 72, "no more flats"), ("RentStream", 259, "no such flat"), ("RentStream", 87, "rent out of range"), ("RentStream", 93, "no more leases, or the flat is let"), ("RentStream", 261, "no such lease"), ("RentStream", 110, "ended before"), ("RentStream", 112, "points out of range"), ("RentStream", 122, "shown out of range"), ("RentStream", 128, "cents out of range"), ("RentStream", 131, "too much heat"), ("RentStream", 137, "grade out of range"), ("RentStream", 139, "no more repairs"), ("RentStream", 146, "no such repair"), ("RentStream", 157, "mended before"), ("RentStream", 263, "no such month"), ("RentStream", 185, "parts out of range"), ("RentStream", 196, "a plan runs, or nothing is owed"), ("RentStream", 202, "days out of range"), ("RentStream", 204, "beyond the last day"), ("RentStream", 226, "what out of range"), ("RentStream", 237, "no such place"), ("RentStream", 382, " M")]
def xSta (G : xG) : List (String × String × String × Value) := [("java/lang/String", "COMPACT_STRINGS", "Z", .int 1), ("java/util/ArrayList", "DEFAULTCAPACITY_EMPTY_ELEMENTDATA", "[Ljava/lang/Object;", .ref (G.2.2.2 0)), ("java/lang/Integer", "DigitOnes", "[B", .ref (G.2.2.2 1)), ("java/lang/Integer", "DigitTens", "[B", .ref (G.2.2.2 2))]
def xStq : List (String × String × String) := [(Bundle.tN, "UNASSIGNED_STACK", Bundle.steD), (Bundle.tN, "SUPPRESSED_SENTINEL", Bundle.listD), ("jdk/internal/util/Preconditions", "SIOOBE_FORMATTER", "Ljava/util/function/BiFunction;")]
/-- classes that don't reach others -/
def xNoC : List (String × String) := [("java/lang/IllegalStateException", "java/lang/IllegalArgumentException"), ("java/lang/IllegalStateException", "java/lang/IndexOutOfBoundsException"), ("java/lang/IllegalArgumentException", "java/lang/IndexOutOfBoundsException")]
/-- what stands around every method: it is there at the start, and nobody changes it -/
def xAmb (G : xG) (U : State) : Prop := va_K G.1 xCl (xTys G) U ∧ (∀ q ∈ xNest, va_Nw (.methodLinkNest q.1 q.2.1 q.2.2.1 q.2.2.2) U) ∧ (∀ q ∈ xCast, va_Nw (.castable q.1 q.2) U) ∧ (∀ q ∈ xDecl, va_Nw (.declares q) U) ∧ (∀ q ∈ xStr, ∃ a, vk_R q.1 q.2.1 q.2.2 a U) ∧ (∀ q ∈ xSta G, va_Z q.1 q.2.1 q.2.2.1 q.2.2.2 (xA G) U U.heap) ∧ (∀ q ∈ xStq, vx_Zq q.1 q.2.1 q.2.2 (xA G) U U.heap) ∧ va_AO "RentStream$Bill" U ∧ va_AO "java/lang/Object" U ∧ vk_R "RentStream" 382 " M" (G.2.2.2 3) U ∧ va_Mi "[Ljava/lang/Object;" (G.2.2.2 5) U ∧ G.2.2.1 ≤ U.heap.size ∧ ∀ q ∈ xNoC, va_Nc q.1 q.2 U
