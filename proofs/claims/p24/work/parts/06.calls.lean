/-! ===== contracts over the picture, entries, ends, calls, throws ===== -/
theorem xAmb.to {G : xG} {u U : State} (hW : u.WarmedH U.vm) (hz : u.heap.size ≤ U.heap.size) (hh : ∀ q : Nat, q < u.heap.size → ¬ xA G q → U.heap[q]? = u.heap[q]?) (h : xAmb G u) : xAmb G U := by
  obtain ⟨a1, a2, a3, a4, a5, a6, a7, a8, a9, a10, a11, a12, a13⟩ := h
  have hvm := hW.alike
  refine ⟨va_K.moved hvm a1, fun q hq => va_Nw.warmM hW (a2 q hq), fun q hq => va_Nw.warmC hW (a3 q hq), fun q hq => va_Nw.warmD hW (a4 q hq), fun q hq => ?_, fun q hq => va_Z.moved hvm ((a6 q hq).kept hh), fun q hq => vx_Zq.moved hvm ((a7 q hq).kept hh), va_AO.moved hvm a8, va_AO.moved hvm a9, vk_R.warm hW a10, va_Mi.moved hvm a11, Nat.le_trans a12 hz, fun q hq => va_Nc.moved hvm (a13 q hq)⟩
  obtain ⟨a, ha⟩ := a5 q hq
  exact ⟨a, vk_R.warm hW ha⟩
theorem xAmb.same {G : xG} {u U : State} (hv : U.vm = u.vm) (hh : U.heap = u.heap) (h : xAmb G u) : xAmb G U := xAmb.to (by rw [hv]; exact State.WarmedH.refl u) (by rw [hh]; exact Nat.le_refl _) (fun q _ _ => by rw [hh]) h
/-- at a method's start: what stands around, and the picture -/
def xPre (G : xG) (τ : xT) (U : State) : Prop := xAmb G U ∧ xW G U τ U.heap
def xws (y : MethodName) (κ : xκ) (ret : Option FieldType) : List Cond := Cond.code y κ.2.1 κ.2.2.1 ret :: xBW
def xRm (κ : xκ) (mc ms : Nat) : Room := { frames := κ.2.2.2.1, cells := mc, slots := ms, locals := κ.2.2.2.2 }
/-- at its end: what it answers, the picture then -/
def xQc (G : xG) (Kr : Option Value → xT → Prop) : Array Value → State → Outcome → State → Prop := fun _ st o t => (∃ (v : Option Value) (τ : xT), o = .returned v ∧ Kr v τ ∧ xW G t τ t.heap) ∧ va_F (xA G) st t
def xXC (G : xG) (Kx : String → xT → Prop) : String → State → State → Prop := fun E st t => ∃ τ : xT, Kx E τ ∧ xW G t τ t.heap ∧ va_F (xA G) st t
/-- a method's contract: with the arguments as over the picture τ it returns, with Kr -/
def xMet (l : Launch) (G : xG) (y : MethodName) (κ : xκ) (ret : Option FieldType) (as : List Value) (τ : xT) (Kr : Option Value → xT → Prop) (mc ms : Nat) : Prop := Met l y (xws y κ ret) (xRm κ mc ms) (va_Pc as (xPre G τ)) (xQc G Kr) mc ms (xA G)
/-- .. or throws, with Kx -/
def xMetX (l : Launch) (G : xG) (y : MethodName) (κ : xκ) (ret : Option FieldType) (as : List Value) (τ : xT) (Kr : Option Value → xT → Prop) (Kx : String → xT → Prop) (mc ms : Nat) : Prop := vx_Met l y (xws y κ ret) (xRm κ mc ms) (va_Pc as (xPre G τ)) (xQc G Kr) (xXC G Kx) mc ms (xA G)
def xRet (Γ : xΓ) (Kr : Option Value → xT → Prop) : Prop := gQ Γ = MQ (gb Γ) (xQc (gG Γ) Kr) (ga Γ) (gs Γ) (gR Γ).cells (gR Γ).slots (xA (gG Γ)) ∨ ∃ Kx, gQ Γ = vx_MQ (gb Γ) (xQc (gG Γ) Kr) (xXC (gG Γ) Kx) (ga Γ) (gs Γ) (gR Γ).cells (gR Γ).slots (xA (gG Γ))
def xThr (Γ : xΓ) (Kx : String → xT → Prop) : Prop := (∃ Kr, gQ Γ = vx_MQ (gb Γ) (xQc (gG Γ) Kr) (xXC (gG Γ) Kx) (ga Γ) (gs Γ) (gR Γ).cells (gR Γ).slots (xA (gG Γ))) ∧ ∀ x ∈ (gc Γ).exceptionTable.toList, False
theorem xgood {cw : Cond} (pre : List Cond) (h : ∀ w ∈ pre, w ∈ xBW) (hc : cw ∈ xBW) : GoodIn xBW (pre ++ (cw :: xBW)) := by
  intro w hw
  have hm : w ∈ xBW := by
    rcases List.mem_append.mp hw with q | q
    · exact h w q
    · rcases List.mem_cons.mp q with q | q
      · rw [q]; exact hc
      · exact q
  exact ⟨hm, xBW_good w hm⟩
theorem xPre.blind {G : xG} {τ : xT} {as : List Value} : FrameBlind (va_Pc as (xPre G τ)) := by
  intro a U g mk ⟨q1, q2, q3⟩
  exact ⟨q1, xAmb.same (U := U.calling g mk a) rfl rfl q2, xW.moved (Vm.Alike.refl U.vm) q3⟩
section XCALL
variable {Γ : xΓ} {κ κy : xκ} {pc : Nat} {L : List (Nat × Value)} {st rest : List Value} {τ : xT} {rc rs mc ms : Nat} {a : Nat} {y : MethodName} {ret : Option FieldType} {as : List Value} {Kr : Option Value → xT → Prop} {Kx : String → xT → Prop}
theorem xPre.at {Γ : xΓ} {κ : xκ} {τ : xT} {as : List Value} {H : Heap} {locs : List Loc} (ok : xOK Γ κ) (hW : xW (gG Γ) (gs Γ) τ H) (hS : va_S (xA (gG Γ)) (gs Γ).heap H locs) : ∀ U : State, U.heap = H → (gs Γ).WarmedH U.vm → va_Pc as (xPre (gG Γ) τ) as.toArray U := by
  intro U hU hWm
  refine ⟨rfl, xAmb.to hWm (by rw [hU]; exact hS.1) (fun q h1 h2 => by rw [hU]; exact hS.2.1 q h1 h2) ok.2.2.2.2.2.1, ?_⟩
  rw [hU]
  exact hW.moved hWm.alike
/-- the entry: a method of xMet out of its walk -/
theorem xMet.of {l : Launch} {G : xG} (hy : plainName y.cls = true) (hown : y.cls = κ.1) (hl : l.stackTraces = false) (hlen : (lg_sl as).length ≤ κ.2.2.1)
    (body : ∀ Γ : xΓ, gl Γ = l → gG Γ = G → (gM Γ).sig.returnType = ret → (gM Γ).name = y.name → xRet Γ Kr → xX Γ κ 0 (lv_args 0 as) [] τ mc ms) : xMet l G y κ ret as τ Kr mc ms := by
  refine Met.ofW (cc := κ.2.1) (maxL := κ.2.2.1) (ret := ret) hy rfl ?_
  intro p e s m args below meth c s₁ B hml hv
  obtain ⟨rfl, hA, hW⟩ := hv
  have hts := atoms_spec (ws := xws y κ ret) B.pre
  have hl0 := lv_entry as hlen
  rw [lg_entry_eq]
  generalize (lg_sl as ++ List.replicate (κ.2.2.1 - (lg_sl as).length) Slot.unset).toArray = ls at hl0 ⊢
  refine body (p, l, e, (headSpec (xws y κ ret) (xRm κ mc ms)).room, s, m, as.toArray, below, meth, c, MQ below (xQc G Kr) as.toArray s mc ms (xA G), G) rfl rfl B.returns (name_of_methodNamed B.named B.method).1 (Or.inl rfl) ⟨B.exec, B.bytes, hml, by rw [← hown]; exact findClass_of_methodNamed B.named, fun w hw => hts w (List.mem_cons_of_mem _ hw), hA, Nat.le_refl _, Nat.le_refl _, B.notSynchronized, hl⟩ s.heap [] ls 0 0 hW va_S.rf (Nat.le_of_eq (Nat.zero_add _)) (Nat.le_of_eq (Nat.zero_add _)) hl0
theorem xMetX.of {l : Launch} {G : xG} (hy : plainName y.cls = true) (hown : y.cls = κ.1) (hl : l.stackTraces = false) (hlen : (lg_sl as).length ≤ κ.2.2.1)
    (body : ∀ Γ : xΓ, gl Γ = l → gG Γ = G → (gM Γ).sig.returnType = ret → (gM Γ).name = y.name → xRet Γ Kr → xThr Γ Kx → xX Γ κ 0 (lv_args 0 as) [] τ mc ms) : xMetX l G y κ ret as τ Kr Kx mc ms := by
  refine vx_ofW (cc := κ.2.1) (maxL := κ.2.2.1) (ret := ret) hy rfl ?_
  intro p e s m args below meth c s₁ B hml ht hv
  obtain ⟨rfl, hA, hW⟩ := hv
  have hts := atoms_spec (ws := xws y κ ret) B.pre
  have hl0 := lv_entry as hlen
  rw [lg_entry_eq]
  generalize (lg_sl as ++ List.replicate (κ.2.2.1 - (lg_sl as).length) Slot.unset).toArray = ls at hl0 ⊢
  refine body (p, l, e, (headSpec (xws y κ ret) (xRm κ mc ms)).room, s, m, as.toArray, below, meth, c, vx_MQ below (xQc G Kr) (xXC G Kx) as.toArray s mc ms (xA G), G) rfl rfl B.returns (name_of_methodNamed B.named B.method).1 (Or.inr ⟨Kx, rfl⟩) ⟨⟨Kr, rfl⟩, ht⟩ ⟨B.exec, B.bytes, hml, by rw [← hown]; exact findClass_of_methodNamed B.named, fun w hw => hts w (List.mem_cons_of_mem _ hw), hA, Nat.le_refl _, Nat.le_refl _, B.notSynchronized, hl⟩ s.heap [] ls 0 0 hW va_S.rf (Nat.le_of_eq (Nat.zero_add _)) (Nat.le_of_eq (Nat.zero_add _)) hl0
/-- a method's end, whichever kind of contract it has -/
theorem xend {v : Option Value} {g : JFrame} (hr : xRet Γ Kr) (hK : Kr v τ) {H : Heap} {locs : List Loc} {cs ss : Nat} (hW : xW (gG Γ) (gs Γ) τ H) (hS : va_S (xA (gG Γ)) (gs Γ).heap H locs) (h1 : cs ≤ (gR Γ).cells) (h2 : ss ≤ (gR Γ).slots)
    (k : (∀ t : State, t.heap = H → (gs Γ).WarmedH t.vm → xQc (gG Γ) Kr (ga Γ) (gs Γ) (.returned v) t) → (∀ q ∈ locs, xA (gG Γ) q.base) → W (gp Γ) (gl Γ) (ge Γ) (gR Γ) (gs Γ) (gm Γ) (ga Γ) (gb Γ) (gM Γ) (gc Γ) H locs (gR Γ).cells (gR Γ).slots (MQ (gb Γ) (xQc (gG Γ) Kr) (ga Γ) (gs Γ) (gR Γ).cells (gR Γ).slots (xA (gG Γ))) g) : W (gp Γ) (gl Γ) (ge Γ) (gR Γ) (gs Γ) (gm Γ) (ga Γ) (gb Γ) (gM Γ) (gc Γ) H locs cs ss (gQ Γ) g := by
  have k2 := k (fun t ht hWt => ⟨⟨v, τ, rfl, hK, by rw [ht]; exact hW.moved hWt.alike⟩, hS.F ht⟩) hS.2.2
  refine W.widen h1 h2 ?_
  rcases hr with hr | ⟨Kx, hr⟩
  · rw [hr]; exact k2
  · rw [hr]; exact vx_ret k2
theorem x_zret {x : Int32} {ty : FieldType} (d : decode κ.2.1 pc = .ok (.ireturn, 1)) (hr : xRet Γ Kr) (ht : (gM Γ).sig.returnType = some ty) (hn : narrow ty (.int x) = .int x) (hK : Kr (some (.int x)) τ) : xX Γ κ pc L [.int x] τ rc rs := fun ok H locs ls cs ss hW hS h1 h2 _ => xend hr hK hW hS (by omega) (by omega) (fun hq hf => W.zret ok.1 ok.2.1 ht hn hq hf d ok.2.2.2.2.2.2.2.2.1)
theorem x_lret {x : Int64} (d : decode κ.2.1 pc = .ok (.lreturn, 1)) (hr : xRet Γ Kr) (ht : (gM Γ).sig.returnType = some .long) (hK : Kr (some (.long x)) τ) : xX Γ κ pc L [.long x] τ rc rs := fun ok H locs ls cs ss hW hS h1 h2 _ => xend hr hK hW hS (by omega) (by omega) (fun hq hf => W.lret ok.1 ok.2.1 ht hq hf d ok.2.2.2.2.2.2.2.2.1)
theorem x_vret (d : decode κ.2.1 pc = .ok (.return_, 1)) (hr : xRet Γ Kr) (ht : (gM Γ).sig.returnType = none) (hK : Kr none τ) : xX Γ κ pc L [] τ rc rs := fun ok H locs ls cs ss hW hS h1 h2 _ => xend hr hK hW hS (by omega) (by omega) (fun hq hf => W.vret ok.1 ok.2.1 ht hq hf d ok.2.2.2.2.2.2.2.2.1)
theorem x_aret {o : Option Nat} {rt : FieldType} (d : decode κ.2.1 pc = .ok (.areturn, 1)) (hr : xRet Γ Kr) (ht : (gM Γ).sig.returnType = some rt) (hrt : (∃ n, rt = .object n) ∨ ∃ t, rt = .array t) (hK : Kr (some (va_rf o)) τ) : xX Γ κ pc L [va_rf o] τ rc rs := fun ok H locs ls cs ss hW hS h1 h2 _ => xend hr hK hW hS (by omega) (by omega) (fun hq hf => W.aret ok.1 ok.2.1 ht hrt (by cases o; exact Or.inl rfl; exact Or.inr ⟨_, rfl⟩) hq hf d ok.2.2.2.2.2.2.2.2.1)
/-- what is kept behind a call -/
theorem xkeep {G : xG} {s st₀ t T' : State} {H : Heap} {locs L : List Loc} (h0 : st₀.heap = H) (e1 : T'.heap = t.heap) (hS : va_S (xA G) s.heap H locs) (hL : ∀ q ∈ L, xA G q.base) (hF : va_F (xA G) st₀ t) : va_S (xA G) s.heap T'.heap (locs ++ L) := by
  obtain ⟨hz, hk⟩ := hF
  rw [h0] at hz hk
  refine ⟨Nat.le_trans hS.1 (by rw [e1]; exact hz), fun q h1 h2 => by rw [e1, hk q (Nat.lt_of_lt_of_le h1 hS.1) h2]; exact hS.2.1 q h1 h2, fun q hq => ?_⟩
  rcases List.mem_append.mp hq with h | h
  · exact hS.2.2 q h
  · exact hL q h
theorem xafter {H : Heap} {locs : List Loc} {ls : Array Slot} {cs ss : Nat} {st0 : List Value} {aa : Array Value} (ok : xOK Γ κ) (hS : va_S (xA (gG Γ)) (gs Γ).heap H locs) (h1 : cs + rc ≤ (gR Γ).cells) (h2 : ss + rs ≤ (gR Γ).slots) (hl : lv_has ls κ.2.2.1 L) (hm1 : mc ≤ rc) (hm2 : ms ≤ rs)
    (hr : va_Run (gp Γ) (gl Γ) (ge Γ) (gR Γ) (gs Γ) (gm Γ) (ga Γ) (gb Γ) (gM Γ) (gc Γ) H locs cs ss mc ms (F0 (gm Γ) pc ls st0) rest (xQc (gG Γ) Kr aa) (xA (gG Γ)))
    (kk : ∀ (v : Option Value) (τ' : xT), Kr v τ' → xX Γ κ (pc + 3) L (v.toList ++ rest) τ' (rc - mc) (rs - ms)) : W (gp Γ) (gl Γ) (ge Γ) (gR Γ) (gs Γ) (gm Γ) (ga Γ) (gb Γ) (gM Γ) (gc Γ) H locs cs ss (gQ Γ) (F0 (gm Γ) pc ls st0) := by
  intro T hT X
  obtain ⟨v, st₀, t, T', L1, h0, X', hL, e1, e2, ⟨⟨v', τ', hv, hK, hW'⟩, hF⟩, st⟩ := hr T hT X
  cases hv
  have hS' := xkeep h0 e1 hS hL hF
  have hvm : t.vm.Alike (gs Γ).vm := by rw [← e2]; exact X'.warmed.alike.symm
  obtain ⟨t2, a1, b1⟩ := kk v τ' hK ok T'.heap (locs ++ L1) ls (cs + mc) (ss + ms) (by rw [e1]; exact hW'.moved hvm) hS' (by omega) (by omega) hl T' rfl X'
  exact ⟨t2, st t2 a1, b1⟩
theorem xafterX {H : Heap} {locs : List Loc} {ls : Array Slot} {cs ss : Nat} {st0 : List Value} {aa : Array Value} (ok : xOK Γ κ) (hS : va_S (xA (gG Γ)) (gs Γ).heap H locs) (h1 : cs + rc ≤ (gR Γ).cells) (h2 : ss + rs ≤ (gR Γ).slots) (hl : lv_has ls κ.2.2.1 L) (hm1 : mc ≤ rc) (hm2 : ms ≤ rs)
    (hr : vx_Run (gp Γ) (gl Γ) (ge Γ) (gR Γ) (gs Γ) (gm Γ) (ga Γ) (gb Γ) (gM Γ) (gc Γ) H locs cs ss mc ms (F0 (gm Γ) pc ls st0) rest (xQc (gG Γ) Kr aa) (xXC (gG Γ) Kx) (xA (gG Γ)))
    (kx : ∀ (E : String) (τ' : xT), Kx E τ' → xXt Γ κ pc L rest E τ' (rc - mc) (rs - ms))
    (kk : ∀ (v : Option Value) (τ' : xT), Kr v τ' → xX Γ κ (pc + 3) L (v.toList ++ rest) τ' (rc - mc) (rs - ms)) : W (gp Γ) (gl Γ) (ge Γ) (gR Γ) (gs Γ) (gm Γ) (ga Γ) (gb Γ) (gM Γ) (gc Γ) H locs cs ss (gQ Γ) (F0 (gm Γ) pc ls st0) := by
  intro T hT X
  rcases hr T hT X with ⟨v, st₀, t, T', L1, h0, X', hL, e1, e2, ⟨⟨v', τ', hv, hK, hW'⟩, hF⟩, st⟩ | ⟨q, st₀, t, T', L1, E, ce, h0, X', hL, e1, e2, ⟨τ', hK, hW', hF⟩, hce, hcv, hcl, st⟩
  · cases hv
    have hS' := xkeep h0 e1 hS hL hF
    have hvm : t.vm.Alike (gs Γ).vm := by rw [← e2]; exact X'.warmed.alike.symm
    obtain ⟨t2, a1, b1⟩ := kk v τ' hK ok T'.heap (locs ++ L1) ls (cs + mc) (ss + ms) (by rw [e1]; exact hW'.moved hvm) hS' (by omega) (by omega) hl T' rfl X'
    exact ⟨t2, st t2 a1, b1⟩
  · have hS' := xkeep h0 e1 hS hL hF
    have hvm : t.vm.Alike (gs Γ).vm := by rw [← e2]; exact X'.warmed.alike.symm
    obtain ⟨t2, a1, b1⟩ := kx E τ' hK ok T'.heap (locs ++ L1) ls (cs + mc) (ss + ms) q ce (by rw [e1]; exact hW'.moved hvm) hS' (by omega) (by omega) hl (by rw [e1]; exact hce) hcv hcl T' rfl X'
    exact ⟨t2, st.trans a1, b1⟩
/-- answers of a kind -/
def xKi (K : Int32 → xT → Prop) : Option Value → xT → Prop := fun v τ => ∃ r, v = some (.int r) ∧ K r τ
def xKl (K : Int64 → xT → Prop) : Option Value → xT → Prop := fun v τ => ∃ r, v = some (.long r) ∧ K r τ
def xKr (K : Option Nat → xT → Prop) : Option Value → xT → Prop := fun v τ => ∃ r, v = some (va_rf r) ∧ K r τ
def xKv (K : xT → Prop) : Option Value → xT → Prop := fun v τ => v = none ∧ K τ
theorem xk_i {K : Int32 → xT → Prop} (h : ∀ r τ', K r τ' → xX Γ κ pc L (.int r :: rest) τ' rc rs) : ∀ v τ', xKi K v τ' → xX Γ κ pc L (v.toList ++ rest) τ' rc rs := by
  rintro v τ' ⟨r, rfl, hK⟩
  exact h r τ' hK
theorem xk_l {K : Int64 → xT → Prop} (h : ∀ r τ', K r τ' → xX Γ κ pc L (.long r :: rest) τ' rc rs) : ∀ v τ', xKl K v τ' → xX Γ κ pc L (v.toList ++ rest) τ' rc rs := by
  rintro v τ' ⟨r, rfl, hK⟩
  exact h r τ' hK
theorem xk_r {K : Option Nat → xT → Prop} (h : ∀ r τ', K r τ' → xX Γ κ pc L (va_rf r :: rest) τ' rc rs) : ∀ v τ', xKr K v τ' → xX Γ κ pc L (v.toList ++ rest) τ' rc rs := by
  rintro v τ' ⟨r, rfl, hK⟩
  exact h r τ' hK
theorem xk_v {K : xT → Prop} (h : ∀ τ', K τ' → xX Γ κ pc L rest τ' rc rs) : ∀ v τ', xKv K v τ' → xX Γ κ pc L (v.toList ++ rest) τ' rc rs := by
  rintro v τ' ⟨rfl, hK⟩
  exact h τ' hK
/-- the words of a call: static; virtual (the receiver's class C); a constructor; the super's method; a nest mate's constructor, its static method -/
def xLn (κ κy : xκ) (y : MethodName) (n : Nat) : Prop := (y.cls ≠ "java/lang/invoke/MethodHandle" ∧ y.cls ≠ "java/lang/invoke/VarHandle" ∧ (parseMethodDescriptor y.desc).map (fun d => d.parameters.length) = some n) ∧ κy.2.2.2.1 + 1 ≤ κ.2.2.2.1 ∧ 8 + (κy.2.2.1 + 11) + κy.2.2.2.2 ≤ κ.2.2.2.2
def xLS (κ κy : xκ) (idx : Nat) (y : MethodName) (ret : Option FieldType) (n : Nat) : Prop := (∀ w ∈ [Cond.methodLink κ.1 idx y, .static y, .initialized y.cls], w ∈ xBW) ∧ Cond.code y κy.2.1 κy.2.2.1 ret ∈ xBW ∧ xLn κ κy y n
def xLV (κ κy : xκ) (idx : Nat) (C : String) (y : MethodName) (ret : Option FieldType) (n : Nat) : Prop := (∀ w ∈ [Cond.methodLink κ.1 idx y, .instanceMethod y, .selects C y y, .initialized y.cls], w ∈ xBW) ∧ Cond.code y κy.2.1 κy.2.2.1 ret ∈ xBW ∧ xLn κ κy y n
def xLI (κ κy : xκ) (idx : Nat) (y : MethodName) (n : Nat) : Prop := (∀ w ∈ [Cond.methodLink κ.1 idx y, .instanceMethod y, .initialized y.cls], w ∈ xBW) ∧ Cond.code y κy.2.1 κy.2.2.1 none ∈ xBW ∧ y.name = "<init>" ∧ xLn κ κy y n
def xLSU (κ κy : xκ) (idx : Nat) (y : MethodName) (ret : Option FieldType) (n : Nat) : Prop := (∀ w ∈ [Cond.methodLink κ.1 idx y, .sameMethod y.cls y.cls y.name y.desc, .superclass κ.1 y.cls, .instanceMethod y, .initialized y.cls], w ∈ xBW) ∧ Cond.code y κy.2.1 κy.2.2.1 ret ∈ xBW ∧ y.name ≠ "<init>" ∧ xLn κ κy y n
def xLIN (κ κy : xκ) (idx : Nat) (y : MethodName) (n : Nat) : Prop := (κ.1, idx, y, "RentStream") ∈ xNest ∧ (∀ w ∈ [Cond.instanceMethod y, .initialized y.cls], w ∈ xBW) ∧ Cond.code y κy.2.1 κy.2.2.1 none ∈ xBW ∧ y.name = "<init>" ∧ xLn κ κy y n
def xLSN (κ κy : xκ) (idx : Nat) (y : MethodName) (ret : Option FieldType) (n : Nat) : Prop := (κ.1, idx, y, "RentStream") ∈ xNest ∧ (∀ w ∈ [Cond.static y, .initialized y.cls], w ∈ xBW) ∧ Cond.code y κy.2.1 κy.2.2.1 ret ∈ xBW ∧ xLn κ κy y n
theorem xfix (ok : xOK Γ κ) : CallFix (gp Γ) (gm Γ) (gc Γ) κ.2.1 κ.2.2.1 (gs Γ) (ga Γ) xBW κ.1 := ⟨ok.1, ok.2.1, ok.2.2.1, ok.2.2.2.1, ok.2.2.2.2.1⟩
theorem xcallB {n idx : Nat} (ok : xOK Γ κ) (hw : Cond.methodLink κ.1 idx y ∈ xBW) (hi : Cond.initialized y.cls ∈ xBW) (hc : Cond.code y κy.2.1 κy.2.2.1 ret ∈ xBW) (hn : xLn κ κy y n) : CallB (gR Γ) (gs Γ) (ga Γ) κ.1 idx y κy.2.1 κy.2.2.1 ret (xws y κy ret) (xRm κy mc ms) mc ms n :=
  callB_of n ok.2.2.2.2.1 (xgood [] (fun _ h => nomatch h) hc) rfl rfl rfl (ok.2.2.2.2.1 _ hi) (ok.2.2.2.2.1 _ hw) hn.1 ⟨Nat.le_trans hn.2.1 ok.2.2.2.2.2.2.1, Nat.le_trans hn.2.2 ok.2.2.2.2.2.2.2.1⟩
theorem x_invS {idx n : Nat} (d : decode κ.2.1 pc = .ok (.invokestatic idx, 3)) (w : xLS κ κy idx y ret n) (hM : xMet (gl Γ) (gG Γ) y κy ret as τ Kr mc ms) (hn : as.length = n) (hst : st = as.reverse ++ rest) (hcat : (rest.map fun v => v.category).sum ≤ 8) (hm1 : mc ≤ rc) (hm2 : ms ≤ rs) (kk : ∀ (v : Option Value) (τ' : xT), Kr v τ' → xX Γ κ (pc + 3) L (v.toList ++ rest) τ' (rc - mc) (rs - ms)) : xX Γ κ pc L st τ rc rs := by
  intro ok H locs ls cs ss hW hS h1 h2 h
  obtain ⟨w1, w2, w3⟩ := w
  exact xafter ok hS h1 h2 h hm1 hm2 (va_runS (xfix ok) hM ⟨xcallB ok (w1 _ (by simp)) (w1 _ (by simp)) w2 w3, ok.2.2.2.2.1 _ (w1 _ (by simp))⟩ ⟨xPre.blind, xPre.at ok hW hS⟩ rfl hn h.1 hst (lv_room hcat) d ⟨by omega, by omega⟩) kk
theorem xrecv {H : Heap} {ci : Nat} {fs : List Value} {q : vw_C} (ok : xOK Γ κ) (hW : xW (gG Γ) (gs Γ) τ H) (hτ : τ a = some (.inr (ci, fs))) (hc : xCl[ci]? = some q) : ∃ cellB : Cell, H[a]? = some cellB ∧ cellB.vm.isStatics = false ∧ (gs Γ).vm.findClass q.1 = some cellB.cls := by
  have hci := xCl_lt hc
  exact va_recv ok.2.2.2.2.2.1.1 (xP1 ((hW a _ hτ).1 (by omega)).1) hc (q0 := 0) rfl
theorem x_invV {idx n ci : Nat} {fs : List Value} {q : vw_C} (d : decode κ.2.1 pc = .ok (.invokevirtual idx, 3)) (hc : xCl[ci]? = some q) (w : xLV κ κy idx q.1 y ret n) (hτ : τ a = some (.inr (ci, fs))) (hM : xMet (gl Γ) (gG Γ) y κy ret (.ref a :: as) τ Kr mc ms) (hn : as.length = n) (hst : st = as.reverse ++ .ref a :: rest) (hcat : (rest.map fun v => v.category).sum ≤ 8) (hm1 : mc ≤ rc) (hm2 : ms ≤ rs) (kk : ∀ (v : Option Value) (τ' : xT), Kr v τ' → xX Γ κ (pc + 3) L (v.toList ++ rest) τ' (rc - mc) (rs - ms)) : xX Γ κ pc L st τ rc rs := by
  intro ok H locs ls cs ss hW hS h1 h2 h
  obtain ⟨w1, w2, w3⟩ := w
  exact xafter ok hS h1 h2 h hm1 hm2 (va_runV (xfix ok) hM ⟨xcallB ok (w1 _ (by simp)) (w1 _ (by simp)) w2 w3, ok.2.2.2.2.1 _ (w1 _ (by simp)), ok.2.2.2.2.1 _ (w1 _ (by simp))⟩ ⟨xPre.blind, xrecv ok hW hτ hc, xPre.at ok hW hS⟩ rfl hn h.1 hst (lv_room hcat) d ⟨by omega, by omega⟩) kk
/-- a String's own method -/
theorem x_invVS {idx n : Nat} {fs : List Value} (d : decode κ.2.1 pc = .ok (.invokevirtual idx, 3)) (w : xLV κ κy idx "java/lang/String" y ret n) (hτ : τ a = some (.inr (11, fs))) (hM : xMet (gl Γ) (gG Γ) y κy ret (.ref a :: as) τ Kr mc ms) (hn : as.length = n) (hst : st = as.reverse ++ .ref a :: rest) (hcat : (rest.map fun v => v.category).sum ≤ 8) (hm1 : mc ≤ rc) (hm2 : ms ≤ rs) (kk : ∀ (v : Option Value) (τ' : xT), Kr v τ' → xX Γ κ (pc + 3) L (v.toList ++ rest) τ' (rc - mc) (rs - ms)) : xX Γ κ pc L st τ rc rs := by
  intro ok H locs ls cs ss hW hS h1 h2 h
  obtain ⟨w1, w2, w3⟩ := w
  obtain ⟨⟨cell, q1, q2, q3, -⟩, -⟩ := (hW a _ hτ).2 rfl
  exact xafter ok hS h1 h2 h hm1 hm2 (va_runV (C := "java/lang/String") (xfix ok) hM ⟨xcallB ok (w1 _ (by simp)) (w1 _ (by simp)) w2 w3, ok.2.2.2.2.1 _ (w1 _ (by simp)), ok.2.2.2.2.1 _ (w1 _ (by simp))⟩ ⟨xPre.blind, ⟨cell, q1, q2, q3⟩, xPre.at ok hW hS⟩ rfl hn h.1 hst (lv_room hcat) d ⟨by omega, by omega⟩) kk
theorem x_invVX {idx n ci : Nat} {fs : List Value} {q : vw_C} (d : decode κ.2.1 pc = .ok (.invokevirtual idx, 3)) (hc : xCl[ci]? = some q) (w : xLV κ κy idx q.1 y ret n) (hτ : τ a = some (.inr (ci, fs))) (hM : xMetX (gl Γ) (gG Γ) y κy ret (.ref a :: as) τ Kr Kx mc ms) (hn : as.length = n) (hst : st = as.reverse ++ .ref a :: rest) (hcat : (rest.map fun v => v.category).sum ≤ 8) (hm1 : mc ≤ rc) (hm2 : ms ≤ rs) (kx : ∀ (E : String) (τ' : xT), Kx E τ' → xXt Γ κ pc L rest E τ' (rc - mc) (rs - ms)) (kk : ∀ (v : Option Value) (τ' : xT), Kr v τ' → xX Γ κ (pc + 3) L (v.toList ++ rest) τ' (rc - mc) (rs - ms)) : xX Γ κ pc L st τ rc rs := by
  intro ok H locs ls cs ss hW hS h1 h2 h
  obtain ⟨w1, w2, w3⟩ := w
  exact xafterX ok hS h1 h2 h hm1 hm2 (vx_runV (xfix ok) hM ⟨xcallB ok (w1 _ (by simp)) (w1 _ (by simp)) w2 w3, ok.2.2.2.2.1 _ (w1 _ (by simp)), ok.2.2.2.2.1 _ (w1 _ (by simp))⟩ ⟨xPre.blind, xrecv ok hW hτ hc, xPre.at ok hW hS⟩ rfl hn h.1 hst (lv_room hcat) d ⟨by omega, by omega⟩) kx kk
theorem x_invI {idx n : Nat} (d : decode κ.2.1 pc = .ok (.invokespecial idx, 3)) (w : xLI κ κy idx y n) (hM : xMet (gl Γ) (gG Γ) y κy none (.ref a :: as) τ Kr mc ms) (hn : as.length = n) (hst : st = as.reverse ++ .ref a :: rest) (hcat : (rest.map fun v => v.category).sum ≤ 8) (hm1 : mc ≤ rc) (hm2 : ms ≤ rs) (kk : ∀ (v : Option Value) (τ' : xT), Kr v τ' → xX Γ κ (pc + 3) L (v.toList ++ rest) τ' (rc - mc) (rs - ms)) : xX Γ κ pc L st τ rc rs := by
  intro ok H locs ls cs ss hW hS h1 h2 h
  obtain ⟨w1, w2, w3, w4⟩ := w
  exact xafter ok hS h1 h2 h hm1 hm2 (va_runI (xfix ok) hM ⟨xcallB ok (w1 _ (by simp)) (w1 _ (by simp)) w2 w4, w3, ok.2.2.2.2.1 _ (w1 _ (by simp))⟩ ⟨xPre.blind, xPre.at ok hW hS⟩ rfl hn h.1 hst (lv_room hcat) d ⟨by omega, by omega⟩) kk
theorem x_invIN {idx n : Nat} (d : decode κ.2.1 pc = .ok (.invokespecial idx, 3)) (w : xLIN κ κy idx y n) (hM : xMet (gl Γ) (gG Γ) y κy none (.ref a :: as) τ Kr mc ms) (hn : as.length = n) (hst : st = as.reverse ++ .ref a :: rest) (hcat : (rest.map fun v => v.category).sum ≤ 8) (hm1 : mc ≤ rc) (hm2 : ms ≤ rs) (kk : ∀ (v : Option Value) (τ' : xT), Kr v τ' → xX Γ κ (pc + 3) L (v.toList ++ rest) τ' (rc - mc) (rs - ms)) : xX Γ κ pc L st τ rc rs := by
  intro ok H locs ls cs ss hW hS h1 h2 h
  obtain ⟨w0, w1, w2, w3, w4⟩ := w
  exact xafter ok hS h1 h2 h hm1 hm2 (va_runIN (host := "RentStream") (xfix ok) hM ⟨va_cnB n ok.2.2.2.2.1 (xgood [] (fun _ h => nomatch h) w2) rfl rfl rfl (ok.2.2.2.2.2.1.2.1 _ w0) (ok.2.2.2.2.1 _ (w1 _ (by simp))) w4.1 ⟨Nat.le_trans w4.2.1 ok.2.2.2.2.2.2.1, Nat.le_trans w4.2.2 ok.2.2.2.2.2.2.2.1⟩, w3, ok.2.2.2.2.1 _ (w1 _ (by simp))⟩ ⟨xPre.blind, xPre.at ok hW hS⟩ rfl hn h.1 hst (lv_room hcat) d ⟨by omega, by omega⟩) kk
theorem x_invSN {idx n : Nat} (d : decode κ.2.1 pc = .ok (.invokestatic idx, 3)) (w : xLSN κ κy idx y ret n) (hM : xMet (gl Γ) (gG Γ) y κy ret as τ Kr mc ms) (hn : as.length = n) (hst : st = as.reverse ++ rest) (hcat : (rest.map fun v => v.category).sum ≤ 8) (hm1 : mc ≤ rc) (hm2 : ms ≤ rs) (kk : ∀ (v : Option Value) (τ' : xT), Kr v τ' → xX Γ κ (pc + 3) L (v.toList ++ rest) τ' (rc - mc) (rs - ms)) : xX Γ κ pc L st τ rc rs := by
  intro ok H locs ls cs ss hW hS h1 h2 h
  obtain ⟨w0, w1, w2, w4⟩ := w
  exact xafter ok hS h1 h2 h hm1 hm2 (va_runSN (host := "RentStream") (xfix ok) hM ⟨va_cnB n ok.2.2.2.2.1 (xgood [] (fun _ h => nomatch h) w2) rfl rfl rfl (ok.2.2.2.2.2.1.2.1 _ w0) (ok.2.2.2.2.1 _ (w1 _ (by simp))) w4.1 ⟨Nat.le_trans w4.2.1 ok.2.2.2.2.2.2.1, Nat.le_trans w4.2.2 ok.2.2.2.2.2.2.2.1⟩, ok.2.2.2.2.1 _ (w1 _ (by simp)), trivial⟩ ⟨xPre.blind, xPre.at ok hW hS⟩ rfl hn h.1 hst (lv_room hcat) d ⟨by omega, by omega⟩) kk
theorem x_invSU {idx n ci : Nat} {fs : List Value} {q : vw_C} (d : decode κ.2.1 pc = .ok (.invokespecial idx, 3)) (hc : xCl[ci]? = some q) (w : xLSU κ κy idx y ret n) (hτ : τ a = some (.inr (ci, fs))) (hM : xMet (gl Γ) (gG Γ) y κy ret (.ref a :: as) τ Kr mc ms) (hn : as.length = n) (hst : st = as.reverse ++ .ref a :: rest) (hcat : (rest.map fun v => v.category).sum ≤ 8) (hm1 : mc ≤ rc) (hm2 : ms ≤ rs) (kk : ∀ (v : Option Value) (τ' : xT), Kr v τ' → xX Γ κ (pc + 3) L (v.toList ++ rest) τ' (rc - mc) (rs - ms)) : xX Γ κ pc L st τ rc rs := by
  intro ok H locs ls cs ss hW hS h1 h2 h
  obtain ⟨w1, w2, w3, w4⟩ := w
  have hG : GoodIn xBW (va_wsSU κ.1 idx y (xws y κy ret)) := xgood _ w1 w2
  exact xafter ok hS h1 h2 h hm1 hm2 (va_runSU (C := q.1) (ok.2.2.2.2.2.1.1.1 ci q hc).2 (xfix ok) hM (va_cwSU n ok.2.2.2.2.1 hG rfl rfl rfl ⟨w3, w4.1.2.2⟩ ⟨Nat.le_trans w4.2.1 ok.2.2.2.2.2.2.1, Nat.le_trans w4.2.2 ok.2.2.2.2.2.2.2.1⟩) ⟨xPre.blind, xrecv ok hW hτ hc, xPre.at ok hW hS⟩ rfl hn h.1 hst (lv_room hcat) d ⟨by omega, by omega⟩) kk
/-- Object.<init> -/
theorem x_objInit {idx : Nat} (d : decode κ.2.1 pc = .ok (.invokespecial idx, 3)) (w : ∀ w ∈ [Cond.methodLink κ.1 idx objectInit, .instanceMethod objectInit, .code objectInit ⟨#[0xb1]⟩ 1 none], w ∈ xBW) (hf : 1 ≤ κ.2.2.2.1) (hl : 20 ≤ κ.2.2.2.2) (hcat : (rest.map fun v => v.category).sum ≤ 8) (kk : xX Γ κ (pc + 3) L rest τ rc rs) : xX Γ κ pc L (.ref a :: rest) τ rc rs := by
  intro ok H locs ls cs ss hW hS h1 h2 h
  refine W.objInit ok.1 ok.2.1 ok.2.2.2.1 (ok.2.2.2.2.1 _ (w _ (by simp))) (ok.2.2.2.2.1 _ (w _ (by simp))) (ok.2.2.2.2.1 _ (w _ (by simp))) rfl (by rw [ok.2.2.1]; exact h.1) rfl d (Nat.le_trans hf ok.2.2.2.2.2.2.1) ?_ ?_
  · have h9 := ok.2.2.2.2.2.2.2.1
    show 2 * 0 + _ + 12 ≤ _
    omega
  · exact kk ok H locs ls cs ss hW hS h1 h2 h
/-- an exception leaves the method -/
theorem x_thrown {E : String} (ht : xThr Γ Kx) (hK : Kx E τ) : xXt Γ κ pc L rest E τ rc rs := by
  intro ok H locs ls cs ss q ce hW hS h1 h2 h hce hcv hcl
  obtain ⟨⟨Kr, hQ⟩, hout⟩ := ht
  rw [hQ]
  exact vx_out (fun x hx => (hout x hx).elim) ok.2.2.2.2.2.2.2.2.1 hce hcv hcl (fun t htt hvm => ⟨τ, hK, by rw [htt]; exact hW.moved hvm, hS.F htt⟩) hS.2.2 (by omega) (by omega)
/-- the words of 'throw new cls(text)' in the class own -/
def xTW (own : String) (ik ic : Nat) (cls : String) (names : List String) : Prop := Bundle.fit cls = true ∧ (∀ n ∈ names, Bundle.fit n = true) ∧ Cond.classLink own ik cls ∈ xBW ∧ Cond.initialized cls ∈ xBW ∧ (∀ w ∈ (vx_atS own ic cls names).filter goodWord, w ∈ xBW) ∧ (∀ w ∈ (vx_atS own ic cls names).filter (fun w => !goodWord w), w ∈ (xDecl.map Cond.declares) ++ (xCast.map fun q => Cond.castable q.1 q.2)) ∧ (∀ w ∈ Cond.classLink own ik cls :: Cond.initialized cls :: vx_atS own ic cls names, vx_ot w = true)
theorem x_throw {ik is ic : Nat} {cls text : String} {names : List String} (d0 : decode κ.2.1 pc = .ok (.new ik, 3)) (d3 : decode κ.2.1 (pc + 3) = .ok (.dup, 1)) (d4 : decode κ.2.1 (pc + 4) = .ok (.ldc is, 2)) (d6 : decode κ.2.1 (pc + 6) = .ok (.invokespecial ic, 3)) (d9 : decode κ.2.1 (pc + 9) = .ok (.athrow, 1)) (w : xTW κ.1 ik ic cls names) (hs : (κ.1, is, text) ∈ xStr) (ht : xThr Γ Kx) (hf : names.length + 3 < κ.2.2.2.1) (hlo : 8 + (13 * (names.length + 1) + 43) ≤ κ.2.2.2.2) (hcat : (rest.map fun v => v.category).sum ≤ 8) (hrc : 1 ≤ rc) (hrs : 6 ≤ rs) (hK : Kx cls τ) : xX Γ κ pc L rest τ rc rs := by
  intro ok H locs ls cs ss hW hS h1 h2 h
  obtain ⟨⟨Kr, hQ⟩, hout⟩ := ht
  obtain ⟨w1, w2, w3, w4, w5, w6, w7⟩ := w
  obtain ⟨sa, hsa⟩ := ok.2.2.2.2.2.1.2.2.2.2.1 _ hs
  have hts := ok.2.2.2.2.1
  have hamb := ok.2.2.2.2.2.1
  have h9 := ok.2.2.2.2.2.2.1
  have h10 := ok.2.2.2.2.2.2.2.1
  have hat : ∀ w ∈ vx_atS κ.1 ic cls names, w.before (ga Γ) (gs Γ) = true := vx_hat (fun w hw => hts w (w5 w hw)) w6 (fun w hw => by
    rcases List.mem_append.mp hw with q | q
    · obtain ⟨z, hz, rfl⟩ := List.mem_map.mp q
      exact va_Nw.use rfl (hamb.2.2.2.1 z hz)
    · obtain ⟨z, hz, rfl⟩ := List.mem_map.mp q
      exact va_Nw.use rfl (hamb.2.2.1 z hz))
  rw [hQ]
  refine vx_throwS ok.1 ok.2.1 ok.2.2.2.2.2.2.2.2.2 (A := xA (gG Γ)) ok.2.2.2.1 w1 w2 (hts _ w3) (hts _ w4) hsa hat w7 (hamb.2.2.2.2.2.2.1 (Bundle.tN, "UNASSIGNED_STACK", Bundle.steD) (by simp [xStq])) (hamb.2.2.2.2.2.2.1 (Bundle.tN, "SUPPRESSED_SENTINEL", Bundle.listD) (by simp [xStq])) hS (by rw [ok.2.2.1]; exact h.1) d0 d3 d4 d6 d9 (fun x hx => (hout x hx).elim) (by omega) (by omega) (by omega) (by omega) ok.2.2.2.2.2.2.2.2.1 (fun t hvm hz hq => ?_) hS.2.2 (by omega) (by omega)
  refine ⟨τ, hK, (hW.kept hq).moved hvm, Nat.le_trans hS.1 hz, fun q q1 q2 => (hq q (Nat.lt_of_lt_of_le q1 hS.1)).trans (hS.2.1 q q1 q2)⟩
theorem x_throwW {ik is ic : Nat} {cls text : String} {names : List String} (d0 : decode κ.2.1 pc = .ok (.new ik, 3)) (d3 : decode κ.2.1 (pc + 3) = .ok (.dup, 1)) (d4 : decode κ.2.1 (pc + 4) = .ok (.ldc_w is, 3)) (d7 : decode κ.2.1 (pc + 7) = .ok (.invokespecial ic, 3)) (d10 : decode κ.2.1 (pc + 10) = .ok (.athrow, 1)) (w : xTW κ.1 ik ic cls names) (hs : (κ.1, is, text) ∈ xStr) (ht : xThr Γ Kx) (hf : names.length + 3 < κ.2.2.2.1) (hlo : 8 + (13 * (names.length + 1) + 43) ≤ κ.2.2.2.2) (hcat : (rest.map fun v => v.category).sum ≤ 8) (hrc : 1 ≤ rc) (hrs : 6 ≤ rs) (hK : Kx cls τ) : xX Γ κ pc L rest τ rc rs := by
  intro ok H locs ls cs ss hW hS h1 h2 h
  obtain ⟨⟨Kr, hQ⟩, hout⟩ := ht
  obtain ⟨w1, w2, w3, w4, w5, w6, w7⟩ := w
  obtain ⟨sa, hsa⟩ := ok.2.2.2.2.2.1.2.2.2.2.1 _ hs
  have hts := ok.2.2.2.2.1
  have hamb := ok.2.2.2.2.2.1
  have h9 := ok.2.2.2.2.2.2.1
  have h10 := ok.2.2.2.2.2.2.2.1
  have hat : ∀ w ∈ vx_atS κ.1 ic cls names, w.before (ga Γ) (gs Γ) = true := vx_hat (fun w hw => hts w (w5 w hw)) w6 (fun w hw => by
    rcases List.mem_append.mp hw with q | q
    · obtain ⟨z, hz, rfl⟩ := List.mem_map.mp q
      exact va_Nw.use rfl (hamb.2.2.2.1 z hz)
    · obtain ⟨z, hz, rfl⟩ := List.mem_map.mp q
      exact va_Nw.use rfl (hamb.2.2.1 z hz))
  rw [hQ]
  refine vx_throwSW ok.1 ok.2.1 ok.2.2.2.2.2.2.2.2.2 (A := xA (gG Γ)) ok.2.2.2.1 w1 w2 (hts _ w3) (hts _ w4) hsa hat w7 (hamb.2.2.2.2.2.2.1 (Bundle.tN, "UNASSIGNED_STACK", Bundle.steD) (by simp [xStq])) (hamb.2.2.2.2.2.2.1 (Bundle.tN, "SUPPRESSED_SENTINEL", Bundle.listD) (by simp [xStq])) hS (by rw [ok.2.2.1]; exact h.1) d0 d3 d4 d7 d10 (fun x hx => (hout x hx).elim) (by omega) (by omega) (by omega) (by omega) ok.2.2.2.2.2.2.2.2.1 (fun t hvm hz hq => ?_) hS.2.2 (by omega) (by omega)
  refine ⟨τ, hK, (hW.kept hq).moved hvm, Nat.le_trans hS.1 hz, fun q q1 q2 => (hq q (Nat.lt_of_lt_of_le q1 hS.1)).trans (hS.2.1 q q1 q2)⟩
end XCALL
