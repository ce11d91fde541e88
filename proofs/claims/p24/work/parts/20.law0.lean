def R_law : String := "RentStreamLaw"
def lw_P (b : Addr) (xs : List Int32) (args : Array Value) (s : State) : Prop := args = #[.ref b] ∧ s.IntsAt b xs ∧ xs.length ≤ 260 ∧ (Jvm.Cond.and given_1 narrow_1).before args s = true
def lw_Q (_ : Array Value) (s : State) (o : Outcome) (t : State) : Prop := o = .returned (some (.int 1)) ∧ Framed s o t [] 600130 7301080
def lw_Z (below : List Frame) (a : Array Value) (s : State) : State → Prop := fun t => ∃ o, t.status = .running ∧ Ended t below o ∧ lw_Q a s o t
/-- the law's own end, with 1 on the stack, nothing written that was there before, its room as the claim has it -/
theorem lw_ret {p : Program} {l : Launch} {e : Env} {s : State} {m : MethodId} {below : List Frame} {meth : Method} {c : Code} {b : Nat} (hx : p.tables.exec = Jvm.exec) (hb : c.code = code) (hr : meth.sig.returnType = ret) (hlocks : meth.locks = false) {pc : Nat} {H : Heap} {ls : Array Slot} (hdg : decode code pc = .ok (.ireturn, 1)) : W p l e room_1 s m #[Value.ref b] below meth c H [] 600130 7301080 (lw_Z below #[Value.ref b] s) (F0 m pc ls [.int 1]) := by
  intro T hT X
  obtain ⟨fs, hret, hrun, hended, hW, hframe⟩ := X.leave (v := some (.int 1)) (hlocks := hlocks) (fun h => by rw [hr] at h; cases h)
  have hmeth' : T.vm.method? m = some meth := X.method'
  refine ⟨T.setFrames fs, ?_, .returned (some (.int 1)), hrun, hended, rfl, ⟨_, rfl⟩, hW, hframe⟩
  jvm_step X.here [X.here.top, hx, hb, hdg, hmeth', hr, ret, narrow_b1]
  (try refine ⟨rfl, ?_⟩); (try refine ⟨rfl, ?_⟩)
  first | (intro acts; rw [hret _ acts rfl rfl rfl]) | rw [hret _ _ rfl rfl rfl]
  exact Steps.refl _
/-- what holds at the law's entry: the machine, the code, the tables' words (any of lw_tbl by 'hts w (by decide +kernel)'), the script of L ints xs at the cell b, what the Statement gives of the start (any of its parts by flat_of_before) -/
def lw_At (p : Program) (s : State) (m : MethodId) (meth : Method) (c : Code) (b L : Nat) (xs : Nat → Int32) : Prop :=
  p.tables.exec = Jvm.exec ∧ c.code = code ∧ meth.sig.returnType = ret ∧ c.maxLocals = 16 ∧ s.vm.findClass R_law = some m.cls ∧ (∀ w ∈ lw_tbl, w.before #[Value.ref b] s = true) ∧ va_X b L xs s s.heap ∧ b < s.heap.size ∧ meth.locks = false ∧ (Jvm.Cond.and given_1 narrow_1).before #[Value.ref b] s = true
/-! ===== the law: wrappers with handlers, the script, the law's own end ===== -/
section XLAW
variable {Γ : xΓ} {κ κy : xκ} {pc : Nat} {L : List (Nat × Value)} {st rest : List Value} {τ : xT} {rc rs mc ms : Nat} {a : Nat} {y : MethodName} {rt : Option FieldType} {as : List Value} {Kr : Option Value → xT → Prop}
/-- the contract of a method with handlers that catches all that its callee throws -/
def xMetH (l : Launch) (G : xG) (y : MethodName) (κ : xκ) (rt : Option FieldType) (hh : List (Nat × Nat × Nat × Nat)) (as : List Value) (τ : xT) (Kr : Option Value → xT → Prop) (mc ms : Nat) : Prop := vx_Met l y (Cond.codeWith y κ.2.1 κ.2.2.1 rt hh :: xBW) (xRm κ mc ms) (va_Pc as (xPre G τ)) (xQc G Kr) (xXC G (fun _ _ => False)) mc ms (xA G)
theorem xMetH.of {l : Launch} {G : xG} {hh : List (Nat × Nat × Nat × Nat)} (hy : plainName y.cls = true) (hown : y.cls = κ.1) (hl : l.stackTraces = false) (hlen : (lg_sl as).length ≤ κ.2.2.1)
    (body : ∀ Γ : xΓ, gl Γ = l → gG Γ = G → (gM Γ).sig.returnType = rt → (gc Γ).exceptionTable.toList = tableOf hh → xRet Γ Kr → xX Γ κ 0 (lv_args 0 as) [] τ mc ms) : xMetH l G y κ rt hh as τ Kr mc ms := by
  refine vx_ofWH (cc := κ.2.1) (maxL := κ.2.2.1) (ret := rt) (hh := hh) hy rfl ?_
  intro p e s m args below meth c s₁ B hml hv
  obtain ⟨rfl, hA, hW⟩ := hv
  have hts := atoms_spec (ws := Cond.codeWith y κ.2.1 κ.2.2.1 rt hh :: xBW) B.pre
  have ht := vx_table (x := y) B (hts _ List.mem_cons_self)
  have hl0 := lv_entry as hlen
  rw [lg_entry_eq]
  generalize (lg_sl as ++ List.replicate (κ.2.2.1 - (lg_sl as).length) Slot.unset).toArray = ls at hl0 ⊢
  refine body (p, l, e, (headSpec (Cond.codeWith y κ.2.1 κ.2.2.1 rt hh :: xBW) (xRm κ mc ms)).room, s, m, as.toArray, below, meth, c, vx_MQ below (xQc G Kr) (xXC G (fun _ _ => False)) as.toArray s mc ms (xA G), G) rfl rfl B.returns ht (Or.inr ⟨_, rfl⟩) ⟨B.exec, B.bytes, hml, by rw [← hown]; exact findClass_of_methodNamed B.named, fun w hw => hts w (List.mem_cons_of_mem _ hw), hA, Nat.le_refl _, Nat.le_refl _, B.notSynchronized, hl⟩ s.heap [] ls 0 0 hW va_S.rf (Nat.le_of_eq (Nat.zero_add _)) (Nat.le_of_eq (Nat.zero_add _)) hl0
/-- caught here: the row x of the table, those ahead of it name classes that E doesn't reach -/
theorem x_catch {E : String} {hd : Nat} {hh : List (Nat × Nat × Nat × Nat)} (pre : List (Nat × Nat × Nat × Nat)) (x : Nat × Nat × Nat × Nat) (suf : List (Nat × Nat × Nat × Nat)) (ht : (gc Γ).exceptionTable.toList = tableOf hh) (hsplit : hh = pre ++ x :: suf)
    (hpass : ∀ z ∈ pre, z.2.2.2 ≠ 0 ∧ ∃ nm, Cond.classLink κ.1 z.2.2.2 nm ∈ xBW ∧ (E, nm) ∈ xNoC) (hx : x.1 ≤ pc ∧ pc < x.2.1) (hd0 : x.2.2.1 = hd) (h0 : x.2.2.2 ≠ 0) (hlink : Cond.classLink κ.1 x.2.2.2 E ∈ xBW) (hcast : (E, E) ∈ xCast)
    (kk : ∀ q : Nat, xX Γ κ hd L [.ref q] τ rc rs) : xXt Γ κ pc L rest E τ rc rs := by
  intro ok H locs ls cs ss q ce hW hS h1 h2 h hce hcv hcl
  have hamb := ok.2.2.2.2.2.1
  refine vx_catch (args := ga Γ) (name := E) ok.2.2.2.1 (tableOf pre) ⟨x.1, x.2.1, x.2.2.1, x.2.2.2⟩ (tableOf suf) (by rw [ht, hsplit]; simp [tableOf]) ?_ (by simp [covers, hx.1, hx.2]) h0 (ok.2.2.2.2.1 _ hlink) (va_Nw.use rfl (hamb.2.2.1 _ hcast)) hce hcv hcl ?_
  · intro z hz
    obtain ⟨z0, hz0, rfl⟩ := List.mem_map.mp hz
    obtain ⟨p1, nm, p2, p3⟩ := hpass z0 hz0
    exact Or.inr ⟨p1, nm, ok.2.2.2.2.1 _ p2, hamb.2.2.2.2.2.2.2.2.2.2.2.2 _ p3⟩
  · show W _ _ _ _ _ _ _ _ _ _ _ _ _ _ _ (F0 _ x.2.2.1 _ _)
    rw [hd0]
    exact kk q ok H locs ls cs ss hW hS h1 h2 h
def xLSH (κ κy : xκ) (idx : Nat) (y : MethodName) (rt : Option FieldType) (hh : List (Nat × Nat × Nat × Nat)) (n : Nat) : Prop := (∀ w ∈ [Cond.methodLink κ.1 idx y, .static y, .initialized y.cls], w ∈ xBW) ∧ Cond.codeWith y κy.2.1 κy.2.2.1 rt hh ∈ xBW ∧ xLn κ κy y n
theorem x_invSH {idx n : Nat} {hh : List (Nat × Nat × Nat × Nat)} (d : decode κ.2.1 pc = .ok (.invokestatic idx, 3)) (w : xLSH κ κy idx y rt hh n) (hM : xMetH (gl Γ) (gG Γ) y κy rt hh as τ Kr mc ms) (hn : as.length = n) (hst : st = as.reverse ++ rest) (hcat : (rest.map fun v => v.category).sum ≤ 8) (hm1 : mc ≤ rc) (hm2 : ms ≤ rs) (kk : ∀ (v : Option Value) (τ' : xT), Kr v τ' → xX Γ κ (pc + 3) L (v.toList ++ rest) τ' (rc - mc) (rs - ms)) : xX Γ κ pc L st τ rc rs := by
  intro ok H locs ls cs ss hW hS h1 h2 h
  obtain ⟨w1, w2, w3⟩ := w
  have hG : GoodIn xBW (va_wsS κ.1 idx y (Cond.codeWith y κy.2.1 κy.2.2.1 rt hh :: xBW)) := xgood _ w1 w2
  exact xafterX ok hS h1 h2 h hm1 hm2 (vx_runSX (hh := hh) (xfix ok) hM (vx_cwSW n ok.2.2.2.2.1 hG rfl rfl rfl w3.1 ⟨Nat.le_trans w3.2.1 ok.2.2.2.2.2.2.1, Nat.le_trans w3.2.2 ok.2.2.2.2.2.2.2.1⟩) ⟨xPre.blind, xPre.at ok hW hS⟩ rfl hn h.1 hst (lv_room hcat) d ⟨by omega, by omega⟩) (fun E τ' h => h.elim) kk
theorem x_invSX {idx n : Nat} {Kx : String → xT → Prop} (d : decode κ.2.1 pc = .ok (.invokestatic idx, 3)) (w : xLS κ κy idx y rt n) (hM : xMetX (gl Γ) (gG Γ) y κy rt as τ Kr Kx mc ms) (hn : as.length = n) (hst : st = as.reverse ++ rest) (hcat : (rest.map fun v => v.category).sum ≤ 8) (hm1 : mc ≤ rc) (hm2 : ms ≤ rs) (kx : ∀ (E : String) (τ' : xT), Kx E τ' → xXt Γ κ pc L rest E τ' (rc - mc) (rs - ms)) (kk : ∀ (v : Option Value) (τ' : xT), Kr v τ' → xX Γ κ (pc + 3) L (v.toList ++ rest) τ' (rc - mc) (rs - ms)) : xX Γ κ pc L st τ rc rs := by
  intro ok H locs ls cs ss hW hS h1 h2 h
  obtain ⟨w1, w2, w3⟩ := w
  exact xafterX ok hS h1 h2 h hm1 hm2 (vx_runS (xfix ok) hM ⟨xcallB ok (w1 _ (by simp)) (w1 _ (by simp)) w2 w3, ok.2.2.2.2.1 _ (w1 _ (by simp))⟩ ⟨xPre.blind, xPre.at ok hW hS⟩ rfl hn h.1 hst (lv_room hcat) d ⟨by omega, by omega⟩) kx kk
/-- the law's own surroundings, its end -/
def xLw (Γ : xΓ) : Prop := gR Γ = room_1 ∧ (∃ b : Nat, ga Γ = #[Value.ref b] ∧ gQ Γ = lw_Z (gb Γ) #[Value.ref b] (gs Γ)) ∧ (gc Γ).code = code ∧ (gM Γ).sig.returnType = ret ∧ (gG Γ).2.2.1 = (gs Γ).heap.size
theorem x_lawret {x : Int32} (hz : xLw Γ) (hκ : κ.2.1 = code) (d : decode κ.2.1 pc = .ok (.ireturn, 1)) (h : x = 1) : xX Γ κ pc L [.int x] τ rc rs := by
  subst h
  intro ok H locs ls cs ss hW hS h1 h2 h
  obtain ⟨hR, ⟨b, ha, hQ⟩, hc, hr, hz0⟩ := hz
  rw [hR] at h1 h2
  have e1 : cs ≤ 600130 := Nat.le_trans (Nat.le_add_right _ _) h1
  have e2 : ss ≤ 7301080 := Nat.le_trans (Nat.le_add_right _ _) h2
  refine va_forget (fun q hq => ?_) ?_
  · have := hS.2.2 q hq
    unfold xA at this
    rw [hz0] at this
    exact this
  · refine W.widen e1 e2 ?_
    rw [hQ, ha, hR]
    exact lw_ret ok.1 hc hr ok.2.2.2.2.2.2.2.2.1 (by rw [← hκ]; exact d)
end XLAW

