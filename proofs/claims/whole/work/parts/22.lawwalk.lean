def V_L_bill_0 (K : Int32 → xT → Prop) (a0 : Nat) (x1 : Int32) (x2 : Int32) (x3 : Int32) (a4 : Nat) (t : xT) (rc rs : Nat) : Prop :=
  (xis t a0 7 ∧ ∃ m_3 z_4 : Nat, m_3 ≤ rc ∧ z_4 ≤ rs ∧ V_X7_bill_0 (fun Ex t_5 => (Ex = "java/lang/IndexOutOfBoundsException" ∨ Ex = "java/lang/IllegalArgumentException") ∧ (Ex = "java/lang/IndexOutOfBoundsException" → K (1 : Int32) t_5) ∧ (Ex = "java/lang/IllegalArgumentException" → K (2 : Int32) t_5)) (fun y_2 t_1 => xsJ t_1 a4 (0 : Int32) y_2 fun t_6 => K (0 : Int32) t_6) a0 x1 x2 x3 t m_3 z_4)
set_option maxRecDepth 20000 in
theorem S_L_bill_0 {Γ : xΓ} {K : Int32 → xT → Prop} (hl : (gl Γ).stackTraces = false) (ht : (gM Γ).sig.returnType = (some .int)) (hr : xRet Γ (xKi K)) (htab : (gc Γ).exceptionTable.toList = tableOf [(0, 11, 14, 21), (0, 11, 18, 13)]) {a0 : Nat} {x1 : Int32} {x2 : Int32} {x3 : Int32} {a4 : Nat} {t : xT} {rc rs : Nat} (h : V_L_bill_0 K a0 x1 x2 x3 a4 t rc rs) : xX Γ k_L_bill 0 [(0, .ref a0), (1, .int x1), (2, .int x2), (3, .int x3), (4, .ref a4)] [] t rc rs := by
  unfold V_L_bill_0 at h
  refine x_aload 4 dL_bill_0 rfl ?_
  refine x_iconst (v := (0 : Int32)) dL_bill_2 (by decide) ?_
  refine x_aload_n 0 dL_bill_3 rfl rfl ?_
  refine x_iload_n 1 dL_bill_4 rfl rfl ?_
  refine x_iload_n 2 dL_bill_5 rfl rfl ?_
  refine x_iload_n 3 dL_bill_6 rfl rfl ?_
  obtain ⟨⟨fs, hf⟩, h⟩ := h
  obtain ⟨m_3, z_4, hm, hs, h⟩ := h
  refine x_invVX (as := [.int x1, .int x2, .int x3]) (rest := [.int (0 : Int32), .ref a4]) dL_bill_7 (q := (RX7, TX7, 10)) rfl xc_L_bill_65 hf (M_X7_bill hl h) rfl rfl (Nat.le_of_ble_eq_true rfl) hm hs (fun Ex t_5 h => ?_) (xk_l fun y_2 t_1 h => ?_)
  · obtain ⟨hE, h1, h2⟩ := h
    rcases hE with rfl | rfl
    · have h := h1 rfl
      refine x_catch [] (0, 11, 14, 21) [(0, 11, 18, 13)] htab rfl (fun _ h => absurd h List.not_mem_nil) (by decide) rfl (by decide) xw420 (by decide +kernel) (fun q => ?_)
      refine x_astore (L' := [(5, .ref q), (0, .ref a0), (1, .int x1), (2, .int x2), (3, .int x3), (4, .ref a4)]) dL_bill_14 (by decide) rfl ?_
      refine x_iconst (v := (1 : Int32)) dL_bill_16 (by decide) ?_
      exact x_zret dL_bill_17 hr ht rfl ⟨_, rfl, h⟩
    · have h := h2 rfl
      refine x_catch [(0, 11, 14, 21)] (0, 11, 18, 13) [] htab rfl (List.forall_mem_cons.mpr ⟨⟨by decide, "java/lang/IndexOutOfBoundsException", xw420, by decide +kernel⟩, fun _ h => absurd h List.not_mem_nil⟩) (by decide) rfl (by decide) xw225 (by decide +kernel) (fun q => ?_)
      refine x_astore (L' := [(5, .ref q), (0, .ref a0), (1, .int x1), (2, .int x2), (3, .int x3), (4, .ref a4)]) dL_bill_18 (by decide) rfl ?_
      refine x_iconst (v := (2 : Int32)) dL_bill_20 (by decide) ?_
      exact x_zret dL_bill_21 hr ht rfl ⟨_, rfl, h⟩
  obtain ⟨n, f, hf, hi, h⟩ := h
  refine x_last dL_bill_10 hf hi ?_
  generalize hT : xup t_1 a4 _ = t_6 at h ⊢
  clear hT
  refine x_goto (tgt := 22) dL_bill_11 (by decide) ?_
  refine x_iconst (v := (0 : Int32)) dL_bill_22 (by decide) ?_
  exact x_zret dL_bill_23 hr ht rfl ⟨_, rfl, h⟩
theorem M_L_bill {l : Launch} {G : xG} (hl : l.stackTraces = false) {a0 : Nat} {x1 : Int32} {x2 : Int32} {x3 : Int32} {a4 : Nat} {t : xT} {K : Int32 → xT → Prop} {rc rs : Nat} (h : V_L_bill_0 K a0 x1 x2 x3 a4 t rc rs) : xMetH l G yL_bill k_L_bill (some .int) [(0, 11, 14, 21), (0, 11, 18, 13)] [.ref a0, .int x1, .int x2, .int x3, .ref a4] t (xKi K) rc rs := xMetH.of (by decide +kernel) rfl hl (Nat.le_of_ble_eq_true rfl) (fun Γ e1 e2 ht htab hr => by subst e1; subst e2; exact S_L_bill_0 hl ht hr htab h)
def V_L_desk_0 (K : Int32 → xT → Prop) (a0 : Nat) (x1 : Int32) (a2 : Nat) (t : xT) (rc rs : Nat) : Prop :=
  (xis t a0 7 ∧ ∃ m_3 z_4 : Nat, m_3 ≤ rc ∧ z_4 ≤ rs ∧ V_X7_desk_0 (fun Ex t_5 => (Ex = "java/lang/IndexOutOfBoundsException") ∧ (Ex = "java/lang/IndexOutOfBoundsException" → K (1 : Int32) t_5)) (fun y_2 t_1 => xsJ t_1 a2 (0 : Int32) y_2 fun t_6 => K (0 : Int32) t_6) a0 x1 t m_3 z_4)
set_option maxRecDepth 20000 in
theorem S_L_desk_0 {Γ : xΓ} {K : Int32 → xT → Prop} (hl : (gl Γ).stackTraces = false) (ht : (gM Γ).sig.returnType = (some .int)) (hr : xRet Γ (xKi K)) (htab : (gc Γ).exceptionTable.toList = tableOf [(0, 8, 11, 21)]) {a0 : Nat} {x1 : Int32} {a2 : Nat} {t : xT} {rc rs : Nat} (h : V_L_desk_0 K a0 x1 a2 t rc rs) : xX Γ k_L_desk 0 [(0, .ref a0), (1, .int x1), (2, .ref a2)] [] t rc rs := by
  unfold V_L_desk_0 at h
  refine x_aload_n 2 dL_desk_0 rfl rfl ?_
  refine x_iconst (v := (0 : Int32)) dL_desk_1 (by decide) ?_
  refine x_aload_n 0 dL_desk_2 rfl rfl ?_
  refine x_iload_n 1 dL_desk_3 rfl rfl ?_
  obtain ⟨⟨fs, hf⟩, h⟩ := h
  obtain ⟨m_3, z_4, hm, hs, h⟩ := h
  refine x_invVX (as := [.int x1]) (rest := [.int (0 : Int32), .ref a2]) dL_desk_4 (q := (RX7, TX7, 10)) rfl xc_L_desk_62 hf (M_X7_desk hl h) rfl rfl (Nat.le_of_ble_eq_true rfl) hm hs (fun Ex t_5 h => ?_) (xk_l fun y_2 t_1 h => ?_)
  · obtain ⟨hE, h1⟩ := h
    rcases hE with rfl
    · have h := h1 rfl
      refine x_catch [] (0, 8, 11, 21) [] htab rfl (fun _ h => absurd h List.not_mem_nil) (by decide) rfl (by decide) xw420 (by decide +kernel) (fun q => ?_)
      refine x_astore_n (L' := [(3, .ref q), (0, .ref a0), (1, .int x1), (2, .ref a2)]) dL_desk_11 rfl (by decide) rfl ?_
      refine x_iconst (v := (1 : Int32)) dL_desk_12 (by decide) ?_
      exact x_zret dL_desk_13 hr ht rfl ⟨_, rfl, h⟩
  obtain ⟨n, f, hf, hi, h⟩ := h
  refine x_last dL_desk_7 hf hi ?_
  generalize hT : xup t_1 a2 _ = t_6 at h ⊢
  clear hT
  refine x_goto (tgt := 14) dL_desk_8 (by decide) ?_
  refine x_iconst (v := (0 : Int32)) dL_desk_14 (by decide) ?_
  exact x_zret dL_desk_15 hr ht rfl ⟨_, rfl, h⟩
theorem M_L_desk {l : Launch} {G : xG} (hl : l.stackTraces = false) {a0 : Nat} {x1 : Int32} {a2 : Nat} {t : xT} {K : Int32 → xT → Prop} {rc rs : Nat} (h : V_L_desk_0 K a0 x1 a2 t rc rs) : xMetH l G yL_desk k_L_desk (some .int) [(0, 8, 11, 21)] [.ref a0, .int x1, .ref a2] t (xKi K) rc rs := xMetH.of (by decide +kernel) rfl hl (Nat.le_of_ble_eq_true rfl) (fun Γ e1 e2 ht htab hr => by subst e1; subst e2; exact S_L_desk_0 hl ht hr htab h)
def V_L_end_0 (K : Int32 → xT → Prop) (a0 : Nat) (x1 : Int32) (a2 : Nat) (t : xT) (rc rs : Nat) : Prop :=
  (xis t a0 7 ∧ ∃ m_3 z_4 : Nat, m_3 ≤ rc ∧ z_4 ≤ rs ∧ V_X7_end_0 (fun Ex t_5 => (Ex = "java/lang/IndexOutOfBoundsException" ∨ Ex = "java/lang/IllegalStateException") ∧ (Ex = "java/lang/IndexOutOfBoundsException" → K (1 : Int32) t_5) ∧ (Ex = "java/lang/IllegalStateException" → K (2 : Int32) t_5)) (fun x_2 t_1 => xsJ t_1 a2 (0 : Int32) x_2.toInt64 fun t_6 => K (0 : Int32) t_6) a0 x1 t m_3 z_4)
set_option maxRecDepth 20000 in
theorem S_L_end_0 {Γ : xΓ} {K : Int32 → xT → Prop} (hl : (gl Γ).stackTraces = false) (ht : (gM Γ).sig.returnType = (some .int)) (hr : xRet Γ (xKi K)) (htab : (gc Γ).exceptionTable.toList = tableOf [(0, 9, 12, 21), (0, 9, 15, 15)]) {a0 : Nat} {x1 : Int32} {a2 : Nat} {t : xT} {rc rs : Nat} (h : V_L_end_0 K a0 x1 a2 t rc rs) : xX Γ k_L_end 0 [(0, .ref a0), (1, .int x1), (2, .ref a2)] [] t rc rs := by
  unfold V_L_end_0 at h
  refine x_aload_n 2 dL_end_0 rfl rfl ?_
  refine x_iconst (v := (0 : Int32)) dL_end_1 (by decide) ?_
  refine x_aload_n 0 dL_end_2 rfl rfl ?_
  refine x_iload_n 1 dL_end_3 rfl rfl ?_
  obtain ⟨⟨fs, hf⟩, h⟩ := h
  obtain ⟨m_3, z_4, hm, hs, h⟩ := h
  refine x_invVX (as := [.int x1]) (rest := [.int (0 : Int32), .ref a2]) dL_end_4 (q := (RX7, TX7, 10)) rfl xc_L_end_23 hf (M_X7_end hl h) rfl rfl (Nat.le_of_ble_eq_true rfl) hm hs (fun Ex t_5 h => ?_) (xk_i fun x_2 t_1 h => ?_)
  · obtain ⟨hE, h1, h2⟩ := h
    rcases hE with rfl | rfl
    · have h := h1 rfl
      refine x_catch [] (0, 9, 12, 21) [(0, 9, 15, 15)] htab rfl (fun _ h => absurd h List.not_mem_nil) (by decide) rfl (by decide) xw420 (by decide +kernel) (fun q => ?_)
      refine x_astore_n (L' := [(3, .ref q), (0, .ref a0), (1, .int x1), (2, .ref a2)]) dL_end_12 rfl (by decide) rfl ?_
      refine x_iconst (v := (1 : Int32)) dL_end_13 (by decide) ?_
      exact x_zret dL_end_14 hr ht rfl ⟨_, rfl, h⟩
    · have h := h2 rfl
      refine x_catch [(0, 9, 12, 21)] (0, 9, 15, 15) [] htab rfl (List.forall_mem_cons.mpr ⟨⟨by decide, "java/lang/IndexOutOfBoundsException", xw420, by decide +kernel⟩, fun _ h => absurd h List.not_mem_nil⟩) (by decide) rfl (by decide) xw226 (by decide +kernel) (fun q => ?_)
      refine x_astore_n (L' := [(3, .ref q), (0, .ref a0), (1, .int x1), (2, .ref a2)]) dL_end_15 rfl (by decide) rfl ?_
      refine x_iconst (v := (2 : Int32)) dL_end_16 (by decide) ?_
      exact x_zret dL_end_17 hr ht rfl ⟨_, rfl, h⟩
  refine x_i2l dL_end_7 ?_
  obtain ⟨n, f, hf, hi, h⟩ := h
  refine x_last dL_end_8 hf hi ?_
  generalize hT : xup t_1 a2 _ = t_6 at h ⊢
  clear hT
  refine x_goto (tgt := 18) dL_end_9 (by decide) ?_
  refine x_iconst (v := (0 : Int32)) dL_end_18 (by decide) ?_
  exact x_zret dL_end_19 hr ht rfl ⟨_, rfl, h⟩
theorem M_L_end {l : Launch} {G : xG} (hl : l.stackTraces = false) {a0 : Nat} {x1 : Int32} {a2 : Nat} {t : xT} {K : Int32 → xT → Prop} {rc rs : Nat} (h : V_L_end_0 K a0 x1 a2 t rc rs) : xMetH l G yL_end k_L_end (some .int) [(0, 9, 12, 21), (0, 9, 15, 15)] [.ref a0, .int x1, .ref a2] t (xKi K) rc rs := xMetH.of (by decide +kernel) rfl hl (Nat.le_of_ble_eq_true rfl) (fun Γ e1 e2 ht htab hr => by subst e1; subst e2; exact S_L_end_0 hl ht hr htab h)
def V_L_flat_0 (E : Nat → Nat) (K : Int32 → xT → Prop) (a0 : Nat) (x1 : Int32) (a2 : Nat) (t : xT) (rc rs : Nat) : Prop :=
  (xis t a0 7 ∧ ∃ m_3 z_4 : Nat, m_3 ≤ rc ∧ z_4 ≤ rs ∧ V_X7_flat_0 E (fun Ex t_5 => (Ex = "java/lang/IllegalArgumentException" ∨ Ex = "java/lang/IllegalStateException") ∧ (Ex = "java/lang/IllegalArgumentException" → K (1 : Int32) t_5) ∧ (Ex = "java/lang/IllegalStateException" → K (2 : Int32) t_5)) (fun x_2 t_1 => xsJ t_1 a2 (0 : Int32) x_2.toInt64 fun t_6 => K (0 : Int32) t_6) a0 x1 t m_3 z_4)
set_option maxRecDepth 20000 in
theorem S_L_flat_0 {Γ : xΓ} {K : Int32 → xT → Prop} (hl : (gl Γ).stackTraces = false) (ht : (gM Γ).sig.returnType = (some .int)) (hr : xRet Γ (xKi K)) (htab : (gc Γ).exceptionTable.toList = tableOf [(0, 9, 12, 13), (0, 9, 15, 15)]) {a0 : Nat} {x1 : Int32} {a2 : Nat} {t : xT} {rc rs : Nat} (h : V_L_flat_0 (gG Γ).2.2.2 K a0 x1 a2 t rc rs) : xX Γ k_L_flat 0 [(0, .ref a0), (1, .int x1), (2, .ref a2)] [] t rc rs := by
  unfold V_L_flat_0 at h
  refine x_aload_n 2 dL_flat_0 rfl rfl ?_
  refine x_iconst (v := (0 : Int32)) dL_flat_1 (by decide) ?_
  refine x_aload_n 0 dL_flat_2 rfl rfl ?_
  refine x_iload_n 1 dL_flat_3 rfl rfl ?_
  obtain ⟨⟨fs, hf⟩, h⟩ := h
  obtain ⟨m_3, z_4, hm, hs, h⟩ := h
  refine x_invVX (as := [.int x1]) (rest := [.int (0 : Int32), .ref a2]) dL_flat_4 (q := (RX7, TX7, 10)) rfl xc_L_flat_7 hf (M_X7_flat hl h) rfl rfl (Nat.le_of_ble_eq_true rfl) hm hs (fun Ex t_5 h => ?_) (xk_i fun x_2 t_1 h => ?_)
  · obtain ⟨hE, h1, h2⟩ := h
    rcases hE with rfl | rfl
    · have h := h1 rfl
      refine x_catch [] (0, 9, 12, 13) [(0, 9, 15, 15)] htab rfl (fun _ h => absurd h List.not_mem_nil) (by decide) rfl (by decide) xw225 (by decide +kernel) (fun q => ?_)
      refine x_astore_n (L' := [(3, .ref q), (0, .ref a0), (1, .int x1), (2, .ref a2)]) dL_flat_12 rfl (by decide) rfl ?_
      refine x_iconst (v := (1 : Int32)) dL_flat_13 (by decide) ?_
      exact x_zret dL_flat_14 hr ht rfl ⟨_, rfl, h⟩
    · have h := h2 rfl
      refine x_catch [(0, 9, 12, 13)] (0, 9, 15, 15) [] htab rfl (List.forall_mem_cons.mpr ⟨⟨by decide, "java/lang/IllegalArgumentException", xw225, by decide +kernel⟩, fun _ h => absurd h List.not_mem_nil⟩) (by decide) rfl (by decide) xw226 (by decide +kernel) (fun q => ?_)
      refine x_astore_n (L' := [(3, .ref q), (0, .ref a0), (1, .int x1), (2, .ref a2)]) dL_flat_15 rfl (by decide) rfl ?_
      refine x_iconst (v := (2 : Int32)) dL_flat_16 (by decide) ?_
      exact x_zret dL_flat_17 hr ht rfl ⟨_, rfl, h⟩
  refine x_i2l dL_flat_7 ?_
  obtain ⟨n, f, hf, hi, h⟩ := h
  refine x_last dL_flat_8 hf hi ?_
  generalize hT : xup t_1 a2 _ = t_6 at h ⊢
  clear hT
  refine x_goto (tgt := 18) dL_flat_9 (by decide) ?_
  refine x_iconst (v := (0 : Int32)) dL_flat_18 (by decide) ?_
  exact x_zret dL_flat_19 hr ht rfl ⟨_, rfl, h⟩
theorem M_L_flat {l : Launch} {G : xG} (hl : l.stackTraces = false) {a0 : Nat} {x1 : Int32} {a2 : Nat} {t : xT} {K : Int32 → xT → Prop} {rc rs : Nat} (h : V_L_flat_0 G.2.2.2 K a0 x1 a2 t rc rs) : xMetH l G yL_flat k_L_flat (some .int) [(0, 9, 12, 13), (0, 9, 15, 15)] [.ref a0, .int x1, .ref a2] t (xKi K) rc rs := xMetH.of (by decide +kernel) rfl hl (Nat.le_of_ble_eq_true rfl) (fun Γ e1 e2 ht htab hr => by subst e1; subst e2; exact S_L_flat_0 hl ht hr htab h)
def V_L_heat_0 (K : Int32 → xT → Prop) (a0 : Nat) (x1 : Int32) (a2 : Nat) (t : xT) (rc rs : Nat) : Prop :=
  (xis t a0 7 ∧ ∃ m_3 z_4 : Nat, m_3 ≤ rc ∧ z_4 ≤ rs ∧ V_X7_heat_0 (fun Ex t_5 => (Ex = "java/lang/IllegalArgumentException" ∨ Ex = "java/lang/IllegalStateException") ∧ (Ex = "java/lang/IllegalArgumentException" → K (1 : Int32) t_5) ∧ (Ex = "java/lang/IllegalStateException" → K (2 : Int32) t_5)) (fun x_2 t_1 => xsJ t_1 a2 (0 : Int32) x_2.toInt64 fun t_6 => K (0 : Int32) t_6) a0 x1 t m_3 z_4)
set_option maxRecDepth 20000 in
theorem S_L_heat_0 {Γ : xΓ} {K : Int32 → xT → Prop} (hl : (gl Γ).stackTraces = false) (ht : (gM Γ).sig.returnType = (some .int)) (hr : xRet Γ (xKi K)) (htab : (gc Γ).exceptionTable.toList = tableOf [(0, 9, 12, 13), (0, 9, 15, 15)]) {a0 : Nat} {x1 : Int32} {a2 : Nat} {t : xT} {rc rs : Nat} (h : V_L_heat_0 K a0 x1 a2 t rc rs) : xX Γ k_L_heat 0 [(0, .ref a0), (1, .int x1), (2, .ref a2)] [] t rc rs := by
  unfold V_L_heat_0 at h
  refine x_aload_n 2 dL_heat_0 rfl rfl ?_
  refine x_iconst (v := (0 : Int32)) dL_heat_1 (by decide) ?_
  refine x_aload_n 0 dL_heat_2 rfl rfl ?_
  refine x_iload_n 1 dL_heat_3 rfl rfl ?_
  obtain ⟨⟨fs, hf⟩, h⟩ := h
  obtain ⟨m_3, z_4, hm, hs, h⟩ := h
  refine x_invVX (as := [.int x1]) (rest := [.int (0 : Int32), .ref a2]) dL_heat_4 (q := (RX7, TX7, 10)) rfl xc_L_heat_32 hf (M_X7_heat hl h) rfl rfl (Nat.le_of_ble_eq_true rfl) hm hs (fun Ex t_5 h => ?_) (xk_i fun x_2 t_1 h => ?_)
  · obtain ⟨hE, h1, h2⟩ := h
    rcases hE with rfl | rfl
    · have h := h1 rfl
      refine x_catch [] (0, 9, 12, 13) [(0, 9, 15, 15)] htab rfl (fun _ h => absurd h List.not_mem_nil) (by decide) rfl (by decide) xw225 (by decide +kernel) (fun q => ?_)
      refine x_astore_n (L' := [(3, .ref q), (0, .ref a0), (1, .int x1), (2, .ref a2)]) dL_heat_12 rfl (by decide) rfl ?_
      refine x_iconst (v := (1 : Int32)) dL_heat_13 (by decide) ?_
      exact x_zret dL_heat_14 hr ht rfl ⟨_, rfl, h⟩
    · have h := h2 rfl
      refine x_catch [(0, 9, 12, 13)] (0, 9, 15, 15) [] htab rfl (List.forall_mem_cons.mpr ⟨⟨by decide, "java/lang/IllegalArgumentException", xw225, by decide +kernel⟩, fun _ h => absurd h List.not_mem_nil⟩) (by decide) rfl (by decide) xw226 (by decide +kernel) (fun q => ?_)
      refine x_astore_n (L' := [(3, .ref q), (0, .ref a0), (1, .int x1), (2, .ref a2)]) dL_heat_15 rfl (by decide) rfl ?_
      refine x_iconst (v := (2 : Int32)) dL_heat_16 (by decide) ?_
      exact x_zret dL_heat_17 hr ht rfl ⟨_, rfl, h⟩
  refine x_i2l dL_heat_7 ?_
  obtain ⟨n, f, hf, hi, h⟩ := h
  refine x_last dL_heat_8 hf hi ?_
  generalize hT : xup t_1 a2 _ = t_6 at h ⊢
  clear hT
  refine x_goto (tgt := 18) dL_heat_9 (by decide) ?_
  refine x_iconst (v := (0 : Int32)) dL_heat_18 (by decide) ?_
  exact x_zret dL_heat_19 hr ht rfl ⟨_, rfl, h⟩
theorem M_L_heat {l : Launch} {G : xG} (hl : l.stackTraces = false) {a0 : Nat} {x1 : Int32} {a2 : Nat} {t : xT} {K : Int32 → xT → Prop} {rc rs : Nat} (h : V_L_heat_0 K a0 x1 a2 t rc rs) : xMetH l G yL_heat k_L_heat (some .int) [(0, 9, 12, 13), (0, 9, 15, 15)] [.ref a0, .int x1, .ref a2] t (xKi K) rc rs := xMetH.of (by decide +kernel) rfl hl (Nat.le_of_ble_eq_true rfl) (fun Γ e1 e2 ht htab hr => by subst e1; subst e2; exact S_L_heat_0 hl ht hr htab h)
def V_L_income_0 (K : Int32 → xT → Prop) (a0 : Nat) (x1 : Int32) (x2 : Int32) (x3 : Int32) (a4 : Nat) (t : xT) (rc rs : Nat) : Prop :=
  (xis t a0 7 ∧ ∃ m_3 z_4 : Nat, m_3 ≤ rc ∧ z_4 ≤ rs ∧ V_X7_income_0 (fun Ex t_5 => (Ex = "java/lang/IndexOutOfBoundsException" ∨ Ex = "java/lang/IllegalArgumentException") ∧ (Ex = "java/lang/IndexOutOfBoundsException" → K (1 : Int32) t_5) ∧ (Ex = "java/lang/IllegalArgumentException" → K (2 : Int32) t_5)) (fun y_2 t_1 => xsJ t_1 a4 (0 : Int32) y_2 fun t_6 => K (0 : Int32) t_6) a0 x1 x2 x3 t m_3 z_4)
set_option maxRecDepth 20000 in
theorem S_L_income_0 {Γ : xΓ} {K : Int32 → xT → Prop} (hl : (gl Γ).stackTraces = false) (ht : (gM Γ).sig.returnType = (some .int)) (hr : xRet Γ (xKi K)) (htab : (gc Γ).exceptionTable.toList = tableOf [(0, 11, 14, 21), (0, 11, 18, 13)]) {a0 : Nat} {x1 : Int32} {x2 : Int32} {x3 : Int32} {a4 : Nat} {t : xT} {rc rs : Nat} (h : V_L_income_0 K a0 x1 x2 x3 a4 t rc rs) : xX Γ k_L_income 0 [(0, .ref a0), (1, .int x1), (2, .int x2), (3, .int x3), (4, .ref a4)] [] t rc rs := by
  unfold V_L_income_0 at h
  refine x_aload 4 dL_income_0 rfl ?_
  refine x_iconst (v := (0 : Int32)) dL_income_2 (by decide) ?_
  refine x_aload_n 0 dL_income_3 rfl rfl ?_
  refine x_iload_n 1 dL_income_4 rfl rfl ?_
  refine x_iload_n 2 dL_income_5 rfl rfl ?_
  refine x_iload_n 3 dL_income_6 rfl rfl ?_
  obtain ⟨⟨fs, hf⟩, h⟩ := h
  obtain ⟨m_3, z_4, hm, hs, h⟩ := h
  refine x_invVX (as := [.int x1, .int x2, .int x3]) (rest := [.int (0 : Int32), .ref a4]) dL_income_7 (q := (RX7, TX7, 10)) rfl xc_L_income_41 hf (M_X7_income hl h) rfl rfl (Nat.le_of_ble_eq_true rfl) hm hs (fun Ex t_5 h => ?_) (xk_l fun y_2 t_1 h => ?_)
  · obtain ⟨hE, h1, h2⟩ := h
    rcases hE with rfl | rfl
    · have h := h1 rfl
      refine x_catch [] (0, 11, 14, 21) [(0, 11, 18, 13)] htab rfl (fun _ h => absurd h List.not_mem_nil) (by decide) rfl (by decide) xw420 (by decide +kernel) (fun q => ?_)
      refine x_astore (L' := [(5, .ref q), (0, .ref a0), (1, .int x1), (2, .int x2), (3, .int x3), (4, .ref a4)]) dL_income_14 (by decide) rfl ?_
      refine x_iconst (v := (1 : Int32)) dL_income_16 (by decide) ?_
      exact x_zret dL_income_17 hr ht rfl ⟨_, rfl, h⟩
    · have h := h2 rfl
      refine x_catch [(0, 11, 14, 21)] (0, 11, 18, 13) [] htab rfl (List.forall_mem_cons.mpr ⟨⟨by decide, "java/lang/IndexOutOfBoundsException", xw420, by decide +kernel⟩, fun _ h => absurd h List.not_mem_nil⟩) (by decide) rfl (by decide) xw225 (by decide +kernel) (fun q => ?_)
      refine x_astore (L' := [(5, .ref q), (0, .ref a0), (1, .int x1), (2, .int x2), (3, .int x3), (4, .ref a4)]) dL_income_18 (by decide) rfl ?_
      refine x_iconst (v := (2 : Int32)) dL_income_20 (by decide) ?_
      exact x_zret dL_income_21 hr ht rfl ⟨_, rfl, h⟩
  obtain ⟨n, f, hf, hi, h⟩ := h
  refine x_last dL_income_10 hf hi ?_
  generalize hT : xup t_1 a4 _ = t_6 at h ⊢
  clear hT
  refine x_goto (tgt := 22) dL_income_11 (by decide) ?_
  refine x_iconst (v := (0 : Int32)) dL_income_22 (by decide) ?_
  exact x_zret dL_income_23 hr ht rfl ⟨_, rfl, h⟩
theorem M_L_income {l : Launch} {G : xG} (hl : l.stackTraces = false) {a0 : Nat} {x1 : Int32} {x2 : Int32} {x3 : Int32} {a4 : Nat} {t : xT} {K : Int32 → xT → Prop} {rc rs : Nat} (h : V_L_income_0 K a0 x1 x2 x3 a4 t rc rs) : xMetH l G yL_income k_L_income (some .int) [(0, 11, 14, 21), (0, 11, 18, 13)] [.ref a0, .int x1, .int x2, .int x3, .ref a4] t (xKi K) rc rs := xMetH.of (by decide +kernel) rfl hl (Nat.le_of_ble_eq_true rfl) (fun Γ e1 e2 ht htab hr => by subst e1; subst e2; exact S_L_income_0 hl ht hr htab h)
def V_L_index_0 (K : Int32 → xT → Prop) (a0 : Nat) (x1 : Int32) (a2 : Nat) (t : xT) (rc rs : Nat) : Prop :=
  (xis t a0 7 ∧ ∃ m_3 z_4 : Nat, m_3 ≤ rc ∧ z_4 ≤ rs ∧ V_X7_index_0 (fun Ex t_5 => (Ex = "java/lang/IllegalArgumentException") ∧ (Ex = "java/lang/IllegalArgumentException" → K (1 : Int32) t_5)) (fun x_2 t_1 => xsJ t_1 a2 (0 : Int32) x_2.toInt64 fun t_6 => K (0 : Int32) t_6) a0 x1 t m_3 z_4)
set_option maxRecDepth 20000 in
theorem S_L_index_0 {Γ : xΓ} {K : Int32 → xT → Prop} (hl : (gl Γ).stackTraces = false) (ht : (gM Γ).sig.returnType = (some .int)) (hr : xRet Γ (xKi K)) (htab : (gc Γ).exceptionTable.toList = tableOf [(0, 9, 12, 13)]) {a0 : Nat} {x1 : Int32} {a2 : Nat} {t : xT} {rc rs : Nat} (h : V_L_index_0 K a0 x1 a2 t rc rs) : xX Γ k_L_index 0 [(0, .ref a0), (1, .int x1), (2, .ref a2)] [] t rc rs := by
  unfold V_L_index_0 at h
  refine x_aload_n 2 dL_index_0 rfl rfl ?_
  refine x_iconst (v := (0 : Int32)) dL_index_1 (by decide) ?_
  refine x_aload_n 0 dL_index_2 rfl rfl ?_
  refine x_iload_n 1 dL_index_3 rfl rfl ?_
  obtain ⟨⟨fs, hf⟩, h⟩ := h
  obtain ⟨m_3, z_4, hm, hs, h⟩ := h
  refine x_invVX (as := [.int x1]) (rest := [.int (0 : Int32), .ref a2]) dL_index_4 (q := (RX7, TX7, 10)) rfl xc_L_index_26 hf (M_X7_index hl h) rfl rfl (Nat.le_of_ble_eq_true rfl) hm hs (fun Ex t_5 h => ?_) (xk_i fun x_2 t_1 h => ?_)
  · obtain ⟨hE, h1⟩ := h
    rcases hE with rfl
    · have h := h1 rfl
      refine x_catch [] (0, 9, 12, 13) [] htab rfl (fun _ h => absurd h List.not_mem_nil) (by decide) rfl (by decide) xw225 (by decide +kernel) (fun q => ?_)
      refine x_astore_n (L' := [(3, .ref q), (0, .ref a0), (1, .int x1), (2, .ref a2)]) dL_index_12 rfl (by decide) rfl ?_
      refine x_iconst (v := (1 : Int32)) dL_index_13 (by decide) ?_
      exact x_zret dL_index_14 hr ht rfl ⟨_, rfl, h⟩
  refine x_i2l dL_index_7 ?_
  obtain ⟨n, f, hf, hi, h⟩ := h
  refine x_last dL_index_8 hf hi ?_
  generalize hT : xup t_1 a2 _ = t_6 at h ⊢
  clear hT
  refine x_goto (tgt := 15) dL_index_9 (by decide) ?_
  refine x_iconst (v := (0 : Int32)) dL_index_15 (by decide) ?_
  exact x_zret dL_index_16 hr ht rfl ⟨_, rfl, h⟩
theorem M_L_index {l : Launch} {G : xG} (hl : l.stackTraces = false) {a0 : Nat} {x1 : Int32} {a2 : Nat} {t : xT} {K : Int32 → xT → Prop} {rc rs : Nat} (h : V_L_index_0 K a0 x1 a2 t rc rs) : xMetH l G yL_index k_L_index (some .int) [(0, 9, 12, 13)] [.ref a0, .int x1, .ref a2] t (xKi K) rc rs := xMetH.of (by decide +kernel) rfl hl (Nat.le_of_ble_eq_true rfl) (fun Γ e1 e2 ht htab hr => by subst e1; subst e2; exact S_L_index_0 hl ht hr htab h)
def V_L_lease_0 (E : Nat → Nat) (K : Int32 → xT → Prop) (a0 : Nat) (x1 : Int32) (x2 : Int32) (a3 : Nat) (t : xT) (rc rs : Nat) : Prop :=
  (xis t a0 7 ∧ ∃ m_3 z_4 : Nat, m_3 ≤ rc ∧ z_4 ≤ rs ∧ V_X7_lease_0 E (fun Ex t_5 => (Ex = "java/lang/IndexOutOfBoundsException" ∨ Ex = "java/lang/IllegalArgumentException" ∨ Ex = "java/lang/IllegalStateException") ∧ (Ex = "java/lang/IndexOutOfBoundsException" → K (1 : Int32) t_5) ∧ (Ex = "java/lang/IllegalArgumentException" → K (2 : Int32) t_5) ∧ (Ex = "java/lang/IllegalStateException" → K (3 : Int32) t_5)) (fun x_2 t_1 => xsJ t_1 a3 (0 : Int32) x_2.toInt64 fun t_6 => K (0 : Int32) t_6) a0 x1 x2 t m_3 z_4)
set_option maxRecDepth 20000 in
theorem S_L_lease_0 {Γ : xΓ} {K : Int32 → xT → Prop} (hl : (gl Γ).stackTraces = false) (ht : (gM Γ).sig.returnType = (some .int)) (hr : xRet Γ (xKi K)) (htab : (gc Γ).exceptionTable.toList = tableOf [(0, 10, 13, 21), (0, 10, 17, 13), (0, 10, 21, 15)]) {a0 : Nat} {x1 : Int32} {x2 : Int32} {a3 : Nat} {t : xT} {rc rs : Nat} (h : V_L_lease_0 (gG Γ).2.2.2 K a0 x1 x2 a3 t rc rs) : xX Γ k_L_lease 0 [(0, .ref a0), (1, .int x1), (2, .int x2), (3, .ref a3)] [] t rc rs := by
  unfold V_L_lease_0 at h
  refine x_aload_n 3 dL_lease_0 rfl rfl ?_
  refine x_iconst (v := (0 : Int32)) dL_lease_1 (by decide) ?_
  refine x_aload_n 0 dL_lease_2 rfl rfl ?_
  refine x_iload_n 1 dL_lease_3 rfl rfl ?_
  refine x_iload_n 2 dL_lease_4 rfl rfl ?_
  obtain ⟨⟨fs, hf⟩, h⟩ := h
  obtain ⟨m_3, z_4, hm, hs, h⟩ := h
  refine x_invVX (as := [.int x1, .int x2]) (rest := [.int (0 : Int32), .ref a3]) dL_lease_5 (q := (RX7, TX7, 10)) rfl xc_L_lease_17 hf (M_X7_lease hl h) rfl rfl (Nat.le_of_ble_eq_true rfl) hm hs (fun Ex t_5 h => ?_) (xk_i fun x_2 t_1 h => ?_)
  · obtain ⟨hE, h1, h2, h3⟩ := h
    rcases hE with rfl | rfl | rfl
    · have h := h1 rfl
      refine x_catch [] (0, 10, 13, 21) [(0, 10, 17, 13), (0, 10, 21, 15)] htab rfl (fun _ h => absurd h List.not_mem_nil) (by decide) rfl (by decide) xw420 (by decide +kernel) (fun q => ?_)
      refine x_astore (L' := [(4, .ref q), (0, .ref a0), (1, .int x1), (2, .int x2), (3, .ref a3)]) dL_lease_13 (by decide) rfl ?_
      refine x_iconst (v := (1 : Int32)) dL_lease_15 (by decide) ?_
      exact x_zret dL_lease_16 hr ht rfl ⟨_, rfl, h⟩
    · have h := h2 rfl
      refine x_catch [(0, 10, 13, 21)] (0, 10, 17, 13) [(0, 10, 21, 15)] htab rfl (List.forall_mem_cons.mpr ⟨⟨by decide, "java/lang/IndexOutOfBoundsException", xw420, by decide +kernel⟩, fun _ h => absurd h List.not_mem_nil⟩) (by decide) rfl (by decide) xw225 (by decide +kernel) (fun q => ?_)
      refine x_astore (L' := [(4, .ref q), (0, .ref a0), (1, .int x1), (2, .int x2), (3, .ref a3)]) dL_lease_17 (by decide) rfl ?_
      refine x_iconst (v := (2 : Int32)) dL_lease_19 (by decide) ?_
      exact x_zret dL_lease_20 hr ht rfl ⟨_, rfl, h⟩
    · have h := h3 rfl
      refine x_catch [(0, 10, 13, 21), (0, 10, 17, 13)] (0, 10, 21, 15) [] htab rfl (List.forall_mem_cons.mpr ⟨⟨by decide, "java/lang/IndexOutOfBoundsException", xw420, by decide +kernel⟩, List.forall_mem_cons.mpr ⟨⟨by decide, "java/lang/IllegalArgumentException", xw225, by decide +kernel⟩, fun _ h => absurd h List.not_mem_nil⟩⟩) (by decide) rfl (by decide) xw226 (by decide +kernel) (fun q => ?_)
      refine x_astore (L' := [(4, .ref q), (0, .ref a0), (1, .int x1), (2, .int x2), (3, .ref a3)]) dL_lease_21 (by decide) rfl ?_
      refine x_iconst (v := (3 : Int32)) dL_lease_23 (by decide) ?_
      exact x_zret dL_lease_24 hr ht rfl ⟨_, rfl, h⟩
  refine x_i2l dL_lease_8 ?_
  obtain ⟨n, f, hf, hi, h⟩ := h
  refine x_last dL_lease_9 hf hi ?_
  generalize hT : xup t_1 a3 _ = t_6 at h ⊢
  clear hT
  refine x_goto (tgt := 25) dL_lease_10 (by decide) ?_
  refine x_iconst (v := (0 : Int32)) dL_lease_25 (by decide) ?_
  exact x_zret dL_lease_26 hr ht rfl ⟨_, rfl, h⟩
theorem M_L_lease {l : Launch} {G : xG} (hl : l.stackTraces = false) {a0 : Nat} {x1 : Int32} {x2 : Int32} {a3 : Nat} {t : xT} {K : Int32 → xT → Prop} {rc rs : Nat} (h : V_L_lease_0 G.2.2.2 K a0 x1 x2 a3 t rc rs) : xMetH l G yL_lease k_L_lease (some .int) [(0, 10, 13, 21), (0, 10, 17, 13), (0, 10, 21, 15)] [.ref a0, .int x1, .int x2, .ref a3] t (xKi K) rc rs := xMetH.of (by decide +kernel) rfl hl (Nat.le_of_ble_eq_true rfl) (fun Γ e1 e2 ht htab hr => by subst e1; subst e2; exact S_L_lease_0 hl ht hr htab h)
def V_L_line_0 (E : Nat → Nat) (K : Int32 → xT → Prop) (a0 : Nat) (x1 : Int32) (x2 : Int32) (x3 : Int32) (a4 : Nat) (t : xT) (rc rs : Nat) : Prop :=
  (xis t a0 7 ∧ ∃ m_3 z_4 : Nat, m_3 ≤ rc ∧ z_4 ≤ rs ∧ V_X7_line_0 E (fun Ex t_5 => (Ex = "java/lang/IndexOutOfBoundsException") ∧ (Ex = "java/lang/IndexOutOfBoundsException" → K (1 : Int32) t_5)) (fun x_2 t_1 => xsJ t_1 a4 (0 : Int32) x_2.toInt64 fun t_6 => K (0 : Int32) t_6) a0 x1 x2 x3 t m_3 z_4)
set_option maxRecDepth 20000 in
theorem S_L_line_0 {Γ : xΓ} {K : Int32 → xT → Prop} (hl : (gl Γ).stackTraces = false) (ht : (gM Γ).sig.returnType = (some .int)) (hr : xRet Γ (xKi K)) (htab : (gc Γ).exceptionTable.toList = tableOf [(0, 12, 15, 21)]) {a0 : Nat} {x1 : Int32} {x2 : Int32} {x3 : Int32} {a4 : Nat} {t : xT} {rc rs : Nat} (h : V_L_line_0 (gG Γ).2.2.2 K a0 x1 x2 x3 a4 t rc rs) : xX Γ k_L_line 0 [(0, .ref a0), (1, .int x1), (2, .int x2), (3, .int x3), (4, .ref a4)] [] t rc rs := by
  unfold V_L_line_0 at h
  refine x_aload 4 dL_line_0 rfl ?_
  refine x_iconst (v := (0 : Int32)) dL_line_2 (by decide) ?_
  refine x_aload_n 0 dL_line_3 rfl rfl ?_
  refine x_iload_n 1 dL_line_4 rfl rfl ?_
  refine x_iload_n 2 dL_line_5 rfl rfl ?_
  refine x_iload_n 3 dL_line_6 rfl rfl ?_
  obtain ⟨⟨fs, hf⟩, h⟩ := h
  obtain ⟨m_3, z_4, hm, hs, h⟩ := h
  refine x_invVX (as := [.int x1, .int x2, .int x3]) (rest := [.int (0 : Int32), .ref a4]) dL_line_7 (q := (RX7, TX7, 10)) rfl xc_L_line_68 hf (M_X7_line hl h) rfl rfl (Nat.le_of_ble_eq_true rfl) hm hs (fun Ex t_5 h => ?_) (xk_i fun x_2 t_1 h => ?_)
  · obtain ⟨hE, h1⟩ := h
    rcases hE with rfl
    · have h := h1 rfl
      refine x_catch [] (0, 12, 15, 21) [] htab rfl (fun _ h => absurd h List.not_mem_nil) (by decide) rfl (by decide) xw420 (by decide +kernel) (fun q => ?_)
      refine x_astore (L' := [(5, .ref q), (0, .ref a0), (1, .int x1), (2, .int x2), (3, .int x3), (4, .ref a4)]) dL_line_15 (by decide) rfl ?_
      refine x_iconst (v := (1 : Int32)) dL_line_17 (by decide) ?_
      exact x_zret dL_line_18 hr ht rfl ⟨_, rfl, h⟩
  refine x_i2l dL_line_10 ?_
  obtain ⟨n, f, hf, hi, h⟩ := h
  refine x_last dL_line_11 hf hi ?_
  generalize hT : xup t_1 a4 _ = t_6 at h ⊢
  clear hT
  refine x_goto (tgt := 19) dL_line_12 (by decide) ?_
  refine x_iconst (v := (0 : Int32)) dL_line_19 (by decide) ?_
  exact x_zret dL_line_20 hr ht rfl ⟨_, rfl, h⟩
theorem M_L_line {l : Launch} {G : xG} (hl : l.stackTraces = false) {a0 : Nat} {x1 : Int32} {x2 : Int32} {x3 : Int32} {a4 : Nat} {t : xT} {K : Int32 → xT → Prop} {rc rs : Nat} (h : V_L_line_0 G.2.2.2 K a0 x1 x2 x3 a4 t rc rs) : xMetH l G yL_line k_L_line (some .int) [(0, 12, 15, 21)] [.ref a0, .int x1, .int x2, .int x3, .ref a4] t (xKi K) rc rs := xMetH.of (by decide +kernel) rfl hl (Nat.le_of_ble_eq_true rfl) (fun Γ e1 e2 ht htab hr => by subst e1; subst e2; exact S_L_line_0 hl ht hr htab h)
def V_L_mend_0 (K : Int32 → xT → Prop) (a0 : Nat) (x1 : Int32) (a2 : Nat) (t : xT) (rc rs : Nat) : Prop :=
  (xis t a0 7 ∧ ∃ m_3 z_4 : Nat, m_3 ≤ rc ∧ z_4 ≤ rs ∧ V_X7_mend_0 (fun Ex t_5 => (Ex = "java/lang/IndexOutOfBoundsException" ∨ Ex = "java/lang/IllegalStateException") ∧ (Ex = "java/lang/IndexOutOfBoundsException" → K (1 : Int32) t_5) ∧ (Ex = "java/lang/IllegalStateException" → K (2 : Int32) t_5)) (fun x_2 t_1 => xsJ t_1 a2 (0 : Int32) x_2.toInt64 fun t_6 => K (0 : Int32) t_6) a0 x1 t m_3 z_4)
set_option maxRecDepth 20000 in
theorem S_L_mend_0 {Γ : xΓ} {K : Int32 → xT → Prop} (hl : (gl Γ).stackTraces = false) (ht : (gM Γ).sig.returnType = (some .int)) (hr : xRet Γ (xKi K)) (htab : (gc Γ).exceptionTable.toList = tableOf [(0, 9, 12, 21), (0, 9, 15, 15)]) {a0 : Nat} {x1 : Int32} {a2 : Nat} {t : xT} {rc rs : Nat} (h : V_L_mend_0 K a0 x1 a2 t rc rs) : xX Γ k_L_mend 0 [(0, .ref a0), (1, .int x1), (2, .ref a2)] [] t rc rs := by
  unfold V_L_mend_0 at h
  refine x_aload_n 2 dL_mend_0 rfl rfl ?_
  refine x_iconst (v := (0 : Int32)) dL_mend_1 (by decide) ?_
  refine x_aload_n 0 dL_mend_2 rfl rfl ?_
  refine x_iload_n 1 dL_mend_3 rfl rfl ?_
  obtain ⟨⟨fs, hf⟩, h⟩ := h
  obtain ⟨m_3, z_4, hm, hs, h⟩ := h
  refine x_invVX (as := [.int x1]) (rest := [.int (0 : Int32), .ref a2]) dL_mend_4 (q := (RX7, TX7, 10)) rfl xc_L_mend_38 hf (M_X7_mend hl h) rfl rfl (Nat.le_of_ble_eq_true rfl) hm hs (fun Ex t_5 h => ?_) (xk_i fun x_2 t_1 h => ?_)
  · obtain ⟨hE, h1, h2⟩ := h
    rcases hE with rfl | rfl
    · have h := h1 rfl
      refine x_catch [] (0, 9, 12, 21) [(0, 9, 15, 15)] htab rfl (fun _ h => absurd h List.not_mem_nil) (by decide) rfl (by decide) xw420 (by decide +kernel) (fun q => ?_)
      refine x_astore_n (L' := [(3, .ref q), (0, .ref a0), (1, .int x1), (2, .ref a2)]) dL_mend_12 rfl (by decide) rfl ?_
      refine x_iconst (v := (1 : Int32)) dL_mend_13 (by decide) ?_
      exact x_zret dL_mend_14 hr ht rfl ⟨_, rfl, h⟩
    · have h := h2 rfl
      refine x_catch [(0, 9, 12, 21)] (0, 9, 15, 15) [] htab rfl (List.forall_mem_cons.mpr ⟨⟨by decide, "java/lang/IndexOutOfBoundsException", xw420, by decide +kernel⟩, fun _ h => absurd h List.not_mem_nil⟩) (by decide) rfl (by decide) xw226 (by decide +kernel) (fun q => ?_)
      refine x_astore_n (L' := [(3, .ref q), (0, .ref a0), (1, .int x1), (2, .ref a2)]) dL_mend_15 rfl (by decide) rfl ?_
      refine x_iconst (v := (2 : Int32)) dL_mend_16 (by decide) ?_
      exact x_zret dL_mend_17 hr ht rfl ⟨_, rfl, h⟩
  refine x_i2l dL_mend_7 ?_
  obtain ⟨n, f, hf, hi, h⟩ := h
  refine x_last dL_mend_8 hf hi ?_
  generalize hT : xup t_1 a2 _ = t_6 at h ⊢
  clear hT
  refine x_goto (tgt := 18) dL_mend_9 (by decide) ?_
  refine x_iconst (v := (0 : Int32)) dL_mend_18 (by decide) ?_
  exact x_zret dL_mend_19 hr ht rfl ⟨_, rfl, h⟩
theorem M_L_mend {l : Launch} {G : xG} (hl : l.stackTraces = false) {a0 : Nat} {x1 : Int32} {a2 : Nat} {t : xT} {K : Int32 → xT → Prop} {rc rs : Nat} (h : V_L_mend_0 K a0 x1 a2 t rc rs) : xMetH l G yL_mend k_L_mend (some .int) [(0, 9, 12, 21), (0, 9, 15, 15)] [.ref a0, .int x1, .ref a2] t (xKi K) rc rs := xMetH.of (by decide +kernel) rfl hl (Nat.le_of_ble_eq_true rfl) (fun Γ e1 e2 ht htab hr => by subst e1; subst e2; exact S_L_mend_0 hl ht hr htab h)
def V_L_owes_0 (K : Int32 → xT → Prop) (a0 : Nat) (x1 : Int32) (a2 : Nat) (t : xT) (rc rs : Nat) : Prop :=
  (xis t a0 7 ∧ ∃ m_3 z_4 : Nat, m_3 ≤ rc ∧ z_4 ≤ rs ∧ V_X7_owes_0 (fun Ex t_5 => (Ex = "java/lang/IndexOutOfBoundsException") ∧ (Ex = "java/lang/IndexOutOfBoundsException" → K (1 : Int32) t_5)) (fun y_2 t_1 => xsJ t_1 a2 (0 : Int32) y_2 fun t_6 => K (0 : Int32) t_6) a0 x1 t m_3 z_4)
set_option maxRecDepth 20000 in
theorem S_L_owes_0 {Γ : xΓ} {K : Int32 → xT → Prop} (hl : (gl Γ).stackTraces = false) (ht : (gM Γ).sig.returnType = (some .int)) (hr : xRet Γ (xKi K)) (htab : (gc Γ).exceptionTable.toList = tableOf [(0, 8, 11, 21)]) {a0 : Nat} {x1 : Int32} {a2 : Nat} {t : xT} {rc rs : Nat} (h : V_L_owes_0 K a0 x1 a2 t rc rs) : xX Γ k_L_owes 0 [(0, .ref a0), (1, .int x1), (2, .ref a2)] [] t rc rs := by
  unfold V_L_owes_0 at h
  refine x_aload_n 2 dL_owes_0 rfl rfl ?_
  refine x_iconst (v := (0 : Int32)) dL_owes_1 (by decide) ?_
  refine x_aload_n 0 dL_owes_2 rfl rfl ?_
  refine x_iload_n 1 dL_owes_3 rfl rfl ?_
  obtain ⟨⟨fs, hf⟩, h⟩ := h
  obtain ⟨m_3, z_4, hm, hs, h⟩ := h
  refine x_invVX (as := [.int x1]) (rest := [.int (0 : Int32), .ref a2]) dL_owes_4 (q := (RX7, TX7, 10)) rfl xc_L_owes_55 hf (M_X7_owes hl h) rfl rfl (Nat.le_of_ble_eq_true rfl) hm hs (fun Ex t_5 h => ?_) (xk_l fun y_2 t_1 h => ?_)
  · obtain ⟨hE, h1⟩ := h
    rcases hE with rfl
    · have h := h1 rfl
      refine x_catch [] (0, 8, 11, 21) [] htab rfl (fun _ h => absurd h List.not_mem_nil) (by decide) rfl (by decide) xw420 (by decide +kernel) (fun q => ?_)
      refine x_astore_n (L' := [(3, .ref q), (0, .ref a0), (1, .int x1), (2, .ref a2)]) dL_owes_11 rfl (by decide) rfl ?_
      refine x_iconst (v := (1 : Int32)) dL_owes_12 (by decide) ?_
      exact x_zret dL_owes_13 hr ht rfl ⟨_, rfl, h⟩
  obtain ⟨n, f, hf, hi, h⟩ := h
  refine x_last dL_owes_7 hf hi ?_
  generalize hT : xup t_1 a2 _ = t_6 at h ⊢
  clear hT
  refine x_goto (tgt := 14) dL_owes_8 (by decide) ?_
  refine x_iconst (v := (0 : Int32)) dL_owes_14 (by decide) ?_
  exact x_zret dL_owes_15 hr ht rfl ⟨_, rfl, h⟩
theorem M_L_owes {l : Launch} {G : xG} (hl : l.stackTraces = false) {a0 : Nat} {x1 : Int32} {a2 : Nat} {t : xT} {K : Int32 → xT → Prop} {rc rs : Nat} (h : V_L_owes_0 K a0 x1 a2 t rc rs) : xMetH l G yL_owes k_L_owes (some .int) [(0, 8, 11, 21)] [.ref a0, .int x1, .ref a2] t (xKi K) rc rs := xMetH.of (by decide +kernel) rfl hl (Nat.le_of_ble_eq_true rfl) (fun Γ e1 e2 ht htab hr => by subst e1; subst e2; exact S_L_owes_0 hl ht hr htab h)
def V_L_owesAnew_0 (K : Int32 → xT → Prop) (a0 : Nat) (x1 : Int32) (a2 : Nat) (t : xT) (rc rs : Nat) : Prop :=
  (xis t a0 7 ∧ ∃ m_3 z_4 : Nat, m_3 ≤ rc ∧ z_4 ≤ rs ∧ V_X7_owesAnew_0 (fun Ex t_5 => (Ex = "java/lang/IndexOutOfBoundsException") ∧ (Ex = "java/lang/IndexOutOfBoundsException" → K (1 : Int32) t_5)) (fun y_2 t_1 => xsJ t_1 a2 (0 : Int32) y_2 fun t_6 => K (0 : Int32) t_6) a0 x1 t m_3 z_4)
set_option maxRecDepth 20000 in
theorem S_L_owesAnew_0 {Γ : xΓ} {K : Int32 → xT → Prop} (hl : (gl Γ).stackTraces = false) (ht : (gM Γ).sig.returnType = (some .int)) (hr : xRet Γ (xKi K)) (htab : (gc Γ).exceptionTable.toList = tableOf [(0, 8, 11, 21)]) {a0 : Nat} {x1 : Int32} {a2 : Nat} {t : xT} {rc rs : Nat} (h : V_L_owesAnew_0 K a0 x1 a2 t rc rs) : xX Γ k_L_owesAnew 0 [(0, .ref a0), (1, .int x1), (2, .ref a2)] [] t rc rs := by
  unfold V_L_owesAnew_0 at h
  refine x_aload_n 2 dL_owesAnew_0 rfl rfl ?_
  refine x_iconst (v := (0 : Int32)) dL_owesAnew_1 (by decide) ?_
  refine x_aload_n 0 dL_owesAnew_2 rfl rfl ?_
  refine x_iload_n 1 dL_owesAnew_3 rfl rfl ?_
  obtain ⟨⟨fs, hf⟩, h⟩ := h
  obtain ⟨m_3, z_4, hm, hs, h⟩ := h
  refine x_invVX (as := [.int x1]) (rest := [.int (0 : Int32), .ref a2]) dL_owesAnew_4 (q := (RX7, TX7, 10)) rfl xc_L_owesAnew_59 hf (M_X7_owesAnew hl h) rfl rfl (Nat.le_of_ble_eq_true rfl) hm hs (fun Ex t_5 h => ?_) (xk_l fun y_2 t_1 h => ?_)
  · obtain ⟨hE, h1⟩ := h
    rcases hE with rfl
    · have h := h1 rfl
      refine x_catch [] (0, 8, 11, 21) [] htab rfl (fun _ h => absurd h List.not_mem_nil) (by decide) rfl (by decide) xw420 (by decide +kernel) (fun q => ?_)
      refine x_astore_n (L' := [(3, .ref q), (0, .ref a0), (1, .int x1), (2, .ref a2)]) dL_owesAnew_11 rfl (by decide) rfl ?_
      refine x_iconst (v := (1 : Int32)) dL_owesAnew_12 (by decide) ?_
      exact x_zret dL_owesAnew_13 hr ht rfl ⟨_, rfl, h⟩
  obtain ⟨n, f, hf, hi, h⟩ := h
  refine x_last dL_owesAnew_7 hf hi ?_
  generalize hT : xup t_1 a2 _ = t_6 at h ⊢
  clear hT
  refine x_goto (tgt := 14) dL_owesAnew_8 (by decide) ?_
  refine x_iconst (v := (0 : Int32)) dL_owesAnew_14 (by decide) ?_
  exact x_zret dL_owesAnew_15 hr ht rfl ⟨_, rfl, h⟩
theorem M_L_owesAnew {l : Launch} {G : xG} (hl : l.stackTraces = false) {a0 : Nat} {x1 : Int32} {a2 : Nat} {t : xT} {K : Int32 → xT → Prop} {rc rs : Nat} (h : V_L_owesAnew_0 K a0 x1 a2 t rc rs) : xMetH l G yL_owesAnew k_L_owesAnew (some .int) [(0, 8, 11, 21)] [.ref a0, .int x1, .ref a2] t (xKi K) rc rs := xMetH.of (by decide +kernel) rfl hl (Nat.le_of_ble_eq_true rfl) (fun Γ e1 e2 ht htab hr => by subst e1; subst e2; exact S_L_owesAnew_0 hl ht hr htab h)
def V_L_pass_0 (K : Int32 → xT → Prop) (a0 : Nat) (x1 : Int32) (a2 : Nat) (t : xT) (rc rs : Nat) : Prop :=
  (xis t a0 7 ∧ ∃ m_3 z_4 : Nat, m_3 ≤ rc ∧ z_4 ≤ rs ∧ V_X7_pass_0 (fun Ex t_5 => (Ex = "java/lang/IllegalArgumentException" ∨ Ex = "java/lang/IllegalStateException") ∧ (Ex = "java/lang/IllegalArgumentException" → K (1 : Int32) t_5) ∧ (Ex = "java/lang/IllegalStateException" → K (2 : Int32) t_5)) (fun x_2 t_1 => xsJ t_1 a2 (0 : Int32) x_2.toInt64 fun t_6 => K (0 : Int32) t_6) a0 x1 t m_3 z_4)
set_option maxRecDepth 20000 in
theorem S_L_pass_0 {Γ : xΓ} {K : Int32 → xT → Prop} (hl : (gl Γ).stackTraces = false) (ht : (gM Γ).sig.returnType = (some .int)) (hr : xRet Γ (xKi K)) (htab : (gc Γ).exceptionTable.toList = tableOf [(0, 9, 12, 13), (0, 9, 15, 15)]) {a0 : Nat} {x1 : Int32} {a2 : Nat} {t : xT} {rc rs : Nat} (h : V_L_pass_0 K a0 x1 a2 t rc rs) : xX Γ k_L_pass 0 [(0, .ref a0), (1, .int x1), (2, .ref a2)] [] t rc rs := by
  unfold V_L_pass_0 at h
  refine x_aload_n 2 dL_pass_0 rfl rfl ?_
  refine x_iconst (v := (0 : Int32)) dL_pass_1 (by decide) ?_
  refine x_aload_n 0 dL_pass_2 rfl rfl ?_
  refine x_iload_n 1 dL_pass_3 rfl rfl ?_
  obtain ⟨⟨fs, hf⟩, h⟩ := h
  obtain ⟨m_3, z_4, hm, hs, h⟩ := h
  refine x_invVX (as := [.int x1]) (rest := [.int (0 : Int32), .ref a2]) dL_pass_4 (q := (RX7, TX7, 10)) rfl xc_L_pass_52 hf (M_X7_pass hl h) rfl rfl (Nat.le_of_ble_eq_true rfl) hm hs (fun Ex t_5 h => ?_) (xk_i fun x_2 t_1 h => ?_)
  · obtain ⟨hE, h1, h2⟩ := h
    rcases hE with rfl | rfl
    · have h := h1 rfl
      refine x_catch [] (0, 9, 12, 13) [(0, 9, 15, 15)] htab rfl (fun _ h => absurd h List.not_mem_nil) (by decide) rfl (by decide) xw225 (by decide +kernel) (fun q => ?_)
      refine x_astore_n (L' := [(3, .ref q), (0, .ref a0), (1, .int x1), (2, .ref a2)]) dL_pass_12 rfl (by decide) rfl ?_
      refine x_iconst (v := (1 : Int32)) dL_pass_13 (by decide) ?_
      exact x_zret dL_pass_14 hr ht rfl ⟨_, rfl, h⟩
    · have h := h2 rfl
      refine x_catch [(0, 9, 12, 13)] (0, 9, 15, 15) [] htab rfl (List.forall_mem_cons.mpr ⟨⟨by decide, "java/lang/IllegalArgumentException", xw225, by decide +kernel⟩, fun _ h => absurd h List.not_mem_nil⟩) (by decide) rfl (by decide) xw226 (by decide +kernel) (fun q => ?_)
      refine x_astore_n (L' := [(3, .ref q), (0, .ref a0), (1, .int x1), (2, .ref a2)]) dL_pass_15 rfl (by decide) rfl ?_
      refine x_iconst (v := (2 : Int32)) dL_pass_16 (by decide) ?_
      exact x_zret dL_pass_17 hr ht rfl ⟨_, rfl, h⟩
  refine x_i2l dL_pass_7 ?_
  obtain ⟨n, f, hf, hi, h⟩ := h
  refine x_last dL_pass_8 hf hi ?_
  generalize hT : xup t_1 a2 _ = t_6 at h ⊢
  clear hT
  refine x_goto (tgt := 18) dL_pass_9 (by decide) ?_
  refine x_iconst (v := (0 : Int32)) dL_pass_18 (by decide) ?_
  exact x_zret dL_pass_19 hr ht rfl ⟨_, rfl, h⟩
theorem M_L_pass {l : Launch} {G : xG} (hl : l.stackTraces = false) {a0 : Nat} {x1 : Int32} {a2 : Nat} {t : xT} {K : Int32 → xT → Prop} {rc rs : Nat} (h : V_L_pass_0 K a0 x1 a2 t rc rs) : xMetH l G yL_pass k_L_pass (some .int) [(0, 9, 12, 13), (0, 9, 15, 15)] [.ref a0, .int x1, .ref a2] t (xKi K) rc rs := xMetH.of (by decide +kernel) rfl hl (Nat.le_of_ble_eq_true rfl) (fun Γ e1 e2 ht htab hr => by subst e1; subst e2; exact S_L_pass_0 hl ht hr htab h)
def V_L_pay_0 (K : Int32 → xT → Prop) (a0 : Nat) (x1 : Int32) (x2 : Int32) (a3 : Nat) (t : xT) (rc rs : Nat) : Prop :=
  (xis t a0 7 ∧ ∃ m_3 z_4 : Nat, m_3 ≤ rc ∧ z_4 ≤ rs ∧ V_X7_pay_0 (fun Ex t_5 => (Ex = "java/lang/IndexOutOfBoundsException" ∨ Ex = "java/lang/IllegalArgumentException") ∧ (Ex = "java/lang/IndexOutOfBoundsException" → K (1 : Int32) t_5) ∧ (Ex = "java/lang/IllegalArgumentException" → K (2 : Int32) t_5)) (fun y_2 t_1 => xsJ t_1 a3 (0 : Int32) y_2 fun t_6 => K (0 : Int32) t_6) a0 x1 x2 t m_3 z_4)
set_option maxRecDepth 20000 in
theorem S_L_pay_0 {Γ : xΓ} {K : Int32 → xT → Prop} (hl : (gl Γ).stackTraces = false) (ht : (gM Γ).sig.returnType = (some .int)) (hr : xRet Γ (xKi K)) (htab : (gc Γ).exceptionTable.toList = tableOf [(0, 9, 12, 21), (0, 9, 16, 13)]) {a0 : Nat} {x1 : Int32} {x2 : Int32} {a3 : Nat} {t : xT} {rc rs : Nat} (h : V_L_pay_0 K a0 x1 x2 a3 t rc rs) : xX Γ k_L_pay 0 [(0, .ref a0), (1, .int x1), (2, .int x2), (3, .ref a3)] [] t rc rs := by
  unfold V_L_pay_0 at h
  refine x_aload_n 3 dL_pay_0 rfl rfl ?_
  refine x_iconst (v := (0 : Int32)) dL_pay_1 (by decide) ?_
  refine x_aload_n 0 dL_pay_2 rfl rfl ?_
  refine x_iload_n 1 dL_pay_3 rfl rfl ?_
  refine x_iload_n 2 dL_pay_4 rfl rfl ?_
  obtain ⟨⟨fs, hf⟩, h⟩ := h
  obtain ⟨m_3, z_4, hm, hs, h⟩ := h
  refine x_invVX (as := [.int x1, .int x2]) (rest := [.int (0 : Int32), .ref a3]) dL_pay_5 (q := (RX7, TX7, 10)) rfl xc_L_pay_45 hf (M_X7_pay hl h) rfl rfl (Nat.le_of_ble_eq_true rfl) hm hs (fun Ex t_5 h => ?_) (xk_l fun y_2 t_1 h => ?_)
  · obtain ⟨hE, h1, h2⟩ := h
    rcases hE with rfl | rfl
    · have h := h1 rfl
      refine x_catch [] (0, 9, 12, 21) [(0, 9, 16, 13)] htab rfl (fun _ h => absurd h List.not_mem_nil) (by decide) rfl (by decide) xw420 (by decide +kernel) (fun q => ?_)
      refine x_astore (L' := [(4, .ref q), (0, .ref a0), (1, .int x1), (2, .int x2), (3, .ref a3)]) dL_pay_12 (by decide) rfl ?_
      refine x_iconst (v := (1 : Int32)) dL_pay_14 (by decide) ?_
      exact x_zret dL_pay_15 hr ht rfl ⟨_, rfl, h⟩
    · have h := h2 rfl
      refine x_catch [(0, 9, 12, 21)] (0, 9, 16, 13) [] htab rfl (List.forall_mem_cons.mpr ⟨⟨by decide, "java/lang/IndexOutOfBoundsException", xw420, by decide +kernel⟩, fun _ h => absurd h List.not_mem_nil⟩) (by decide) rfl (by decide) xw225 (by decide +kernel) (fun q => ?_)
      refine x_astore (L' := [(4, .ref q), (0, .ref a0), (1, .int x1), (2, .int x2), (3, .ref a3)]) dL_pay_16 (by decide) rfl ?_
      refine x_iconst (v := (2 : Int32)) dL_pay_18 (by decide) ?_
      exact x_zret dL_pay_19 hr ht rfl ⟨_, rfl, h⟩
  obtain ⟨n, f, hf, hi, h⟩ := h
  refine x_last dL_pay_8 hf hi ?_
  generalize hT : xup t_1 a3 _ = t_6 at h ⊢
  clear hT
  refine x_goto (tgt := 20) dL_pay_9 (by decide) ?_
  refine x_iconst (v := (0 : Int32)) dL_pay_20 (by decide) ?_
  exact x_zret dL_pay_21 hr ht rfl ⟨_, rfl, h⟩
theorem M_L_pay {l : Launch} {G : xG} (hl : l.stackTraces = false) {a0 : Nat} {x1 : Int32} {x2 : Int32} {a3 : Nat} {t : xT} {K : Int32 → xT → Prop} {rc rs : Nat} (h : V_L_pay_0 K a0 x1 x2 a3 t rc rs) : xMetH l G yL_pay k_L_pay (some .int) [(0, 9, 12, 21), (0, 9, 16, 13)] [.ref a0, .int x1, .int x2, .ref a3] t (xKi K) rc rs := xMetH.of (by decide +kernel) rfl hl (Nat.le_of_ble_eq_true rfl) (fun Γ e1 e2 ht htab hr => by subst e1; subst e2; exact S_L_pay_0 hl ht hr htab h)
def V_L_plan_0 (K : Int32 → xT → Prop) (a0 : Nat) (x1 : Int32) (x2 : Int32) (a3 : Nat) (t : xT) (rc rs : Nat) : Prop :=
  (xis t a0 7 ∧ ∃ m_3 z_4 : Nat, m_3 ≤ rc ∧ z_4 ≤ rs ∧ V_X7_plan_0 (fun Ex t_5 => (Ex = "java/lang/IndexOutOfBoundsException" ∨ Ex = "java/lang/IllegalArgumentException" ∨ Ex = "java/lang/IllegalStateException") ∧ (Ex = "java/lang/IndexOutOfBoundsException" → K (1 : Int32) t_5) ∧ (Ex = "java/lang/IllegalArgumentException" → K (2 : Int32) t_5) ∧ (Ex = "java/lang/IllegalStateException" → K (3 : Int32) t_5)) (fun y_2 t_1 => xsJ t_1 a3 (0 : Int32) y_2 fun t_6 => K (0 : Int32) t_6) a0 x1 x2 t m_3 z_4)
set_option maxRecDepth 20000 in
theorem S_L_plan_0 {Γ : xΓ} {K : Int32 → xT → Prop} (hl : (gl Γ).stackTraces = false) (ht : (gM Γ).sig.returnType = (some .int)) (hr : xRet Γ (xKi K)) (htab : (gc Γ).exceptionTable.toList = tableOf [(0, 9, 12, 21), (0, 9, 16, 13), (0, 9, 20, 15)]) {a0 : Nat} {x1 : Int32} {x2 : Int32} {a3 : Nat} {t : xT} {rc rs : Nat} (h : V_L_plan_0 K a0 x1 x2 a3 t rc rs) : xX Γ k_L_plan 0 [(0, .ref a0), (1, .int x1), (2, .int x2), (3, .ref a3)] [] t rc rs := by
  unfold V_L_plan_0 at h
  refine x_aload_n 3 dL_plan_0 rfl rfl ?_
  refine x_iconst (v := (0 : Int32)) dL_plan_1 (by decide) ?_
  refine x_aload_n 0 dL_plan_2 rfl rfl ?_
  refine x_iload_n 1 dL_plan_3 rfl rfl ?_
  refine x_iload_n 2 dL_plan_4 rfl rfl ?_
  obtain ⟨⟨fs, hf⟩, h⟩ := h
  obtain ⟨m_3, z_4, hm, hs, h⟩ := h
  refine x_invVX (as := [.int x1, .int x2]) (rest := [.int (0 : Int32), .ref a3]) dL_plan_5 (q := (RX7, TX7, 10)) rfl xc_L_plan_49 hf (M_X7_plan hl h) rfl rfl (Nat.le_of_ble_eq_true rfl) hm hs (fun Ex t_5 h => ?_) (xk_l fun y_2 t_1 h => ?_)
  · obtain ⟨hE, h1, h2, h3⟩ := h
    rcases hE with rfl | rfl | rfl
    · have h := h1 rfl
      refine x_catch [] (0, 9, 12, 21) [(0, 9, 16, 13), (0, 9, 20, 15)] htab rfl (fun _ h => absurd h List.not_mem_nil) (by decide) rfl (by decide) xw420 (by decide +kernel) (fun q => ?_)
      refine x_astore (L' := [(4, .ref q), (0, .ref a0), (1, .int x1), (2, .int x2), (3, .ref a3)]) dL_plan_12 (by decide) rfl ?_
      refine x_iconst (v := (1 : Int32)) dL_plan_14 (by decide) ?_
      exact x_zret dL_plan_15 hr ht rfl ⟨_, rfl, h⟩
    · have h := h2 rfl
      refine x_catch [(0, 9, 12, 21)] (0, 9, 16, 13) [(0, 9, 20, 15)] htab rfl (List.forall_mem_cons.mpr ⟨⟨by decide, "java/lang/IndexOutOfBoundsException", xw420, by decide +kernel⟩, fun _ h => absurd h List.not_mem_nil⟩) (by decide) rfl (by decide) xw225 (by decide +kernel) (fun q => ?_)
      refine x_astore (L' := [(4, .ref q), (0, .ref a0), (1, .int x1), (2, .int x2), (3, .ref a3)]) dL_plan_16 (by decide) rfl ?_
      refine x_iconst (v := (2 : Int32)) dL_plan_18 (by decide) ?_
      exact x_zret dL_plan_19 hr ht rfl ⟨_, rfl, h⟩
    · have h := h3 rfl
      refine x_catch [(0, 9, 12, 21), (0, 9, 16, 13)] (0, 9, 20, 15) [] htab rfl (List.forall_mem_cons.mpr ⟨⟨by decide, "java/lang/IndexOutOfBoundsException", xw420, by decide +kernel⟩, List.forall_mem_cons.mpr ⟨⟨by decide, "java/lang/IllegalArgumentException", xw225, by decide +kernel⟩, fun _ h => absurd h List.not_mem_nil⟩⟩) (by decide) rfl (by decide) xw226 (by decide +kernel) (fun q => ?_)
      refine x_astore (L' := [(4, .ref q), (0, .ref a0), (1, .int x1), (2, .int x2), (3, .ref a3)]) dL_plan_20 (by decide) rfl ?_
      refine x_iconst (v := (3 : Int32)) dL_plan_22 (by decide) ?_
      exact x_zret dL_plan_23 hr ht rfl ⟨_, rfl, h⟩
  obtain ⟨n, f, hf, hi, h⟩ := h
  refine x_last dL_plan_8 hf hi ?_
  generalize hT : xup t_1 a3 _ = t_6 at h ⊢
  clear hT
  refine x_goto (tgt := 24) dL_plan_9 (by decide) ?_
  refine x_iconst (v := (0 : Int32)) dL_plan_24 (by decide) ?_
  exact x_zret dL_plan_25 hr ht rfl ⟨_, rfl, h⟩
theorem M_L_plan {l : Launch} {G : xG} (hl : l.stackTraces = false) {a0 : Nat} {x1 : Int32} {x2 : Int32} {a3 : Nat} {t : xT} {K : Int32 → xT → Prop} {rc rs : Nat} (h : V_L_plan_0 K a0 x1 x2 a3 t rc rs) : xMetH l G yL_plan k_L_plan (some .int) [(0, 9, 12, 21), (0, 9, 16, 13), (0, 9, 20, 15)] [.ref a0, .int x1, .int x2, .ref a3] t (xKi K) rc rs := xMetH.of (by decide +kernel) rfl hl (Nat.le_of_ble_eq_true rfl) (fun Γ e1 e2 ht htab hr => by subst e1; subst e2; exact S_L_plan_0 hl ht hr htab h)
def V_L_planOf_0 (K : Int32 → xT → Prop) (a0 : Nat) (x1 : Int32) (a2 : Nat) (t : xT) (rc rs : Nat) : Prop :=
  (xis t a0 7 ∧ ∃ m_3 z_4 : Nat, m_3 ≤ rc ∧ z_4 ≤ rs ∧ V_X7_planOf_0 (fun Ex t_5 => (Ex = "java/lang/IndexOutOfBoundsException") ∧ (Ex = "java/lang/IndexOutOfBoundsException" → K (1 : Int32) t_5)) (fun x_2 t_1 => xsJ t_1 a2 (0 : Int32) x_2.toInt64 fun t_6 => K (0 : Int32) t_6) a0 x1 t m_3 z_4)
set_option maxRecDepth 20000 in
theorem S_L_planOf_0 {Γ : xΓ} {K : Int32 → xT → Prop} (hl : (gl Γ).stackTraces = false) (ht : (gM Γ).sig.returnType = (some .int)) (hr : xRet Γ (xKi K)) (htab : (gc Γ).exceptionTable.toList = tableOf [(0, 9, 12, 21)]) {a0 : Nat} {x1 : Int32} {a2 : Nat} {t : xT} {rc rs : Nat} (h : V_L_planOf_0 K a0 x1 a2 t rc rs) : xX Γ k_L_planOf 0 [(0, .ref a0), (1, .int x1), (2, .ref a2)] [] t rc rs := by
  unfold V_L_planOf_0 at h
  refine x_aload_n 2 dL_planOf_0 rfl rfl ?_
  refine x_iconst (v := (0 : Int32)) dL_planOf_1 (by decide) ?_
  refine x_aload_n 0 dL_planOf_2 rfl rfl ?_
  refine x_iload_n 1 dL_planOf_3 rfl rfl ?_
  obtain ⟨⟨fs, hf⟩, h⟩ := h
  obtain ⟨m_3, z_4, hm, hs, h⟩ := h
  refine x_invVX (as := [.int x1]) (rest := [.int (0 : Int32), .ref a2]) dL_planOf_4 (q := (RX7, TX7, 10)) rfl xc_L_planOf_78 hf (M_X7_planOf hl h) rfl rfl (Nat.le_of_ble_eq_true rfl) hm hs (fun Ex t_5 h => ?_) (xk_i fun x_2 t_1 h => ?_)
  · obtain ⟨hE, h1⟩ := h
    rcases hE with rfl
    · have h := h1 rfl
      refine x_catch [] (0, 9, 12, 21) [] htab rfl (fun _ h => absurd h List.not_mem_nil) (by decide) rfl (by decide) xw420 (by decide +kernel) (fun q => ?_)
      refine x_astore_n (L' := [(3, .ref q), (0, .ref a0), (1, .int x1), (2, .ref a2)]) dL_planOf_12 rfl (by decide) rfl ?_
      refine x_iconst (v := (1 : Int32)) dL_planOf_13 (by decide) ?_
      exact x_zret dL_planOf_14 hr ht rfl ⟨_, rfl, h⟩
  refine x_i2l dL_planOf_7 ?_
  obtain ⟨n, f, hf, hi, h⟩ := h
  refine x_last dL_planOf_8 hf hi ?_
  generalize hT : xup t_1 a2 _ = t_6 at h ⊢
  clear hT
  refine x_goto (tgt := 15) dL_planOf_9 (by decide) ?_
  refine x_iconst (v := (0 : Int32)) dL_planOf_15 (by decide) ?_
  exact x_zret dL_planOf_16 hr ht rfl ⟨_, rfl, h⟩
theorem M_L_planOf {l : Launch} {G : xG} (hl : l.stackTraces = false) {a0 : Nat} {x1 : Int32} {a2 : Nat} {t : xT} {K : Int32 → xT → Prop} {rc rs : Nat} (h : V_L_planOf_0 K a0 x1 a2 t rc rs) : xMetH l G yL_planOf k_L_planOf (some .int) [(0, 9, 12, 21)] [.ref a0, .int x1, .ref a2] t (xKi K) rc rs := xMetH.of (by decide +kernel) rfl hl (Nat.le_of_ble_eq_true rfl) (fun Γ e1 e2 ht htab hr => by subst e1; subst e2; exact S_L_planOf_0 hl ht hr htab h)
def V_L_points_0 (K : Int32 → xT → Prop) (a0 : Nat) (x1 : Int32) (a2 : Nat) (t : xT) (rc rs : Nat) : Prop :=
  (xis t a0 7 ∧ ∃ m_3 z_4 : Nat, m_3 ≤ rc ∧ z_4 ≤ rs ∧ V_X7_points_0 (fun Ex t_5 => (Ex = "java/lang/IndexOutOfBoundsException") ∧ (Ex = "java/lang/IndexOutOfBoundsException" → K (1 : Int32) t_5)) (fun x_2 t_1 => xsJ t_1 a2 (0 : Int32) x_2.toInt64 fun t_6 => K (0 : Int32) t_6) a0 x1 t m_3 z_4)
set_option maxRecDepth 20000 in
theorem S_L_points_0 {Γ : xΓ} {K : Int32 → xT → Prop} (hl : (gl Γ).stackTraces = false) (ht : (gM Γ).sig.returnType = (some .int)) (hr : xRet Γ (xKi K)) (htab : (gc Γ).exceptionTable.toList = tableOf [(0, 9, 12, 21)]) {a0 : Nat} {x1 : Int32} {a2 : Nat} {t : xT} {rc rs : Nat} (h : V_L_points_0 K a0 x1 a2 t rc rs) : xX Γ k_L_points 0 [(0, .ref a0), (1, .int x1), (2, .ref a2)] [] t rc rs := by
  unfold V_L_points_0 at h
  refine x_aload_n 2 dL_points_0 rfl rfl ?_
  refine x_iconst (v := (0 : Int32)) dL_points_1 (by decide) ?_
  refine x_aload_n 0 dL_points_2 rfl rfl ?_
  refine x_iload_n 1 dL_points_3 rfl rfl ?_
  obtain ⟨⟨fs, hf⟩, h⟩ := h
  obtain ⟨m_3, z_4, hm, hs, h⟩ := h
  refine x_invVX (as := [.int x1]) (rest := [.int (0 : Int32), .ref a2]) dL_points_4 (q := (RX7, TX7, 10)) rfl xc_L_points_75 hf (M_X7_points hl h) rfl rfl (Nat.le_of_ble_eq_true rfl) hm hs (fun Ex t_5 h => ?_) (xk_i fun x_2 t_1 h => ?_)
  · obtain ⟨hE, h1⟩ := h
    rcases hE with rfl
    · have h := h1 rfl
      refine x_catch [] (0, 9, 12, 21) [] htab rfl (fun _ h => absurd h List.not_mem_nil) (by decide) rfl (by decide) xw420 (by decide +kernel) (fun q => ?_)
      refine x_astore_n (L' := [(3, .ref q), (0, .ref a0), (1, .int x1), (2, .ref a2)]) dL_points_12 rfl (by decide) rfl ?_
      refine x_iconst (v := (1 : Int32)) dL_points_13 (by decide) ?_
      exact x_zret dL_points_14 hr ht rfl ⟨_, rfl, h⟩
  refine x_i2l dL_points_7 ?_
  obtain ⟨n, f, hf, hi, h⟩ := h
  refine x_last dL_points_8 hf hi ?_
  generalize hT : xup t_1 a2 _ = t_6 at h ⊢
  clear hT
  refine x_goto (tgt := 15) dL_points_9 (by decide) ?_
  refine x_iconst (v := (0 : Int32)) dL_points_15 (by decide) ?_
  exact x_zret dL_points_16 hr ht rfl ⟨_, rfl, h⟩
theorem M_L_points {l : Launch} {G : xG} (hl : l.stackTraces = false) {a0 : Nat} {x1 : Int32} {a2 : Nat} {t : xT} {K : Int32 → xT → Prop} {rc rs : Nat} (h : V_L_points_0 K a0 x1 a2 t rc rs) : xMetH l G yL_points k_L_points (some .int) [(0, 9, 12, 21)] [.ref a0, .int x1, .ref a2] t (xKi K) rc rs := xMetH.of (by decide +kernel) rfl hl (Nat.le_of_ble_eq_true rfl) (fun Γ e1 e2 ht htab hr => by subst e1; subst e2; exact S_L_points_0 hl ht hr htab h)
def V_L_read_0 (K : Int32 → xT → Prop) (a0 : Nat) (x1 : Int32) (x2 : Int32) (a3 : Nat) (t : xT) (rc rs : Nat) : Prop :=
  (xis t a0 7 ∧ ∃ m_3 z_4 : Nat, m_3 ≤ rc ∧ z_4 ≤ rs ∧ V_X7_read_0 (fun Ex t_5 => (Ex = "java/lang/IndexOutOfBoundsException" ∨ Ex = "java/lang/IllegalArgumentException") ∧ (Ex = "java/lang/IndexOutOfBoundsException" → K (1 : Int32) t_5) ∧ (Ex = "java/lang/IllegalArgumentException" → K (2 : Int32) t_5)) (fun x_2 t_1 => xsJ t_1 a3 (0 : Int32) x_2.toInt64 fun t_6 => K (0 : Int32) t_6) a0 x1 x2 t m_3 z_4)
set_option maxRecDepth 20000 in
theorem S_L_read_0 {Γ : xΓ} {K : Int32 → xT → Prop} (hl : (gl Γ).stackTraces = false) (ht : (gM Γ).sig.returnType = (some .int)) (hr : xRet Γ (xKi K)) (htab : (gc Γ).exceptionTable.toList = tableOf [(0, 10, 13, 21), (0, 10, 17, 13)]) {a0 : Nat} {x1 : Int32} {x2 : Int32} {a3 : Nat} {t : xT} {rc rs : Nat} (h : V_L_read_0 K a0 x1 x2 a3 t rc rs) : xX Γ k_L_read 0 [(0, .ref a0), (1, .int x1), (2, .int x2), (3, .ref a3)] [] t rc rs := by
  unfold V_L_read_0 at h
  refine x_aload_n 3 dL_read_0 rfl rfl ?_
  refine x_iconst (v := (0 : Int32)) dL_read_1 (by decide) ?_
  refine x_aload_n 0 dL_read_2 rfl rfl ?_
  refine x_iload_n 1 dL_read_3 rfl rfl ?_
  refine x_iload_n 2 dL_read_4 rfl rfl ?_
  obtain ⟨⟨fs, hf⟩, h⟩ := h
  obtain ⟨m_3, z_4, hm, hs, h⟩ := h
  refine x_invVX (as := [.int x1, .int x2]) (rest := [.int (0 : Int32), .ref a3]) dL_read_5 (q := (RX7, TX7, 10)) rfl xc_L_read_29 hf (M_X7_read hl h) rfl rfl (Nat.le_of_ble_eq_true rfl) hm hs (fun Ex t_5 h => ?_) (xk_i fun x_2 t_1 h => ?_)
  · obtain ⟨hE, h1, h2⟩ := h
    rcases hE with rfl | rfl
    · have h := h1 rfl
      refine x_catch [] (0, 10, 13, 21) [(0, 10, 17, 13)] htab rfl (fun _ h => absurd h List.not_mem_nil) (by decide) rfl (by decide) xw420 (by decide +kernel) (fun q => ?_)
      refine x_astore (L' := [(4, .ref q), (0, .ref a0), (1, .int x1), (2, .int x2), (3, .ref a3)]) dL_read_13 (by decide) rfl ?_
      refine x_iconst (v := (1 : Int32)) dL_read_15 (by decide) ?_
      exact x_zret dL_read_16 hr ht rfl ⟨_, rfl, h⟩
    · have h := h2 rfl
      refine x_catch [(0, 10, 13, 21)] (0, 10, 17, 13) [] htab rfl (List.forall_mem_cons.mpr ⟨⟨by decide, "java/lang/IndexOutOfBoundsException", xw420, by decide +kernel⟩, fun _ h => absurd h List.not_mem_nil⟩) (by decide) rfl (by decide) xw225 (by decide +kernel) (fun q => ?_)
      refine x_astore (L' := [(4, .ref q), (0, .ref a0), (1, .int x1), (2, .int x2), (3, .ref a3)]) dL_read_17 (by decide) rfl ?_
      refine x_iconst (v := (2 : Int32)) dL_read_19 (by decide) ?_
      exact x_zret dL_read_20 hr ht rfl ⟨_, rfl, h⟩
  refine x_i2l dL_read_8 ?_
  obtain ⟨n, f, hf, hi, h⟩ := h
  refine x_last dL_read_9 hf hi ?_
  generalize hT : xup t_1 a3 _ = t_6 at h ⊢
  clear hT
  refine x_goto (tgt := 21) dL_read_10 (by decide) ?_
  refine x_iconst (v := (0 : Int32)) dL_read_21 (by decide) ?_
  exact x_zret dL_read_22 hr ht rfl ⟨_, rfl, h⟩
theorem M_L_read {l : Launch} {G : xG} (hl : l.stackTraces = false) {a0 : Nat} {x1 : Int32} {x2 : Int32} {a3 : Nat} {t : xT} {K : Int32 → xT → Prop} {rc rs : Nat} (h : V_L_read_0 K a0 x1 x2 a3 t rc rs) : xMetH l G yL_read k_L_read (some .int) [(0, 10, 13, 21), (0, 10, 17, 13)] [.ref a0, .int x1, .int x2, .ref a3] t (xKi K) rc rs := xMetH.of (by decide +kernel) rfl hl (Nat.le_of_ble_eq_true rfl) (fun Γ e1 e2 ht htab hr => by subst e1; subst e2; exact S_L_read_0 hl ht hr htab h)
def V_L_report_0 (E : Nat → Nat) (K : Int32 → xT → Prop) (a0 : Nat) (x1 : Int32) (x2 : Int32) (a3 : Nat) (t : xT) (rc rs : Nat) : Prop :=
  (xis t a0 7 ∧ ∃ m_3 z_4 : Nat, m_3 ≤ rc ∧ z_4 ≤ rs ∧ V_X7_report_0 E (fun Ex t_5 => (Ex = "java/lang/IndexOutOfBoundsException" ∨ Ex = "java/lang/IllegalArgumentException" ∨ Ex = "java/lang/IllegalStateException") ∧ (Ex = "java/lang/IndexOutOfBoundsException" → K (1 : Int32) t_5) ∧ (Ex = "java/lang/IllegalArgumentException" → K (2 : Int32) t_5) ∧ (Ex = "java/lang/IllegalStateException" → K (3 : Int32) t_5)) (fun x_2 t_1 => xsJ t_1 a3 (0 : Int32) x_2.toInt64 fun t_6 => K (0 : Int32) t_6) a0 x1 x2 t m_3 z_4)
set_option maxRecDepth 20000 in
theorem S_L_report_0 {Γ : xΓ} {K : Int32 → xT → Prop} (hl : (gl Γ).stackTraces = false) (ht : (gM Γ).sig.returnType = (some .int)) (hr : xRet Γ (xKi K)) (htab : (gc Γ).exceptionTable.toList = tableOf [(0, 10, 13, 21), (0, 10, 17, 13), (0, 10, 21, 15)]) {a0 : Nat} {x1 : Int32} {x2 : Int32} {a3 : Nat} {t : xT} {rc rs : Nat} (h : V_L_report_0 (gG Γ).2.2.2 K a0 x1 x2 a3 t rc rs) : xX Γ k_L_report 0 [(0, .ref a0), (1, .int x1), (2, .int x2), (3, .ref a3)] [] t rc rs := by
  unfold V_L_report_0 at h
  refine x_aload_n 3 dL_report_0 rfl rfl ?_
  refine x_iconst (v := (0 : Int32)) dL_report_1 (by decide) ?_
  refine x_aload_n 0 dL_report_2 rfl rfl ?_
  refine x_iload_n 1 dL_report_3 rfl rfl ?_
  refine x_iload_n 2 dL_report_4 rfl rfl ?_
  obtain ⟨⟨fs, hf⟩, h⟩ := h
  obtain ⟨m_3, z_4, hm, hs, h⟩ := h
  refine x_invVX (as := [.int x1, .int x2]) (rest := [.int (0 : Int32), .ref a3]) dL_report_5 (q := (RX7, TX7, 10)) rfl xc_L_report_35 hf (M_X7_report hl h) rfl rfl (Nat.le_of_ble_eq_true rfl) hm hs (fun Ex t_5 h => ?_) (xk_i fun x_2 t_1 h => ?_)
  · obtain ⟨hE, h1, h2, h3⟩ := h
    rcases hE with rfl | rfl | rfl
    · have h := h1 rfl
      refine x_catch [] (0, 10, 13, 21) [(0, 10, 17, 13), (0, 10, 21, 15)] htab rfl (fun _ h => absurd h List.not_mem_nil) (by decide) rfl (by decide) xw420 (by decide +kernel) (fun q => ?_)
      refine x_astore (L' := [(4, .ref q), (0, .ref a0), (1, .int x1), (2, .int x2), (3, .ref a3)]) dL_report_13 (by decide) rfl ?_
      refine x_iconst (v := (1 : Int32)) dL_report_15 (by decide) ?_
      exact x_zret dL_report_16 hr ht rfl ⟨_, rfl, h⟩
    · have h := h2 rfl
      refine x_catch [(0, 10, 13, 21)] (0, 10, 17, 13) [(0, 10, 21, 15)] htab rfl (List.forall_mem_cons.mpr ⟨⟨by decide, "java/lang/IndexOutOfBoundsException", xw420, by decide +kernel⟩, fun _ h => absurd h List.not_mem_nil⟩) (by decide) rfl (by decide) xw225 (by decide +kernel) (fun q => ?_)
      refine x_astore (L' := [(4, .ref q), (0, .ref a0), (1, .int x1), (2, .int x2), (3, .ref a3)]) dL_report_17 (by decide) rfl ?_
      refine x_iconst (v := (2 : Int32)) dL_report_19 (by decide) ?_
      exact x_zret dL_report_20 hr ht rfl ⟨_, rfl, h⟩
    · have h := h3 rfl
      refine x_catch [(0, 10, 13, 21), (0, 10, 17, 13)] (0, 10, 21, 15) [] htab rfl (List.forall_mem_cons.mpr ⟨⟨by decide, "java/lang/IndexOutOfBoundsException", xw420, by decide +kernel⟩, List.forall_mem_cons.mpr ⟨⟨by decide, "java/lang/IllegalArgumentException", xw225, by decide +kernel⟩, fun _ h => absurd h List.not_mem_nil⟩⟩) (by decide) rfl (by decide) xw226 (by decide +kernel) (fun q => ?_)
      refine x_astore (L' := [(4, .ref q), (0, .ref a0), (1, .int x1), (2, .int x2), (3, .ref a3)]) dL_report_21 (by decide) rfl ?_
      refine x_iconst (v := (3 : Int32)) dL_report_23 (by decide) ?_
      exact x_zret dL_report_24 hr ht rfl ⟨_, rfl, h⟩
  refine x_i2l dL_report_8 ?_
  obtain ⟨n, f, hf, hi, h⟩ := h
  refine x_last dL_report_9 hf hi ?_
  generalize hT : xup t_1 a3 _ = t_6 at h ⊢
  clear hT
  refine x_goto (tgt := 25) dL_report_10 (by decide) ?_
  refine x_iconst (v := (0 : Int32)) dL_report_25 (by decide) ?_
  exact x_zret dL_report_26 hr ht rfl ⟨_, rfl, h⟩
theorem M_L_report {l : Launch} {G : xG} (hl : l.stackTraces = false) {a0 : Nat} {x1 : Int32} {x2 : Int32} {a3 : Nat} {t : xT} {K : Int32 → xT → Prop} {rc rs : Nat} (h : V_L_report_0 G.2.2.2 K a0 x1 x2 a3 t rc rs) : xMetH l G yL_report k_L_report (some .int) [(0, 10, 13, 21), (0, 10, 17, 13), (0, 10, 21, 15)] [.ref a0, .int x1, .int x2, .ref a3] t (xKi K) rc rs := xMetH.of (by decide +kernel) rfl hl (Nat.le_of_ble_eq_true rfl) (fun Γ e1 e2 ht htab hr => by subst e1; subst e2; exact S_L_report_0 hl ht hr htab h)
def V_L_use_0 (K : Int32 → xT → Prop) (a0 : Nat) (x1 : Int32) (x2 : Int32) (a3 : Nat) (t : xT) (rc rs : Nat) : Prop :=
  (xis t a0 7 ∧ ∃ m_3 z_4 : Nat, m_3 ≤ rc ∧ z_4 ≤ rs ∧ V_X7_use_0 (fun Ex t_5 => (Ex = "java/lang/IndexOutOfBoundsException") ∧ (Ex = "java/lang/IndexOutOfBoundsException" → K (1 : Int32) t_5)) (fun x_2 t_1 => xsJ t_1 a3 (0 : Int32) x_2.toInt64 fun t_6 => K (0 : Int32) t_6) a0 x1 x2 t m_3 z_4)
set_option maxRecDepth 20000 in
theorem S_L_use_0 {Γ : xΓ} {K : Int32 → xT → Prop} (hl : (gl Γ).stackTraces = false) (ht : (gM Γ).sig.returnType = (some .int)) (hr : xRet Γ (xKi K)) (htab : (gc Γ).exceptionTable.toList = tableOf [(0, 10, 13, 21)]) {a0 : Nat} {x1 : Int32} {x2 : Int32} {a3 : Nat} {t : xT} {rc rs : Nat} (h : V_L_use_0 K a0 x1 x2 a3 t rc rs) : xX Γ k_L_use 0 [(0, .ref a0), (1, .int x1), (2, .int x2), (3, .ref a3)] [] t rc rs := by
  unfold V_L_use_0 at h
  refine x_aload_n 3 dL_use_0 rfl rfl ?_
  refine x_iconst (v := (0 : Int32)) dL_use_1 (by decide) ?_
  refine x_aload_n 0 dL_use_2 rfl rfl ?_
  refine x_iload_n 1 dL_use_3 rfl rfl ?_
  refine x_iload_n 2 dL_use_4 rfl rfl ?_
  obtain ⟨⟨fs, hf⟩, h⟩ := h
  obtain ⟨m_3, z_4, hm, hs, h⟩ := h
  refine x_invVX (as := [.int x1, .int x2]) (rest := [.int (0 : Int32), .ref a3]) dL_use_5 (q := (RX7, TX7, 10)) rfl xc_L_use_72 hf (M_X7_use hl h) rfl rfl (Nat.le_of_ble_eq_true rfl) hm hs (fun Ex t_5 h => ?_) (xk_i fun x_2 t_1 h => ?_)
  · obtain ⟨hE, h1⟩ := h
    rcases hE with rfl
    · have h := h1 rfl
      refine x_catch [] (0, 10, 13, 21) [] htab rfl (fun _ h => absurd h List.not_mem_nil) (by decide) rfl (by decide) xw420 (by decide +kernel) (fun q => ?_)
      refine x_astore (L' := [(4, .ref q), (0, .ref a0), (1, .int x1), (2, .int x2), (3, .ref a3)]) dL_use_13 (by decide) rfl ?_
      refine x_iconst (v := (1 : Int32)) dL_use_15 (by decide) ?_
      exact x_zret dL_use_16 hr ht rfl ⟨_, rfl, h⟩
  refine x_i2l dL_use_8 ?_
  obtain ⟨n, f, hf, hi, h⟩ := h
  refine x_last dL_use_9 hf hi ?_
  generalize hT : xup t_1 a3 _ = t_6 at h ⊢
  clear hT
  refine x_goto (tgt := 17) dL_use_10 (by decide) ?_
  refine x_iconst (v := (0 : Int32)) dL_use_17 (by decide) ?_
  exact x_zret dL_use_18 hr ht rfl ⟨_, rfl, h⟩
theorem M_L_use {l : Launch} {G : xG} (hl : l.stackTraces = false) {a0 : Nat} {x1 : Int32} {x2 : Int32} {a3 : Nat} {t : xT} {K : Int32 → xT → Prop} {rc rs : Nat} (h : V_L_use_0 K a0 x1 x2 a3 t rc rs) : xMetH l G yL_use k_L_use (some .int) [(0, 10, 13, 21)] [.ref a0, .int x1, .int x2, .ref a3] t (xKi K) rc rs := xMetH.of (by decide +kernel) rfl hl (Nat.le_of_ble_eq_true rfl) (fun Γ e1 e2 ht htab hr => by subst e1; subst e2; exact S_L_use_0 hl ht hr htab h)
def V_L_law_136 (E : Nat → Nat) (sl : Nat) (sx : Nat → Int32) (R23 : Nat → Nat → Nat → Int32 → xT → Nat → Nat → Prop)  (a1 : Nat) (a2 : Nat) (a3 : Nat) (x4 : Int32) (t : xT) (rc rs : Nat) : Prop :=
  (vp_in (x4 + (1 : Int32)) sl ∧ (∃ m_3 z_4 : Nat, m_3 ≤ rc ∧ z_4 ≤ rs ∧ V_L_flat_0 E (fun x_2 t_1 => (vp_in (x4 + (1 : Int32)) sl ∧ (xis t_1 a2 8 ∧ V_X8_flat_0 (fun x_6 t_5 => (xis t_5 a2 8 ∧ V_X8_thrown_0 (fun x_8 t_7 => ((x_8 = x_2 → ((¬ x_2 = 0 → R23 a1 a2 a3 (x4 + 4) t_7 (rc - m_3) (rs - z_4)) ∧ (x_2 = 0 → xaJ t_7 a3 (0 : Int32) fun y_9 => ((y_9 = x_6.toInt64 → R23 a1 a2 a3 (x4 + 4) t_7 (rc - m_3) (rs - z_4)) ∧ (¬ y_9 = x_6.toInt64 → ((0 : Int32) = 1)))))) ∧ (¬ x_8 = x_2 → ((0 : Int32) = 1)))) a2 t_5)) a2 (sx (Int32.toNatClampNeg (x4 + (1 : Int32)))) t_1))) a1 (sx (Int32.toNatClampNeg (x4 + (1 : Int32)))) a3 t m_3 z_4))
set_option maxRecDepth 20000 in
theorem S_L_law_136 {Γ : xΓ} {b sl : Nat} {sx : Nat → Int32} {R23 : Nat → Nat → Nat → Int32 → xT → Nat → Nat → Prop} (hl : (gl Γ).stackTraces = false) (hz : xLw Γ b sl sx) (hR23 : ∀ (a1 : Nat) (a2 : Nat) (a3 : Nat) (x4 : Int32) (t : xT) (rc rs : Nat), R23 a1 a2 a3 x4 t rc rs → xX Γ k_L_law 23 [(0, .ref b), (1, .ref a1), (2, .ref a2), (3, .ref a3), (4, .int x4)] [] t rc rs) {a1 : Nat} {a2 : Nat} {a3 : Nat} {x4 : Int32} {t : xT} {rc rs : Nat} (h : V_L_law_136 (gG Γ).2.2.2 sl sx R23 a1 a2 a3 x4 t rc rs) : xX Γ k_L_law 136 [(0, .ref b), (1, .ref a1), (2, .ref a2), (3, .ref a3), (4, .int x4)] [] t rc rs := by
  unfold V_L_law_136 at h
  refine x_aload_n 1 dL_law_136 rfl rfl ?_
  refine x_aload_n 0 dL_law_137 rfl rfl ?_
  refine x_iload 4 dL_law_138 rfl ?_
  refine x_iconst (v := (1 : Int32)) dL_law_140 (by decide) ?_
  refine x_iadd dL_law_141 ?_
  obtain ⟨hi, h⟩ := h
  refine x_sld hz dL_law_142 hi ?_
  refine x_aload_n 3 dL_law_143 rfl rfl ?_
  obtain ⟨m_3, z_4, hm, hs, h⟩ := h
  refine x_invSH (as := [.ref a1, .int (sx (Int32.toNatClampNeg (x4 + (1 : Int32)))), .ref a3]) (rest := []) dL_law_144 xc_L_law_85 (M_L_flat hl h) rfl rfl (Nat.le_of_ble_eq_true rfl) hm hs (xk_i fun x_2 t_1 h => ?_)
  refine x_istore (L' := [(5, .int x_2), (0, .ref b), (1, .ref a1), (2, .ref a2), (3, .ref a3), (4, .int x4)]) dL_law_147 (by decide) rfl ?_
  refine x_aload_n 3 dL_law_149 rfl rfl ?_
  refine x_aload_n 1 dL_law_150 rfl rfl ?_
  refine x_iload 5 dL_law_151 rfl ?_
  refine x_iconst (v := (1 : Int32)) dL_law_153 (by decide) ?_
  refine x_iadd dL_law_154 ?_
  obtain ⟨hi, h⟩ := h
  refine x_sld hz dL_law_155 hi ?_
  obtain ⟨⟨fs, hf⟩, h⟩ := h
  refine x_invV (as := [.int (sx (Int32.toNatClampNeg (x4 + (1 : Int32))))]) (rest := []) dL_law_156 (q := (RX8, TX8, 40)) rfl xc_L_law_90 hf (M_X8_flat hl h) rfl rfl (Nat.le_of_ble_eq_true rfl) (Nat.zero_le _) (Nat.zero_le _) (xk_i fun x_6 t_5 h => ?_)
  refine x_istore (L' := [(6, .int x_6), (5, .int x_2), (0, .ref b), (1, .ref a1), (2, .ref a2), (3, .ref a3), (4, .int x4)]) dL_law_159 (by decide) rfl ?_
  refine x_aload_n 4 dL_law_161 rfl rfl ?_
  obtain ⟨⟨fs, hf⟩, h⟩ := h
  refine x_invV (as := []) (rest := []) dL_law_162 (q := (RX8, TX8, 40)) rfl xc_L_law_91 hf (M_X8_thrown hl h) rfl rfl (Nat.le_of_ble_eq_true rfl) (Nat.zero_le _) (Nat.zero_le _) (xk_i fun x_8 t_7 h => ?_)
  refine x_iload 1 dL_law_165 rfl ?_
  obtain ⟨h1, h2⟩ := h
  refine x_icmp_eq (tgt := 172) dL_law_167 (by decide) (fun q => ?_) (fun q => ?_)
  · have h := h1 q
    refine x_iload 1 dL_law_172 rfl ?_
    obtain ⟨h1, h2⟩ := h
    refine x_if_ne (tgt := 189) dL_law_174 (by decide) (fun q => ?_) (fun q => ?_)
    · have h := h1 q
      refine x_goto (tgt := 1407) dL_law_189 (by decide) ?_
      refine x_iinc (v := (x4 + 4)) (L' := [(4, .int (x4 + 4)), (6, .int x_6), (5, .int x_2), (0, .ref b), (1, .ref a1), (2, .ref a2), (3, .ref a3)]) (j := 6) dL_law_1407 rfl rfl (by decide) rfl ?_
      refine x_goto (tgt := 23) dL_law_1410 (by decide) ?_
      refine x_sub (L' := [(0, .ref b), (1, .ref a1), (2, .ref a2), (3, .ref a3), (4, .int (x4 + 4))]) [3, 4, 5, 6, 0] rfl ?_
      exact hR23 a1 a2 a3 (x4 + 4) t_7 (rc - m_3) (rs - z_4) h
    · have h := h2 q
      refine x_aload_n 5 dL_law_177 rfl rfl ?_
      refine x_iconst (v := (0 : Int32)) dL_law_178 (by decide) ?_
      obtain ⟨n, f, hf, hi, h⟩ := h
      refine x_lald dL_law_179 hf hi ?_
      generalize f _ = y_9 at h ⊢
      refine x_iload 0 dL_law_180 rfl ?_
      refine x_i2l dL_law_182 ?_
      obtain ⟨h1, h2⟩ := h
      refine x_lcmp_eq (tgt := 189) dL_law_183 dL_law_184 (by decide) (fun q => ?_) (fun q => ?_)
      · have h := h1 q
        refine x_goto (tgt := 1407) dL_law_189 (by decide) ?_
        refine x_iinc (v := (x4 + 4)) (L' := [(4, .int (x4 + 4)), (6, .int x_6), (5, .int x_2), (0, .ref b), (1, .ref a1), (2, .ref a2), (3, .ref a3)]) (j := 6) dL_law_1407 rfl rfl (by decide) rfl ?_
        refine x_goto (tgt := 23) dL_law_1410 (by decide) ?_
        refine x_sub (L' := [(0, .ref b), (1, .ref a1), (2, .ref a2), (3, .ref a3), (4, .int (x4 + 4))]) [3, 4, 5, 6, 0] rfl ?_
        exact hR23 a1 a2 a3 (x4 + 4) t_7 (rc - m_3) (rs - z_4) h
      · have h := h2 q
        refine x_iconst (v := (0 : Int32)) dL_law_187 (by decide) ?_
        exact x_lawret hz rfl dL_law_188 h
  · have h := h2 q
    refine x_iconst (v := (0 : Int32)) dL_law_170 (by decide) ?_
    exact x_lawret hz rfl dL_law_171 h
def V_L_law_192 (E : Nat → Nat) (sl : Nat) (sx : Nat → Int32) (R23 : Nat → Nat → Nat → Int32 → xT → Nat → Nat → Prop)  (a1 : Nat) (a2 : Nat) (a3 : Nat) (x4 : Int32) (t : xT) (rc rs : Nat) : Prop :=
  (vp_in (x4 + (1 : Int32)) sl ∧ (vp_in (x4 + (2 : Int32)) sl ∧ (∃ m_3 z_4 : Nat, m_3 ≤ rc ∧ z_4 ≤ rs ∧ V_L_lease_0 E (fun x_2 t_1 => (vp_in (x4 + (1 : Int32)) sl ∧ (vp_in (x4 + (2 : Int32)) sl ∧ (xis t_1 a2 8 ∧ V_X8_lease_0 (fun x_6 t_5 => (xis t_5 a2 8 ∧ V_X8_thrown_0 (fun x_8 t_7 => ((x_8 = x_2 → ((¬ x_2 = 0 → R23 a1 a2 a3 (x4 + 4) t_7 (rc - m_3) (rs - z_4)) ∧ (x_2 = 0 → xaJ t_7 a3 (0 : Int32) fun y_9 => ((y_9 = x_6.toInt64 → R23 a1 a2 a3 (x4 + 4) t_7 (rc - m_3) (rs - z_4)) ∧ (¬ y_9 = x_6.toInt64 → ((0 : Int32) = 1)))))) ∧ (¬ x_8 = x_2 → ((0 : Int32) = 1)))) a2 t_5)) a2 (sx (Int32.toNatClampNeg (x4 + (1 : Int32)))) (sx (Int32.toNatClampNeg (x4 + (2 : Int32)))) t_1)))) a1 (sx (Int32.toNatClampNeg (x4 + (1 : Int32)))) (sx (Int32.toNatClampNeg (x4 + (2 : Int32)))) a3 t m_3 z_4)))
set_option maxRecDepth 20000 in
theorem S_L_law_192 {Γ : xΓ} {b sl : Nat} {sx : Nat → Int32} {R23 : Nat → Nat → Nat → Int32 → xT → Nat → Nat → Prop} (hl : (gl Γ).stackTraces = false) (hz : xLw Γ b sl sx) (hR23 : ∀ (a1 : Nat) (a2 : Nat) (a3 : Nat) (x4 : Int32) (t : xT) (rc rs : Nat), R23 a1 a2 a3 x4 t rc rs → xX Γ k_L_law 23 [(0, .ref b), (1, .ref a1), (2, .ref a2), (3, .ref a3), (4, .int x4)] [] t rc rs) {a1 : Nat} {a2 : Nat} {a3 : Nat} {x4 : Int32} {t : xT} {rc rs : Nat} (h : V_L_law_192 (gG Γ).2.2.2 sl sx R23 a1 a2 a3 x4 t rc rs) : xX Γ k_L_law 192 [(0, .ref b), (1, .ref a1), (2, .ref a2), (3, .ref a3), (4, .int x4)] [] t rc rs := by
  unfold V_L_law_192 at h
  refine x_aload_n 1 dL_law_192 rfl rfl ?_
  refine x_aload_n 0 dL_law_193 rfl rfl ?_
  refine x_iload 4 dL_law_194 rfl ?_
  refine x_iconst (v := (1 : Int32)) dL_law_196 (by decide) ?_
  refine x_iadd dL_law_197 ?_
  obtain ⟨hi, h⟩ := h
  refine x_sld hz dL_law_198 hi ?_
  refine x_aload_n 0 dL_law_199 rfl rfl ?_
  refine x_iload 4 dL_law_200 rfl ?_
  refine x_iconst (v := (2 : Int32)) dL_law_202 (by decide) ?_
  refine x_iadd dL_law_203 ?_
  obtain ⟨hi, h⟩ := h
  refine x_sld hz dL_law_204 hi ?_
  refine x_aload_n 3 dL_law_205 rfl rfl ?_
  obtain ⟨m_3, z_4, hm, hs, h⟩ := h
  refine x_invSH (as := [.ref a1, .int (sx (Int32.toNatClampNeg (x4 + (1 : Int32)))), .int (sx (Int32.toNatClampNeg (x4 + (2 : Int32)))), .ref a3]) (rest := []) dL_law_206 xc_L_law_95 (M_L_lease hl h) rfl rfl (Nat.le_of_ble_eq_true rfl) hm hs (xk_i fun x_2 t_1 h => ?_)
  refine x_istore (L' := [(5, .int x_2), (0, .ref b), (1, .ref a1), (2, .ref a2), (3, .ref a3), (4, .int x4)]) dL_law_209 (by decide) rfl ?_
  refine x_aload_n 3 dL_law_211 rfl rfl ?_
  refine x_aload_n 1 dL_law_212 rfl rfl ?_
  refine x_iload 5 dL_law_213 rfl ?_
  refine x_iconst (v := (1 : Int32)) dL_law_215 (by decide) ?_
  refine x_iadd dL_law_216 ?_
  obtain ⟨hi, h⟩ := h
  refine x_sld hz dL_law_217 hi ?_
  refine x_aload_n 1 dL_law_218 rfl rfl ?_
  refine x_iload 5 dL_law_219 rfl ?_
  refine x_iconst (v := (2 : Int32)) dL_law_221 (by decide) ?_
  refine x_iadd dL_law_222 ?_
  obtain ⟨hi, h⟩ := h
  refine x_sld hz dL_law_223 hi ?_
  obtain ⟨⟨fs, hf⟩, h⟩ := h
  refine x_invV (as := [.int (sx (Int32.toNatClampNeg (x4 + (1 : Int32)))), .int (sx (Int32.toNatClampNeg (x4 + (2 : Int32))))]) (rest := []) dL_law_224 (q := (RX8, TX8, 40)) rfl xc_L_law_98 hf (M_X8_lease hl h) rfl rfl (Nat.le_of_ble_eq_true rfl) (Nat.zero_le _) (Nat.zero_le _) (xk_i fun x_6 t_5 h => ?_)
  refine x_istore (L' := [(6, .int x_6), (5, .int x_2), (0, .ref b), (1, .ref a1), (2, .ref a2), (3, .ref a3), (4, .int x4)]) dL_law_227 (by decide) rfl ?_
  refine x_aload_n 4 dL_law_229 rfl rfl ?_
  obtain ⟨⟨fs, hf⟩, h⟩ := h
  refine x_invV (as := []) (rest := []) dL_law_230 (q := (RX8, TX8, 40)) rfl xc_L_law_91 hf (M_X8_thrown hl h) rfl rfl (Nat.le_of_ble_eq_true rfl) (Nat.zero_le _) (Nat.zero_le _) (xk_i fun x_8 t_7 h => ?_)
  refine x_iload 1 dL_law_233 rfl ?_
  obtain ⟨h1, h2⟩ := h
  refine x_icmp_eq (tgt := 240) dL_law_235 (by decide) (fun q => ?_) (fun q => ?_)
  · have h := h1 q
    refine x_iload 1 dL_law_240 rfl ?_
    obtain ⟨h1, h2⟩ := h
    refine x_if_ne (tgt := 257) dL_law_242 (by decide) (fun q => ?_) (fun q => ?_)
    · have h := h1 q
      refine x_goto (tgt := 1407) dL_law_257 (by decide) ?_
      refine x_iinc (v := (x4 + 4)) (L' := [(4, .int (x4 + 4)), (6, .int x_6), (5, .int x_2), (0, .ref b), (1, .ref a1), (2, .ref a2), (3, .ref a3)]) (j := 6) dL_law_1407 rfl rfl (by decide) rfl ?_
      refine x_goto (tgt := 23) dL_law_1410 (by decide) ?_
      refine x_sub (L' := [(0, .ref b), (1, .ref a1), (2, .ref a2), (3, .ref a3), (4, .int (x4 + 4))]) [3, 4, 5, 6, 0] rfl ?_
      exact hR23 a1 a2 a3 (x4 + 4) t_7 (rc - m_3) (rs - z_4) h
    · have h := h2 q
      refine x_aload_n 5 dL_law_245 rfl rfl ?_
      refine x_iconst (v := (0 : Int32)) dL_law_246 (by decide) ?_
      obtain ⟨n, f, hf, hi, h⟩ := h
      refine x_lald dL_law_247 hf hi ?_
      generalize f _ = y_9 at h ⊢
      refine x_iload 0 dL_law_248 rfl ?_
      refine x_i2l dL_law_250 ?_
      obtain ⟨h1, h2⟩ := h
      refine x_lcmp_eq (tgt := 257) dL_law_251 dL_law_252 (by decide) (fun q => ?_) (fun q => ?_)
      · have h := h1 q
        refine x_goto (tgt := 1407) dL_law_257 (by decide) ?_
        refine x_iinc (v := (x4 + 4)) (L' := [(4, .int (x4 + 4)), (6, .int x_6), (5, .int x_2), (0, .ref b), (1, .ref a1), (2, .ref a2), (3, .ref a3)]) (j := 6) dL_law_1407 rfl rfl (by decide) rfl ?_
        refine x_goto (tgt := 23) dL_law_1410 (by decide) ?_
        refine x_sub (L' := [(0, .ref b), (1, .ref a1), (2, .ref a2), (3, .ref a3), (4, .int (x4 + 4))]) [3, 4, 5, 6, 0] rfl ?_
        exact hR23 a1 a2 a3 (x4 + 4) t_7 (rc - m_3) (rs - z_4) h
      · have h := h2 q
        refine x_iconst (v := (0 : Int32)) dL_law_255 (by decide) ?_
        exact x_lawret hz rfl dL_law_256 h
  · have h := h2 q
    refine x_iconst (v := (0 : Int32)) dL_law_238 (by decide) ?_
    exact x_lawret hz rfl dL_law_239 h
def V_L_law_260 (E : Nat → Nat) (sl : Nat) (sx : Nat → Int32) (R23 : Nat → Nat → Nat → Int32 → xT → Nat → Nat → Prop)  (a1 : Nat) (a2 : Nat) (a3 : Nat) (x4 : Int32) (t : xT) (rc rs : Nat) : Prop :=
  (vp_in (x4 + (1 : Int32)) sl ∧ (∃ m_3 z_4 : Nat, m_3 ≤ rc ∧ z_4 ≤ rs ∧ V_L_end_0 (fun x_2 t_1 => (vp_in (x4 + (1 : Int32)) sl ∧ (xis t_1 a2 8 ∧ V_X8_end_0 (fun x_6 t_5 => (xis t_5 a2 8 ∧ V_X8_thrown_0 (fun x_8 t_7 => ((x_8 = x_2 → ((¬ x_2 = 0 → R23 a1 a2 a3 (x4 + 4) t_7 (rc - m_3) (rs - z_4)) ∧ (x_2 = 0 → xaJ t_7 a3 (0 : Int32) fun y_9 => ((y_9 = x_6.toInt64 → R23 a1 a2 a3 (x4 + 4) t_7 (rc - m_3) (rs - z_4)) ∧ (¬ y_9 = x_6.toInt64 → ((0 : Int32) = 1)))))) ∧ (¬ x_8 = x_2 → ((0 : Int32) = 1)))) a2 t_5)) a2 (sx (Int32.toNatClampNeg (x4 + (1 : Int32)))) t_1))) a1 (sx (Int32.toNatClampNeg (x4 + (1 : Int32)))) a3 t m_3 z_4))
set_option maxRecDepth 20000 in
theorem S_L_law_260 {Γ : xΓ} {b sl : Nat} {sx : Nat → Int32} {R23 : Nat → Nat → Nat → Int32 → xT → Nat → Nat → Prop} (hl : (gl Γ).stackTraces = false) (hz : xLw Γ b sl sx) (hR23 : ∀ (a1 : Nat) (a2 : Nat) (a3 : Nat) (x4 : Int32) (t : xT) (rc rs : Nat), R23 a1 a2 a3 x4 t rc rs → xX Γ k_L_law 23 [(0, .ref b), (1, .ref a1), (2, .ref a2), (3, .ref a3), (4, .int x4)] [] t rc rs) {a1 : Nat} {a2 : Nat} {a3 : Nat} {x4 : Int32} {t : xT} {rc rs : Nat} (h : V_L_law_260 (gG Γ).2.2.2 sl sx R23 a1 a2 a3 x4 t rc rs) : xX Γ k_L_law 260 [(0, .ref b), (1, .ref a1), (2, .ref a2), (3, .ref a3), (4, .int x4)] [] t rc rs := by
  unfold V_L_law_260 at h
  refine x_aload_n 1 dL_law_260 rfl rfl ?_
  refine x_aload_n 0 dL_law_261 rfl rfl ?_
  refine x_iload 4 dL_law_262 rfl ?_
  refine x_iconst (v := (1 : Int32)) dL_law_264 (by decide) ?_
  refine x_iadd dL_law_265 ?_
  obtain ⟨hi, h⟩ := h
  refine x_sld hz dL_law_266 hi ?_
  refine x_aload_n 3 dL_law_267 rfl rfl ?_
  obtain ⟨m_3, z_4, hm, hs, h⟩ := h
  refine x_invSH (as := [.ref a1, .int (sx (Int32.toNatClampNeg (x4 + (1 : Int32)))), .ref a3]) (rest := []) dL_law_268 xc_L_law_99 (M_L_end hl h) rfl rfl (Nat.le_of_ble_eq_true rfl) hm hs (xk_i fun x_2 t_1 h => ?_)
  refine x_istore (L' := [(5, .int x_2), (0, .ref b), (1, .ref a1), (2, .ref a2), (3, .ref a3), (4, .int x4)]) dL_law_271 (by decide) rfl ?_
  refine x_aload_n 3 dL_law_273 rfl rfl ?_
  refine x_aload_n 1 dL_law_274 rfl rfl ?_
  refine x_iload 5 dL_law_275 rfl ?_
  refine x_iconst (v := (1 : Int32)) dL_law_277 (by decide) ?_
  refine x_iadd dL_law_278 ?_
  obtain ⟨hi, h⟩ := h
  refine x_sld hz dL_law_279 hi ?_
  obtain ⟨⟨fs, hf⟩, h⟩ := h
  refine x_invV (as := [.int (sx (Int32.toNatClampNeg (x4 + (1 : Int32))))]) (rest := []) dL_law_280 (q := (RX8, TX8, 40)) rfl xc_L_law_101 hf (M_X8_end hl h) rfl rfl (Nat.le_of_ble_eq_true rfl) (Nat.zero_le _) (Nat.zero_le _) (xk_i fun x_6 t_5 h => ?_)
  refine x_istore (L' := [(6, .int x_6), (5, .int x_2), (0, .ref b), (1, .ref a1), (2, .ref a2), (3, .ref a3), (4, .int x4)]) dL_law_283 (by decide) rfl ?_
  refine x_aload_n 4 dL_law_285 rfl rfl ?_
  obtain ⟨⟨fs, hf⟩, h⟩ := h
  refine x_invV (as := []) (rest := []) dL_law_286 (q := (RX8, TX8, 40)) rfl xc_L_law_91 hf (M_X8_thrown hl h) rfl rfl (Nat.le_of_ble_eq_true rfl) (Nat.zero_le _) (Nat.zero_le _) (xk_i fun x_8 t_7 h => ?_)
  refine x_iload 1 dL_law_289 rfl ?_
  obtain ⟨h1, h2⟩ := h
  refine x_icmp_eq (tgt := 296) dL_law_291 (by decide) (fun q => ?_) (fun q => ?_)
  · have h := h1 q
    refine x_iload 1 dL_law_296 rfl ?_
    obtain ⟨h1, h2⟩ := h
    refine x_if_ne (tgt := 313) dL_law_298 (by decide) (fun q => ?_) (fun q => ?_)
    · have h := h1 q
      refine x_goto (tgt := 1407) dL_law_313 (by decide) ?_
      refine x_iinc (v := (x4 + 4)) (L' := [(4, .int (x4 + 4)), (6, .int x_6), (5, .int x_2), (0, .ref b), (1, .ref a1), (2, .ref a2), (3, .ref a3)]) (j := 6) dL_law_1407 rfl rfl (by decide) rfl ?_
      refine x_goto (tgt := 23) dL_law_1410 (by decide) ?_
      refine x_sub (L' := [(0, .ref b), (1, .ref a1), (2, .ref a2), (3, .ref a3), (4, .int (x4 + 4))]) [3, 4, 5, 6, 0] rfl ?_
      exact hR23 a1 a2 a3 (x4 + 4) t_7 (rc - m_3) (rs - z_4) h
    · have h := h2 q
      refine x_aload_n 5 dL_law_301 rfl rfl ?_
      refine x_iconst (v := (0 : Int32)) dL_law_302 (by decide) ?_
      obtain ⟨n, f, hf, hi, h⟩ := h
      refine x_lald dL_law_303 hf hi ?_
      generalize f _ = y_9 at h ⊢
      refine x_iload 0 dL_law_304 rfl ?_
      refine x_i2l dL_law_306 ?_
      obtain ⟨h1, h2⟩ := h
      refine x_lcmp_eq (tgt := 313) dL_law_307 dL_law_308 (by decide) (fun q => ?_) (fun q => ?_)
      · have h := h1 q
        refine x_goto (tgt := 1407) dL_law_313 (by decide) ?_
        refine x_iinc (v := (x4 + 4)) (L' := [(4, .int (x4 + 4)), (6, .int x_6), (5, .int x_2), (0, .ref b), (1, .ref a1), (2, .ref a2), (3, .ref a3)]) (j := 6) dL_law_1407 rfl rfl (by decide) rfl ?_
        refine x_goto (tgt := 23) dL_law_1410 (by decide) ?_
        refine x_sub (L' := [(0, .ref b), (1, .ref a1), (2, .ref a2), (3, .ref a3), (4, .int (x4 + 4))]) [3, 4, 5, 6, 0] rfl ?_
        exact hR23 a1 a2 a3 (x4 + 4) t_7 (rc - m_3) (rs - z_4) h
      · have h := h2 q
        refine x_iconst (v := (0 : Int32)) dL_law_311 (by decide) ?_
        exact x_lawret hz rfl dL_law_312 h
  · have h := h2 q
    refine x_iconst (v := (0 : Int32)) dL_law_294 (by decide) ?_
    exact x_lawret hz rfl dL_law_295 h
def V_L_law_316 (E : Nat → Nat) (sl : Nat) (sx : Nat → Int32) (R23 : Nat → Nat → Nat → Int32 → xT → Nat → Nat → Prop)  (a1 : Nat) (a2 : Nat) (a3 : Nat) (x4 : Int32) (t : xT) (rc rs : Nat) : Prop :=
  (vp_in (x4 + (1 : Int32)) sl ∧ (∃ m_3 z_4 : Nat, m_3 ≤ rc ∧ z_4 ≤ rs ∧ V_L_index_0 (fun x_2 t_1 => (vp_in (x4 + (1 : Int32)) sl ∧ (xis t_1 a2 8 ∧ V_X8_index_0 (fun x_6 t_5 => (xis t_5 a2 8 ∧ V_X8_thrown_0 (fun x_8 t_7 => ((x_8 = x_2 → ((¬ x_2 = 0 → R23 a1 a2 a3 (x4 + 4) t_7 (rc - m_3) (rs - z_4)) ∧ (x_2 = 0 → xaJ t_7 a3 (0 : Int32) fun y_9 => ((y_9 = x_6.toInt64 → R23 a1 a2 a3 (x4 + 4) t_7 (rc - m_3) (rs - z_4)) ∧ (¬ y_9 = x_6.toInt64 → ((0 : Int32) = 1)))))) ∧ (¬ x_8 = x_2 → ((0 : Int32) = 1)))) a2 t_5)) a2 (sx (Int32.toNatClampNeg (x4 + (1 : Int32)))) t_1))) a1 (sx (Int32.toNatClampNeg (x4 + (1 : Int32)))) a3 t m_3 z_4))
set_option maxRecDepth 20000 in
theorem S_L_law_316 {Γ : xΓ} {b sl : Nat} {sx : Nat → Int32} {R23 : Nat → Nat → Nat → Int32 → xT → Nat → Nat → Prop} (hl : (gl Γ).stackTraces = false) (hz : xLw Γ b sl sx) (hR23 : ∀ (a1 : Nat) (a2 : Nat) (a3 : Nat) (x4 : Int32) (t : xT) (rc rs : Nat), R23 a1 a2 a3 x4 t rc rs → xX Γ k_L_law 23 [(0, .ref b), (1, .ref a1), (2, .ref a2), (3, .ref a3), (4, .int x4)] [] t rc rs) {a1 : Nat} {a2 : Nat} {a3 : Nat} {x4 : Int32} {t : xT} {rc rs : Nat} (h : V_L_law_316 (gG Γ).2.2.2 sl sx R23 a1 a2 a3 x4 t rc rs) : xX Γ k_L_law 316 [(0, .ref b), (1, .ref a1), (2, .ref a2), (3, .ref a3), (4, .int x4)] [] t rc rs := by
  unfold V_L_law_316 at h
  refine x_aload_n 1 dL_law_316 rfl rfl ?_
  refine x_aload_n 0 dL_law_317 rfl rfl ?_
  refine x_iload 4 dL_law_318 rfl ?_
  refine x_iconst (v := (1 : Int32)) dL_law_320 (by decide) ?_
  refine x_iadd dL_law_321 ?_
  obtain ⟨hi, h⟩ := h
  refine x_sld hz dL_law_322 hi ?_
  refine x_aload_n 3 dL_law_323 rfl rfl ?_
  obtain ⟨m_3, z_4, hm, hs, h⟩ := h
  refine x_invSH (as := [.ref a1, .int (sx (Int32.toNatClampNeg (x4 + (1 : Int32)))), .ref a3]) (rest := []) dL_law_324 xc_L_law_102 (M_L_index hl h) rfl rfl (Nat.le_of_ble_eq_true rfl) hm hs (xk_i fun x_2 t_1 h => ?_)
  refine x_istore (L' := [(5, .int x_2), (0, .ref b), (1, .ref a1), (2, .ref a2), (3, .ref a3), (4, .int x4)]) dL_law_327 (by decide) rfl ?_
  refine x_aload_n 3 dL_law_329 rfl rfl ?_
  refine x_aload_n 1 dL_law_330 rfl rfl ?_
  refine x_iload 5 dL_law_331 rfl ?_
  refine x_iconst (v := (1 : Int32)) dL_law_333 (by decide) ?_
  refine x_iadd dL_law_334 ?_
  obtain ⟨hi, h⟩ := h
  refine x_sld hz dL_law_335 hi ?_
  obtain ⟨⟨fs, hf⟩, h⟩ := h
  refine x_invV (as := [.int (sx (Int32.toNatClampNeg (x4 + (1 : Int32))))]) (rest := []) dL_law_336 (q := (RX8, TX8, 40)) rfl xc_L_law_104 hf (M_X8_index hl h) rfl rfl (Nat.le_of_ble_eq_true rfl) (Nat.zero_le _) (Nat.zero_le _) (xk_i fun x_6 t_5 h => ?_)
  refine x_istore (L' := [(6, .int x_6), (5, .int x_2), (0, .ref b), (1, .ref a1), (2, .ref a2), (3, .ref a3), (4, .int x4)]) dL_law_339 (by decide) rfl ?_
  refine x_aload_n 4 dL_law_341 rfl rfl ?_
  obtain ⟨⟨fs, hf⟩, h⟩ := h
  refine x_invV (as := []) (rest := []) dL_law_342 (q := (RX8, TX8, 40)) rfl xc_L_law_91 hf (M_X8_thrown hl h) rfl rfl (Nat.le_of_ble_eq_true rfl) (Nat.zero_le _) (Nat.zero_le _) (xk_i fun x_8 t_7 h => ?_)
  refine x_iload 1 dL_law_345 rfl ?_
  obtain ⟨h1, h2⟩ := h
  refine x_icmp_eq (tgt := 352) dL_law_347 (by decide) (fun q => ?_) (fun q => ?_)
  · have h := h1 q
    refine x_iload 1 dL_law_352 rfl ?_
    obtain ⟨h1, h2⟩ := h
    refine x_if_ne (tgt := 369) dL_law_354 (by decide) (fun q => ?_) (fun q => ?_)
    · have h := h1 q
      refine x_goto (tgt := 1407) dL_law_369 (by decide) ?_
      refine x_iinc (v := (x4 + 4)) (L' := [(4, .int (x4 + 4)), (6, .int x_6), (5, .int x_2), (0, .ref b), (1, .ref a1), (2, .ref a2), (3, .ref a3)]) (j := 6) dL_law_1407 rfl rfl (by decide) rfl ?_
      refine x_goto (tgt := 23) dL_law_1410 (by decide) ?_
      refine x_sub (L' := [(0, .ref b), (1, .ref a1), (2, .ref a2), (3, .ref a3), (4, .int (x4 + 4))]) [3, 4, 5, 6, 0] rfl ?_
      exact hR23 a1 a2 a3 (x4 + 4) t_7 (rc - m_3) (rs - z_4) h
    · have h := h2 q
      refine x_aload_n 5 dL_law_357 rfl rfl ?_
      refine x_iconst (v := (0 : Int32)) dL_law_358 (by decide) ?_
      obtain ⟨n, f, hf, hi, h⟩ := h
      refine x_lald dL_law_359 hf hi ?_
      generalize f _ = y_9 at h ⊢
      refine x_iload 0 dL_law_360 rfl ?_
      refine x_i2l dL_law_362 ?_
      obtain ⟨h1, h2⟩ := h
      refine x_lcmp_eq (tgt := 369) dL_law_363 dL_law_364 (by decide) (fun q => ?_) (fun q => ?_)
      · have h := h1 q
        refine x_goto (tgt := 1407) dL_law_369 (by decide) ?_
        refine x_iinc (v := (x4 + 4)) (L' := [(4, .int (x4 + 4)), (6, .int x_6), (5, .int x_2), (0, .ref b), (1, .ref a1), (2, .ref a2), (3, .ref a3)]) (j := 6) dL_law_1407 rfl rfl (by decide) rfl ?_
        refine x_goto (tgt := 23) dL_law_1410 (by decide) ?_
        refine x_sub (L' := [(0, .ref b), (1, .ref a1), (2, .ref a2), (3, .ref a3), (4, .int (x4 + 4))]) [3, 4, 5, 6, 0] rfl ?_
        exact hR23 a1 a2 a3 (x4 + 4) t_7 (rc - m_3) (rs - z_4) h
      · have h := h2 q
        refine x_iconst (v := (0 : Int32)) dL_law_367 (by decide) ?_
        exact x_lawret hz rfl dL_law_368 h
  · have h := h2 q
    refine x_iconst (v := (0 : Int32)) dL_law_350 (by decide) ?_
    exact x_lawret hz rfl dL_law_351 h
def V_L_law_372 (E : Nat → Nat) (sl : Nat) (sx : Nat → Int32) (R23 : Nat → Nat → Nat → Int32 → xT → Nat → Nat → Prop)  (a1 : Nat) (a2 : Nat) (a3 : Nat) (x4 : Int32) (t : xT) (rc rs : Nat) : Prop :=
  (vp_in (x4 + (1 : Int32)) sl ∧ (vp_in (x4 + (2 : Int32)) sl ∧ (∃ m_3 z_4 : Nat, m_3 ≤ rc ∧ z_4 ≤ rs ∧ V_L_read_0 (fun x_2 t_1 => (vp_in (x4 + (1 : Int32)) sl ∧ (vp_in (x4 + (2 : Int32)) sl ∧ (xis t_1 a2 8 ∧ V_X8_read_0 (fun x_6 t_5 => (xis t_5 a2 8 ∧ V_X8_thrown_0 (fun x_8 t_7 => ((x_8 = x_2 → ((¬ x_2 = 0 → R23 a1 a2 a3 (x4 + 4) t_7 (rc - m_3) (rs - z_4)) ∧ (x_2 = 0 → xaJ t_7 a3 (0 : Int32) fun y_9 => ((y_9 = x_6.toInt64 → R23 a1 a2 a3 (x4 + 4) t_7 (rc - m_3) (rs - z_4)) ∧ (¬ y_9 = x_6.toInt64 → ((0 : Int32) = 1)))))) ∧ (¬ x_8 = x_2 → ((0 : Int32) = 1)))) a2 t_5)) a2 (sx (Int32.toNatClampNeg (x4 + (1 : Int32)))) (sx (Int32.toNatClampNeg (x4 + (2 : Int32)))) t_1)))) a1 (sx (Int32.toNatClampNeg (x4 + (1 : Int32)))) (sx (Int32.toNatClampNeg (x4 + (2 : Int32)))) a3 t m_3 z_4)))
set_option maxRecDepth 20000 in
theorem S_L_law_372 {Γ : xΓ} {b sl : Nat} {sx : Nat → Int32} {R23 : Nat → Nat → Nat → Int32 → xT → Nat → Nat → Prop} (hl : (gl Γ).stackTraces = false) (hz : xLw Γ b sl sx) (hR23 : ∀ (a1 : Nat) (a2 : Nat) (a3 : Nat) (x4 : Int32) (t : xT) (rc rs : Nat), R23 a1 a2 a3 x4 t rc rs → xX Γ k_L_law 23 [(0, .ref b), (1, .ref a1), (2, .ref a2), (3, .ref a3), (4, .int x4)] [] t rc rs) {a1 : Nat} {a2 : Nat} {a3 : Nat} {x4 : Int32} {t : xT} {rc rs : Nat} (h : V_L_law_372 (gG Γ).2.2.2 sl sx R23 a1 a2 a3 x4 t rc rs) : xX Γ k_L_law 372 [(0, .ref b), (1, .ref a1), (2, .ref a2), (3, .ref a3), (4, .int x4)] [] t rc rs := by
  unfold V_L_law_372 at h
  refine x_aload_n 1 dL_law_372 rfl rfl ?_
  refine x_aload_n 0 dL_law_373 rfl rfl ?_
  refine x_iload 4 dL_law_374 rfl ?_
  refine x_iconst (v := (1 : Int32)) dL_law_376 (by decide) ?_
  refine x_iadd dL_law_377 ?_
  obtain ⟨hi, h⟩ := h
  refine x_sld hz dL_law_378 hi ?_
  refine x_aload_n 0 dL_law_379 rfl rfl ?_
  refine x_iload 4 dL_law_380 rfl ?_
  refine x_iconst (v := (2 : Int32)) dL_law_382 (by decide) ?_
  refine x_iadd dL_law_383 ?_
  obtain ⟨hi, h⟩ := h
  refine x_sld hz dL_law_384 hi ?_
  refine x_aload_n 3 dL_law_385 rfl rfl ?_
  obtain ⟨m_3, z_4, hm, hs, h⟩ := h
  refine x_invSH (as := [.ref a1, .int (sx (Int32.toNatClampNeg (x4 + (1 : Int32)))), .int (sx (Int32.toNatClampNeg (x4 + (2 : Int32)))), .ref a3]) (rest := []) dL_law_386 xc_L_law_105 (M_L_read hl h) rfl rfl (Nat.le_of_ble_eq_true rfl) hm hs (xk_i fun x_2 t_1 h => ?_)
  refine x_istore (L' := [(5, .int x_2), (0, .ref b), (1, .ref a1), (2, .ref a2), (3, .ref a3), (4, .int x4)]) dL_law_389 (by decide) rfl ?_
  refine x_aload_n 3 dL_law_391 rfl rfl ?_
  refine x_aload_n 1 dL_law_392 rfl rfl ?_
  refine x_iload 5 dL_law_393 rfl ?_
  refine x_iconst (v := (1 : Int32)) dL_law_395 (by decide) ?_
  refine x_iadd dL_law_396 ?_
  obtain ⟨hi, h⟩ := h
  refine x_sld hz dL_law_397 hi ?_
  refine x_aload_n 1 dL_law_398 rfl rfl ?_
  refine x_iload 5 dL_law_399 rfl ?_
  refine x_iconst (v := (2 : Int32)) dL_law_401 (by decide) ?_
  refine x_iadd dL_law_402 ?_
  obtain ⟨hi, h⟩ := h
  refine x_sld hz dL_law_403 hi ?_
  obtain ⟨⟨fs, hf⟩, h⟩ := h
  refine x_invV (as := [.int (sx (Int32.toNatClampNeg (x4 + (1 : Int32)))), .int (sx (Int32.toNatClampNeg (x4 + (2 : Int32))))]) (rest := []) dL_law_404 (q := (RX8, TX8, 40)) rfl xc_L_law_107 hf (M_X8_read hl h) rfl rfl (Nat.le_of_ble_eq_true rfl) (Nat.zero_le _) (Nat.zero_le _) (xk_i fun x_6 t_5 h => ?_)
  refine x_istore (L' := [(6, .int x_6), (5, .int x_2), (0, .ref b), (1, .ref a1), (2, .ref a2), (3, .ref a3), (4, .int x4)]) dL_law_407 (by decide) rfl ?_
  refine x_aload_n 4 dL_law_409 rfl rfl ?_
  obtain ⟨⟨fs, hf⟩, h⟩ := h
  refine x_invV (as := []) (rest := []) dL_law_410 (q := (RX8, TX8, 40)) rfl xc_L_law_91 hf (M_X8_thrown hl h) rfl rfl (Nat.le_of_ble_eq_true rfl) (Nat.zero_le _) (Nat.zero_le _) (xk_i fun x_8 t_7 h => ?_)
  refine x_iload 1 dL_law_413 rfl ?_
  obtain ⟨h1, h2⟩ := h
  refine x_icmp_eq (tgt := 420) dL_law_415 (by decide) (fun q => ?_) (fun q => ?_)
  · have h := h1 q
    refine x_iload 1 dL_law_420 rfl ?_
    obtain ⟨h1, h2⟩ := h
    refine x_if_ne (tgt := 437) dL_law_422 (by decide) (fun q => ?_) (fun q => ?_)
    · have h := h1 q
      refine x_goto (tgt := 1407) dL_law_437 (by decide) ?_
      refine x_iinc (v := (x4 + 4)) (L' := [(4, .int (x4 + 4)), (6, .int x_6), (5, .int x_2), (0, .ref b), (1, .ref a1), (2, .ref a2), (3, .ref a3)]) (j := 6) dL_law_1407 rfl rfl (by decide) rfl ?_
      refine x_goto (tgt := 23) dL_law_1410 (by decide) ?_
      refine x_sub (L' := [(0, .ref b), (1, .ref a1), (2, .ref a2), (3, .ref a3), (4, .int (x4 + 4))]) [3, 4, 5, 6, 0] rfl ?_
      exact hR23 a1 a2 a3 (x4 + 4) t_7 (rc - m_3) (rs - z_4) h
    · have h := h2 q
      refine x_aload_n 5 dL_law_425 rfl rfl ?_
      refine x_iconst (v := (0 : Int32)) dL_law_426 (by decide) ?_
      obtain ⟨n, f, hf, hi, h⟩ := h
      refine x_lald dL_law_427 hf hi ?_
      generalize f _ = y_9 at h ⊢
      refine x_iload 0 dL_law_428 rfl ?_
      refine x_i2l dL_law_430 ?_
      obtain ⟨h1, h2⟩ := h
      refine x_lcmp_eq (tgt := 437) dL_law_431 dL_law_432 (by decide) (fun q => ?_) (fun q => ?_)
      · have h := h1 q
        refine x_goto (tgt := 1407) dL_law_437 (by decide) ?_
        refine x_iinc (v := (x4 + 4)) (L' := [(4, .int (x4 + 4)), (6, .int x_6), (5, .int x_2), (0, .ref b), (1, .ref a1), (2, .ref a2), (3, .ref a3)]) (j := 6) dL_law_1407 rfl rfl (by decide) rfl ?_
        refine x_goto (tgt := 23) dL_law_1410 (by decide) ?_
        refine x_sub (L' := [(0, .ref b), (1, .ref a1), (2, .ref a2), (3, .ref a3), (4, .int (x4 + 4))]) [3, 4, 5, 6, 0] rfl ?_
        exact hR23 a1 a2 a3 (x4 + 4) t_7 (rc - m_3) (rs - z_4) h
      · have h := h2 q
        refine x_iconst (v := (0 : Int32)) dL_law_435 (by decide) ?_
        exact x_lawret hz rfl dL_law_436 h
  · have h := h2 q
    refine x_iconst (v := (0 : Int32)) dL_law_418 (by decide) ?_
    exact x_lawret hz rfl dL_law_419 h
def V_L_law_440 (E : Nat → Nat) (sl : Nat) (sx : Nat → Int32) (R23 : Nat → Nat → Nat → Int32 → xT → Nat → Nat → Prop)  (a1 : Nat) (a2 : Nat) (a3 : Nat) (x4 : Int32) (t : xT) (rc rs : Nat) : Prop :=
  (vp_in (x4 + (1 : Int32)) sl ∧ (∃ m_3 z_4 : Nat, m_3 ≤ rc ∧ z_4 ≤ rs ∧ V_L_heat_0 (fun x_2 t_1 => (vp_in (x4 + (1 : Int32)) sl ∧ (xis t_1 a2 8 ∧ V_X8_heat_0 (fun x_6 t_5 => (xis t_5 a2 8 ∧ V_X8_thrown_0 (fun x_8 t_7 => ((x_8 = x_2 → ((¬ x_2 = 0 → R23 a1 a2 a3 (x4 + 4) t_7 (rc - m_3) (rs - z_4)) ∧ (x_2 = 0 → xaJ t_7 a3 (0 : Int32) fun y_9 => ((y_9 = x_6.toInt64 → R23 a1 a2 a3 (x4 + 4) t_7 (rc - m_3) (rs - z_4)) ∧ (¬ y_9 = x_6.toInt64 → ((0 : Int32) = 1)))))) ∧ (¬ x_8 = x_2 → ((0 : Int32) = 1)))) a2 t_5)) a2 (sx (Int32.toNatClampNeg (x4 + (1 : Int32)))) t_1))) a1 (sx (Int32.toNatClampNeg (x4 + (1 : Int32)))) a3 t m_3 z_4))
set_option maxRecDepth 20000 in
theorem S_L_law_440 {Γ : xΓ} {b sl : Nat} {sx : Nat → Int32} {R23 : Nat → Nat → Nat → Int32 → xT → Nat → Nat → Prop} (hl : (gl Γ).stackTraces = false) (hz : xLw Γ b sl sx) (hR23 : ∀ (a1 : Nat) (a2 : Nat) (a3 : Nat) (x4 : Int32) (t : xT) (rc rs : Nat), R23 a1 a2 a3 x4 t rc rs → xX Γ k_L_law 23 [(0, .ref b), (1, .ref a1), (2, .ref a2), (3, .ref a3), (4, .int x4)] [] t rc rs) {a1 : Nat} {a2 : Nat} {a3 : Nat} {x4 : Int32} {t : xT} {rc rs : Nat} (h : V_L_law_440 (gG Γ).2.2.2 sl sx R23 a1 a2 a3 x4 t rc rs) : xX Γ k_L_law 440 [(0, .ref b), (1, .ref a1), (2, .ref a2), (3, .ref a3), (4, .int x4)] [] t rc rs := by
  unfold V_L_law_440 at h
  refine x_aload_n 1 dL_law_440 rfl rfl ?_
  refine x_aload_n 0 dL_law_441 rfl rfl ?_
  refine x_iload 4 dL_law_442 rfl ?_
  refine x_iconst (v := (1 : Int32)) dL_law_444 (by decide) ?_
  refine x_iadd dL_law_445 ?_
  obtain ⟨hi, h⟩ := h
  refine x_sld hz dL_law_446 hi ?_
  refine x_aload_n 3 dL_law_447 rfl rfl ?_
  obtain ⟨m_3, z_4, hm, hs, h⟩ := h
  refine x_invSH (as := [.ref a1, .int (sx (Int32.toNatClampNeg (x4 + (1 : Int32)))), .ref a3]) (rest := []) dL_law_448 xc_L_law_108 (M_L_heat hl h) rfl rfl (Nat.le_of_ble_eq_true rfl) hm hs (xk_i fun x_2 t_1 h => ?_)
  refine x_istore (L' := [(5, .int x_2), (0, .ref b), (1, .ref a1), (2, .ref a2), (3, .ref a3), (4, .int x4)]) dL_law_451 (by decide) rfl ?_
  refine x_aload_n 3 dL_law_453 rfl rfl ?_
  refine x_aload_n 1 dL_law_454 rfl rfl ?_
  refine x_iload 5 dL_law_455 rfl ?_
  refine x_iconst (v := (1 : Int32)) dL_law_457 (by decide) ?_
  refine x_iadd dL_law_458 ?_
  obtain ⟨hi, h⟩ := h
  refine x_sld hz dL_law_459 hi ?_
  obtain ⟨⟨fs, hf⟩, h⟩ := h
  refine x_invV (as := [.int (sx (Int32.toNatClampNeg (x4 + (1 : Int32))))]) (rest := []) dL_law_460 (q := (RX8, TX8, 40)) rfl xc_L_law_110 hf (M_X8_heat hl h) rfl rfl (Nat.le_of_ble_eq_true rfl) (Nat.zero_le _) (Nat.zero_le _) (xk_i fun x_6 t_5 h => ?_)
  refine x_istore (L' := [(6, .int x_6), (5, .int x_2), (0, .ref b), (1, .ref a1), (2, .ref a2), (3, .ref a3), (4, .int x4)]) dL_law_463 (by decide) rfl ?_
  refine x_aload_n 4 dL_law_465 rfl rfl ?_
  obtain ⟨⟨fs, hf⟩, h⟩ := h
  refine x_invV (as := []) (rest := []) dL_law_466 (q := (RX8, TX8, 40)) rfl xc_L_law_91 hf (M_X8_thrown hl h) rfl rfl (Nat.le_of_ble_eq_true rfl) (Nat.zero_le _) (Nat.zero_le _) (xk_i fun x_8 t_7 h => ?_)
  refine x_iload 1 dL_law_469 rfl ?_
  obtain ⟨h1, h2⟩ := h
  refine x_icmp_eq (tgt := 476) dL_law_471 (by decide) (fun q => ?_) (fun q => ?_)
  · have h := h1 q
    refine x_iload 1 dL_law_476 rfl ?_
    obtain ⟨h1, h2⟩ := h
    refine x_if_ne (tgt := 493) dL_law_478 (by decide) (fun q => ?_) (fun q => ?_)
    · have h := h1 q
      refine x_goto (tgt := 1407) dL_law_493 (by decide) ?_
      refine x_iinc (v := (x4 + 4)) (L' := [(4, .int (x4 + 4)), (6, .int x_6), (5, .int x_2), (0, .ref b), (1, .ref a1), (2, .ref a2), (3, .ref a3)]) (j := 6) dL_law_1407 rfl rfl (by decide) rfl ?_
      refine x_goto (tgt := 23) dL_law_1410 (by decide) ?_
      refine x_sub (L' := [(0, .ref b), (1, .ref a1), (2, .ref a2), (3, .ref a3), (4, .int (x4 + 4))]) [3, 4, 5, 6, 0] rfl ?_
      exact hR23 a1 a2 a3 (x4 + 4) t_7 (rc - m_3) (rs - z_4) h
    · have h := h2 q
      refine x_aload_n 5 dL_law_481 rfl rfl ?_
      refine x_iconst (v := (0 : Int32)) dL_law_482 (by decide) ?_
      obtain ⟨n, f, hf, hi, h⟩ := h
      refine x_lald dL_law_483 hf hi ?_
      generalize f _ = y_9 at h ⊢
      refine x_iload 0 dL_law_484 rfl ?_
      refine x_i2l dL_law_486 ?_
      obtain ⟨h1, h2⟩ := h
      refine x_lcmp_eq (tgt := 493) dL_law_487 dL_law_488 (by decide) (fun q => ?_) (fun q => ?_)
      · have h := h1 q
        refine x_goto (tgt := 1407) dL_law_493 (by decide) ?_
        refine x_iinc (v := (x4 + 4)) (L' := [(4, .int (x4 + 4)), (6, .int x_6), (5, .int x_2), (0, .ref b), (1, .ref a1), (2, .ref a2), (3, .ref a3)]) (j := 6) dL_law_1407 rfl rfl (by decide) rfl ?_
        refine x_goto (tgt := 23) dL_law_1410 (by decide) ?_
        refine x_sub (L' := [(0, .ref b), (1, .ref a1), (2, .ref a2), (3, .ref a3), (4, .int (x4 + 4))]) [3, 4, 5, 6, 0] rfl ?_
        exact hR23 a1 a2 a3 (x4 + 4) t_7 (rc - m_3) (rs - z_4) h
      · have h := h2 q
        refine x_iconst (v := (0 : Int32)) dL_law_491 (by decide) ?_
        exact x_lawret hz rfl dL_law_492 h
  · have h := h2 q
    refine x_iconst (v := (0 : Int32)) dL_law_474 (by decide) ?_
    exact x_lawret hz rfl dL_law_475 h
def V_L_law_496 (E : Nat → Nat) (sl : Nat) (sx : Nat → Int32) (R23 : Nat → Nat → Nat → Int32 → xT → Nat → Nat → Prop)  (a1 : Nat) (a2 : Nat) (a3 : Nat) (x4 : Int32) (t : xT) (rc rs : Nat) : Prop :=
  (vp_in (x4 + (1 : Int32)) sl ∧ (vp_in (x4 + (2 : Int32)) sl ∧ (∃ m_3 z_4 : Nat, m_3 ≤ rc ∧ z_4 ≤ rs ∧ V_L_report_0 E (fun x_2 t_1 => (vp_in (x4 + (1 : Int32)) sl ∧ (vp_in (x4 + (2 : Int32)) sl ∧ (xis t_1 a2 8 ∧ V_X8_report_0 (fun x_6 t_5 => (xis t_5 a2 8 ∧ V_X8_thrown_0 (fun x_8 t_7 => ((x_8 = x_2 → ((¬ x_2 = 0 → R23 a1 a2 a3 (x4 + 4) t_7 (rc - m_3) (rs - z_4)) ∧ (x_2 = 0 → xaJ t_7 a3 (0 : Int32) fun y_9 => ((y_9 = x_6.toInt64 → R23 a1 a2 a3 (x4 + 4) t_7 (rc - m_3) (rs - z_4)) ∧ (¬ y_9 = x_6.toInt64 → ((0 : Int32) = 1)))))) ∧ (¬ x_8 = x_2 → ((0 : Int32) = 1)))) a2 t_5)) a2 (sx (Int32.toNatClampNeg (x4 + (1 : Int32)))) (sx (Int32.toNatClampNeg (x4 + (2 : Int32)))) t_1)))) a1 (sx (Int32.toNatClampNeg (x4 + (1 : Int32)))) (sx (Int32.toNatClampNeg (x4 + (2 : Int32)))) a3 t m_3 z_4)))
set_option maxRecDepth 20000 in
theorem S_L_law_496 {Γ : xΓ} {b sl : Nat} {sx : Nat → Int32} {R23 : Nat → Nat → Nat → Int32 → xT → Nat → Nat → Prop} (hl : (gl Γ).stackTraces = false) (hz : xLw Γ b sl sx) (hR23 : ∀ (a1 : Nat) (a2 : Nat) (a3 : Nat) (x4 : Int32) (t : xT) (rc rs : Nat), R23 a1 a2 a3 x4 t rc rs → xX Γ k_L_law 23 [(0, .ref b), (1, .ref a1), (2, .ref a2), (3, .ref a3), (4, .int x4)] [] t rc rs) {a1 : Nat} {a2 : Nat} {a3 : Nat} {x4 : Int32} {t : xT} {rc rs : Nat} (h : V_L_law_496 (gG Γ).2.2.2 sl sx R23 a1 a2 a3 x4 t rc rs) : xX Γ k_L_law 496 [(0, .ref b), (1, .ref a1), (2, .ref a2), (3, .ref a3), (4, .int x4)] [] t rc rs := by
  unfold V_L_law_496 at h
  refine x_aload_n 1 dL_law_496 rfl rfl ?_
  refine x_aload_n 0 dL_law_497 rfl rfl ?_
  refine x_iload 4 dL_law_498 rfl ?_
  refine x_iconst (v := (1 : Int32)) dL_law_500 (by decide) ?_
  refine x_iadd dL_law_501 ?_
  obtain ⟨hi, h⟩ := h
  refine x_sld hz dL_law_502 hi ?_
  refine x_aload_n 0 dL_law_503 rfl rfl ?_
  refine x_iload 4 dL_law_504 rfl ?_
  refine x_iconst (v := (2 : Int32)) dL_law_506 (by decide) ?_
  refine x_iadd dL_law_507 ?_
  obtain ⟨hi, h⟩ := h
  refine x_sld hz dL_law_508 hi ?_
  refine x_aload_n 3 dL_law_509 rfl rfl ?_
  obtain ⟨m_3, z_4, hm, hs, h⟩ := h
  refine x_invSH (as := [.ref a1, .int (sx (Int32.toNatClampNeg (x4 + (1 : Int32)))), .int (sx (Int32.toNatClampNeg (x4 + (2 : Int32)))), .ref a3]) (rest := []) dL_law_510 xc_L_law_111 (M_L_report hl h) rfl rfl (Nat.le_of_ble_eq_true rfl) hm hs (xk_i fun x_2 t_1 h => ?_)
  refine x_istore (L' := [(5, .int x_2), (0, .ref b), (1, .ref a1), (2, .ref a2), (3, .ref a3), (4, .int x4)]) dL_law_513 (by decide) rfl ?_
  refine x_aload_n 3 dL_law_515 rfl rfl ?_
  refine x_aload_n 1 dL_law_516 rfl rfl ?_
  refine x_iload 5 dL_law_517 rfl ?_
  refine x_iconst (v := (1 : Int32)) dL_law_519 (by decide) ?_
  refine x_iadd dL_law_520 ?_
  obtain ⟨hi, h⟩ := h
  refine x_sld hz dL_law_521 hi ?_
  refine x_aload_n 1 dL_law_522 rfl rfl ?_
  refine x_iload 5 dL_law_523 rfl ?_
  refine x_iconst (v := (2 : Int32)) dL_law_525 (by decide) ?_
  refine x_iadd dL_law_526 ?_
  obtain ⟨hi, h⟩ := h
  refine x_sld hz dL_law_527 hi ?_
  obtain ⟨⟨fs, hf⟩, h⟩ := h
  refine x_invV (as := [.int (sx (Int32.toNatClampNeg (x4 + (1 : Int32)))), .int (sx (Int32.toNatClampNeg (x4 + (2 : Int32))))]) (rest := []) dL_law_528 (q := (RX8, TX8, 40)) rfl xc_L_law_113 hf (M_X8_report hl h) rfl rfl (Nat.le_of_ble_eq_true rfl) (Nat.zero_le _) (Nat.zero_le _) (xk_i fun x_6 t_5 h => ?_)
  refine x_istore (L' := [(6, .int x_6), (5, .int x_2), (0, .ref b), (1, .ref a1), (2, .ref a2), (3, .ref a3), (4, .int x4)]) dL_law_531 (by decide) rfl ?_
  refine x_aload_n 4 dL_law_533 rfl rfl ?_
  obtain ⟨⟨fs, hf⟩, h⟩ := h
  refine x_invV (as := []) (rest := []) dL_law_534 (q := (RX8, TX8, 40)) rfl xc_L_law_91 hf (M_X8_thrown hl h) rfl rfl (Nat.le_of_ble_eq_true rfl) (Nat.zero_le _) (Nat.zero_le _) (xk_i fun x_8 t_7 h => ?_)
  refine x_iload 1 dL_law_537 rfl ?_
  obtain ⟨h1, h2⟩ := h
  refine x_icmp_eq (tgt := 544) dL_law_539 (by decide) (fun q => ?_) (fun q => ?_)
  · have h := h1 q
    refine x_iload 1 dL_law_544 rfl ?_
    obtain ⟨h1, h2⟩ := h
    refine x_if_ne (tgt := 561) dL_law_546 (by decide) (fun q => ?_) (fun q => ?_)
    · have h := h1 q
      refine x_goto (tgt := 1407) dL_law_561 (by decide) ?_
      refine x_iinc (v := (x4 + 4)) (L' := [(4, .int (x4 + 4)), (6, .int x_6), (5, .int x_2), (0, .ref b), (1, .ref a1), (2, .ref a2), (3, .ref a3)]) (j := 6) dL_law_1407 rfl rfl (by decide) rfl ?_
      refine x_goto (tgt := 23) dL_law_1410 (by decide) ?_
      refine x_sub (L' := [(0, .ref b), (1, .ref a1), (2, .ref a2), (3, .ref a3), (4, .int (x4 + 4))]) [3, 4, 5, 6, 0] rfl ?_
      exact hR23 a1 a2 a3 (x4 + 4) t_7 (rc - m_3) (rs - z_4) h
    · have h := h2 q
      refine x_aload_n 5 dL_law_549 rfl rfl ?_
      refine x_iconst (v := (0 : Int32)) dL_law_550 (by decide) ?_
      obtain ⟨n, f, hf, hi, h⟩ := h
      refine x_lald dL_law_551 hf hi ?_
      generalize f _ = y_9 at h ⊢
      refine x_iload 0 dL_law_552 rfl ?_
      refine x_i2l dL_law_554 ?_
      obtain ⟨h1, h2⟩ := h
      refine x_lcmp_eq (tgt := 561) dL_law_555 dL_law_556 (by decide) (fun q => ?_) (fun q => ?_)
      · have h := h1 q
        refine x_goto (tgt := 1407) dL_law_561 (by decide) ?_
        refine x_iinc (v := (x4 + 4)) (L' := [(4, .int (x4 + 4)), (6, .int x_6), (5, .int x_2), (0, .ref b), (1, .ref a1), (2, .ref a2), (3, .ref a3)]) (j := 6) dL_law_1407 rfl rfl (by decide) rfl ?_
        refine x_goto (tgt := 23) dL_law_1410 (by decide) ?_
        refine x_sub (L' := [(0, .ref b), (1, .ref a1), (2, .ref a2), (3, .ref a3), (4, .int (x4 + 4))]) [3, 4, 5, 6, 0] rfl ?_
        exact hR23 a1 a2 a3 (x4 + 4) t_7 (rc - m_3) (rs - z_4) h
      · have h := h2 q
        refine x_iconst (v := (0 : Int32)) dL_law_559 (by decide) ?_
        exact x_lawret hz rfl dL_law_560 h
  · have h := h2 q
    refine x_iconst (v := (0 : Int32)) dL_law_542 (by decide) ?_
    exact x_lawret hz rfl dL_law_543 h
def V_L_law_564 (E : Nat → Nat) (sl : Nat) (sx : Nat → Int32) (R23 : Nat → Nat → Nat → Int32 → xT → Nat → Nat → Prop)  (a1 : Nat) (a2 : Nat) (a3 : Nat) (x4 : Int32) (t : xT) (rc rs : Nat) : Prop :=
  (vp_in (x4 + (1 : Int32)) sl ∧ (∃ m_3 z_4 : Nat, m_3 ≤ rc ∧ z_4 ≤ rs ∧ V_L_mend_0 (fun x_2 t_1 => (vp_in (x4 + (1 : Int32)) sl ∧ (xis t_1 a2 8 ∧ V_X8_mend_0 (fun x_6 t_5 => (xis t_5 a2 8 ∧ V_X8_thrown_0 (fun x_8 t_7 => ((x_8 = x_2 → ((¬ x_2 = 0 → R23 a1 a2 a3 (x4 + 4) t_7 (rc - m_3) (rs - z_4)) ∧ (x_2 = 0 → xaJ t_7 a3 (0 : Int32) fun y_9 => ((y_9 = x_6.toInt64 → R23 a1 a2 a3 (x4 + 4) t_7 (rc - m_3) (rs - z_4)) ∧ (¬ y_9 = x_6.toInt64 → ((0 : Int32) = 1)))))) ∧ (¬ x_8 = x_2 → ((0 : Int32) = 1)))) a2 t_5)) a2 (sx (Int32.toNatClampNeg (x4 + (1 : Int32)))) t_1))) a1 (sx (Int32.toNatClampNeg (x4 + (1 : Int32)))) a3 t m_3 z_4))
set_option maxRecDepth 20000 in
theorem S_L_law_564 {Γ : xΓ} {b sl : Nat} {sx : Nat → Int32} {R23 : Nat → Nat → Nat → Int32 → xT → Nat → Nat → Prop} (hl : (gl Γ).stackTraces = false) (hz : xLw Γ b sl sx) (hR23 : ∀ (a1 : Nat) (a2 : Nat) (a3 : Nat) (x4 : Int32) (t : xT) (rc rs : Nat), R23 a1 a2 a3 x4 t rc rs → xX Γ k_L_law 23 [(0, .ref b), (1, .ref a1), (2, .ref a2), (3, .ref a3), (4, .int x4)] [] t rc rs) {a1 : Nat} {a2 : Nat} {a3 : Nat} {x4 : Int32} {t : xT} {rc rs : Nat} (h : V_L_law_564 (gG Γ).2.2.2 sl sx R23 a1 a2 a3 x4 t rc rs) : xX Γ k_L_law 564 [(0, .ref b), (1, .ref a1), (2, .ref a2), (3, .ref a3), (4, .int x4)] [] t rc rs := by
  unfold V_L_law_564 at h
  refine x_aload_n 1 dL_law_564 rfl rfl ?_
  refine x_aload_n 0 dL_law_565 rfl rfl ?_
  refine x_iload 4 dL_law_566 rfl ?_
  refine x_iconst (v := (1 : Int32)) dL_law_568 (by decide) ?_
  refine x_iadd dL_law_569 ?_
  obtain ⟨hi, h⟩ := h
  refine x_sld hz dL_law_570 hi ?_
  refine x_aload_n 3 dL_law_571 rfl rfl ?_
  obtain ⟨m_3, z_4, hm, hs, h⟩ := h
  refine x_invSH (as := [.ref a1, .int (sx (Int32.toNatClampNeg (x4 + (1 : Int32)))), .ref a3]) (rest := []) dL_law_572 xc_L_law_114 (M_L_mend hl h) rfl rfl (Nat.le_of_ble_eq_true rfl) hm hs (xk_i fun x_2 t_1 h => ?_)
  refine x_istore (L' := [(5, .int x_2), (0, .ref b), (1, .ref a1), (2, .ref a2), (3, .ref a3), (4, .int x4)]) dL_law_575 (by decide) rfl ?_
  refine x_aload_n 3 dL_law_577 rfl rfl ?_
  refine x_aload_n 1 dL_law_578 rfl rfl ?_
  refine x_iload 5 dL_law_579 rfl ?_
  refine x_iconst (v := (1 : Int32)) dL_law_581 (by decide) ?_
  refine x_iadd dL_law_582 ?_
  obtain ⟨hi, h⟩ := h
  refine x_sld hz dL_law_583 hi ?_
  obtain ⟨⟨fs, hf⟩, h⟩ := h
  refine x_invV (as := [.int (sx (Int32.toNatClampNeg (x4 + (1 : Int32))))]) (rest := []) dL_law_584 (q := (RX8, TX8, 40)) rfl xc_L_law_116 hf (M_X8_mend hl h) rfl rfl (Nat.le_of_ble_eq_true rfl) (Nat.zero_le _) (Nat.zero_le _) (xk_i fun x_6 t_5 h => ?_)
  refine x_istore (L' := [(6, .int x_6), (5, .int x_2), (0, .ref b), (1, .ref a1), (2, .ref a2), (3, .ref a3), (4, .int x4)]) dL_law_587 (by decide) rfl ?_
  refine x_aload_n 4 dL_law_589 rfl rfl ?_
  obtain ⟨⟨fs, hf⟩, h⟩ := h
  refine x_invV (as := []) (rest := []) dL_law_590 (q := (RX8, TX8, 40)) rfl xc_L_law_91 hf (M_X8_thrown hl h) rfl rfl (Nat.le_of_ble_eq_true rfl) (Nat.zero_le _) (Nat.zero_le _) (xk_i fun x_8 t_7 h => ?_)
  refine x_iload 1 dL_law_593 rfl ?_
  obtain ⟨h1, h2⟩ := h
  refine x_icmp_eq (tgt := 600) dL_law_595 (by decide) (fun q => ?_) (fun q => ?_)
  · have h := h1 q
    refine x_iload 1 dL_law_600 rfl ?_
    obtain ⟨h1, h2⟩ := h
    refine x_if_ne (tgt := 617) dL_law_602 (by decide) (fun q => ?_) (fun q => ?_)
    · have h := h1 q
      refine x_goto (tgt := 1407) dL_law_617 (by decide) ?_
      refine x_iinc (v := (x4 + 4)) (L' := [(4, .int (x4 + 4)), (6, .int x_6), (5, .int x_2), (0, .ref b), (1, .ref a1), (2, .ref a2), (3, .ref a3)]) (j := 6) dL_law_1407 rfl rfl (by decide) rfl ?_
      refine x_goto (tgt := 23) dL_law_1410 (by decide) ?_
      refine x_sub (L' := [(0, .ref b), (1, .ref a1), (2, .ref a2), (3, .ref a3), (4, .int (x4 + 4))]) [3, 4, 5, 6, 0] rfl ?_
      exact hR23 a1 a2 a3 (x4 + 4) t_7 (rc - m_3) (rs - z_4) h
    · have h := h2 q
      refine x_aload_n 5 dL_law_605 rfl rfl ?_
      refine x_iconst (v := (0 : Int32)) dL_law_606 (by decide) ?_
      obtain ⟨n, f, hf, hi, h⟩ := h
      refine x_lald dL_law_607 hf hi ?_
      generalize f _ = y_9 at h ⊢
      refine x_iload 0 dL_law_608 rfl ?_
      refine x_i2l dL_law_610 ?_
      obtain ⟨h1, h2⟩ := h
      refine x_lcmp_eq (tgt := 617) dL_law_611 dL_law_612 (by decide) (fun q => ?_) (fun q => ?_)
      · have h := h1 q
        refine x_goto (tgt := 1407) dL_law_617 (by decide) ?_
        refine x_iinc (v := (x4 + 4)) (L' := [(4, .int (x4 + 4)), (6, .int x_6), (5, .int x_2), (0, .ref b), (1, .ref a1), (2, .ref a2), (3, .ref a3)]) (j := 6) dL_law_1407 rfl rfl (by decide) rfl ?_
        refine x_goto (tgt := 23) dL_law_1410 (by decide) ?_
        refine x_sub (L' := [(0, .ref b), (1, .ref a1), (2, .ref a2), (3, .ref a3), (4, .int (x4 + 4))]) [3, 4, 5, 6, 0] rfl ?_
        exact hR23 a1 a2 a3 (x4 + 4) t_7 (rc - m_3) (rs - z_4) h
      · have h := h2 q
        refine x_iconst (v := (0 : Int32)) dL_law_615 (by decide) ?_
        exact x_lawret hz rfl dL_law_616 h
  · have h := h2 q
    refine x_iconst (v := (0 : Int32)) dL_law_598 (by decide) ?_
    exact x_lawret hz rfl dL_law_599 h
def V_L_law_620 (E : Nat → Nat) (sl : Nat) (sx : Nat → Int32) (R23 : Nat → Nat → Nat → Int32 → xT → Nat → Nat → Prop)  (a1 : Nat) (a2 : Nat) (a3 : Nat) (x4 : Int32) (t : xT) (rc rs : Nat) : Prop :=
  (vp_in (x4 + (1 : Int32)) sl ∧ (vp_in (x4 + (2 : Int32)) sl ∧ (vp_in (x4 + (3 : Int32)) sl ∧ (∃ m_3 z_4 : Nat, m_3 ≤ rc ∧ z_4 ≤ rs ∧ V_L_income_0 (fun x_2 t_1 => (vp_in (x4 + (1 : Int32)) sl ∧ (vp_in (x4 + (2 : Int32)) sl ∧ (vp_in (x4 + (3 : Int32)) sl ∧ (xis t_1 a2 8 ∧ V_X8_income_0 (fun y_6 t_5 => (xis t_5 a2 8 ∧ V_X8_thrown_0 (fun x_8 t_7 => ((x_8 = x_2 → ((¬ x_2 = 0 → R23 a1 a2 a3 (x4 + 4) t_7 (rc - m_3) (rs - z_4)) ∧ (x_2 = 0 → xaJ t_7 a3 (0 : Int32) fun y_9 => ((y_9 = y_6 → R23 a1 a2 a3 (x4 + 4) t_7 (rc - m_3) (rs - z_4)) ∧ (¬ y_9 = y_6 → ((0 : Int32) = 1)))))) ∧ (¬ x_8 = x_2 → ((0 : Int32) = 1)))) a2 t_5)) a2 (sx (Int32.toNatClampNeg (x4 + (1 : Int32)))) (sx (Int32.toNatClampNeg (x4 + (2 : Int32)))) (sx (Int32.toNatClampNeg (x4 + (3 : Int32)))) t_1))))) a1 (sx (Int32.toNatClampNeg (x4 + (1 : Int32)))) (sx (Int32.toNatClampNeg (x4 + (2 : Int32)))) (sx (Int32.toNatClampNeg (x4 + (3 : Int32)))) a3 t m_3 z_4))))
set_option maxRecDepth 20000 in
theorem S_L_law_620 {Γ : xΓ} {b sl : Nat} {sx : Nat → Int32} {R23 : Nat → Nat → Nat → Int32 → xT → Nat → Nat → Prop} (hl : (gl Γ).stackTraces = false) (hz : xLw Γ b sl sx) (hR23 : ∀ (a1 : Nat) (a2 : Nat) (a3 : Nat) (x4 : Int32) (t : xT) (rc rs : Nat), R23 a1 a2 a3 x4 t rc rs → xX Γ k_L_law 23 [(0, .ref b), (1, .ref a1), (2, .ref a2), (3, .ref a3), (4, .int x4)] [] t rc rs) {a1 : Nat} {a2 : Nat} {a3 : Nat} {x4 : Int32} {t : xT} {rc rs : Nat} (h : V_L_law_620 (gG Γ).2.2.2 sl sx R23 a1 a2 a3 x4 t rc rs) : xX Γ k_L_law 620 [(0, .ref b), (1, .ref a1), (2, .ref a2), (3, .ref a3), (4, .int x4)] [] t rc rs := by
  unfold V_L_law_620 at h
  refine x_aload_n 1 dL_law_620 rfl rfl ?_
  refine x_aload_n 0 dL_law_621 rfl rfl ?_
  refine x_iload 4 dL_law_622 rfl ?_
  refine x_iconst (v := (1 : Int32)) dL_law_624 (by decide) ?_
  refine x_iadd dL_law_625 ?_
  obtain ⟨hi, h⟩ := h
  refine x_sld hz dL_law_626 hi ?_
  refine x_aload_n 0 dL_law_627 rfl rfl ?_
  refine x_iload 4 dL_law_628 rfl ?_
  refine x_iconst (v := (2 : Int32)) dL_law_630 (by decide) ?_
  refine x_iadd dL_law_631 ?_
  obtain ⟨hi, h⟩ := h
  refine x_sld hz dL_law_632 hi ?_
  refine x_aload_n 0 dL_law_633 rfl rfl ?_
  refine x_iload 4 dL_law_634 rfl ?_
  refine x_iconst (v := (3 : Int32)) dL_law_636 (by decide) ?_
  refine x_iadd dL_law_637 ?_
  obtain ⟨hi, h⟩ := h
  refine x_sld hz dL_law_638 hi ?_
  refine x_aload_n 3 dL_law_639 rfl rfl ?_
  obtain ⟨m_3, z_4, hm, hs, h⟩ := h
  refine x_invSH (as := [.ref a1, .int (sx (Int32.toNatClampNeg (x4 + (1 : Int32)))), .int (sx (Int32.toNatClampNeg (x4 + (2 : Int32)))), .int (sx (Int32.toNatClampNeg (x4 + (3 : Int32)))), .ref a3]) (rest := []) dL_law_640 xc_L_law_117 (M_L_income hl h) rfl rfl (Nat.le_of_ble_eq_true rfl) hm hs (xk_i fun x_2 t_1 h => ?_)
  refine x_istore (L' := [(5, .int x_2), (0, .ref b), (1, .ref a1), (2, .ref a2), (3, .ref a3), (4, .int x4)]) dL_law_643 (by decide) rfl ?_
  refine x_aload_n 3 dL_law_645 rfl rfl ?_
  refine x_aload_n 1 dL_law_646 rfl rfl ?_
  refine x_iload 5 dL_law_647 rfl ?_
  refine x_iconst (v := (1 : Int32)) dL_law_649 (by decide) ?_
  refine x_iadd dL_law_650 ?_
  obtain ⟨hi, h⟩ := h
  refine x_sld hz dL_law_651 hi ?_
  refine x_aload_n 1 dL_law_652 rfl rfl ?_
  refine x_iload 5 dL_law_653 rfl ?_
  refine x_iconst (v := (2 : Int32)) dL_law_655 (by decide) ?_
  refine x_iadd dL_law_656 ?_
  obtain ⟨hi, h⟩ := h
  refine x_sld hz dL_law_657 hi ?_
  refine x_aload_n 1 dL_law_658 rfl rfl ?_
  refine x_iload 5 dL_law_659 rfl ?_
  refine x_iconst (v := (3 : Int32)) dL_law_661 (by decide) ?_
  refine x_iadd dL_law_662 ?_
  obtain ⟨hi, h⟩ := h
  refine x_sld hz dL_law_663 hi ?_
  obtain ⟨⟨fs, hf⟩, h⟩ := h
  refine x_invV (as := [.int (sx (Int32.toNatClampNeg (x4 + (1 : Int32)))), .int (sx (Int32.toNatClampNeg (x4 + (2 : Int32)))), .int (sx (Int32.toNatClampNeg (x4 + (3 : Int32))))]) (rest := []) dL_law_664 (q := (RX8, TX8, 40)) rfl xc_L_law_120 hf (M_X8_income hl h) rfl rfl (Nat.le_of_ble_eq_true rfl) (Nat.zero_le _) (Nat.zero_le _) (xk_l fun y_6 t_5 h => ?_)
  refine x_lstore (L' := [(6, .long y_6), (5, .int x_2), (0, .ref b), (1, .ref a1), (2, .ref a2), (3, .ref a3), (4, .int x4)]) dL_law_667 (by decide) rfl ?_
  refine x_aload_n 4 dL_law_669 rfl rfl ?_
  obtain ⟨⟨fs, hf⟩, h⟩ := h
  refine x_invV (as := []) (rest := []) dL_law_670 (q := (RX8, TX8, 40)) rfl xc_L_law_91 hf (M_X8_thrown hl h) rfl rfl (Nat.le_of_ble_eq_true rfl) (Nat.zero_le _) (Nat.zero_le _) (xk_i fun x_8 t_7 h => ?_)
  refine x_iload 1 dL_law_673 rfl ?_
  obtain ⟨h1, h2⟩ := h
  refine x_icmp_eq (tgt := 680) dL_law_675 (by decide) (fun q => ?_) (fun q => ?_)
  · have h := h1 q
    refine x_iload 1 dL_law_680 rfl ?_
    obtain ⟨h1, h2⟩ := h
    refine x_if_ne (tgt := 696) dL_law_682 (by decide) (fun q => ?_) (fun q => ?_)
    · have h := h1 q
      refine x_goto (tgt := 1407) dL_law_696 (by decide) ?_
      refine x_iinc (v := (x4 + 4)) (L' := [(4, .int (x4 + 4)), (6, .long y_6), (5, .int x_2), (0, .ref b), (1, .ref a1), (2, .ref a2), (3, .ref a3)]) (j := 6) dL_law_1407 rfl rfl (by decide) rfl ?_
      refine x_goto (tgt := 23) dL_law_1410 (by decide) ?_
      refine x_sub (L' := [(0, .ref b), (1, .ref a1), (2, .ref a2), (3, .ref a3), (4, .int (x4 + 4))]) [3, 4, 5, 6, 0] rfl ?_
      exact hR23 a1 a2 a3 (x4 + 4) t_7 (rc - m_3) (rs - z_4) h
    · have h := h2 q
      refine x_aload_n 5 dL_law_685 rfl rfl ?_
      refine x_iconst (v := (0 : Int32)) dL_law_686 (by decide) ?_
      obtain ⟨n, f, hf, hi, h⟩ := h
      refine x_lald dL_law_687 hf hi ?_
      generalize f _ = y_9 at h ⊢
      refine x_lload 0 dL_law_688 rfl ?_
      obtain ⟨h1, h2⟩ := h
      refine x_lcmp_eq (tgt := 696) dL_law_690 dL_law_691 (by decide) (fun q => ?_) (fun q => ?_)
      · have h := h1 q
        refine x_goto (tgt := 1407) dL_law_696 (by decide) ?_
        refine x_iinc (v := (x4 + 4)) (L' := [(4, .int (x4 + 4)), (6, .long y_6), (5, .int x_2), (0, .ref b), (1, .ref a1), (2, .ref a2), (3, .ref a3)]) (j := 6) dL_law_1407 rfl rfl (by decide) rfl ?_
        refine x_goto (tgt := 23) dL_law_1410 (by decide) ?_
        refine x_sub (L' := [(0, .ref b), (1, .ref a1), (2, .ref a2), (3, .ref a3), (4, .int (x4 + 4))]) [3, 4, 5, 6, 0] rfl ?_
        exact hR23 a1 a2 a3 (x4 + 4) t_7 (rc - m_3) (rs - z_4) h
      · have h := h2 q
        refine x_iconst (v := (0 : Int32)) dL_law_694 (by decide) ?_
        exact x_lawret hz rfl dL_law_695 h
  · have h := h2 q
    refine x_iconst (v := (0 : Int32)) dL_law_678 (by decide) ?_
    exact x_lawret hz rfl dL_law_679 h
def V_L_law_699 (E : Nat → Nat) (sl : Nat) (sx : Nat → Int32) (R23 : Nat → Nat → Nat → Int32 → xT → Nat → Nat → Prop)  (a1 : Nat) (a2 : Nat) (a3 : Nat) (x4 : Int32) (t : xT) (rc rs : Nat) : Prop :=
  (vp_in (x4 + (1 : Int32)) sl ∧ (vp_in (x4 + (2 : Int32)) sl ∧ (∃ m_3 z_4 : Nat, m_3 ≤ rc ∧ z_4 ≤ rs ∧ V_L_pay_0 (fun x_2 t_1 => (vp_in (x4 + (1 : Int32)) sl ∧ (vp_in (x4 + (2 : Int32)) sl ∧ (xis t_1 a2 8 ∧ V_X8_pay_0 (fun y_6 t_5 => (xis t_5 a2 8 ∧ V_X8_thrown_0 (fun x_8 t_7 => ((x_8 = x_2 → ((¬ x_2 = 0 → R23 a1 a2 a3 (x4 + 4) t_7 (rc - m_3) (rs - z_4)) ∧ (x_2 = 0 → xaJ t_7 a3 (0 : Int32) fun y_9 => ((y_9 = y_6 → R23 a1 a2 a3 (x4 + 4) t_7 (rc - m_3) (rs - z_4)) ∧ (¬ y_9 = y_6 → ((0 : Int32) = 1)))))) ∧ (¬ x_8 = x_2 → ((0 : Int32) = 1)))) a2 t_5)) a2 (sx (Int32.toNatClampNeg (x4 + (1 : Int32)))) (sx (Int32.toNatClampNeg (x4 + (2 : Int32)))) t_1)))) a1 (sx (Int32.toNatClampNeg (x4 + (1 : Int32)))) (sx (Int32.toNatClampNeg (x4 + (2 : Int32)))) a3 t m_3 z_4)))
set_option maxRecDepth 20000 in
theorem S_L_law_699 {Γ : xΓ} {b sl : Nat} {sx : Nat → Int32} {R23 : Nat → Nat → Nat → Int32 → xT → Nat → Nat → Prop} (hl : (gl Γ).stackTraces = false) (hz : xLw Γ b sl sx) (hR23 : ∀ (a1 : Nat) (a2 : Nat) (a3 : Nat) (x4 : Int32) (t : xT) (rc rs : Nat), R23 a1 a2 a3 x4 t rc rs → xX Γ k_L_law 23 [(0, .ref b), (1, .ref a1), (2, .ref a2), (3, .ref a3), (4, .int x4)] [] t rc rs) {a1 : Nat} {a2 : Nat} {a3 : Nat} {x4 : Int32} {t : xT} {rc rs : Nat} (h : V_L_law_699 (gG Γ).2.2.2 sl sx R23 a1 a2 a3 x4 t rc rs) : xX Γ k_L_law 699 [(0, .ref b), (1, .ref a1), (2, .ref a2), (3, .ref a3), (4, .int x4)] [] t rc rs := by
  unfold V_L_law_699 at h
  refine x_aload_n 1 dL_law_699 rfl rfl ?_
  refine x_aload_n 0 dL_law_700 rfl rfl ?_
  refine x_iload 4 dL_law_701 rfl ?_
  refine x_iconst (v := (1 : Int32)) dL_law_703 (by decide) ?_
  refine x_iadd dL_law_704 ?_
  obtain ⟨hi, h⟩ := h
  refine x_sld hz dL_law_705 hi ?_
  refine x_aload_n 0 dL_law_706 rfl rfl ?_
  refine x_iload 4 dL_law_707 rfl ?_
  refine x_iconst (v := (2 : Int32)) dL_law_709 (by decide) ?_
  refine x_iadd dL_law_710 ?_
  obtain ⟨hi, h⟩ := h
  refine x_sld hz dL_law_711 hi ?_
  refine x_aload_n 3 dL_law_712 rfl rfl ?_
  obtain ⟨m_3, z_4, hm, hs, h⟩ := h
  refine x_invSH (as := [.ref a1, .int (sx (Int32.toNatClampNeg (x4 + (1 : Int32)))), .int (sx (Int32.toNatClampNeg (x4 + (2 : Int32)))), .ref a3]) (rest := []) dL_law_713 xc_L_law_121 (M_L_pay hl h) rfl rfl (Nat.le_of_ble_eq_true rfl) hm hs (xk_i fun x_2 t_1 h => ?_)
  refine x_istore (L' := [(5, .int x_2), (0, .ref b), (1, .ref a1), (2, .ref a2), (3, .ref a3), (4, .int x4)]) dL_law_716 (by decide) rfl ?_
  refine x_aload_n 3 dL_law_718 rfl rfl ?_
  refine x_aload_n 1 dL_law_719 rfl rfl ?_
  refine x_iload 5 dL_law_720 rfl ?_
  refine x_iconst (v := (1 : Int32)) dL_law_722 (by decide) ?_
  refine x_iadd dL_law_723 ?_
  obtain ⟨hi, h⟩ := h
  refine x_sld hz dL_law_724 hi ?_
  refine x_aload_n 1 dL_law_725 rfl rfl ?_
  refine x_iload 5 dL_law_726 rfl ?_
  refine x_iconst (v := (2 : Int32)) dL_law_728 (by decide) ?_
  refine x_iadd dL_law_729 ?_
  obtain ⟨hi, h⟩ := h
  refine x_sld hz dL_law_730 hi ?_
  obtain ⟨⟨fs, hf⟩, h⟩ := h
  refine x_invV (as := [.int (sx (Int32.toNatClampNeg (x4 + (1 : Int32)))), .int (sx (Int32.toNatClampNeg (x4 + (2 : Int32))))]) (rest := []) dL_law_731 (q := (RX8, TX8, 40)) rfl xc_L_law_123 hf (M_X8_pay hl h) rfl rfl (Nat.le_of_ble_eq_true rfl) (Nat.zero_le _) (Nat.zero_le _) (xk_l fun y_6 t_5 h => ?_)
  refine x_lstore (L' := [(6, .long y_6), (5, .int x_2), (0, .ref b), (1, .ref a1), (2, .ref a2), (3, .ref a3), (4, .int x4)]) dL_law_734 (by decide) rfl ?_
  refine x_aload_n 4 dL_law_736 rfl rfl ?_
  obtain ⟨⟨fs, hf⟩, h⟩ := h
  refine x_invV (as := []) (rest := []) dL_law_737 (q := (RX8, TX8, 40)) rfl xc_L_law_91 hf (M_X8_thrown hl h) rfl rfl (Nat.le_of_ble_eq_true rfl) (Nat.zero_le _) (Nat.zero_le _) (xk_i fun x_8 t_7 h => ?_)
  refine x_iload 1 dL_law_740 rfl ?_
  obtain ⟨h1, h2⟩ := h
  refine x_icmp_eq (tgt := 747) dL_law_742 (by decide) (fun q => ?_) (fun q => ?_)
  · have h := h1 q
    refine x_iload 1 dL_law_747 rfl ?_
    obtain ⟨h1, h2⟩ := h
    refine x_if_ne (tgt := 763) dL_law_749 (by decide) (fun q => ?_) (fun q => ?_)
    · have h := h1 q
      refine x_goto (tgt := 1407) dL_law_763 (by decide) ?_
      refine x_iinc (v := (x4 + 4)) (L' := [(4, .int (x4 + 4)), (6, .long y_6), (5, .int x_2), (0, .ref b), (1, .ref a1), (2, .ref a2), (3, .ref a3)]) (j := 6) dL_law_1407 rfl rfl (by decide) rfl ?_
      refine x_goto (tgt := 23) dL_law_1410 (by decide) ?_
      refine x_sub (L' := [(0, .ref b), (1, .ref a1), (2, .ref a2), (3, .ref a3), (4, .int (x4 + 4))]) [3, 4, 5, 6, 0] rfl ?_
      exact hR23 a1 a2 a3 (x4 + 4) t_7 (rc - m_3) (rs - z_4) h
    · have h := h2 q
      refine x_aload_n 5 dL_law_752 rfl rfl ?_
      refine x_iconst (v := (0 : Int32)) dL_law_753 (by decide) ?_
      obtain ⟨n, f, hf, hi, h⟩ := h
      refine x_lald dL_law_754 hf hi ?_
      generalize f _ = y_9 at h ⊢
      refine x_lload 0 dL_law_755 rfl ?_
      obtain ⟨h1, h2⟩ := h
      refine x_lcmp_eq (tgt := 763) dL_law_757 dL_law_758 (by decide) (fun q => ?_) (fun q => ?_)
      · have h := h1 q
        refine x_goto (tgt := 1407) dL_law_763 (by decide) ?_
        refine x_iinc (v := (x4 + 4)) (L' := [(4, .int (x4 + 4)), (6, .long y_6), (5, .int x_2), (0, .ref b), (1, .ref a1), (2, .ref a2), (3, .ref a3)]) (j := 6) dL_law_1407 rfl rfl (by decide) rfl ?_
        refine x_goto (tgt := 23) dL_law_1410 (by decide) ?_
        refine x_sub (L' := [(0, .ref b), (1, .ref a1), (2, .ref a2), (3, .ref a3), (4, .int (x4 + 4))]) [3, 4, 5, 6, 0] rfl ?_
        exact hR23 a1 a2 a3 (x4 + 4) t_7 (rc - m_3) (rs - z_4) h
      · have h := h2 q
        refine x_iconst (v := (0 : Int32)) dL_law_761 (by decide) ?_
        exact x_lawret hz rfl dL_law_762 h
  · have h := h2 q
    refine x_iconst (v := (0 : Int32)) dL_law_745 (by decide) ?_
    exact x_lawret hz rfl dL_law_746 h
def V_L_law_766 (E : Nat → Nat) (sl : Nat) (sx : Nat → Int32) (R23 : Nat → Nat → Nat → Int32 → xT → Nat → Nat → Prop)  (a1 : Nat) (a2 : Nat) (a3 : Nat) (x4 : Int32) (t : xT) (rc rs : Nat) : Prop :=
  (vp_in (x4 + (1 : Int32)) sl ∧ (vp_in (x4 + (2 : Int32)) sl ∧ (∃ m_3 z_4 : Nat, m_3 ≤ rc ∧ z_4 ≤ rs ∧ V_L_plan_0 (fun x_2 t_1 => (vp_in (x4 + (1 : Int32)) sl ∧ (vp_in (x4 + (2 : Int32)) sl ∧ (xis t_1 a2 8 ∧ V_X8_plan_0 (fun y_6 t_5 => (xis t_5 a2 8 ∧ V_X8_thrown_0 (fun x_8 t_7 => ((x_8 = x_2 → ((¬ x_2 = 0 → R23 a1 a2 a3 (x4 + 4) t_7 (rc - m_3) (rs - z_4)) ∧ (x_2 = 0 → xaJ t_7 a3 (0 : Int32) fun y_9 => ((y_9 = y_6 → R23 a1 a2 a3 (x4 + 4) t_7 (rc - m_3) (rs - z_4)) ∧ (¬ y_9 = y_6 → ((0 : Int32) = 1)))))) ∧ (¬ x_8 = x_2 → ((0 : Int32) = 1)))) a2 t_5)) a2 (sx (Int32.toNatClampNeg (x4 + (1 : Int32)))) (sx (Int32.toNatClampNeg (x4 + (2 : Int32)))) t_1)))) a1 (sx (Int32.toNatClampNeg (x4 + (1 : Int32)))) (sx (Int32.toNatClampNeg (x4 + (2 : Int32)))) a3 t m_3 z_4)))
set_option maxRecDepth 20000 in
theorem S_L_law_766 {Γ : xΓ} {b sl : Nat} {sx : Nat → Int32} {R23 : Nat → Nat → Nat → Int32 → xT → Nat → Nat → Prop} (hl : (gl Γ).stackTraces = false) (hz : xLw Γ b sl sx) (hR23 : ∀ (a1 : Nat) (a2 : Nat) (a3 : Nat) (x4 : Int32) (t : xT) (rc rs : Nat), R23 a1 a2 a3 x4 t rc rs → xX Γ k_L_law 23 [(0, .ref b), (1, .ref a1), (2, .ref a2), (3, .ref a3), (4, .int x4)] [] t rc rs) {a1 : Nat} {a2 : Nat} {a3 : Nat} {x4 : Int32} {t : xT} {rc rs : Nat} (h : V_L_law_766 (gG Γ).2.2.2 sl sx R23 a1 a2 a3 x4 t rc rs) : xX Γ k_L_law 766 [(0, .ref b), (1, .ref a1), (2, .ref a2), (3, .ref a3), (4, .int x4)] [] t rc rs := by
  unfold V_L_law_766 at h
  refine x_aload_n 1 dL_law_766 rfl rfl ?_
  refine x_aload_n 0 dL_law_767 rfl rfl ?_
  refine x_iload 4 dL_law_768 rfl ?_
  refine x_iconst (v := (1 : Int32)) dL_law_770 (by decide) ?_
  refine x_iadd dL_law_771 ?_
  obtain ⟨hi, h⟩ := h
  refine x_sld hz dL_law_772 hi ?_
  refine x_aload_n 0 dL_law_773 rfl rfl ?_
  refine x_iload 4 dL_law_774 rfl ?_
  refine x_iconst (v := (2 : Int32)) dL_law_776 (by decide) ?_
  refine x_iadd dL_law_777 ?_
  obtain ⟨hi, h⟩ := h
  refine x_sld hz dL_law_778 hi ?_
  refine x_aload_n 3 dL_law_779 rfl rfl ?_
  obtain ⟨m_3, z_4, hm, hs, h⟩ := h
  refine x_invSH (as := [.ref a1, .int (sx (Int32.toNatClampNeg (x4 + (1 : Int32)))), .int (sx (Int32.toNatClampNeg (x4 + (2 : Int32)))), .ref a3]) (rest := []) dL_law_780 xc_L_law_124 (M_L_plan hl h) rfl rfl (Nat.le_of_ble_eq_true rfl) hm hs (xk_i fun x_2 t_1 h => ?_)
  refine x_istore (L' := [(5, .int x_2), (0, .ref b), (1, .ref a1), (2, .ref a2), (3, .ref a3), (4, .int x4)]) dL_law_783 (by decide) rfl ?_
  refine x_aload_n 3 dL_law_785 rfl rfl ?_
  refine x_aload_n 1 dL_law_786 rfl rfl ?_
  refine x_iload 5 dL_law_787 rfl ?_
  refine x_iconst (v := (1 : Int32)) dL_law_789 (by decide) ?_
  refine x_iadd dL_law_790 ?_
  obtain ⟨hi, h⟩ := h
  refine x_sld hz dL_law_791 hi ?_
  refine x_aload_n 1 dL_law_792 rfl rfl ?_
  refine x_iload 5 dL_law_793 rfl ?_
  refine x_iconst (v := (2 : Int32)) dL_law_795 (by decide) ?_
  refine x_iadd dL_law_796 ?_
  obtain ⟨hi, h⟩ := h
  refine x_sld hz dL_law_797 hi ?_
  obtain ⟨⟨fs, hf⟩, h⟩ := h
  refine x_invV (as := [.int (sx (Int32.toNatClampNeg (x4 + (1 : Int32)))), .int (sx (Int32.toNatClampNeg (x4 + (2 : Int32))))]) (rest := []) dL_law_798 (q := (RX8, TX8, 40)) rfl xc_L_law_126 hf (M_X8_plan hl h) rfl rfl (Nat.le_of_ble_eq_true rfl) (Nat.zero_le _) (Nat.zero_le _) (xk_l fun y_6 t_5 h => ?_)
  refine x_lstore (L' := [(6, .long y_6), (5, .int x_2), (0, .ref b), (1, .ref a1), (2, .ref a2), (3, .ref a3), (4, .int x4)]) dL_law_801 (by decide) rfl ?_
  refine x_aload_n 4 dL_law_803 rfl rfl ?_
  obtain ⟨⟨fs, hf⟩, h⟩ := h
  refine x_invV (as := []) (rest := []) dL_law_804 (q := (RX8, TX8, 40)) rfl xc_L_law_91 hf (M_X8_thrown hl h) rfl rfl (Nat.le_of_ble_eq_true rfl) (Nat.zero_le _) (Nat.zero_le _) (xk_i fun x_8 t_7 h => ?_)
  refine x_iload 1 dL_law_807 rfl ?_
  obtain ⟨h1, h2⟩ := h
  refine x_icmp_eq (tgt := 814) dL_law_809 (by decide) (fun q => ?_) (fun q => ?_)
  · have h := h1 q
    refine x_iload 1 dL_law_814 rfl ?_
    obtain ⟨h1, h2⟩ := h
    refine x_if_ne (tgt := 830) dL_law_816 (by decide) (fun q => ?_) (fun q => ?_)
    · have h := h1 q
      refine x_goto (tgt := 1407) dL_law_830 (by decide) ?_
      refine x_iinc (v := (x4 + 4)) (L' := [(4, .int (x4 + 4)), (6, .long y_6), (5, .int x_2), (0, .ref b), (1, .ref a1), (2, .ref a2), (3, .ref a3)]) (j := 6) dL_law_1407 rfl rfl (by decide) rfl ?_
      refine x_goto (tgt := 23) dL_law_1410 (by decide) ?_
      refine x_sub (L' := [(0, .ref b), (1, .ref a1), (2, .ref a2), (3, .ref a3), (4, .int (x4 + 4))]) [3, 4, 5, 6, 0] rfl ?_
      exact hR23 a1 a2 a3 (x4 + 4) t_7 (rc - m_3) (rs - z_4) h
    · have h := h2 q
      refine x_aload_n 5 dL_law_819 rfl rfl ?_
      refine x_iconst (v := (0 : Int32)) dL_law_820 (by decide) ?_
      obtain ⟨n, f, hf, hi, h⟩ := h
      refine x_lald dL_law_821 hf hi ?_
      generalize f _ = y_9 at h ⊢
      refine x_lload 0 dL_law_822 rfl ?_
      obtain ⟨h1, h2⟩ := h
      refine x_lcmp_eq (tgt := 830) dL_law_824 dL_law_825 (by decide) (fun q => ?_) (fun q => ?_)
      · have h := h1 q
        refine x_goto (tgt := 1407) dL_law_830 (by decide) ?_
        refine x_iinc (v := (x4 + 4)) (L' := [(4, .int (x4 + 4)), (6, .long y_6), (5, .int x_2), (0, .ref b), (1, .ref a1), (2, .ref a2), (3, .ref a3)]) (j := 6) dL_law_1407 rfl rfl (by decide) rfl ?_
        refine x_goto (tgt := 23) dL_law_1410 (by decide) ?_
        refine x_sub (L' := [(0, .ref b), (1, .ref a1), (2, .ref a2), (3, .ref a3), (4, .int (x4 + 4))]) [3, 4, 5, 6, 0] rfl ?_
        exact hR23 a1 a2 a3 (x4 + 4) t_7 (rc - m_3) (rs - z_4) h
      · have h := h2 q
        refine x_iconst (v := (0 : Int32)) dL_law_828 (by decide) ?_
        exact x_lawret hz rfl dL_law_829 h
  · have h := h2 q
    refine x_iconst (v := (0 : Int32)) dL_law_812 (by decide) ?_
    exact x_lawret hz rfl dL_law_813 h
def V_L_law_833 (E : Nat → Nat) (sl : Nat) (sx : Nat → Int32) (R23 : Nat → Nat → Nat → Int32 → xT → Nat → Nat → Prop)  (a1 : Nat) (a2 : Nat) (a3 : Nat) (x4 : Int32) (t : xT) (rc rs : Nat) : Prop :=
  (vp_in (x4 + (1 : Int32)) sl ∧ (∃ m_3 z_4 : Nat, m_3 ≤ rc ∧ z_4 ≤ rs ∧ V_L_pass_0 (fun x_2 t_1 => (vp_in (x4 + (1 : Int32)) sl ∧ (xis t_1 a2 8 ∧ V_X8_pass_0 (fun x_6 t_5 => (xis t_5 a2 8 ∧ V_X8_thrown_0 (fun x_8 t_7 => ((x_8 = x_2 → ((¬ x_2 = 0 → R23 a1 a2 a3 (x4 + 4) t_7 (rc - m_3) (rs - z_4)) ∧ (x_2 = 0 → xaJ t_7 a3 (0 : Int32) fun y_9 => ((y_9 = x_6.toInt64 → R23 a1 a2 a3 (x4 + 4) t_7 (rc - m_3) (rs - z_4)) ∧ (¬ y_9 = x_6.toInt64 → ((0 : Int32) = 1)))))) ∧ (¬ x_8 = x_2 → ((0 : Int32) = 1)))) a2 t_5)) a2 (sx (Int32.toNatClampNeg (x4 + (1 : Int32)))) t_1))) a1 (sx (Int32.toNatClampNeg (x4 + (1 : Int32)))) a3 t m_3 z_4))
set_option maxRecDepth 20000 in
theorem S_L_law_833 {Γ : xΓ} {b sl : Nat} {sx : Nat → Int32} {R23 : Nat → Nat → Nat → Int32 → xT → Nat → Nat → Prop} (hl : (gl Γ).stackTraces = false) (hz : xLw Γ b sl sx) (hR23 : ∀ (a1 : Nat) (a2 : Nat) (a3 : Nat) (x4 : Int32) (t : xT) (rc rs : Nat), R23 a1 a2 a3 x4 t rc rs → xX Γ k_L_law 23 [(0, .ref b), (1, .ref a1), (2, .ref a2), (3, .ref a3), (4, .int x4)] [] t rc rs) {a1 : Nat} {a2 : Nat} {a3 : Nat} {x4 : Int32} {t : xT} {rc rs : Nat} (h : V_L_law_833 (gG Γ).2.2.2 sl sx R23 a1 a2 a3 x4 t rc rs) : xX Γ k_L_law 833 [(0, .ref b), (1, .ref a1), (2, .ref a2), (3, .ref a3), (4, .int x4)] [] t rc rs := by
  unfold V_L_law_833 at h
  refine x_aload_n 1 dL_law_833 rfl rfl ?_
  refine x_aload_n 0 dL_law_834 rfl rfl ?_
  refine x_iload 4 dL_law_835 rfl ?_
  refine x_iconst (v := (1 : Int32)) dL_law_837 (by decide) ?_
  refine x_iadd dL_law_838 ?_
  obtain ⟨hi, h⟩ := h
  refine x_sld hz dL_law_839 hi ?_
  refine x_aload_n 3 dL_law_840 rfl rfl ?_
  obtain ⟨m_3, z_4, hm, hs, h⟩ := h
  refine x_invSH (as := [.ref a1, .int (sx (Int32.toNatClampNeg (x4 + (1 : Int32)))), .ref a3]) (rest := []) dL_law_841 xc_L_law_127 (M_L_pass hl h) rfl rfl (Nat.le_of_ble_eq_true rfl) hm hs (xk_i fun x_2 t_1 h => ?_)
  refine x_istore (L' := [(5, .int x_2), (0, .ref b), (1, .ref a1), (2, .ref a2), (3, .ref a3), (4, .int x4)]) dL_law_844 (by decide) rfl ?_
  refine x_aload_n 3 dL_law_846 rfl rfl ?_
  refine x_aload_n 1 dL_law_847 rfl rfl ?_
  refine x_iload 5 dL_law_848 rfl ?_
  refine x_iconst (v := (1 : Int32)) dL_law_850 (by decide) ?_
  refine x_iadd dL_law_851 ?_
  obtain ⟨hi, h⟩ := h
  refine x_sld hz dL_law_852 hi ?_
  obtain ⟨⟨fs, hf⟩, h⟩ := h
  refine x_invV (as := [.int (sx (Int32.toNatClampNeg (x4 + (1 : Int32))))]) (rest := []) dL_law_853 (q := (RX8, TX8, 40)) rfl xc_L_law_129 hf (M_X8_pass hl h) rfl rfl (Nat.le_of_ble_eq_true rfl) (Nat.zero_le _) (Nat.zero_le _) (xk_i fun x_6 t_5 h => ?_)
  refine x_istore (L' := [(6, .int x_6), (5, .int x_2), (0, .ref b), (1, .ref a1), (2, .ref a2), (3, .ref a3), (4, .int x4)]) dL_law_856 (by decide) rfl ?_
  refine x_aload_n 4 dL_law_858 rfl rfl ?_
  obtain ⟨⟨fs, hf⟩, h⟩ := h
  refine x_invV (as := []) (rest := []) dL_law_859 (q := (RX8, TX8, 40)) rfl xc_L_law_91 hf (M_X8_thrown hl h) rfl rfl (Nat.le_of_ble_eq_true rfl) (Nat.zero_le _) (Nat.zero_le _) (xk_i fun x_8 t_7 h => ?_)
  refine x_iload 1 dL_law_862 rfl ?_
  obtain ⟨h1, h2⟩ := h
  refine x_icmp_eq (tgt := 869) dL_law_864 (by decide) (fun q => ?_) (fun q => ?_)
  · have h := h1 q
    refine x_iload 1 dL_law_869 rfl ?_
    obtain ⟨h1, h2⟩ := h
    refine x_if_ne (tgt := 886) dL_law_871 (by decide) (fun q => ?_) (fun q => ?_)
    · have h := h1 q
      refine x_goto (tgt := 1407) dL_law_886 (by decide) ?_
      refine x_iinc (v := (x4 + 4)) (L' := [(4, .int (x4 + 4)), (6, .int x_6), (5, .int x_2), (0, .ref b), (1, .ref a1), (2, .ref a2), (3, .ref a3)]) (j := 6) dL_law_1407 rfl rfl (by decide) rfl ?_
      refine x_goto (tgt := 23) dL_law_1410 (by decide) ?_
      refine x_sub (L' := [(0, .ref b), (1, .ref a1), (2, .ref a2), (3, .ref a3), (4, .int (x4 + 4))]) [3, 4, 5, 6, 0] rfl ?_
      exact hR23 a1 a2 a3 (x4 + 4) t_7 (rc - m_3) (rs - z_4) h
    · have h := h2 q
      refine x_aload_n 5 dL_law_874 rfl rfl ?_
      refine x_iconst (v := (0 : Int32)) dL_law_875 (by decide) ?_
      obtain ⟨n, f, hf, hi, h⟩ := h
      refine x_lald dL_law_876 hf hi ?_
      generalize f _ = y_9 at h ⊢
      refine x_iload 0 dL_law_877 rfl ?_
      refine x_i2l dL_law_879 ?_
      obtain ⟨h1, h2⟩ := h
      refine x_lcmp_eq (tgt := 886) dL_law_880 dL_law_881 (by decide) (fun q => ?_) (fun q => ?_)
      · have h := h1 q
        refine x_goto (tgt := 1407) dL_law_886 (by decide) ?_
        refine x_iinc (v := (x4 + 4)) (L' := [(4, .int (x4 + 4)), (6, .int x_6), (5, .int x_2), (0, .ref b), (1, .ref a1), (2, .ref a2), (3, .ref a3)]) (j := 6) dL_law_1407 rfl rfl (by decide) rfl ?_
        refine x_goto (tgt := 23) dL_law_1410 (by decide) ?_
        refine x_sub (L' := [(0, .ref b), (1, .ref a1), (2, .ref a2), (3, .ref a3), (4, .int (x4 + 4))]) [3, 4, 5, 6, 0] rfl ?_
        exact hR23 a1 a2 a3 (x4 + 4) t_7 (rc - m_3) (rs - z_4) h
      · have h := h2 q
        refine x_iconst (v := (0 : Int32)) dL_law_884 (by decide) ?_
        exact x_lawret hz rfl dL_law_885 h
  · have h := h2 q
    refine x_iconst (v := (0 : Int32)) dL_law_867 (by decide) ?_
    exact x_lawret hz rfl dL_law_868 h
def V_L_law_889 (E : Nat → Nat) (sl : Nat) (sx : Nat → Int32) (R23 : Nat → Nat → Nat → Int32 → xT → Nat → Nat → Prop)  (a1 : Nat) (a2 : Nat) (a3 : Nat) (x4 : Int32) (t : xT) (rc rs : Nat) : Prop :=
  (vp_in (x4 + (1 : Int32)) sl ∧ (∃ m_3 z_4 : Nat, m_3 ≤ rc ∧ z_4 ≤ rs ∧ V_L_owes_0 (fun x_2 t_1 => (vp_in (x4 + (1 : Int32)) sl ∧ (xis t_1 a2 8 ∧ V_X8_owes_0 (fun y_6 t_5 => (xis t_5 a2 8 ∧ V_X8_thrown_0 (fun x_8 t_7 => ((x_8 = x_2 → ((¬ x_2 = 0 → R23 a1 a2 a3 (x4 + 4) t_7 (rc - m_3) (rs - z_4)) ∧ (x_2 = 0 → xaJ t_7 a3 (0 : Int32) fun y_9 => ((y_9 = y_6 → R23 a1 a2 a3 (x4 + 4) t_7 (rc - m_3) (rs - z_4)) ∧ (¬ y_9 = y_6 → ((0 : Int32) = 1)))))) ∧ (¬ x_8 = x_2 → ((0 : Int32) = 1)))) a2 t_5)) a2 (sx (Int32.toNatClampNeg (x4 + (1 : Int32)))) t_1))) a1 (sx (Int32.toNatClampNeg (x4 + (1 : Int32)))) a3 t m_3 z_4))
set_option maxRecDepth 20000 in
theorem S_L_law_889 {Γ : xΓ} {b sl : Nat} {sx : Nat → Int32} {R23 : Nat → Nat → Nat → Int32 → xT → Nat → Nat → Prop} (hl : (gl Γ).stackTraces = false) (hz : xLw Γ b sl sx) (hR23 : ∀ (a1 : Nat) (a2 : Nat) (a3 : Nat) (x4 : Int32) (t : xT) (rc rs : Nat), R23 a1 a2 a3 x4 t rc rs → xX Γ k_L_law 23 [(0, .ref b), (1, .ref a1), (2, .ref a2), (3, .ref a3), (4, .int x4)] [] t rc rs) {a1 : Nat} {a2 : Nat} {a3 : Nat} {x4 : Int32} {t : xT} {rc rs : Nat} (h : V_L_law_889 (gG Γ).2.2.2 sl sx R23 a1 a2 a3 x4 t rc rs) : xX Γ k_L_law 889 [(0, .ref b), (1, .ref a1), (2, .ref a2), (3, .ref a3), (4, .int x4)] [] t rc rs := by
  unfold V_L_law_889 at h
  refine x_aload_n 1 dL_law_889 rfl rfl ?_
  refine x_aload_n 0 dL_law_890 rfl rfl ?_
  refine x_iload 4 dL_law_891 rfl ?_
  refine x_iconst (v := (1 : Int32)) dL_law_893 (by decide) ?_
  refine x_iadd dL_law_894 ?_
  obtain ⟨hi, h⟩ := h
  refine x_sld hz dL_law_895 hi ?_
  refine x_aload_n 3 dL_law_896 rfl rfl ?_
  obtain ⟨m_3, z_4, hm, hs, h⟩ := h
  refine x_invSH (as := [.ref a1, .int (sx (Int32.toNatClampNeg (x4 + (1 : Int32)))), .ref a3]) (rest := []) dL_law_897 xc_L_law_130 (M_L_owes hl h) rfl rfl (Nat.le_of_ble_eq_true rfl) hm hs (xk_i fun x_2 t_1 h => ?_)
  refine x_istore (L' := [(5, .int x_2), (0, .ref b), (1, .ref a1), (2, .ref a2), (3, .ref a3), (4, .int x4)]) dL_law_900 (by decide) rfl ?_
  refine x_aload_n 3 dL_law_902 rfl rfl ?_
  refine x_aload_n 1 dL_law_903 rfl rfl ?_
  refine x_iload 5 dL_law_904 rfl ?_
  refine x_iconst (v := (1 : Int32)) dL_law_906 (by decide) ?_
  refine x_iadd dL_law_907 ?_
  obtain ⟨hi, h⟩ := h
  refine x_sld hz dL_law_908 hi ?_
  obtain ⟨⟨fs, hf⟩, h⟩ := h
  refine x_invV (as := [.int (sx (Int32.toNatClampNeg (x4 + (1 : Int32))))]) (rest := []) dL_law_909 (q := (RX8, TX8, 40)) rfl xc_L_law_132 hf (M_X8_owes hl h) rfl rfl (Nat.le_of_ble_eq_true rfl) (Nat.zero_le _) (Nat.zero_le _) (xk_l fun y_6 t_5 h => ?_)
  refine x_lstore (L' := [(6, .long y_6), (5, .int x_2), (0, .ref b), (1, .ref a1), (2, .ref a2), (3, .ref a3), (4, .int x4)]) dL_law_912 (by decide) rfl ?_
  refine x_aload_n 4 dL_law_914 rfl rfl ?_
  obtain ⟨⟨fs, hf⟩, h⟩ := h
  refine x_invV (as := []) (rest := []) dL_law_915 (q := (RX8, TX8, 40)) rfl xc_L_law_91 hf (M_X8_thrown hl h) rfl rfl (Nat.le_of_ble_eq_true rfl) (Nat.zero_le _) (Nat.zero_le _) (xk_i fun x_8 t_7 h => ?_)
  refine x_iload 1 dL_law_918 rfl ?_
  obtain ⟨h1, h2⟩ := h
  refine x_icmp_eq (tgt := 925) dL_law_920 (by decide) (fun q => ?_) (fun q => ?_)
  · have h := h1 q
    refine x_iload 1 dL_law_925 rfl ?_
    obtain ⟨h1, h2⟩ := h
    refine x_if_ne (tgt := 941) dL_law_927 (by decide) (fun q => ?_) (fun q => ?_)
    · have h := h1 q
      refine x_goto (tgt := 1407) dL_law_941 (by decide) ?_
      refine x_iinc (v := (x4 + 4)) (L' := [(4, .int (x4 + 4)), (6, .long y_6), (5, .int x_2), (0, .ref b), (1, .ref a1), (2, .ref a2), (3, .ref a3)]) (j := 6) dL_law_1407 rfl rfl (by decide) rfl ?_
      refine x_goto (tgt := 23) dL_law_1410 (by decide) ?_
      refine x_sub (L' := [(0, .ref b), (1, .ref a1), (2, .ref a2), (3, .ref a3), (4, .int (x4 + 4))]) [3, 4, 5, 6, 0] rfl ?_
      exact hR23 a1 a2 a3 (x4 + 4) t_7 (rc - m_3) (rs - z_4) h
    · have h := h2 q
      refine x_aload_n 5 dL_law_930 rfl rfl ?_
      refine x_iconst (v := (0 : Int32)) dL_law_931 (by decide) ?_
      obtain ⟨n, f, hf, hi, h⟩ := h
      refine x_lald dL_law_932 hf hi ?_
      generalize f _ = y_9 at h ⊢
      refine x_lload 0 dL_law_933 rfl ?_
      obtain ⟨h1, h2⟩ := h
      refine x_lcmp_eq (tgt := 941) dL_law_935 dL_law_936 (by decide) (fun q => ?_) (fun q => ?_)
      · have h := h1 q
        refine x_goto (tgt := 1407) dL_law_941 (by decide) ?_
        refine x_iinc (v := (x4 + 4)) (L' := [(4, .int (x4 + 4)), (6, .long y_6), (5, .int x_2), (0, .ref b), (1, .ref a1), (2, .ref a2), (3, .ref a3)]) (j := 6) dL_law_1407 rfl rfl (by decide) rfl ?_
        refine x_goto (tgt := 23) dL_law_1410 (by decide) ?_
        refine x_sub (L' := [(0, .ref b), (1, .ref a1), (2, .ref a2), (3, .ref a3), (4, .int (x4 + 4))]) [3, 4, 5, 6, 0] rfl ?_
        exact hR23 a1 a2 a3 (x4 + 4) t_7 (rc - m_3) (rs - z_4) h
      · have h := h2 q
        refine x_iconst (v := (0 : Int32)) dL_law_939 (by decide) ?_
        exact x_lawret hz rfl dL_law_940 h
  · have h := h2 q
    refine x_iconst (v := (0 : Int32)) dL_law_923 (by decide) ?_
    exact x_lawret hz rfl dL_law_924 h
def V_L_law_944 (E : Nat → Nat) (sl : Nat) (sx : Nat → Int32) (R23 : Nat → Nat → Nat → Int32 → xT → Nat → Nat → Prop)  (a1 : Nat) (a2 : Nat) (a3 : Nat) (x4 : Int32) (t : xT) (rc rs : Nat) : Prop :=
  (vp_in (x4 + (1 : Int32)) sl ∧ (∃ m_3 z_4 : Nat, m_3 ≤ rc ∧ z_4 ≤ rs ∧ V_L_owesAnew_0 (fun x_2 t_1 => (vp_in (x4 + (1 : Int32)) sl ∧ (xis t_1 a2 8 ∧ V_X8_owesAnew_0 (fun y_6 t_5 => (xis t_5 a2 8 ∧ V_X8_thrown_0 (fun x_8 t_7 => ((x_8 = x_2 → ((¬ x_2 = 0 → R23 a1 a2 a3 (x4 + 4) t_7 (rc - m_3) (rs - z_4)) ∧ (x_2 = 0 → xaJ t_7 a3 (0 : Int32) fun y_9 => ((y_9 = y_6 → R23 a1 a2 a3 (x4 + 4) t_7 (rc - m_3) (rs - z_4)) ∧ (¬ y_9 = y_6 → ((0 : Int32) = 1)))))) ∧ (¬ x_8 = x_2 → ((0 : Int32) = 1)))) a2 t_5)) a2 (sx (Int32.toNatClampNeg (x4 + (1 : Int32)))) t_1))) a1 (sx (Int32.toNatClampNeg (x4 + (1 : Int32)))) a3 t m_3 z_4))
set_option maxRecDepth 20000 in
theorem S_L_law_944 {Γ : xΓ} {b sl : Nat} {sx : Nat → Int32} {R23 : Nat → Nat → Nat → Int32 → xT → Nat → Nat → Prop} (hl : (gl Γ).stackTraces = false) (hz : xLw Γ b sl sx) (hR23 : ∀ (a1 : Nat) (a2 : Nat) (a3 : Nat) (x4 : Int32) (t : xT) (rc rs : Nat), R23 a1 a2 a3 x4 t rc rs → xX Γ k_L_law 23 [(0, .ref b), (1, .ref a1), (2, .ref a2), (3, .ref a3), (4, .int x4)] [] t rc rs) {a1 : Nat} {a2 : Nat} {a3 : Nat} {x4 : Int32} {t : xT} {rc rs : Nat} (h : V_L_law_944 (gG Γ).2.2.2 sl sx R23 a1 a2 a3 x4 t rc rs) : xX Γ k_L_law 944 [(0, .ref b), (1, .ref a1), (2, .ref a2), (3, .ref a3), (4, .int x4)] [] t rc rs := by
  unfold V_L_law_944 at h
  refine x_aload_n 1 dL_law_944 rfl rfl ?_
  refine x_aload_n 0 dL_law_945 rfl rfl ?_
  refine x_iload 4 dL_law_946 rfl ?_
  refine x_iconst (v := (1 : Int32)) dL_law_948 (by decide) ?_
  refine x_iadd dL_law_949 ?_
  obtain ⟨hi, h⟩ := h
  refine x_sld hz dL_law_950 hi ?_
  refine x_aload_n 3 dL_law_951 rfl rfl ?_
  obtain ⟨m_3, z_4, hm, hs, h⟩ := h
  refine x_invSH (as := [.ref a1, .int (sx (Int32.toNatClampNeg (x4 + (1 : Int32)))), .ref a3]) (rest := []) dL_law_952 xc_L_law_133 (M_L_owesAnew hl h) rfl rfl (Nat.le_of_ble_eq_true rfl) hm hs (xk_i fun x_2 t_1 h => ?_)
  refine x_istore (L' := [(5, .int x_2), (0, .ref b), (1, .ref a1), (2, .ref a2), (3, .ref a3), (4, .int x4)]) dL_law_955 (by decide) rfl ?_
  refine x_aload_n 3 dL_law_957 rfl rfl ?_
  refine x_aload_n 1 dL_law_958 rfl rfl ?_
  refine x_iload 5 dL_law_959 rfl ?_
  refine x_iconst (v := (1 : Int32)) dL_law_961 (by decide) ?_
  refine x_iadd dL_law_962 ?_
  obtain ⟨hi, h⟩ := h
  refine x_sld hz dL_law_963 hi ?_
  obtain ⟨⟨fs, hf⟩, h⟩ := h
  refine x_invV (as := [.int (sx (Int32.toNatClampNeg (x4 + (1 : Int32))))]) (rest := []) dL_law_964 (q := (RX8, TX8, 40)) rfl xc_L_law_135 hf (M_X8_owesAnew hl h) rfl rfl (Nat.le_of_ble_eq_true rfl) (Nat.zero_le _) (Nat.zero_le _) (xk_l fun y_6 t_5 h => ?_)
  refine x_lstore (L' := [(6, .long y_6), (5, .int x_2), (0, .ref b), (1, .ref a1), (2, .ref a2), (3, .ref a3), (4, .int x4)]) dL_law_967 (by decide) rfl ?_
  refine x_aload_n 4 dL_law_969 rfl rfl ?_
  obtain ⟨⟨fs, hf⟩, h⟩ := h
  refine x_invV (as := []) (rest := []) dL_law_970 (q := (RX8, TX8, 40)) rfl xc_L_law_91 hf (M_X8_thrown hl h) rfl rfl (Nat.le_of_ble_eq_true rfl) (Nat.zero_le _) (Nat.zero_le _) (xk_i fun x_8 t_7 h => ?_)
  refine x_iload 1 dL_law_973 rfl ?_
  obtain ⟨h1, h2⟩ := h
  refine x_icmp_eq (tgt := 980) dL_law_975 (by decide) (fun q => ?_) (fun q => ?_)
  · have h := h1 q
    refine x_iload 1 dL_law_980 rfl ?_
    obtain ⟨h1, h2⟩ := h
    refine x_if_ne (tgt := 996) dL_law_982 (by decide) (fun q => ?_) (fun q => ?_)
    · have h := h1 q
      refine x_goto (tgt := 1407) dL_law_996 (by decide) ?_
      refine x_iinc (v := (x4 + 4)) (L' := [(4, .int (x4 + 4)), (6, .long y_6), (5, .int x_2), (0, .ref b), (1, .ref a1), (2, .ref a2), (3, .ref a3)]) (j := 6) dL_law_1407 rfl rfl (by decide) rfl ?_
      refine x_goto (tgt := 23) dL_law_1410 (by decide) ?_
      refine x_sub (L' := [(0, .ref b), (1, .ref a1), (2, .ref a2), (3, .ref a3), (4, .int (x4 + 4))]) [3, 4, 5, 6, 0] rfl ?_
      exact hR23 a1 a2 a3 (x4 + 4) t_7 (rc - m_3) (rs - z_4) h
    · have h := h2 q
      refine x_aload_n 5 dL_law_985 rfl rfl ?_
      refine x_iconst (v := (0 : Int32)) dL_law_986 (by decide) ?_
      obtain ⟨n, f, hf, hi, h⟩ := h
      refine x_lald dL_law_987 hf hi ?_
      generalize f _ = y_9 at h ⊢
      refine x_lload 0 dL_law_988 rfl ?_
      obtain ⟨h1, h2⟩ := h
      refine x_lcmp_eq (tgt := 996) dL_law_990 dL_law_991 (by decide) (fun q => ?_) (fun q => ?_)
      · have h := h1 q
        refine x_goto (tgt := 1407) dL_law_996 (by decide) ?_
        refine x_iinc (v := (x4 + 4)) (L' := [(4, .int (x4 + 4)), (6, .long y_6), (5, .int x_2), (0, .ref b), (1, .ref a1), (2, .ref a2), (3, .ref a3)]) (j := 6) dL_law_1407 rfl rfl (by decide) rfl ?_
        refine x_goto (tgt := 23) dL_law_1410 (by decide) ?_
        refine x_sub (L' := [(0, .ref b), (1, .ref a1), (2, .ref a2), (3, .ref a3), (4, .int (x4 + 4))]) [3, 4, 5, 6, 0] rfl ?_
        exact hR23 a1 a2 a3 (x4 + 4) t_7 (rc - m_3) (rs - z_4) h
      · have h := h2 q
        refine x_iconst (v := (0 : Int32)) dL_law_994 (by decide) ?_
        exact x_lawret hz rfl dL_law_995 h
  · have h := h2 q
    refine x_iconst (v := (0 : Int32)) dL_law_978 (by decide) ?_
    exact x_lawret hz rfl dL_law_979 h
def V_L_law_999 (E : Nat → Nat) (sl : Nat) (sx : Nat → Int32) (R23 : Nat → Nat → Nat → Int32 → xT → Nat → Nat → Prop)  (a1 : Nat) (a2 : Nat) (a3 : Nat) (x4 : Int32) (t : xT) (rc rs : Nat) : Prop :=
  (vp_in (x4 + (1 : Int32)) sl ∧ (∃ m_3 z_4 : Nat, m_3 ≤ rc ∧ z_4 ≤ rs ∧ V_L_desk_0 (fun x_2 t_1 => (vp_in (x4 + (1 : Int32)) sl ∧ (xis t_1 a2 8 ∧ V_X8_desk_0 (fun y_6 t_5 => (xis t_5 a2 8 ∧ V_X8_thrown_0 (fun x_8 t_7 => ((x_8 = x_2 → ((¬ x_2 = 0 → R23 a1 a2 a3 (x4 + 4) t_7 (rc - m_3) (rs - z_4)) ∧ (x_2 = 0 → xaJ t_7 a3 (0 : Int32) fun y_9 => ((y_9 = y_6 → R23 a1 a2 a3 (x4 + 4) t_7 (rc - m_3) (rs - z_4)) ∧ (¬ y_9 = y_6 → ((0 : Int32) = 1)))))) ∧ (¬ x_8 = x_2 → ((0 : Int32) = 1)))) a2 t_5)) a2 (sx (Int32.toNatClampNeg (x4 + (1 : Int32)))) t_1))) a1 (sx (Int32.toNatClampNeg (x4 + (1 : Int32)))) a3 t m_3 z_4))
set_option maxRecDepth 20000 in
theorem S_L_law_999 {Γ : xΓ} {b sl : Nat} {sx : Nat → Int32} {R23 : Nat → Nat → Nat → Int32 → xT → Nat → Nat → Prop} (hl : (gl Γ).stackTraces = false) (hz : xLw Γ b sl sx) (hR23 : ∀ (a1 : Nat) (a2 : Nat) (a3 : Nat) (x4 : Int32) (t : xT) (rc rs : Nat), R23 a1 a2 a3 x4 t rc rs → xX Γ k_L_law 23 [(0, .ref b), (1, .ref a1), (2, .ref a2), (3, .ref a3), (4, .int x4)] [] t rc rs) {a1 : Nat} {a2 : Nat} {a3 : Nat} {x4 : Int32} {t : xT} {rc rs : Nat} (h : V_L_law_999 (gG Γ).2.2.2 sl sx R23 a1 a2 a3 x4 t rc rs) : xX Γ k_L_law 999 [(0, .ref b), (1, .ref a1), (2, .ref a2), (3, .ref a3), (4, .int x4)] [] t rc rs := by
  unfold V_L_law_999 at h
  refine x_aload_n 1 dL_law_999 rfl rfl ?_
  refine x_aload_n 0 dL_law_1000 rfl rfl ?_
  refine x_iload 4 dL_law_1001 rfl ?_
  refine x_iconst (v := (1 : Int32)) dL_law_1003 (by decide) ?_
  refine x_iadd dL_law_1004 ?_
  obtain ⟨hi, h⟩ := h
  refine x_sld hz dL_law_1005 hi ?_
  refine x_aload_n 3 dL_law_1006 rfl rfl ?_
  obtain ⟨m_3, z_4, hm, hs, h⟩ := h
  refine x_invSH (as := [.ref a1, .int (sx (Int32.toNatClampNeg (x4 + (1 : Int32)))), .ref a3]) (rest := []) dL_law_1007 xc_L_law_136 (M_L_desk hl h) rfl rfl (Nat.le_of_ble_eq_true rfl) hm hs (xk_i fun x_2 t_1 h => ?_)
  refine x_istore (L' := [(5, .int x_2), (0, .ref b), (1, .ref a1), (2, .ref a2), (3, .ref a3), (4, .int x4)]) dL_law_1010 (by decide) rfl ?_
  refine x_aload_n 3 dL_law_1012 rfl rfl ?_
  refine x_aload_n 1 dL_law_1013 rfl rfl ?_
  refine x_iload 5 dL_law_1014 rfl ?_
  refine x_iconst (v := (1 : Int32)) dL_law_1016 (by decide) ?_
  refine x_iadd dL_law_1017 ?_
  obtain ⟨hi, h⟩ := h
  refine x_sld hz dL_law_1018 hi ?_
  obtain ⟨⟨fs, hf⟩, h⟩ := h
  refine x_invV (as := [.int (sx (Int32.toNatClampNeg (x4 + (1 : Int32))))]) (rest := []) dL_law_1019 (q := (RX8, TX8, 40)) rfl xc_L_law_138 hf (M_X8_desk hl h) rfl rfl (Nat.le_of_ble_eq_true rfl) (Nat.zero_le _) (Nat.zero_le _) (xk_l fun y_6 t_5 h => ?_)
  refine x_lstore (L' := [(6, .long y_6), (5, .int x_2), (0, .ref b), (1, .ref a1), (2, .ref a2), (3, .ref a3), (4, .int x4)]) dL_law_1022 (by decide) rfl ?_
  refine x_aload_n 4 dL_law_1024 rfl rfl ?_
  obtain ⟨⟨fs, hf⟩, h⟩ := h
  refine x_invV (as := []) (rest := []) dL_law_1025 (q := (RX8, TX8, 40)) rfl xc_L_law_91 hf (M_X8_thrown hl h) rfl rfl (Nat.le_of_ble_eq_true rfl) (Nat.zero_le _) (Nat.zero_le _) (xk_i fun x_8 t_7 h => ?_)
  refine x_iload 1 dL_law_1028 rfl ?_
  obtain ⟨h1, h2⟩ := h
  refine x_icmp_eq (tgt := 1035) dL_law_1030 (by decide) (fun q => ?_) (fun q => ?_)
  · have h := h1 q
    refine x_iload 1 dL_law_1035 rfl ?_
    obtain ⟨h1, h2⟩ := h
    refine x_if_ne (tgt := 1051) dL_law_1037 (by decide) (fun q => ?_) (fun q => ?_)
    · have h := h1 q
      refine x_goto (tgt := 1407) dL_law_1051 (by decide) ?_
      refine x_iinc (v := (x4 + 4)) (L' := [(4, .int (x4 + 4)), (6, .long y_6), (5, .int x_2), (0, .ref b), (1, .ref a1), (2, .ref a2), (3, .ref a3)]) (j := 6) dL_law_1407 rfl rfl (by decide) rfl ?_
      refine x_goto (tgt := 23) dL_law_1410 (by decide) ?_
      refine x_sub (L' := [(0, .ref b), (1, .ref a1), (2, .ref a2), (3, .ref a3), (4, .int (x4 + 4))]) [3, 4, 5, 6, 0] rfl ?_
      exact hR23 a1 a2 a3 (x4 + 4) t_7 (rc - m_3) (rs - z_4) h
    · have h := h2 q
      refine x_aload_n 5 dL_law_1040 rfl rfl ?_
      refine x_iconst (v := (0 : Int32)) dL_law_1041 (by decide) ?_
      obtain ⟨n, f, hf, hi, h⟩ := h
      refine x_lald dL_law_1042 hf hi ?_
      generalize f _ = y_9 at h ⊢
      refine x_lload 0 dL_law_1043 rfl ?_
      obtain ⟨h1, h2⟩ := h
      refine x_lcmp_eq (tgt := 1051) dL_law_1045 dL_law_1046 (by decide) (fun q => ?_) (fun q => ?_)
      · have h := h1 q
        refine x_goto (tgt := 1407) dL_law_1051 (by decide) ?_
        refine x_iinc (v := (x4 + 4)) (L' := [(4, .int (x4 + 4)), (6, .long y_6), (5, .int x_2), (0, .ref b), (1, .ref a1), (2, .ref a2), (3, .ref a3)]) (j := 6) dL_law_1407 rfl rfl (by decide) rfl ?_
        refine x_goto (tgt := 23) dL_law_1410 (by decide) ?_
        refine x_sub (L' := [(0, .ref b), (1, .ref a1), (2, .ref a2), (3, .ref a3), (4, .int (x4 + 4))]) [3, 4, 5, 6, 0] rfl ?_
        exact hR23 a1 a2 a3 (x4 + 4) t_7 (rc - m_3) (rs - z_4) h
      · have h := h2 q
        refine x_iconst (v := (0 : Int32)) dL_law_1049 (by decide) ?_
        exact x_lawret hz rfl dL_law_1050 h
  · have h := h2 q
    refine x_iconst (v := (0 : Int32)) dL_law_1033 (by decide) ?_
    exact x_lawret hz rfl dL_law_1034 h
def V_L_law_1068 (E : Nat → Nat) (sl : Nat) (sx : Nat → Int32) (R23 : Nat → Nat → Nat → Int32 → xT → Nat → Nat → Prop)  (a1 : Nat) (a2 : Nat) (a3 : Nat) (x4 : Int32) (t : xT) (rc rs : Nat) : Prop :=
  (vp_in (x4 + (1 : Int32)) sl ∧ (vp_in (x4 + (2 : Int32)) sl ∧ (vp_in (x4 + (3 : Int32)) sl ∧ (∃ m_3 z_4 : Nat, m_3 ≤ rc ∧ z_4 ≤ rs ∧ V_L_bill_0 (fun x_2 t_1 => (vp_in (x4 + (1 : Int32)) sl ∧ (vp_in (x4 + (2 : Int32)) sl ∧ (vp_in (x4 + (3 : Int32)) sl ∧ (xis t_1 a2 8 ∧ V_X8_bill_0 (fun y_6 t_5 => (xis t_5 a2 8 ∧ V_X8_thrown_0 (fun x_8 t_7 => ((x_8 = x_2 → ((¬ x_2 = 0 → R23 a1 a2 a3 (x4 + 4) t_7 (rc - m_3) (rs - z_4)) ∧ (x_2 = 0 → xaJ t_7 a3 (0 : Int32) fun y_9 => ((y_9 = y_6 → R23 a1 a2 a3 (x4 + 4) t_7 (rc - m_3) (rs - z_4)) ∧ (¬ y_9 = y_6 → ((0 : Int32) = 1)))))) ∧ (¬ x_8 = x_2 → ((0 : Int32) = 1)))) a2 t_5)) a2 (sx (Int32.toNatClampNeg (x4 + (1 : Int32)))) (sx (Int32.toNatClampNeg (x4 + (2 : Int32)))) (sx (Int32.toNatClampNeg (x4 + (3 : Int32)))) t_1))))) a1 (sx (Int32.toNatClampNeg (x4 + (1 : Int32)))) (sx (Int32.toNatClampNeg (x4 + (2 : Int32)))) (sx (Int32.toNatClampNeg (x4 + (3 : Int32)))) a3 t m_3 z_4))))
set_option maxRecDepth 20000 in
theorem S_L_law_1068 {Γ : xΓ} {b sl : Nat} {sx : Nat → Int32} {R23 : Nat → Nat → Nat → Int32 → xT → Nat → Nat → Prop} (hl : (gl Γ).stackTraces = false) (hz : xLw Γ b sl sx) (hR23 : ∀ (a1 : Nat) (a2 : Nat) (a3 : Nat) (x4 : Int32) (t : xT) (rc rs : Nat), R23 a1 a2 a3 x4 t rc rs → xX Γ k_L_law 23 [(0, .ref b), (1, .ref a1), (2, .ref a2), (3, .ref a3), (4, .int x4)] [] t rc rs) {a1 : Nat} {a2 : Nat} {a3 : Nat} {x4 : Int32} {t : xT} {rc rs : Nat} (h : V_L_law_1068 (gG Γ).2.2.2 sl sx R23 a1 a2 a3 x4 t rc rs) : xX Γ k_L_law 1068 [(0, .ref b), (1, .ref a1), (2, .ref a2), (3, .ref a3), (4, .int x4)] [] t rc rs := by
  unfold V_L_law_1068 at h
  refine x_aload_n 1 dL_law_1068 rfl rfl ?_
  refine x_aload_n 0 dL_law_1069 rfl rfl ?_
  refine x_iload 4 dL_law_1070 rfl ?_
  refine x_iconst (v := (1 : Int32)) dL_law_1072 (by decide) ?_
  refine x_iadd dL_law_1073 ?_
  obtain ⟨hi, h⟩ := h
  refine x_sld hz dL_law_1074 hi ?_
  refine x_aload_n 0 dL_law_1075 rfl rfl ?_
  refine x_iload 4 dL_law_1076 rfl ?_
  refine x_iconst (v := (2 : Int32)) dL_law_1078 (by decide) ?_
  refine x_iadd dL_law_1079 ?_
  obtain ⟨hi, h⟩ := h
  refine x_sld hz dL_law_1080 hi ?_
  refine x_aload_n 0 dL_law_1081 rfl rfl ?_
  refine x_iload 4 dL_law_1082 rfl ?_
  refine x_iconst (v := (3 : Int32)) dL_law_1084 (by decide) ?_
  refine x_iadd dL_law_1085 ?_
  obtain ⟨hi, h⟩ := h
  refine x_sld hz dL_law_1086 hi ?_
  refine x_aload_n 3 dL_law_1087 rfl rfl ?_
  obtain ⟨m_3, z_4, hm, hs, h⟩ := h
  refine x_invSH (as := [.ref a1, .int (sx (Int32.toNatClampNeg (x4 + (1 : Int32)))), .int (sx (Int32.toNatClampNeg (x4 + (2 : Int32)))), .int (sx (Int32.toNatClampNeg (x4 + (3 : Int32)))), .ref a3]) (rest := []) dL_law_1088 xc_L_law_144 (M_L_bill hl h) rfl rfl (Nat.le_of_ble_eq_true rfl) hm hs (xk_i fun x_2 t_1 h => ?_)
  refine x_istore (L' := [(5, .int x_2), (0, .ref b), (1, .ref a1), (2, .ref a2), (3, .ref a3), (4, .int x4)]) dL_law_1091 (by decide) rfl ?_
  refine x_aload_n 3 dL_law_1093 rfl rfl ?_
  refine x_aload_n 1 dL_law_1094 rfl rfl ?_
  refine x_iload 5 dL_law_1095 rfl ?_
  refine x_iconst (v := (1 : Int32)) dL_law_1097 (by decide) ?_
  refine x_iadd dL_law_1098 ?_
  obtain ⟨hi, h⟩ := h
  refine x_sld hz dL_law_1099 hi ?_
  refine x_aload_n 1 dL_law_1100 rfl rfl ?_
  refine x_iload 5 dL_law_1101 rfl ?_
  refine x_iconst (v := (2 : Int32)) dL_law_1103 (by decide) ?_
  refine x_iadd dL_law_1104 ?_
  obtain ⟨hi, h⟩ := h
  refine x_sld hz dL_law_1105 hi ?_
  refine x_aload_n 1 dL_law_1106 rfl rfl ?_
  refine x_iload 5 dL_law_1107 rfl ?_
  refine x_iconst (v := (3 : Int32)) dL_law_1109 (by decide) ?_
  refine x_iadd dL_law_1110 ?_
  obtain ⟨hi, h⟩ := h
  refine x_sld hz dL_law_1111 hi ?_
  obtain ⟨⟨fs, hf⟩, h⟩ := h
  refine x_invV (as := [.int (sx (Int32.toNatClampNeg (x4 + (1 : Int32)))), .int (sx (Int32.toNatClampNeg (x4 + (2 : Int32)))), .int (sx (Int32.toNatClampNeg (x4 + (3 : Int32))))]) (rest := []) dL_law_1112 (q := (RX8, TX8, 40)) rfl xc_L_law_146 hf (M_X8_bill hl h) rfl rfl (Nat.le_of_ble_eq_true rfl) (Nat.zero_le _) (Nat.zero_le _) (xk_l fun y_6 t_5 h => ?_)
  refine x_lstore (L' := [(6, .long y_6), (5, .int x_2), (0, .ref b), (1, .ref a1), (2, .ref a2), (3, .ref a3), (4, .int x4)]) dL_law_1115 (by decide) rfl ?_
  refine x_aload_n 4 dL_law_1117 rfl rfl ?_
  obtain ⟨⟨fs, hf⟩, h⟩ := h
  refine x_invV (as := []) (rest := []) dL_law_1118 (q := (RX8, TX8, 40)) rfl xc_L_law_91 hf (M_X8_thrown hl h) rfl rfl (Nat.le_of_ble_eq_true rfl) (Nat.zero_le _) (Nat.zero_le _) (xk_i fun x_8 t_7 h => ?_)
  refine x_iload 1 dL_law_1121 rfl ?_
  obtain ⟨h1, h2⟩ := h
  refine x_icmp_eq (tgt := 1128) dL_law_1123 (by decide) (fun q => ?_) (fun q => ?_)
  · have h := h1 q
    refine x_iload 1 dL_law_1128 rfl ?_
    obtain ⟨h1, h2⟩ := h
    refine x_if_ne (tgt := 1144) dL_law_1130 (by decide) (fun q => ?_) (fun q => ?_)
    · have h := h1 q
      refine x_goto (tgt := 1407) dL_law_1144 (by decide) ?_
      refine x_iinc (v := (x4 + 4)) (L' := [(4, .int (x4 + 4)), (6, .long y_6), (5, .int x_2), (0, .ref b), (1, .ref a1), (2, .ref a2), (3, .ref a3)]) (j := 6) dL_law_1407 rfl rfl (by decide) rfl ?_
      refine x_goto (tgt := 23) dL_law_1410 (by decide) ?_
      refine x_sub (L' := [(0, .ref b), (1, .ref a1), (2, .ref a2), (3, .ref a3), (4, .int (x4 + 4))]) [3, 4, 5, 6, 0] rfl ?_
      exact hR23 a1 a2 a3 (x4 + 4) t_7 (rc - m_3) (rs - z_4) h
    · have h := h2 q
      refine x_aload_n 5 dL_law_1133 rfl rfl ?_
      refine x_iconst (v := (0 : Int32)) dL_law_1134 (by decide) ?_
      obtain ⟨n, f, hf, hi, h⟩ := h
      refine x_lald dL_law_1135 hf hi ?_
      generalize f _ = y_9 at h ⊢
      refine x_lload 0 dL_law_1136 rfl ?_
      obtain ⟨h1, h2⟩ := h
      refine x_lcmp_eq (tgt := 1144) dL_law_1138 dL_law_1139 (by decide) (fun q => ?_) (fun q => ?_)
      · have h := h1 q
        refine x_goto (tgt := 1407) dL_law_1144 (by decide) ?_
        refine x_iinc (v := (x4 + 4)) (L' := [(4, .int (x4 + 4)), (6, .long y_6), (5, .int x_2), (0, .ref b), (1, .ref a1), (2, .ref a2), (3, .ref a3)]) (j := 6) dL_law_1407 rfl rfl (by decide) rfl ?_
        refine x_goto (tgt := 23) dL_law_1410 (by decide) ?_
        refine x_sub (L' := [(0, .ref b), (1, .ref a1), (2, .ref a2), (3, .ref a3), (4, .int (x4 + 4))]) [3, 4, 5, 6, 0] rfl ?_
        exact hR23 a1 a2 a3 (x4 + 4) t_7 (rc - m_3) (rs - z_4) h
      · have h := h2 q
        refine x_iconst (v := (0 : Int32)) dL_law_1142 (by decide) ?_
        exact x_lawret hz rfl dL_law_1143 h
  · have h := h2 q
    refine x_iconst (v := (0 : Int32)) dL_law_1126 (by decide) ?_
    exact x_lawret hz rfl dL_law_1127 h
def V_L_law_1147 (E : Nat → Nat) (sl : Nat) (sx : Nat → Int32) (R23 : Nat → Nat → Nat → Int32 → xT → Nat → Nat → Prop)  (a1 : Nat) (a2 : Nat) (a3 : Nat) (x4 : Int32) (t : xT) (rc rs : Nat) : Prop :=
  (vp_in (x4 + (1 : Int32)) sl ∧ (vp_in (x4 + (2 : Int32)) sl ∧ (vp_in (x4 + (3 : Int32)) sl ∧ (∃ m_3 z_4 : Nat, m_3 ≤ rc ∧ z_4 ≤ rs ∧ V_L_line_0 E (fun x_2 t_1 => (vp_in (x4 + (1 : Int32)) sl ∧ (vp_in (x4 + (2 : Int32)) sl ∧ (vp_in (x4 + (3 : Int32)) sl ∧ (xis t_1 a2 8 ∧ V_X8_line_0 (fun x_6 t_5 => (xis t_5 a2 8 ∧ V_X8_thrown_0 (fun x_8 t_7 => ((x_8 = x_2 → ((¬ x_2 = 0 → R23 a1 a2 a3 (x4 + 4) t_7 (rc - m_3) (rs - z_4)) ∧ (x_2 = 0 → xaJ t_7 a3 (0 : Int32) fun y_9 => ((y_9 = x_6.toInt64 → R23 a1 a2 a3 (x4 + 4) t_7 (rc - m_3) (rs - z_4)) ∧ (¬ y_9 = x_6.toInt64 → ((0 : Int32) = 1)))))) ∧ (¬ x_8 = x_2 → ((0 : Int32) = 1)))) a2 t_5)) a2 (sx (Int32.toNatClampNeg (x4 + (1 : Int32)))) (sx (Int32.toNatClampNeg (x4 + (2 : Int32)))) (sx (Int32.toNatClampNeg (x4 + (3 : Int32)))) t_1))))) a1 (sx (Int32.toNatClampNeg (x4 + (1 : Int32)))) (sx (Int32.toNatClampNeg (x4 + (2 : Int32)))) (sx (Int32.toNatClampNeg (x4 + (3 : Int32)))) a3 t m_3 z_4))))
set_option maxRecDepth 20000 in
theorem S_L_law_1147 {Γ : xΓ} {b sl : Nat} {sx : Nat → Int32} {R23 : Nat → Nat → Nat → Int32 → xT → Nat → Nat → Prop} (hl : (gl Γ).stackTraces = false) (hz : xLw Γ b sl sx) (hR23 : ∀ (a1 : Nat) (a2 : Nat) (a3 : Nat) (x4 : Int32) (t : xT) (rc rs : Nat), R23 a1 a2 a3 x4 t rc rs → xX Γ k_L_law 23 [(0, .ref b), (1, .ref a1), (2, .ref a2), (3, .ref a3), (4, .int x4)] [] t rc rs) {a1 : Nat} {a2 : Nat} {a3 : Nat} {x4 : Int32} {t : xT} {rc rs : Nat} (h : V_L_law_1147 (gG Γ).2.2.2 sl sx R23 a1 a2 a3 x4 t rc rs) : xX Γ k_L_law 1147 [(0, .ref b), (1, .ref a1), (2, .ref a2), (3, .ref a3), (4, .int x4)] [] t rc rs := by
  unfold V_L_law_1147 at h
  refine x_aload_n 1 dL_law_1147 rfl rfl ?_
  refine x_aload_n 0 dL_law_1148 rfl rfl ?_
  refine x_iload 4 dL_law_1149 rfl ?_
  refine x_iconst (v := (1 : Int32)) dL_law_1151 (by decide) ?_
  refine x_iadd dL_law_1152 ?_
  obtain ⟨hi, h⟩ := h
  refine x_sld hz dL_law_1153 hi ?_
  refine x_aload_n 0 dL_law_1154 rfl rfl ?_
  refine x_iload 4 dL_law_1155 rfl ?_
  refine x_iconst (v := (2 : Int32)) dL_law_1157 (by decide) ?_
  refine x_iadd dL_law_1158 ?_
  obtain ⟨hi, h⟩ := h
  refine x_sld hz dL_law_1159 hi ?_
  refine x_aload_n 0 dL_law_1160 rfl rfl ?_
  refine x_iload 4 dL_law_1161 rfl ?_
  refine x_iconst (v := (3 : Int32)) dL_law_1163 (by decide) ?_
  refine x_iadd dL_law_1164 ?_
  obtain ⟨hi, h⟩ := h
  refine x_sld hz dL_law_1165 hi ?_
  refine x_aload_n 3 dL_law_1166 rfl rfl ?_
  obtain ⟨m_3, z_4, hm, hs, h⟩ := h
  refine x_invSH (as := [.ref a1, .int (sx (Int32.toNatClampNeg (x4 + (1 : Int32)))), .int (sx (Int32.toNatClampNeg (x4 + (2 : Int32)))), .int (sx (Int32.toNatClampNeg (x4 + (3 : Int32)))), .ref a3]) (rest := []) dL_law_1167 xc_L_law_147 (M_L_line hl h) rfl rfl (Nat.le_of_ble_eq_true rfl) hm hs (xk_i fun x_2 t_1 h => ?_)
  refine x_istore (L' := [(5, .int x_2), (0, .ref b), (1, .ref a1), (2, .ref a2), (3, .ref a3), (4, .int x4)]) dL_law_1170 (by decide) rfl ?_
  refine x_aload_n 3 dL_law_1172 rfl rfl ?_
  refine x_aload_n 1 dL_law_1173 rfl rfl ?_
  refine x_iload 5 dL_law_1174 rfl ?_
  refine x_iconst (v := (1 : Int32)) dL_law_1176 (by decide) ?_
  refine x_iadd dL_law_1177 ?_
  obtain ⟨hi, h⟩ := h
  refine x_sld hz dL_law_1178 hi ?_
  refine x_aload_n 1 dL_law_1179 rfl rfl ?_
  refine x_iload 5 dL_law_1180 rfl ?_
  refine x_iconst (v := (2 : Int32)) dL_law_1182 (by decide) ?_
  refine x_iadd dL_law_1183 ?_
  obtain ⟨hi, h⟩ := h
  refine x_sld hz dL_law_1184 hi ?_
  refine x_aload_n 1 dL_law_1185 rfl rfl ?_
  refine x_iload 5 dL_law_1186 rfl ?_
  refine x_iconst (v := (3 : Int32)) dL_law_1188 (by decide) ?_
  refine x_iadd dL_law_1189 ?_
  obtain ⟨hi, h⟩ := h
  refine x_sld hz dL_law_1190 hi ?_
  obtain ⟨⟨fs, hf⟩, h⟩ := h
  refine x_invV (as := [.int (sx (Int32.toNatClampNeg (x4 + (1 : Int32)))), .int (sx (Int32.toNatClampNeg (x4 + (2 : Int32)))), .int (sx (Int32.toNatClampNeg (x4 + (3 : Int32))))]) (rest := []) dL_law_1191 (q := (RX8, TX8, 40)) rfl xc_L_law_149 hf (M_X8_line hl h) rfl rfl (Nat.le_of_ble_eq_true rfl) (Nat.zero_le _) (Nat.zero_le _) (xk_i fun x_6 t_5 h => ?_)
  refine x_istore (L' := [(6, .int x_6), (5, .int x_2), (0, .ref b), (1, .ref a1), (2, .ref a2), (3, .ref a3), (4, .int x4)]) dL_law_1194 (by decide) rfl ?_
  refine x_aload_n 4 dL_law_1196 rfl rfl ?_
  obtain ⟨⟨fs, hf⟩, h⟩ := h
  refine x_invV (as := []) (rest := []) dL_law_1197 (q := (RX8, TX8, 40)) rfl xc_L_law_91 hf (M_X8_thrown hl h) rfl rfl (Nat.le_of_ble_eq_true rfl) (Nat.zero_le _) (Nat.zero_le _) (xk_i fun x_8 t_7 h => ?_)
  refine x_iload 1 dL_law_1200 rfl ?_
  obtain ⟨h1, h2⟩ := h
  refine x_icmp_eq (tgt := 1207) dL_law_1202 (by decide) (fun q => ?_) (fun q => ?_)
  · have h := h1 q
    refine x_iload 1 dL_law_1207 rfl ?_
    obtain ⟨h1, h2⟩ := h
    refine x_if_ne (tgt := 1224) dL_law_1209 (by decide) (fun q => ?_) (fun q => ?_)
    · have h := h1 q
      refine x_goto (tgt := 1407) dL_law_1224 (by decide) ?_
      refine x_iinc (v := (x4 + 4)) (L' := [(4, .int (x4 + 4)), (6, .int x_6), (5, .int x_2), (0, .ref b), (1, .ref a1), (2, .ref a2), (3, .ref a3)]) (j := 6) dL_law_1407 rfl rfl (by decide) rfl ?_
      refine x_goto (tgt := 23) dL_law_1410 (by decide) ?_
      refine x_sub (L' := [(0, .ref b), (1, .ref a1), (2, .ref a2), (3, .ref a3), (4, .int (x4 + 4))]) [3, 4, 5, 6, 0] rfl ?_
      exact hR23 a1 a2 a3 (x4 + 4) t_7 (rc - m_3) (rs - z_4) h
    · have h := h2 q
      refine x_aload_n 5 dL_law_1212 rfl rfl ?_
      refine x_iconst (v := (0 : Int32)) dL_law_1213 (by decide) ?_
      obtain ⟨n, f, hf, hi, h⟩ := h
      refine x_lald dL_law_1214 hf hi ?_
      generalize f _ = y_9 at h ⊢
      refine x_iload 0 dL_law_1215 rfl ?_
      refine x_i2l dL_law_1217 ?_
      obtain ⟨h1, h2⟩ := h
      refine x_lcmp_eq (tgt := 1224) dL_law_1218 dL_law_1219 (by decide) (fun q => ?_) (fun q => ?_)
      · have h := h1 q
        refine x_goto (tgt := 1407) dL_law_1224 (by decide) ?_
        refine x_iinc (v := (x4 + 4)) (L' := [(4, .int (x4 + 4)), (6, .int x_6), (5, .int x_2), (0, .ref b), (1, .ref a1), (2, .ref a2), (3, .ref a3)]) (j := 6) dL_law_1407 rfl rfl (by decide) rfl ?_
        refine x_goto (tgt := 23) dL_law_1410 (by decide) ?_
        refine x_sub (L' := [(0, .ref b), (1, .ref a1), (2, .ref a2), (3, .ref a3), (4, .int (x4 + 4))]) [3, 4, 5, 6, 0] rfl ?_
        exact hR23 a1 a2 a3 (x4 + 4) t_7 (rc - m_3) (rs - z_4) h
      · have h := h2 q
        refine x_iconst (v := (0 : Int32)) dL_law_1222 (by decide) ?_
        exact x_lawret hz rfl dL_law_1223 h
  · have h := h2 q
    refine x_iconst (v := (0 : Int32)) dL_law_1205 (by decide) ?_
    exact x_lawret hz rfl dL_law_1206 h
def V_L_law_1227 (E : Nat → Nat) (sl : Nat) (sx : Nat → Int32) (R23 : Nat → Nat → Nat → Int32 → xT → Nat → Nat → Prop)  (a1 : Nat) (a2 : Nat) (a3 : Nat) (x4 : Int32) (t : xT) (rc rs : Nat) : Prop :=
  (vp_in (x4 + (1 : Int32)) sl ∧ (vp_in (x4 + (2 : Int32)) sl ∧ (∃ m_3 z_4 : Nat, m_3 ≤ rc ∧ z_4 ≤ rs ∧ V_L_use_0 (fun x_2 t_1 => (vp_in (x4 + (1 : Int32)) sl ∧ (vp_in (x4 + (2 : Int32)) sl ∧ (xis t_1 a2 8 ∧ V_X8_use_0 (fun x_6 t_5 => (xis t_5 a2 8 ∧ V_X8_thrown_0 (fun x_8 t_7 => ((x_8 = x_2 → ((¬ x_2 = 0 → R23 a1 a2 a3 (x4 + 4) t_7 (rc - m_3) (rs - z_4)) ∧ (x_2 = 0 → xaJ t_7 a3 (0 : Int32) fun y_9 => ((y_9 = x_6.toInt64 → R23 a1 a2 a3 (x4 + 4) t_7 (rc - m_3) (rs - z_4)) ∧ (¬ y_9 = x_6.toInt64 → ((0 : Int32) = 1)))))) ∧ (¬ x_8 = x_2 → ((0 : Int32) = 1)))) a2 t_5)) a2 (sx (Int32.toNatClampNeg (x4 + (1 : Int32)))) (sx (Int32.toNatClampNeg (x4 + (2 : Int32)))) t_1)))) a1 (sx (Int32.toNatClampNeg (x4 + (1 : Int32)))) (sx (Int32.toNatClampNeg (x4 + (2 : Int32)))) a3 t m_3 z_4)))
set_option maxRecDepth 20000 in
theorem S_L_law_1227 {Γ : xΓ} {b sl : Nat} {sx : Nat → Int32} {R23 : Nat → Nat → Nat → Int32 → xT → Nat → Nat → Prop} (hl : (gl Γ).stackTraces = false) (hz : xLw Γ b sl sx) (hR23 : ∀ (a1 : Nat) (a2 : Nat) (a3 : Nat) (x4 : Int32) (t : xT) (rc rs : Nat), R23 a1 a2 a3 x4 t rc rs → xX Γ k_L_law 23 [(0, .ref b), (1, .ref a1), (2, .ref a2), (3, .ref a3), (4, .int x4)] [] t rc rs) {a1 : Nat} {a2 : Nat} {a3 : Nat} {x4 : Int32} {t : xT} {rc rs : Nat} (h : V_L_law_1227 (gG Γ).2.2.2 sl sx R23 a1 a2 a3 x4 t rc rs) : xX Γ k_L_law 1227 [(0, .ref b), (1, .ref a1), (2, .ref a2), (3, .ref a3), (4, .int x4)] [] t rc rs := by
  unfold V_L_law_1227 at h
  refine x_aload_n 1 dL_law_1227 rfl rfl ?_
  refine x_aload_n 0 dL_law_1228 rfl rfl ?_
  refine x_iload 4 dL_law_1229 rfl ?_
  refine x_iconst (v := (1 : Int32)) dL_law_1231 (by decide) ?_
  refine x_iadd dL_law_1232 ?_
  obtain ⟨hi, h⟩ := h
  refine x_sld hz dL_law_1233 hi ?_
  refine x_aload_n 0 dL_law_1234 rfl rfl ?_
  refine x_iload 4 dL_law_1235 rfl ?_
  refine x_iconst (v := (2 : Int32)) dL_law_1237 (by decide) ?_
  refine x_iadd dL_law_1238 ?_
  obtain ⟨hi, h⟩ := h
  refine x_sld hz dL_law_1239 hi ?_
  refine x_aload_n 3 dL_law_1240 rfl rfl ?_
  obtain ⟨m_3, z_4, hm, hs, h⟩ := h
  refine x_invSH (as := [.ref a1, .int (sx (Int32.toNatClampNeg (x4 + (1 : Int32)))), .int (sx (Int32.toNatClampNeg (x4 + (2 : Int32)))), .ref a3]) (rest := []) dL_law_1241 xc_L_law_150 (M_L_use hl h) rfl rfl (Nat.le_of_ble_eq_true rfl) hm hs (xk_i fun x_2 t_1 h => ?_)
  refine x_istore (L' := [(5, .int x_2), (0, .ref b), (1, .ref a1), (2, .ref a2), (3, .ref a3), (4, .int x4)]) dL_law_1244 (by decide) rfl ?_
  refine x_aload_n 3 dL_law_1246 rfl rfl ?_
  refine x_aload_n 1 dL_law_1247 rfl rfl ?_
  refine x_iload 5 dL_law_1248 rfl ?_
  refine x_iconst (v := (1 : Int32)) dL_law_1250 (by decide) ?_
  refine x_iadd dL_law_1251 ?_
  obtain ⟨hi, h⟩ := h
  refine x_sld hz dL_law_1252 hi ?_
  refine x_aload_n 1 dL_law_1253 rfl rfl ?_
  refine x_iload 5 dL_law_1254 rfl ?_
  refine x_iconst (v := (2 : Int32)) dL_law_1256 (by decide) ?_
  refine x_iadd dL_law_1257 ?_
  obtain ⟨hi, h⟩ := h
  refine x_sld hz dL_law_1258 hi ?_
  obtain ⟨⟨fs, hf⟩, h⟩ := h
  refine x_invV (as := [.int (sx (Int32.toNatClampNeg (x4 + (1 : Int32)))), .int (sx (Int32.toNatClampNeg (x4 + (2 : Int32))))]) (rest := []) dL_law_1259 (q := (RX8, TX8, 40)) rfl xc_L_law_152 hf (M_X8_use hl h) rfl rfl (Nat.le_of_ble_eq_true rfl) (Nat.zero_le _) (Nat.zero_le _) (xk_i fun x_6 t_5 h => ?_)
  refine x_istore (L' := [(6, .int x_6), (5, .int x_2), (0, .ref b), (1, .ref a1), (2, .ref a2), (3, .ref a3), (4, .int x4)]) dL_law_1262 (by decide) rfl ?_
  refine x_aload_n 4 dL_law_1264 rfl rfl ?_
  obtain ⟨⟨fs, hf⟩, h⟩ := h
  refine x_invV (as := []) (rest := []) dL_law_1265 (q := (RX8, TX8, 40)) rfl xc_L_law_91 hf (M_X8_thrown hl h) rfl rfl (Nat.le_of_ble_eq_true rfl) (Nat.zero_le _) (Nat.zero_le _) (xk_i fun x_8 t_7 h => ?_)
  refine x_iload 1 dL_law_1268 rfl ?_
  obtain ⟨h1, h2⟩ := h
  refine x_icmp_eq (tgt := 1275) dL_law_1270 (by decide) (fun q => ?_) (fun q => ?_)
  · have h := h1 q
    refine x_iload 1 dL_law_1275 rfl ?_
    obtain ⟨h1, h2⟩ := h
    refine x_if_ne (tgt := 1292) dL_law_1277 (by decide) (fun q => ?_) (fun q => ?_)
    · have h := h1 q
      refine x_goto (tgt := 1407) dL_law_1292 (by decide) ?_
      refine x_iinc (v := (x4 + 4)) (L' := [(4, .int (x4 + 4)), (6, .int x_6), (5, .int x_2), (0, .ref b), (1, .ref a1), (2, .ref a2), (3, .ref a3)]) (j := 6) dL_law_1407 rfl rfl (by decide) rfl ?_
      refine x_goto (tgt := 23) dL_law_1410 (by decide) ?_
      refine x_sub (L' := [(0, .ref b), (1, .ref a1), (2, .ref a2), (3, .ref a3), (4, .int (x4 + 4))]) [3, 4, 5, 6, 0] rfl ?_
      exact hR23 a1 a2 a3 (x4 + 4) t_7 (rc - m_3) (rs - z_4) h
    · have h := h2 q
      refine x_aload_n 5 dL_law_1280 rfl rfl ?_
      refine x_iconst (v := (0 : Int32)) dL_law_1281 (by decide) ?_
      obtain ⟨n, f, hf, hi, h⟩ := h
      refine x_lald dL_law_1282 hf hi ?_
      generalize f _ = y_9 at h ⊢
      refine x_iload 0 dL_law_1283 rfl ?_
      refine x_i2l dL_law_1285 ?_
      obtain ⟨h1, h2⟩ := h
      refine x_lcmp_eq (tgt := 1292) dL_law_1286 dL_law_1287 (by decide) (fun q => ?_) (fun q => ?_)
      · have h := h1 q
        refine x_goto (tgt := 1407) dL_law_1292 (by decide) ?_
        refine x_iinc (v := (x4 + 4)) (L' := [(4, .int (x4 + 4)), (6, .int x_6), (5, .int x_2), (0, .ref b), (1, .ref a1), (2, .ref a2), (3, .ref a3)]) (j := 6) dL_law_1407 rfl rfl (by decide) rfl ?_
        refine x_goto (tgt := 23) dL_law_1410 (by decide) ?_
        refine x_sub (L' := [(0, .ref b), (1, .ref a1), (2, .ref a2), (3, .ref a3), (4, .int (x4 + 4))]) [3, 4, 5, 6, 0] rfl ?_
        exact hR23 a1 a2 a3 (x4 + 4) t_7 (rc - m_3) (rs - z_4) h
      · have h := h2 q
        refine x_iconst (v := (0 : Int32)) dL_law_1290 (by decide) ?_
        exact x_lawret hz rfl dL_law_1291 h
  · have h := h2 q
    refine x_iconst (v := (0 : Int32)) dL_law_1273 (by decide) ?_
    exact x_lawret hz rfl dL_law_1274 h
def V_L_law_1295 (E : Nat → Nat) (sl : Nat) (sx : Nat → Int32) (R23 : Nat → Nat → Nat → Int32 → xT → Nat → Nat → Prop)  (a1 : Nat) (a2 : Nat) (a3 : Nat) (x4 : Int32) (t : xT) (rc rs : Nat) : Prop :=
  (vp_in (x4 + (1 : Int32)) sl ∧ (∃ m_3 z_4 : Nat, m_3 ≤ rc ∧ z_4 ≤ rs ∧ V_L_points_0 (fun x_2 t_1 => (vp_in (x4 + (1 : Int32)) sl ∧ (xis t_1 a2 8 ∧ V_X8_points_0 (fun x_6 t_5 => (xis t_5 a2 8 ∧ V_X8_thrown_0 (fun x_8 t_7 => ((x_8 = x_2 → ((¬ x_2 = 0 → R23 a1 a2 a3 (x4 + 4) t_7 (rc - m_3) (rs - z_4)) ∧ (x_2 = 0 → xaJ t_7 a3 (0 : Int32) fun y_9 => ((y_9 = x_6.toInt64 → R23 a1 a2 a3 (x4 + 4) t_7 (rc - m_3) (rs - z_4)) ∧ (¬ y_9 = x_6.toInt64 → ((0 : Int32) = 1)))))) ∧ (¬ x_8 = x_2 → ((0 : Int32) = 1)))) a2 t_5)) a2 (sx (Int32.toNatClampNeg (x4 + (1 : Int32)))) t_1))) a1 (sx (Int32.toNatClampNeg (x4 + (1 : Int32)))) a3 t m_3 z_4))
set_option maxRecDepth 20000 in
theorem S_L_law_1295 {Γ : xΓ} {b sl : Nat} {sx : Nat → Int32} {R23 : Nat → Nat → Nat → Int32 → xT → Nat → Nat → Prop} (hl : (gl Γ).stackTraces = false) (hz : xLw Γ b sl sx) (hR23 : ∀ (a1 : Nat) (a2 : Nat) (a3 : Nat) (x4 : Int32) (t : xT) (rc rs : Nat), R23 a1 a2 a3 x4 t rc rs → xX Γ k_L_law 23 [(0, .ref b), (1, .ref a1), (2, .ref a2), (3, .ref a3), (4, .int x4)] [] t rc rs) {a1 : Nat} {a2 : Nat} {a3 : Nat} {x4 : Int32} {t : xT} {rc rs : Nat} (h : V_L_law_1295 (gG Γ).2.2.2 sl sx R23 a1 a2 a3 x4 t rc rs) : xX Γ k_L_law 1295 [(0, .ref b), (1, .ref a1), (2, .ref a2), (3, .ref a3), (4, .int x4)] [] t rc rs := by
  unfold V_L_law_1295 at h
  refine x_aload_n 1 dL_law_1295 rfl rfl ?_
  refine x_aload_n 0 dL_law_1296 rfl rfl ?_
  refine x_iload 4 dL_law_1297 rfl ?_
  refine x_iconst (v := (1 : Int32)) dL_law_1299 (by decide) ?_
  refine x_iadd dL_law_1300 ?_
  obtain ⟨hi, h⟩ := h
  refine x_sld hz dL_law_1301 hi ?_
  refine x_aload_n 3 dL_law_1302 rfl rfl ?_
  obtain ⟨m_3, z_4, hm, hs, h⟩ := h
  refine x_invSH (as := [.ref a1, .int (sx (Int32.toNatClampNeg (x4 + (1 : Int32)))), .ref a3]) (rest := []) dL_law_1303 xc_L_law_153 (M_L_points hl h) rfl rfl (Nat.le_of_ble_eq_true rfl) hm hs (xk_i fun x_2 t_1 h => ?_)
  refine x_istore (L' := [(5, .int x_2), (0, .ref b), (1, .ref a1), (2, .ref a2), (3, .ref a3), (4, .int x4)]) dL_law_1306 (by decide) rfl ?_
  refine x_aload_n 3 dL_law_1308 rfl rfl ?_
  refine x_aload_n 1 dL_law_1309 rfl rfl ?_
  refine x_iload 5 dL_law_1310 rfl ?_
  refine x_iconst (v := (1 : Int32)) dL_law_1312 (by decide) ?_
  refine x_iadd dL_law_1313 ?_
  obtain ⟨hi, h⟩ := h
  refine x_sld hz dL_law_1314 hi ?_
  obtain ⟨⟨fs, hf⟩, h⟩ := h
  refine x_invV (as := [.int (sx (Int32.toNatClampNeg (x4 + (1 : Int32))))]) (rest := []) dL_law_1315 (q := (RX8, TX8, 40)) rfl xc_L_law_155 hf (M_X8_points hl h) rfl rfl (Nat.le_of_ble_eq_true rfl) (Nat.zero_le _) (Nat.zero_le _) (xk_i fun x_6 t_5 h => ?_)
  refine x_istore (L' := [(6, .int x_6), (5, .int x_2), (0, .ref b), (1, .ref a1), (2, .ref a2), (3, .ref a3), (4, .int x4)]) dL_law_1318 (by decide) rfl ?_
  refine x_aload_n 4 dL_law_1320 rfl rfl ?_
  obtain ⟨⟨fs, hf⟩, h⟩ := h
  refine x_invV (as := []) (rest := []) dL_law_1321 (q := (RX8, TX8, 40)) rfl xc_L_law_91 hf (M_X8_thrown hl h) rfl rfl (Nat.le_of_ble_eq_true rfl) (Nat.zero_le _) (Nat.zero_le _) (xk_i fun x_8 t_7 h => ?_)
  refine x_iload 1 dL_law_1324 rfl ?_
  obtain ⟨h1, h2⟩ := h
  refine x_icmp_eq (tgt := 1331) dL_law_1326 (by decide) (fun q => ?_) (fun q => ?_)
  · have h := h1 q
    refine x_iload 1 dL_law_1331 rfl ?_
    obtain ⟨h1, h2⟩ := h
    refine x_if_ne (tgt := 1348) dL_law_1333 (by decide) (fun q => ?_) (fun q => ?_)
    · have h := h1 q
      refine x_goto (tgt := 1407) dL_law_1348 (by decide) ?_
      refine x_iinc (v := (x4 + 4)) (L' := [(4, .int (x4 + 4)), (6, .int x_6), (5, .int x_2), (0, .ref b), (1, .ref a1), (2, .ref a2), (3, .ref a3)]) (j := 6) dL_law_1407 rfl rfl (by decide) rfl ?_
      refine x_goto (tgt := 23) dL_law_1410 (by decide) ?_
      refine x_sub (L' := [(0, .ref b), (1, .ref a1), (2, .ref a2), (3, .ref a3), (4, .int (x4 + 4))]) [3, 4, 5, 6, 0] rfl ?_
      exact hR23 a1 a2 a3 (x4 + 4) t_7 (rc - m_3) (rs - z_4) h
    · have h := h2 q
      refine x_aload_n 5 dL_law_1336 rfl rfl ?_
      refine x_iconst (v := (0 : Int32)) dL_law_1337 (by decide) ?_
      obtain ⟨n, f, hf, hi, h⟩ := h
      refine x_lald dL_law_1338 hf hi ?_
      generalize f _ = y_9 at h ⊢
      refine x_iload 0 dL_law_1339 rfl ?_
      refine x_i2l dL_law_1341 ?_
      obtain ⟨h1, h2⟩ := h
      refine x_lcmp_eq (tgt := 1348) dL_law_1342 dL_law_1343 (by decide) (fun q => ?_) (fun q => ?_)
      · have h := h1 q
        refine x_goto (tgt := 1407) dL_law_1348 (by decide) ?_
        refine x_iinc (v := (x4 + 4)) (L' := [(4, .int (x4 + 4)), (6, .int x_6), (5, .int x_2), (0, .ref b), (1, .ref a1), (2, .ref a2), (3, .ref a3)]) (j := 6) dL_law_1407 rfl rfl (by decide) rfl ?_
        refine x_goto (tgt := 23) dL_law_1410 (by decide) ?_
        refine x_sub (L' := [(0, .ref b), (1, .ref a1), (2, .ref a2), (3, .ref a3), (4, .int (x4 + 4))]) [3, 4, 5, 6, 0] rfl ?_
        exact hR23 a1 a2 a3 (x4 + 4) t_7 (rc - m_3) (rs - z_4) h
      · have h := h2 q
        refine x_iconst (v := (0 : Int32)) dL_law_1346 (by decide) ?_
        exact x_lawret hz rfl dL_law_1347 h
  · have h := h2 q
    refine x_iconst (v := (0 : Int32)) dL_law_1329 (by decide) ?_
    exact x_lawret hz rfl dL_law_1330 h
def V_L_law_1351 (E : Nat → Nat) (sl : Nat) (sx : Nat → Int32) (R23 : Nat → Nat → Nat → Int32 → xT → Nat → Nat → Prop)  (a1 : Nat) (a2 : Nat) (a3 : Nat) (x4 : Int32) (t : xT) (rc rs : Nat) : Prop :=
  (vp_in (x4 + (1 : Int32)) sl ∧ (∃ m_3 z_4 : Nat, m_3 ≤ rc ∧ z_4 ≤ rs ∧ V_L_planOf_0 (fun x_2 t_1 => (vp_in (x4 + (1 : Int32)) sl ∧ (xis t_1 a2 8 ∧ V_X8_planOf_0 (fun x_6 t_5 => (xis t_5 a2 8 ∧ V_X8_thrown_0 (fun x_8 t_7 => ((x_8 = x_2 → ((¬ x_2 = 0 → R23 a1 a2 a3 (x4 + 4) t_7 (rc - m_3) (rs - z_4)) ∧ (x_2 = 0 → xaJ t_7 a3 (0 : Int32) fun y_9 => ((y_9 = x_6.toInt64 → R23 a1 a2 a3 (x4 + 4) t_7 (rc - m_3) (rs - z_4)) ∧ (¬ y_9 = x_6.toInt64 → ((0 : Int32) = 1)))))) ∧ (¬ x_8 = x_2 → ((0 : Int32) = 1)))) a2 t_5)) a2 (sx (Int32.toNatClampNeg (x4 + (1 : Int32)))) t_1))) a1 (sx (Int32.toNatClampNeg (x4 + (1 : Int32)))) a3 t m_3 z_4))
set_option maxRecDepth 20000 in
theorem S_L_law_1351 {Γ : xΓ} {b sl : Nat} {sx : Nat → Int32} {R23 : Nat → Nat → Nat → Int32 → xT → Nat → Nat → Prop} (hl : (gl Γ).stackTraces = false) (hz : xLw Γ b sl sx) (hR23 : ∀ (a1 : Nat) (a2 : Nat) (a3 : Nat) (x4 : Int32) (t : xT) (rc rs : Nat), R23 a1 a2 a3 x4 t rc rs → xX Γ k_L_law 23 [(0, .ref b), (1, .ref a1), (2, .ref a2), (3, .ref a3), (4, .int x4)] [] t rc rs) {a1 : Nat} {a2 : Nat} {a3 : Nat} {x4 : Int32} {t : xT} {rc rs : Nat} (h : V_L_law_1351 (gG Γ).2.2.2 sl sx R23 a1 a2 a3 x4 t rc rs) : xX Γ k_L_law 1351 [(0, .ref b), (1, .ref a1), (2, .ref a2), (3, .ref a3), (4, .int x4)] [] t rc rs := by
  unfold V_L_law_1351 at h
  refine x_aload_n 1 dL_law_1351 rfl rfl ?_
  refine x_aload_n 0 dL_law_1352 rfl rfl ?_
  refine x_iload 4 dL_law_1353 rfl ?_
  refine x_iconst (v := (1 : Int32)) dL_law_1355 (by decide) ?_
  refine x_iadd dL_law_1356 ?_
  obtain ⟨hi, h⟩ := h
  refine x_sld hz dL_law_1357 hi ?_
  refine x_aload_n 3 dL_law_1358 rfl rfl ?_
  obtain ⟨m_3, z_4, hm, hs, h⟩ := h
  refine x_invSH (as := [.ref a1, .int (sx (Int32.toNatClampNeg (x4 + (1 : Int32)))), .ref a3]) (rest := []) dL_law_1359 xc_L_law_156 (M_L_planOf hl h) rfl rfl (Nat.le_of_ble_eq_true rfl) hm hs (xk_i fun x_2 t_1 h => ?_)
  refine x_istore (L' := [(5, .int x_2), (0, .ref b), (1, .ref a1), (2, .ref a2), (3, .ref a3), (4, .int x4)]) dL_law_1362 (by decide) rfl ?_
  refine x_aload_n 3 dL_law_1364 rfl rfl ?_
  refine x_aload_n 1 dL_law_1365 rfl rfl ?_
  refine x_iload 5 dL_law_1366 rfl ?_
  refine x_iconst (v := (1 : Int32)) dL_law_1368 (by decide) ?_
  refine x_iadd dL_law_1369 ?_
  obtain ⟨hi, h⟩ := h
  refine x_sld hz dL_law_1370 hi ?_
  obtain ⟨⟨fs, hf⟩, h⟩ := h
  refine x_invV (as := [.int (sx (Int32.toNatClampNeg (x4 + (1 : Int32))))]) (rest := []) dL_law_1371 (q := (RX8, TX8, 40)) rfl xc_L_law_158 hf (M_X8_planOf hl h) rfl rfl (Nat.le_of_ble_eq_true rfl) (Nat.zero_le _) (Nat.zero_le _) (xk_i fun x_6 t_5 h => ?_)
  refine x_istore (L' := [(6, .int x_6), (5, .int x_2), (0, .ref b), (1, .ref a1), (2, .ref a2), (3, .ref a3), (4, .int x4)]) dL_law_1374 (by decide) rfl ?_
  refine x_aload_n 4 dL_law_1376 rfl rfl ?_
  obtain ⟨⟨fs, hf⟩, h⟩ := h
  refine x_invV (as := []) (rest := []) dL_law_1377 (q := (RX8, TX8, 40)) rfl xc_L_law_91 hf (M_X8_thrown hl h) rfl rfl (Nat.le_of_ble_eq_true rfl) (Nat.zero_le _) (Nat.zero_le _) (xk_i fun x_8 t_7 h => ?_)
  refine x_iload 1 dL_law_1380 rfl ?_
  obtain ⟨h1, h2⟩ := h
  refine x_icmp_eq (tgt := 1387) dL_law_1382 (by decide) (fun q => ?_) (fun q => ?_)
  · have h := h1 q
    refine x_iload 1 dL_law_1387 rfl ?_
    obtain ⟨h1, h2⟩ := h
    refine x_if_ne (tgt := 1404) dL_law_1389 (by decide) (fun q => ?_) (fun q => ?_)
    · have h := h1 q
      refine x_goto (tgt := 1407) dL_law_1404 (by decide) ?_
      refine x_iinc (v := (x4 + 4)) (L' := [(4, .int (x4 + 4)), (6, .int x_6), (5, .int x_2), (0, .ref b), (1, .ref a1), (2, .ref a2), (3, .ref a3)]) (j := 6) dL_law_1407 rfl rfl (by decide) rfl ?_
      refine x_goto (tgt := 23) dL_law_1410 (by decide) ?_
      refine x_sub (L' := [(0, .ref b), (1, .ref a1), (2, .ref a2), (3, .ref a3), (4, .int (x4 + 4))]) [3, 4, 5, 6, 0] rfl ?_
      exact hR23 a1 a2 a3 (x4 + 4) t_7 (rc - m_3) (rs - z_4) h
    · have h := h2 q
      refine x_aload_n 5 dL_law_1392 rfl rfl ?_
      refine x_iconst (v := (0 : Int32)) dL_law_1393 (by decide) ?_
      obtain ⟨n, f, hf, hi, h⟩ := h
      refine x_lald dL_law_1394 hf hi ?_
      generalize f _ = y_9 at h ⊢
      refine x_iload 0 dL_law_1395 rfl ?_
      refine x_i2l dL_law_1397 ?_
      obtain ⟨h1, h2⟩ := h
      refine x_lcmp_eq (tgt := 1404) dL_law_1398 dL_law_1399 (by decide) (fun q => ?_) (fun q => ?_)
      · have h := h1 q
        refine x_goto (tgt := 1407) dL_law_1404 (by decide) ?_
        refine x_iinc (v := (x4 + 4)) (L' := [(4, .int (x4 + 4)), (6, .int x_6), (5, .int x_2), (0, .ref b), (1, .ref a1), (2, .ref a2), (3, .ref a3)]) (j := 6) dL_law_1407 rfl rfl (by decide) rfl ?_
        refine x_goto (tgt := 23) dL_law_1410 (by decide) ?_
        refine x_sub (L' := [(0, .ref b), (1, .ref a1), (2, .ref a2), (3, .ref a3), (4, .int (x4 + 4))]) [3, 4, 5, 6, 0] rfl ?_
        exact hR23 a1 a2 a3 (x4 + 4) t_7 (rc - m_3) (rs - z_4) h
      · have h := h2 q
        refine x_iconst (v := (0 : Int32)) dL_law_1402 (by decide) ?_
        exact x_lawret hz rfl dL_law_1403 h
  · have h := h2 q
    refine x_iconst (v := (0 : Int32)) dL_law_1385 (by decide) ?_
    exact x_lawret hz rfl dL_law_1386 h
def VS_L_law_23 (E : Nat → Nat) (sl : Nat) (sx : Nat → Int32)  (R23 : Nat → Nat → Nat → Int32 → xT → Nat → Nat → Prop) (a1 : Nat) (a2 : Nat) (a3 : Nat) (x4 : Int32) (t : xT) (rc rs : Nat) : Prop :=
  ((((Int32.ofNat sl) - (4 : Int32)) < x4 → ((1 : Int32) = 1)) ∧ (¬ ((Int32.ofNat sl) - (4 : Int32)) < x4 → (vp_in x4 sl ∧ ((((sx (Int32.toNatClampNeg x4)) &&& (31 : Int32)).toInt < 0 ∨ 20 < ((sx (Int32.toNatClampNeg x4)) &&& (31 : Int32)).toInt → R23 a1 a2 a3 (x4 + 4) t rc rs) ∧ (((sx (Int32.toNatClampNeg x4)) &&& (31 : Int32)).toInt = 0 → V_L_law_136 E sl sx R23 a1 a2 a3 x4 t rc rs) ∧ (((sx (Int32.toNatClampNeg x4)) &&& (31 : Int32)).toInt = 1 → V_L_law_192 E sl sx R23 a1 a2 a3 x4 t rc rs) ∧ (((sx (Int32.toNatClampNeg x4)) &&& (31 : Int32)).toInt = 2 → V_L_law_260 E sl sx R23 a1 a2 a3 x4 t rc rs) ∧ (((sx (Int32.toNatClampNeg x4)) &&& (31 : Int32)).toInt = 3 → V_L_law_316 E sl sx R23 a1 a2 a3 x4 t rc rs) ∧ (((sx (Int32.toNatClampNeg x4)) &&& (31 : Int32)).toInt = 4 → V_L_law_372 E sl sx R23 a1 a2 a3 x4 t rc rs) ∧ (((sx (Int32.toNatClampNeg x4)) &&& (31 : Int32)).toInt = 5 → V_L_law_440 E sl sx R23 a1 a2 a3 x4 t rc rs) ∧ (((sx (Int32.toNatClampNeg x4)) &&& (31 : Int32)).toInt = 6 → V_L_law_496 E sl sx R23 a1 a2 a3 x4 t rc rs) ∧ (((sx (Int32.toNatClampNeg x4)) &&& (31 : Int32)).toInt = 7 → V_L_law_564 E sl sx R23 a1 a2 a3 x4 t rc rs) ∧ (((sx (Int32.toNatClampNeg x4)) &&& (31 : Int32)).toInt = 8 → V_L_law_620 E sl sx R23 a1 a2 a3 x4 t rc rs) ∧ (((sx (Int32.toNatClampNeg x4)) &&& (31 : Int32)).toInt = 9 → V_L_law_699 E sl sx R23 a1 a2 a3 x4 t rc rs) ∧ (((sx (Int32.toNatClampNeg x4)) &&& (31 : Int32)).toInt = 10 → V_L_law_766 E sl sx R23 a1 a2 a3 x4 t rc rs) ∧ (((sx (Int32.toNatClampNeg x4)) &&& (31 : Int32)).toInt = 11 → V_L_law_833 E sl sx R23 a1 a2 a3 x4 t rc rs) ∧ (((sx (Int32.toNatClampNeg x4)) &&& (31 : Int32)).toInt = 12 → V_L_law_889 E sl sx R23 a1 a2 a3 x4 t rc rs) ∧ (((sx (Int32.toNatClampNeg x4)) &&& (31 : Int32)).toInt = 13 → V_L_law_944 E sl sx R23 a1 a2 a3 x4 t rc rs) ∧ (((sx (Int32.toNatClampNeg x4)) &&& (31 : Int32)).toInt = 14 → V_L_law_999 E sl sx R23 a1 a2 a3 x4 t rc rs) ∧ (((sx (Int32.toNatClampNeg x4)) &&& (31 : Int32)).toInt = 15 → (xis t a1 7 ∧ V_X7_owner_0 (fun y_2 t_1 => (xis t_1 a2 8 ∧ V_X8_owner_0 (fun y_4 t_3 => ((y_2 = y_4 → R23 a1 a2 a3 (x4 + 4) t_3 rc rs) ∧ (¬ y_2 = y_4 → ((0 : Int32) = 1)))) a2 t_1)) a1 t)) ∧ (((sx (Int32.toNatClampNeg x4)) &&& (31 : Int32)).toInt = 16 → V_L_law_1068 E sl sx R23 a1 a2 a3 x4 t rc rs) ∧ (((sx (Int32.toNatClampNeg x4)) &&& (31 : Int32)).toInt = 17 → V_L_law_1147 E sl sx R23 a1 a2 a3 x4 t rc rs) ∧ (((sx (Int32.toNatClampNeg x4)) &&& (31 : Int32)).toInt = 18 → V_L_law_1227 E sl sx R23 a1 a2 a3 x4 t rc rs) ∧ (((sx (Int32.toNatClampNeg x4)) &&& (31 : Int32)).toInt = 19 → V_L_law_1295 E sl sx R23 a1 a2 a3 x4 t rc rs) ∧ (((sx (Int32.toNatClampNeg x4)) &&& (31 : Int32)).toInt = 20 → V_L_law_1351 E sl sx R23 a1 a2 a3 x4 t rc rs)))))
def V_L_law_23 (E : Nat → Nat) (sl : Nat) (sx : Nat → Int32)  (n : Nat) : Nat → Nat → Nat → Int32 → xT → Nat → Nat → Prop := Nat.rec (fun _ _ _ _ _ _ _ => False) (fun _ ih => VS_L_law_23 E sl sx ih) n
set_option maxRecDepth 20000 in
theorem S_L_law_23 {Γ : xΓ} {b sl : Nat} {sx : Nat → Int32} (hl : (gl Γ).stackTraces = false) (hz : xLw Γ b sl sx) : ∀ (n : Nat) (a1 : Nat) (a2 : Nat) (a3 : Nat) (x4 : Int32) (t : xT) (rc rs : Nat), V_L_law_23 (gG Γ).2.2.2 sl sx n a1 a2 a3 x4 t rc rs → xX Γ k_L_law 23 [(0, .ref b), (1, .ref a1), (2, .ref a2), (3, .ref a3), (4, .int x4)] [] t rc rs := by
  intro n
  induction n with
  | zero =>
    intro a1 a2 a3 x4 t rc rs h
    exact h.elim
  | succ n ih =>
    intro a1 a2 a3 x4 t rc rs h
    replace h : VS_L_law_23 (gG Γ).2.2.2 sl sx (V_L_law_23 (gG Γ).2.2.2 sl sx n) a1 a2 a3 x4 t rc rs := h
    unfold VS_L_law_23 at h
    refine x_iload 4 dL_law_23 rfl ?_
    refine x_aload_n 0 dL_law_25 rfl rfl ?_
    refine x_slen hz dL_law_26 ?_
    refine x_iconst (v := (4 : Int32)) dL_law_27 (by decide) ?_
    refine x_isub dL_law_28 ?_
    obtain ⟨h1, h2⟩ := h
    refine x_icmp_gt (tgt := 1413) dL_law_29 (by decide) (fun q => ?_) (fun q => ?_)
    · have h := h1 q
      refine x_iconst (v := (1 : Int32)) dL_law_1413 (by decide) ?_
      exact x_lawret hz rfl dL_law_1414 h
    · have h := h2 q
      refine x_aload_n 0 dL_law_32 rfl rfl ?_
      refine x_iload 4 dL_law_33 rfl ?_
      obtain ⟨hi, h⟩ := h
      refine x_sld hz dL_law_35 hi ?_
      refine x_bipush (v := (31 : Int32)) dL_law_36 (by decide) ?_
      refine x_iand dL_law_38 ?_
      obtain ⟨h0, h1, h2, h3, h4, h5, h6, h7, h8, h9, h10, h11, h12, h13, h14, h15, h16, h17, h18, h19, h20, h21⟩ := h
      by_cases q : ((sx (Int32.toNatClampNeg x4)) &&& (31 : Int32)).toInt < 0 ∨ 20 < ((sx (Int32.toNatClampNeg x4)) &&& (31 : Int32)).toInt
      · have h := h0 q
        refine x_tableOut (tgt := 1407) dL_law_39 q (by decide) ?_
        refine x_iinc (v := (x4 + 4)) (L' := [(4, .int (x4 + 4)), (0, .ref b), (1, .ref a1), (2, .ref a2), (3, .ref a3)]) (j := 4) dL_law_1407 rfl rfl (by decide) rfl ?_
        refine x_goto (tgt := 23) dL_law_1410 (by decide) ?_
        refine x_sub (L' := [(0, .ref b), (1, .ref a1), (2, .ref a2), (3, .ref a3), (4, .int (x4 + 4))]) [1, 2, 3, 4, 0] rfl ?_
        exact ih a1 a2 a3 (x4 + 4) t rc rs h
      · have e : ((sx (Int32.toNatClampNeg x4)) &&& (31 : Int32)).toInt = 0 ∨ ((sx (Int32.toNatClampNeg x4)) &&& (31 : Int32)).toInt = 1 ∨ ((sx (Int32.toNatClampNeg x4)) &&& (31 : Int32)).toInt = 2 ∨ ((sx (Int32.toNatClampNeg x4)) &&& (31 : Int32)).toInt = 3 ∨ ((sx (Int32.toNatClampNeg x4)) &&& (31 : Int32)).toInt = 4 ∨ ((sx (Int32.toNatClampNeg x4)) &&& (31 : Int32)).toInt = 5 ∨ ((sx (Int32.toNatClampNeg x4)) &&& (31 : Int32)).toInt = 6 ∨ ((sx (Int32.toNatClampNeg x4)) &&& (31 : Int32)).toInt = 7 ∨ ((sx (Int32.toNatClampNeg x4)) &&& (31 : Int32)).toInt = 8 ∨ ((sx (Int32.toNatClampNeg x4)) &&& (31 : Int32)).toInt = 9 ∨ ((sx (Int32.toNatClampNeg x4)) &&& (31 : Int32)).toInt = 10 ∨ ((sx (Int32.toNatClampNeg x4)) &&& (31 : Int32)).toInt = 11 ∨ ((sx (Int32.toNatClampNeg x4)) &&& (31 : Int32)).toInt = 12 ∨ ((sx (Int32.toNatClampNeg x4)) &&& (31 : Int32)).toInt = 13 ∨ ((sx (Int32.toNatClampNeg x4)) &&& (31 : Int32)).toInt = 14 ∨ ((sx (Int32.toNatClampNeg x4)) &&& (31 : Int32)).toInt = 15 ∨ ((sx (Int32.toNatClampNeg x4)) &&& (31 : Int32)).toInt = 16 ∨ ((sx (Int32.toNatClampNeg x4)) &&& (31 : Int32)).toInt = 17 ∨ ((sx (Int32.toNatClampNeg x4)) &&& (31 : Int32)).toInt = 18 ∨ ((sx (Int32.toNatClampNeg x4)) &&& (31 : Int32)).toInt = 19 ∨ ((sx (Int32.toNatClampNeg x4)) &&& (31 : Int32)).toInt = 20 := by omega
        rcases e with e | e | e | e | e | e | e | e | e | e | e | e | e | e | e | e | e | e | e | e | e
        · have h := h1 e
          refine x_tableIn (tgt := 136) dL_law_39 (by omega) (by omega) (by rw [e]; rfl) (by decide) ?_
          exact S_L_law_136 hl hz (fun p0 p1 p2 p3 p4 p5 p6 h => ih p0 p1 p2 p3 p4 p5 p6 h) h
        · have h := h2 e
          refine x_tableIn (tgt := 192) dL_law_39 (by omega) (by omega) (by rw [e]; rfl) (by decide) ?_
          exact S_L_law_192 hl hz (fun p0 p1 p2 p3 p4 p5 p6 h => ih p0 p1 p2 p3 p4 p5 p6 h) h
        · have h := h3 e
          refine x_tableIn (tgt := 260) dL_law_39 (by omega) (by omega) (by rw [e]; rfl) (by decide) ?_
          exact S_L_law_260 hl hz (fun p0 p1 p2 p3 p4 p5 p6 h => ih p0 p1 p2 p3 p4 p5 p6 h) h
        · have h := h4 e
          refine x_tableIn (tgt := 316) dL_law_39 (by omega) (by omega) (by rw [e]; rfl) (by decide) ?_
          exact S_L_law_316 hl hz (fun p0 p1 p2 p3 p4 p5 p6 h => ih p0 p1 p2 p3 p4 p5 p6 h) h
        · have h := h5 e
          refine x_tableIn (tgt := 372) dL_law_39 (by omega) (by omega) (by rw [e]; rfl) (by decide) ?_
          exact S_L_law_372 hl hz (fun p0 p1 p2 p3 p4 p5 p6 h => ih p0 p1 p2 p3 p4 p5 p6 h) h
        · have h := h6 e
          refine x_tableIn (tgt := 440) dL_law_39 (by omega) (by omega) (by rw [e]; rfl) (by decide) ?_
          exact S_L_law_440 hl hz (fun p0 p1 p2 p3 p4 p5 p6 h => ih p0 p1 p2 p3 p4 p5 p6 h) h
        · have h := h7 e
          refine x_tableIn (tgt := 496) dL_law_39 (by omega) (by omega) (by rw [e]; rfl) (by decide) ?_
          exact S_L_law_496 hl hz (fun p0 p1 p2 p3 p4 p5 p6 h => ih p0 p1 p2 p3 p4 p5 p6 h) h
        · have h := h8 e
          refine x_tableIn (tgt := 564) dL_law_39 (by omega) (by omega) (by rw [e]; rfl) (by decide) ?_
          exact S_L_law_564 hl hz (fun p0 p1 p2 p3 p4 p5 p6 h => ih p0 p1 p2 p3 p4 p5 p6 h) h
        · have h := h9 e
          refine x_tableIn (tgt := 620) dL_law_39 (by omega) (by omega) (by rw [e]; rfl) (by decide) ?_
          exact S_L_law_620 hl hz (fun p0 p1 p2 p3 p4 p5 p6 h => ih p0 p1 p2 p3 p4 p5 p6 h) h
        · have h := h10 e
          refine x_tableIn (tgt := 699) dL_law_39 (by omega) (by omega) (by rw [e]; rfl) (by decide) ?_
          exact S_L_law_699 hl hz (fun p0 p1 p2 p3 p4 p5 p6 h => ih p0 p1 p2 p3 p4 p5 p6 h) h
        · have h := h11 e
          refine x_tableIn (tgt := 766) dL_law_39 (by omega) (by omega) (by rw [e]; rfl) (by decide) ?_
          exact S_L_law_766 hl hz (fun p0 p1 p2 p3 p4 p5 p6 h => ih p0 p1 p2 p3 p4 p5 p6 h) h
        · have h := h12 e
          refine x_tableIn (tgt := 833) dL_law_39 (by omega) (by omega) (by rw [e]; rfl) (by decide) ?_
          exact S_L_law_833 hl hz (fun p0 p1 p2 p3 p4 p5 p6 h => ih p0 p1 p2 p3 p4 p5 p6 h) h
        · have h := h13 e
          refine x_tableIn (tgt := 889) dL_law_39 (by omega) (by omega) (by rw [e]; rfl) (by decide) ?_
          exact S_L_law_889 hl hz (fun p0 p1 p2 p3 p4 p5 p6 h => ih p0 p1 p2 p3 p4 p5 p6 h) h
        · have h := h14 e
          refine x_tableIn (tgt := 944) dL_law_39 (by omega) (by omega) (by rw [e]; rfl) (by decide) ?_
          exact S_L_law_944 hl hz (fun p0 p1 p2 p3 p4 p5 p6 h => ih p0 p1 p2 p3 p4 p5 p6 h) h
        · have h := h15 e
          refine x_tableIn (tgt := 999) dL_law_39 (by omega) (by omega) (by rw [e]; rfl) (by decide) ?_
          exact S_L_law_999 hl hz (fun p0 p1 p2 p3 p4 p5 p6 h => ih p0 p1 p2 p3 p4 p5 p6 h) h
        · have h := h16 e
          refine x_tableIn (tgt := 1054) dL_law_39 (by omega) (by omega) (by rw [e]; rfl) (by decide) ?_
          refine x_aload_n 1 dL_law_1054 rfl rfl ?_
          obtain ⟨⟨fs, hf⟩, h⟩ := h
          refine x_invV (as := []) (rest := []) dL_law_1055 (q := (RX7, TX7, 10)) rfl xc_L_law_139 hf (M_X7_owner hl h) rfl rfl (Nat.le_of_ble_eq_true rfl) (Nat.zero_le _) (Nat.zero_le _) (xk_l fun y_2 t_1 h => ?_)
          refine x_aload_n 2 dL_law_1058 rfl rfl ?_
          obtain ⟨⟨fs, hf⟩, h⟩ := h
          refine x_invV (as := []) (rest := [.long y_2]) dL_law_1059 (q := (RX8, TX8, 40)) rfl xc_L_law_143 hf (M_X8_owner hl h) rfl rfl (Nat.le_of_ble_eq_true rfl) (Nat.zero_le _) (Nat.zero_le _) (xk_l fun y_4 t_3 h => ?_)
          obtain ⟨h1, h2⟩ := h
          refine x_lcmp_eq (tgt := 1407) dL_law_1062 dL_law_1063 (by decide) (fun q => ?_) (fun q => ?_)
          · have h := h1 q
            refine x_iinc (v := (x4 + 4)) (L' := [(4, .int (x4 + 4)), (0, .ref b), (1, .ref a1), (2, .ref a2), (3, .ref a3)]) (j := 4) dL_law_1407 rfl rfl (by decide) rfl ?_
            refine x_goto (tgt := 23) dL_law_1410 (by decide) ?_
            refine x_sub (L' := [(0, .ref b), (1, .ref a1), (2, .ref a2), (3, .ref a3), (4, .int (x4 + 4))]) [1, 2, 3, 4, 0] rfl ?_
            exact ih a1 a2 a3 (x4 + 4) t_3 rc rs h
          · have h := h2 q
            refine x_iconst (v := (0 : Int32)) dL_law_1066 (by decide) ?_
            exact x_lawret hz rfl dL_law_1067 h
        · have h := h17 e
          refine x_tableIn (tgt := 1068) dL_law_39 (by omega) (by omega) (by rw [e]; rfl) (by decide) ?_
          exact S_L_law_1068 hl hz (fun p0 p1 p2 p3 p4 p5 p6 h => ih p0 p1 p2 p3 p4 p5 p6 h) h
        · have h := h18 e
          refine x_tableIn (tgt := 1147) dL_law_39 (by omega) (by omega) (by rw [e]; rfl) (by decide) ?_
          exact S_L_law_1147 hl hz (fun p0 p1 p2 p3 p4 p5 p6 h => ih p0 p1 p2 p3 p4 p5 p6 h) h
        · have h := h19 e
          refine x_tableIn (tgt := 1227) dL_law_39 (by omega) (by omega) (by rw [e]; rfl) (by decide) ?_
          exact S_L_law_1227 hl hz (fun p0 p1 p2 p3 p4 p5 p6 h => ih p0 p1 p2 p3 p4 p5 p6 h) h
        · have h := h20 e
          refine x_tableIn (tgt := 1295) dL_law_39 (by omega) (by omega) (by rw [e]; rfl) (by decide) ?_
          exact S_L_law_1295 hl hz (fun p0 p1 p2 p3 p4 p5 p6 h => ih p0 p1 p2 p3 p4 p5 p6 h) h
        · have h := h21 e
          refine x_tableIn (tgt := 1351) dL_law_39 (by omega) (by omega) (by rw [e]; rfl) (by decide) ?_
          exact S_L_law_1351 hl hz (fun p0 p1 p2 p3 p4 p5 p6 h => ih p0 p1 p2 p3 p4 p5 p6 h) h
def V_L_law_0 (E : Nat → Nat) (sl : Nat) (sx : Nat → Int32)  (t : xT) (rc rs : Nat) : Prop :=
  xnw (.inr (7, [.null, .null, .null, .null, .null, .null, .null, .int 0, .int 0, .long 0])) 10 t rc rs fun a_1 t_2 => (∃ m_4 z_5 : Nat, m_4 ≤ (rc - 1) ∧ z_5 ≤ (rs - 10) ∧ V_X7_init_0 E (fun t_3 => xnw (.inr (8, [.int 0, .int 0, .int 0, .null, .null, .null, .null, .null, .null, .null, .null, .int 0, .int 0, .null, .null, .null, .null, .null, .int 0, .null, .null, .null, .null, .null, .null, .null, .null, .null, .null, .null, .null, .null, .null, .null, .null, .null, .null, .null, .null, .int 0])) 40 t_3 ((rc - 1) - m_4) ((rs - 10) - z_5) fun a_6 t_7 => (∃ m_9 z_10 : Nat, m_9 ≤ (((rc - 1) - m_4) - 1) ∧ z_10 ≤ (((rs - 10) - z_5) - 40) ∧ V_X8_init_0 (fun t_8 => xnA 1 (.inr (.inl (fun _ => 0))) (1 : Int32) t_8 ((((rc - 1) - m_4) - 1) - m_9) ((((rs - 10) - z_5) - 40) - z_10) fun a_11 t_12 => ∃ f_13 : Nat, V_L_law_23 E sl sx f_13 a_1 a_6 a_11 (0 : Int32) t_12 (((((rc - 1) - m_4) - 1) - m_9) - 1) (((((rs - 10) - z_5) - 40) - z_10) - (1 : Int32).toNatClampNeg)) a_6 t_7 m_9 z_10)) a_1 t_2 m_4 z_5)
set_option maxRecDepth 20000 in
theorem S_L_law_0 {Γ : xΓ} {b sl : Nat} {sx : Nat → Int32} (hl : (gl Γ).stackTraces = false) (hz : xLw Γ b sl sx) {t : xT} {rc rs : Nat} (h : V_L_law_0 (gG Γ).2.2.2 sl sx t rc rs) : xX Γ k_L_law 0 [(0, .ref b)] [] t rc rs := by
  unfold V_L_law_0 at h
  obtain ⟨q1, q2, h⟩ := h
  refine x_new dL_law_0 xn_L_8 q1 q2 (fun a_1 hq => ?_)
  replace h := h a_1 hq
  generalize hT : xup t a_1 _ = t_2 at h ⊢
  clear hT
  refine x_dup dL_law_3 rfl ?_
  obtain ⟨m_4, z_5, hm, hs, h⟩ := h
  refine x_invI (as := []) (rest := [.ref a_1]) dL_law_4 xc_L_law_81 (M_X7_init hl h) rfl rfl (Nat.le_of_ble_eq_true rfl) hm hs (xk_v fun t_3 h => ?_)
  refine x_astore_n (L' := [(1, .ref a_1), (0, .ref b)]) dL_law_7 rfl (by decide) rfl ?_
  obtain ⟨q1, q2, h⟩ := h
  refine x_new dL_law_8 xn_L_82 q1 q2 (fun a_6 hq => ?_)
  replace h := h a_6 hq
  generalize hT : xup t_3 a_6 _ = t_7 at h ⊢
  clear hT
  refine x_dup dL_law_11 rfl ?_
  obtain ⟨m_9, z_10, hm, hs, h⟩ := h
  refine x_invI (as := []) (rest := [.ref a_6]) dL_law_12 xc_L_law_84 (M_X8_init hl h) rfl rfl (Nat.le_of_ble_eq_true rfl) hm hs (xk_v fun t_8 h => ?_)
  refine x_astore_n (L' := [(2, .ref a_6), (1, .ref a_1), (0, .ref b)]) dL_law_15 rfl (by decide) rfl ?_
  refine x_iconst (v := (1 : Int32)) dL_law_16 (by decide) ?_
  obtain ⟨q0, qb, q1, q2, h⟩ := h
  refine x_newa1 dL_law_17 xw1337 q0 qb q1 q2 (fun a_11 hq => ?_)
  replace h := h a_11 hq
  generalize hT : xup t_8 a_11 _ = t_12 at h ⊢
  clear hT
  refine x_astore_n (L' := [(3, .ref a_11), (2, .ref a_6), (1, .ref a_1), (0, .ref b)]) dL_law_19 rfl (by decide) rfl ?_
  refine x_iconst (v := (0 : Int32)) dL_law_20 (by decide) ?_
  refine x_istore (L' := [(4, .int (0 : Int32)), (3, .ref a_11), (2, .ref a_6), (1, .ref a_1), (0, .ref b)]) dL_law_21 (by decide) rfl ?_
  obtain ⟨f_13, h⟩ := h
  refine x_sub (L' := [(0, .ref b), (1, .ref a_1), (2, .ref a_6), (3, .ref a_11), (4, .int (0 : Int32))]) [4, 3, 2, 1, 0] rfl ?_
  exact S_L_law_23 hl hz  f_13 a_1 a_6 a_11 (0 : Int32) t_12 (((((rc - 1) - m_4) - 1) - m_9) - 1) (((((rs - 10) - z_5) - 40) - z_10) - (1 : Int32).toNatClampNeg) h
