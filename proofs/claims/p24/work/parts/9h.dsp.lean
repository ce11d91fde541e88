/-! ===== one call: which it is ===== -/
section DSP
variable {E : Nat → Nat} {K : Int64 → xT → Prop} {a0 m z : Nat} {x2 x3 x4 : Int32} {t : xT}
theorem ds_0 (hx : xis t a0 7) (h : V_X7_flat_0 E (KXt K) (fun x t => K x.toInt64 t) a0 x2 t m z) : V_L_does_0 E K a0 (0 : Int32) x2 x3 x4 t m z := by
  unfold V_L_does_0
  refine ⟨fun e => absurd rfl e, fun _ => ?_⟩
  exact ⟨hx, m, z, Nat.le_refl _, Nat.le_refl _, h⟩
theorem ds_1 (hx : xis t a0 7) (h : V_X7_lease_0 E (KXt K) (fun x t => K x.toInt64 t) a0 x2 x3 t m z) : V_L_does_0 E K a0 (1 : Int32) x2 x3 x4 t m z := by
  unfold V_L_does_0
  refine ⟨fun _ => ?_, fun e => absurd e (by decide)⟩
  refine ⟨fun e => absurd rfl e, fun _ => ?_⟩
  exact ⟨hx, m, z, Nat.le_refl _, Nat.le_refl _, h⟩
theorem ds_2 (hx : xis t a0 7) (h : V_X7_end_0 (KXt K) (fun x t => K x.toInt64 t) a0 x2 t m z) : V_L_does_0 E K a0 (2 : Int32) x2 x3 x4 t m z := by
  unfold V_L_does_0
  refine ⟨fun _ => ?_, fun e => absurd e (by decide)⟩
  refine ⟨fun _ => ?_, fun e => absurd e (by decide)⟩
  refine ⟨fun e => absurd rfl e, fun _ => ?_⟩
  exact ⟨hx, m, z, Nat.le_refl _, Nat.le_refl _, h⟩
theorem ds_3 (hx : xis t a0 7) (h : V_X7_index_0 (KXt K) (fun x t => K x.toInt64 t) a0 x2 t m z) : V_L_does_0 E K a0 (3 : Int32) x2 x3 x4 t m z := by
  unfold V_L_does_0
  refine ⟨fun _ => ?_, fun e => absurd e (by decide)⟩
  refine ⟨fun _ => ?_, fun e => absurd e (by decide)⟩
  refine ⟨fun _ => ?_, fun e => absurd e (by decide)⟩
  refine ⟨fun e => absurd rfl e, fun _ => ?_⟩
  exact ⟨hx, m, z, Nat.le_refl _, Nat.le_refl _, h⟩
theorem ds_4 (hx : xis t a0 7) (h : V_X7_read_0 (KXt K) (fun x t => K x.toInt64 t) a0 x2 x3 t m z) : V_L_does_0 E K a0 (4 : Int32) x2 x3 x4 t m z := by
  unfold V_L_does_0
  refine ⟨fun _ => ?_, fun e => absurd e (by decide)⟩
  refine ⟨fun _ => ?_, fun e => absurd e (by decide)⟩
  refine ⟨fun _ => ?_, fun e => absurd e (by decide)⟩
  refine ⟨fun _ => ?_, fun e => absurd e (by decide)⟩
  refine ⟨fun e => absurd rfl e, fun _ => ?_⟩
  exact ⟨hx, m, z, Nat.le_refl _, Nat.le_refl _, h⟩
theorem ds_5 (hx : xis t a0 7) (h : V_X7_heat_0 (KXt K) (fun x t => K x.toInt64 t) a0 x2 t m z) : V_L_does_0 E K a0 (5 : Int32) x2 x3 x4 t m z := by
  unfold V_L_does_0
  refine ⟨fun _ => ?_, fun e => absurd e (by decide)⟩
  refine ⟨fun _ => ?_, fun e => absurd e (by decide)⟩
  refine ⟨fun _ => ?_, fun e => absurd e (by decide)⟩
  refine ⟨fun _ => ?_, fun e => absurd e (by decide)⟩
  refine ⟨fun _ => ?_, fun e => absurd e (by decide)⟩
  refine ⟨fun e => absurd rfl e, fun _ => ?_⟩
  exact ⟨hx, m, z, Nat.le_refl _, Nat.le_refl _, h⟩
theorem ds_6 (hx : xis t a0 7) (h : V_X7_report_0 E (KXt K) (fun x t => K x.toInt64 t) a0 x2 x3 t m z) : V_L_does_0 E K a0 (6 : Int32) x2 x3 x4 t m z := by
  unfold V_L_does_0
  refine ⟨fun _ => ?_, fun e => absurd e (by decide)⟩
  refine ⟨fun _ => ?_, fun e => absurd e (by decide)⟩
  refine ⟨fun _ => ?_, fun e => absurd e (by decide)⟩
  refine ⟨fun _ => ?_, fun e => absurd e (by decide)⟩
  refine ⟨fun _ => ?_, fun e => absurd e (by decide)⟩
  refine ⟨fun _ => ?_, fun e => absurd e (by decide)⟩
  refine ⟨fun e => absurd rfl e, fun _ => ?_⟩
  exact ⟨hx, m, z, Nat.le_refl _, Nat.le_refl _, h⟩
theorem ds_7 (hx : xis t a0 7) (h : V_X7_mend_0 (KXt K) (fun x t => K x.toInt64 t) a0 x2 t m z) : V_L_does_0 E K a0 (7 : Int32) x2 x3 x4 t m z := by
  unfold V_L_does_0
  refine ⟨fun _ => ?_, fun e => absurd e (by decide)⟩
  refine ⟨fun _ => ?_, fun e => absurd e (by decide)⟩
  refine ⟨fun _ => ?_, fun e => absurd e (by decide)⟩
  refine ⟨fun _ => ?_, fun e => absurd e (by decide)⟩
  refine ⟨fun _ => ?_, fun e => absurd e (by decide)⟩
  refine ⟨fun _ => ?_, fun e => absurd e (by decide)⟩
  refine ⟨fun _ => ?_, fun e => absurd e (by decide)⟩
  refine ⟨fun e => absurd rfl e, fun _ => ?_⟩
  exact ⟨hx, m, z, Nat.le_refl _, Nat.le_refl _, h⟩
theorem ds_8 (hx : xis t a0 7) (h : V_X7_income_0 (KXt K) (fun y t => K y t) a0 x2 x3 x4 t m z) : V_L_does_0 E K a0 (8 : Int32) x2 x3 x4 t m z := by
  unfold V_L_does_0
  refine ⟨fun _ => ?_, fun e => absurd e (by decide)⟩
  refine ⟨fun _ => ?_, fun e => absurd e (by decide)⟩
  refine ⟨fun _ => ?_, fun e => absurd e (by decide)⟩
  refine ⟨fun _ => ?_, fun e => absurd e (by decide)⟩
  refine ⟨fun _ => ?_, fun e => absurd e (by decide)⟩
  refine ⟨fun _ => ?_, fun e => absurd e (by decide)⟩
  refine ⟨fun _ => ?_, fun e => absurd e (by decide)⟩
  refine ⟨fun _ => ?_, fun e => absurd e (by decide)⟩
  refine ⟨fun e => absurd rfl e, fun _ => ?_⟩
  exact ⟨hx, m, z, Nat.le_refl _, Nat.le_refl _, h⟩
theorem ds_9 (hx : xis t a0 7) (h : V_X7_pay_0 (KXt K) (fun y t => K y t) a0 x2 x3 t m z) : V_L_does_0 E K a0 (9 : Int32) x2 x3 x4 t m z := by
  unfold V_L_does_0
  refine ⟨fun _ => ?_, fun e => absurd e (by decide)⟩
  refine ⟨fun _ => ?_, fun e => absurd e (by decide)⟩
  refine ⟨fun _ => ?_, fun e => absurd e (by decide)⟩
  refine ⟨fun _ => ?_, fun e => absurd e (by decide)⟩
  refine ⟨fun _ => ?_, fun e => absurd e (by decide)⟩
  refine ⟨fun _ => ?_, fun e => absurd e (by decide)⟩
  refine ⟨fun _ => ?_, fun e => absurd e (by decide)⟩
  refine ⟨fun _ => ?_, fun e => absurd e (by decide)⟩
  refine ⟨fun _ => ?_, fun e => absurd e (by decide)⟩
  refine ⟨fun e => absurd rfl e, fun _ => ?_⟩
  exact ⟨hx, m, z, Nat.le_refl _, Nat.le_refl _, h⟩
theorem ds_10 (hx : xis t a0 7) (h : V_X7_plan_0 (KXt K) (fun y t => K y t) a0 x2 x3 t m z) : V_L_does_0 E K a0 (10 : Int32) x2 x3 x4 t m z := by
  unfold V_L_does_0
  refine ⟨fun _ => ?_, fun e => absurd e (by decide)⟩
  refine ⟨fun _ => ?_, fun e => absurd e (by decide)⟩
  refine ⟨fun _ => ?_, fun e => absurd e (by decide)⟩
  refine ⟨fun _ => ?_, fun e => absurd e (by decide)⟩
  refine ⟨fun _ => ?_, fun e => absurd e (by decide)⟩
  refine ⟨fun _ => ?_, fun e => absurd e (by decide)⟩
  refine ⟨fun _ => ?_, fun e => absurd e (by decide)⟩
  refine ⟨fun _ => ?_, fun e => absurd e (by decide)⟩
  refine ⟨fun _ => ?_, fun e => absurd e (by decide)⟩
  refine ⟨fun _ => ?_, fun e => absurd e (by decide)⟩
  refine ⟨fun e => absurd rfl e, fun _ => ?_⟩
  exact ⟨hx, m, z, Nat.le_refl _, Nat.le_refl _, h⟩
theorem ds_11 (hx : xis t a0 7) (h : V_X7_pass_0 (KXt K) (fun x t => K x.toInt64 t) a0 x2 t m z) : V_L_does_0 E K a0 (11 : Int32) x2 x3 x4 t m z := by
  unfold V_L_does_0
  refine ⟨fun _ => ?_, fun e => absurd e (by decide)⟩
  refine ⟨fun _ => ?_, fun e => absurd e (by decide)⟩
  refine ⟨fun _ => ?_, fun e => absurd e (by decide)⟩
  refine ⟨fun _ => ?_, fun e => absurd e (by decide)⟩
  refine ⟨fun _ => ?_, fun e => absurd e (by decide)⟩
  refine ⟨fun _ => ?_, fun e => absurd e (by decide)⟩
  refine ⟨fun _ => ?_, fun e => absurd e (by decide)⟩
  refine ⟨fun _ => ?_, fun e => absurd e (by decide)⟩
  refine ⟨fun _ => ?_, fun e => absurd e (by decide)⟩
  refine ⟨fun _ => ?_, fun e => absurd e (by decide)⟩
  refine ⟨fun _ => ?_, fun e => absurd e (by decide)⟩
  refine ⟨fun e => absurd rfl e, fun _ => ?_⟩
  exact ⟨hx, m, z, Nat.le_refl _, Nat.le_refl _, h⟩
theorem ds_12 (hx : xis t a0 7) (h : V_X7_owes_0 (KXt K) (fun y t => K y t) a0 x2 t m z) : V_L_does_0 E K a0 (12 : Int32) x2 x3 x4 t m z := by
  unfold V_L_does_0
  refine ⟨fun _ => ?_, fun e => absurd e (by decide)⟩
  refine ⟨fun _ => ?_, fun e => absurd e (by decide)⟩
  refine ⟨fun _ => ?_, fun e => absurd e (by decide)⟩
  refine ⟨fun _ => ?_, fun e => absurd e (by decide)⟩
  refine ⟨fun _ => ?_, fun e => absurd e (by decide)⟩
  refine ⟨fun _ => ?_, fun e => absurd e (by decide)⟩
  refine ⟨fun _ => ?_, fun e => absurd e (by decide)⟩
  refine ⟨fun _ => ?_, fun e => absurd e (by decide)⟩
  refine ⟨fun _ => ?_, fun e => absurd e (by decide)⟩
  refine ⟨fun _ => ?_, fun e => absurd e (by decide)⟩
  refine ⟨fun _ => ?_, fun e => absurd e (by decide)⟩
  refine ⟨fun _ => ?_, fun e => absurd e (by decide)⟩
  refine ⟨fun e => absurd rfl e, fun _ => ?_⟩
  exact ⟨hx, m, z, Nat.le_refl _, Nat.le_refl _, h⟩
theorem ds_13 (hx : xis t a0 7) (h : V_X7_owesAnew_0 (KXt K) (fun y t => K y t) a0 x2 t m z) : V_L_does_0 E K a0 (13 : Int32) x2 x3 x4 t m z := by
  unfold V_L_does_0
  refine ⟨fun _ => ?_, fun e => absurd e (by decide)⟩
  refine ⟨fun _ => ?_, fun e => absurd e (by decide)⟩
  refine ⟨fun _ => ?_, fun e => absurd e (by decide)⟩
  refine ⟨fun _ => ?_, fun e => absurd e (by decide)⟩
  refine ⟨fun _ => ?_, fun e => absurd e (by decide)⟩
  refine ⟨fun _ => ?_, fun e => absurd e (by decide)⟩
  refine ⟨fun _ => ?_, fun e => absurd e (by decide)⟩
  refine ⟨fun _ => ?_, fun e => absurd e (by decide)⟩
  refine ⟨fun _ => ?_, fun e => absurd e (by decide)⟩
  refine ⟨fun _ => ?_, fun e => absurd e (by decide)⟩
  refine ⟨fun _ => ?_, fun e => absurd e (by decide)⟩
  refine ⟨fun _ => ?_, fun e => absurd e (by decide)⟩
  refine ⟨fun _ => ?_, fun e => absurd e (by decide)⟩
  refine ⟨fun e => absurd rfl e, fun _ => ?_⟩
  exact ⟨hx, m, z, Nat.le_refl _, Nat.le_refl _, h⟩
theorem ds_14 (hx : xis t a0 7) (h : V_X7_desk_0 (KXt K) (fun y t => K y t) a0 x2 t m z) : V_L_does_0 E K a0 (14 : Int32) x2 x3 x4 t m z := by
  unfold V_L_does_0
  refine ⟨fun _ => ?_, fun e => absurd e (by decide)⟩
  refine ⟨fun _ => ?_, fun e => absurd e (by decide)⟩
  refine ⟨fun _ => ?_, fun e => absurd e (by decide)⟩
  refine ⟨fun _ => ?_, fun e => absurd e (by decide)⟩
  refine ⟨fun _ => ?_, fun e => absurd e (by decide)⟩
  refine ⟨fun _ => ?_, fun e => absurd e (by decide)⟩
  refine ⟨fun _ => ?_, fun e => absurd e (by decide)⟩
  refine ⟨fun _ => ?_, fun e => absurd e (by decide)⟩
  refine ⟨fun _ => ?_, fun e => absurd e (by decide)⟩
  refine ⟨fun _ => ?_, fun e => absurd e (by decide)⟩
  refine ⟨fun _ => ?_, fun e => absurd e (by decide)⟩
  refine ⟨fun _ => ?_, fun e => absurd e (by decide)⟩
  refine ⟨fun _ => ?_, fun e => absurd e (by decide)⟩
  refine ⟨fun _ => ?_, fun e => absurd e (by decide)⟩
  refine ⟨fun e => absurd rfl e, fun _ => ?_⟩
  exact ⟨hx, m, z, Nat.le_refl _, Nat.le_refl _, h⟩
theorem ds_15 (hx : xis t a0 7) (h : V_X7_bill_0 (KXt K) (fun y t => K y t) a0 x2 x3 x4 t m z) : V_L_does_0 E K a0 (15 : Int32) x2 x3 x4 t m z := by
  unfold V_L_does_0
  refine ⟨fun _ => ?_, fun e => absurd e (by decide)⟩
  refine ⟨fun _ => ?_, fun e => absurd e (by decide)⟩
  refine ⟨fun _ => ?_, fun e => absurd e (by decide)⟩
  refine ⟨fun _ => ?_, fun e => absurd e (by decide)⟩
  refine ⟨fun _ => ?_, fun e => absurd e (by decide)⟩
  refine ⟨fun _ => ?_, fun e => absurd e (by decide)⟩
  refine ⟨fun _ => ?_, fun e => absurd e (by decide)⟩
  refine ⟨fun _ => ?_, fun e => absurd e (by decide)⟩
  refine ⟨fun _ => ?_, fun e => absurd e (by decide)⟩
  refine ⟨fun _ => ?_, fun e => absurd e (by decide)⟩
  refine ⟨fun _ => ?_, fun e => absurd e (by decide)⟩
  refine ⟨fun _ => ?_, fun e => absurd e (by decide)⟩
  refine ⟨fun _ => ?_, fun e => absurd e (by decide)⟩
  refine ⟨fun _ => ?_, fun e => absurd e (by decide)⟩
  refine ⟨fun _ => ?_, fun e => absurd e (by decide)⟩
  refine ⟨fun e => absurd rfl e, fun _ => ?_⟩
  exact ⟨hx, m, z, Nat.le_refl _, Nat.le_refl _, h⟩
theorem ds_16 (hx : xis t a0 7) (h : V_X7_line_0 E (KXt K) (fun x t => K x.toInt64 t) a0 x2 x3 x4 t m z) : V_L_does_0 E K a0 (16 : Int32) x2 x3 x4 t m z := by
  unfold V_L_does_0
  refine ⟨fun _ => ?_, fun e => absurd e (by decide)⟩
  refine ⟨fun _ => ?_, fun e => absurd e (by decide)⟩
  refine ⟨fun _ => ?_, fun e => absurd e (by decide)⟩
  refine ⟨fun _ => ?_, fun e => absurd e (by decide)⟩
  refine ⟨fun _ => ?_, fun e => absurd e (by decide)⟩
  refine ⟨fun _ => ?_, fun e => absurd e (by decide)⟩
  refine ⟨fun _ => ?_, fun e => absurd e (by decide)⟩
  refine ⟨fun _ => ?_, fun e => absurd e (by decide)⟩
  refine ⟨fun _ => ?_, fun e => absurd e (by decide)⟩
  refine ⟨fun _ => ?_, fun e => absurd e (by decide)⟩
  refine ⟨fun _ => ?_, fun e => absurd e (by decide)⟩
  refine ⟨fun _ => ?_, fun e => absurd e (by decide)⟩
  refine ⟨fun _ => ?_, fun e => absurd e (by decide)⟩
  refine ⟨fun _ => ?_, fun e => absurd e (by decide)⟩
  refine ⟨fun _ => ?_, fun e => absurd e (by decide)⟩
  refine ⟨fun _ => ?_, fun e => absurd e (by decide)⟩
  refine ⟨fun e => absurd rfl e, fun _ => ?_⟩
  exact ⟨hx, m, z, Nat.le_refl _, Nat.le_refl _, h⟩
theorem ds_17 (hx : xis t a0 7) (h : V_X7_use_0 (KXt K) (fun x t => K x.toInt64 t) a0 x2 x3 t m z) : V_L_does_0 E K a0 (17 : Int32) x2 x3 x4 t m z := by
  unfold V_L_does_0
  refine ⟨fun _ => ?_, fun e => absurd e (by decide)⟩
  refine ⟨fun _ => ?_, fun e => absurd e (by decide)⟩
  refine ⟨fun _ => ?_, fun e => absurd e (by decide)⟩
  refine ⟨fun _ => ?_, fun e => absurd e (by decide)⟩
  refine ⟨fun _ => ?_, fun e => absurd e (by decide)⟩
  refine ⟨fun _ => ?_, fun e => absurd e (by decide)⟩
  refine ⟨fun _ => ?_, fun e => absurd e (by decide)⟩
  refine ⟨fun _ => ?_, fun e => absurd e (by decide)⟩
  refine ⟨fun _ => ?_, fun e => absurd e (by decide)⟩
  refine ⟨fun _ => ?_, fun e => absurd e (by decide)⟩
  refine ⟨fun _ => ?_, fun e => absurd e (by decide)⟩
  refine ⟨fun _ => ?_, fun e => absurd e (by decide)⟩
  refine ⟨fun _ => ?_, fun e => absurd e (by decide)⟩
  refine ⟨fun _ => ?_, fun e => absurd e (by decide)⟩
  refine ⟨fun _ => ?_, fun e => absurd e (by decide)⟩
  refine ⟨fun _ => ?_, fun e => absurd e (by decide)⟩
  refine ⟨fun _ => ?_, fun e => absurd e (by decide)⟩
  refine ⟨fun e => absurd rfl e, fun _ => ?_⟩
  exact ⟨hx, m, z, Nat.le_refl _, Nat.le_refl _, h⟩
theorem ds_18 (hx : xis t a0 7) (h : V_X7_points_0 (KXt K) (fun x t => K x.toInt64 t) a0 x2 t m z) : V_L_does_0 E K a0 (18 : Int32) x2 x3 x4 t m z := by
  unfold V_L_does_0
  refine ⟨fun _ => ?_, fun e => absurd e (by decide)⟩
  refine ⟨fun _ => ?_, fun e => absurd e (by decide)⟩
  refine ⟨fun _ => ?_, fun e => absurd e (by decide)⟩
  refine ⟨fun _ => ?_, fun e => absurd e (by decide)⟩
  refine ⟨fun _ => ?_, fun e => absurd e (by decide)⟩
  refine ⟨fun _ => ?_, fun e => absurd e (by decide)⟩
  refine ⟨fun _ => ?_, fun e => absurd e (by decide)⟩
  refine ⟨fun _ => ?_, fun e => absurd e (by decide)⟩
  refine ⟨fun _ => ?_, fun e => absurd e (by decide)⟩
  refine ⟨fun _ => ?_, fun e => absurd e (by decide)⟩
  refine ⟨fun _ => ?_, fun e => absurd e (by decide)⟩
  refine ⟨fun _ => ?_, fun e => absurd e (by decide)⟩
  refine ⟨fun _ => ?_, fun e => absurd e (by decide)⟩
  refine ⟨fun _ => ?_, fun e => absurd e (by decide)⟩
  refine ⟨fun _ => ?_, fun e => absurd e (by decide)⟩
  refine ⟨fun _ => ?_, fun e => absurd e (by decide)⟩
  refine ⟨fun _ => ?_, fun e => absurd e (by decide)⟩
  refine ⟨fun _ => ?_, fun e => absurd e (by decide)⟩
  refine ⟨fun e => absurd rfl e, fun _ => ?_⟩
  exact ⟨hx, m, z, Nat.le_refl _, Nat.le_refl _, h⟩
theorem ds_19 (hx : xis t a0 7) (h : V_X7_planOf_0 (KXt K) (fun x t => K x.toInt64 t) a0 x2 t m z) : V_L_does_0 E K a0 (19 : Int32) x2 x3 x4 t m z := by
  unfold V_L_does_0
  refine ⟨fun _ => ?_, fun e => absurd e (by decide)⟩
  refine ⟨fun _ => ?_, fun e => absurd e (by decide)⟩
  refine ⟨fun _ => ?_, fun e => absurd e (by decide)⟩
  refine ⟨fun _ => ?_, fun e => absurd e (by decide)⟩
  refine ⟨fun _ => ?_, fun e => absurd e (by decide)⟩
  refine ⟨fun _ => ?_, fun e => absurd e (by decide)⟩
  refine ⟨fun _ => ?_, fun e => absurd e (by decide)⟩
  refine ⟨fun _ => ?_, fun e => absurd e (by decide)⟩
  refine ⟨fun _ => ?_, fun e => absurd e (by decide)⟩
  refine ⟨fun _ => ?_, fun e => absurd e (by decide)⟩
  refine ⟨fun _ => ?_, fun e => absurd e (by decide)⟩
  refine ⟨fun _ => ?_, fun e => absurd e (by decide)⟩
  refine ⟨fun _ => ?_, fun e => absurd e (by decide)⟩
  refine ⟨fun _ => ?_, fun e => absurd e (by decide)⟩
  refine ⟨fun _ => ?_, fun e => absurd e (by decide)⟩
  refine ⟨fun _ => ?_, fun e => absurd e (by decide)⟩
  refine ⟨fun _ => ?_, fun e => absurd e (by decide)⟩
  refine ⟨fun _ => ?_, fun e => absurd e (by decide)⟩
  refine ⟨fun _ => ?_, fun e => absurd e (by decide)⟩
  exact ⟨hx, m, z, Nat.le_refl _, Nat.le_refl _, h⟩
end DSP
