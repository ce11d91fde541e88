section LAWL
variable {E : Nat → Nat} {lo : Nat → Nat → Prop} {t : xT} {a1 a2 a3 : Nat} {D P D' P' : Int}
theorem vI (y : Int32) : ∃ v, i32 v ∧ y = I v := ⟨_, I_rng _, I_of _⟩
theorem law_loop {sl : Nat} {sx : Nat → Int32} (hsl : sl ≤ 2048) : ∀ (r c : Nat) (t : xT) (rc rs : Nat), c + r = 512 → LInv E lo a1 a2 a3 (1000000 + 200000000 * (c : Int)) (1000000 * (c : Int)) t → 720 * r ≤ rc → 3200 * r ≤ rs → V_L_law_23 E sl sx (r + 1) a1 a2 a3 (I (4 * (c : Int))) t rc rs := by
  intro r
  induction r with
  | zero =>
    intro c t rc rs hc hI h1 h2
    show VS_L_law_23 E sl sx (V_L_law_23 E sl sx 0) a1 a2 a3 _ t rc rs
    unfold VS_L_law_23
    exact xbt (by (try simp only [I_lit, J_lit, I_ofNat, I_neg, I_add, I_sub, I_mul, J_neg, J_add, J_sub, J_mul]); first | (rw [I_lt ⟨by omega, by omega⟩ ⟨by omega, by omega⟩]; omega) | (rw [I_le ⟨by omega, by omega⟩ ⟨by omega, by omega⟩]; omega) | (rw [I_eq ⟨by omega, by omega⟩ ⟨by omega, by omega⟩]; omega) | (rw [J_lt ⟨by omega, by omega⟩ ⟨by omega, by omega⟩]; omega) | (rw [J_le ⟨by omega, by omega⟩ ⟨by omega, by omega⟩]; omega) | (rw [J_eq ⟨by omega, by omega⟩ ⟨by omega, by omega⟩]; omega)) rfl
  | succ r ih =>
    intro c t rc rs hc hI h1 h2
    show VS_L_law_23 E sl sx (V_L_law_23 E sl sx (r + 1)) a1 a2 a3 _ t rc rs
    unfold VS_L_law_23
    by_cases hend : (sl : Int) - 4 < 4 * c
    · exact xbt (by (try simp only [I_lit, J_lit, I_ofNat, I_neg, I_add, I_sub, I_mul, J_neg, J_add, J_sub, J_mul]); first | (rw [I_lt ⟨by omega, by omega⟩ ⟨by omega, by omega⟩]; omega) | (rw [I_le ⟨by omega, by omega⟩ ⟨by omega, by omega⟩]; omega) | (rw [I_eq ⟨by omega, by omega⟩ ⟨by omega, by omega⟩]; omega) | (rw [J_lt ⟨by omega, by omega⟩ ⟨by omega, by omega⟩]; omega) | (rw [J_le ⟨by omega, by omega⟩ ⟨by omega, by omega⟩]; omega) | (rw [J_eq ⟨by omega, by omega⟩ ⟨by omega, by omega⟩]; omega)) rfl
    · refine xbf (by (try simp only [I_lit, J_lit, I_ofNat, I_neg, I_add, I_sub, I_mul, J_neg, J_add, J_sub, J_mul]); first | (rw [I_lt ⟨by omega, by omega⟩ ⟨by omega, by omega⟩]; omega) | (rw [I_le ⟨by omega, by omega⟩ ⟨by omega, by omega⟩]; omega) | (rw [I_eq ⟨by omega, by omega⟩ ⟨by omega, by omega⟩]; omega) | (rw [J_lt ⟨by omega, by omega⟩ ⟨by omega, by omega⟩]; omega) | (rw [J_le ⟨by omega, by omega⟩ ⟨by omega, by omega⟩]; omega) | (rw [J_eq ⟨by omega, by omega⟩ ⟨by omega, by omega⟩]; omega)) ?_
      have e1 : I (4 * (c : Int)) + (1 : Int32) = I (4 * (c : Int) + 1) := I_add _ 1
      have e2 : I (4 * (c : Int)) + (2 : Int32) = I (4 * (c : Int) + 2) := I_add _ 2
      have e3 : I (4 * (c : Int)) + (3 : Int32) = I (4 * (c : Int) + 3) := I_add _ 3
      have e4 : I (4 * (c : Int)) + 4 = I (4 * ((c + 1 : Nat) : Int)) := by
        rw [show I (4 * (c : Int)) + 4 = I (4 * (c : Int) + 4) from I_add _ 4]
        congr 1
      have i0 : vp_in (I (4 * (c : Int))) sl := (I_in ⟨by omega, by omega⟩).mpr ⟨by omega, by omega⟩
      have i1 : vp_in (I (4 * (c : Int)) + (1 : Int32)) sl := by rw [e1]; exact (I_in ⟨by omega, by omega⟩).mpr ⟨by omega, by omega⟩
      have i2 : vp_in (I (4 * (c : Int)) + (2 : Int32)) sl := by rw [e2]; exact (I_in ⟨by omega, by omega⟩).mpr ⟨by omega, by omega⟩
      have i3 : vp_in (I (4 * (c : Int)) + (3 : Int32)) sl := by rw [e3]; exact (I_in ⟨by omega, by omega⟩).mpr ⟨by omega, by omega⟩
      have eD : 1000000 + 200000000 * (c : Int) + 200000000 = 1000000 + 200000000 * ((c + 1 : Nat) : Int) := by omega
      have eP : 1000000 * (c : Int) + 1000000 = 1000000 * ((c + 1 : Nat) : Int) := by omega
      have hB : Bd (1000000 + 200000000 * (c : Int)) (1000000 * (c : Int)) := ⟨⟨by omega, by omega⟩, ⟨by omega, by omega⟩⟩
      have hr : 720 ≤ rc ∧ 3200 ≤ rs := by omega
      have kk0 : ∀ t, LInv E lo a1 a2 a3 (1000000 + 200000000 * (c : Int) + 200000000) (1000000 * (c : Int) + 1000000) t → V_L_law_23 E sl sx (r + 1) a1 a2 a3 (I (4 * (c : Int)) + 4) t rc rs := fun t hI => by
        rw [eD, eP] at hI
        rw [e4]
        exact ih (c + 1) t rc rs (by omega) hI (by omega) (by omega)
      have kk : ∀ t, LInv E lo a1 a2 a3 (1000000 + 200000000 * (c : Int) + 200000000) (1000000 * (c : Int) + 1000000) t → V_L_law_23 E sl sx (r + 1) a1 a2 a3 (I (4 * (c : Int)) + 4) t (rc - 720) (rs - 3200) := fun t hI => by
        rw [eD, eP] at hI
        rw [e4]
        exact ih (c + 1) t (rc - 720) (rs - 3200) (by omega) hI (by omega) (by omega)
      have hIup : LInv E lo a1 a2 a3 (1000000 + 200000000 * (c : Int) + 200000000) (1000000 * (c : Int) + 1000000) t := by
        obtain ⟨ad, q, s, u, co, hR, hL⟩ := hI
        exact ⟨ad, q, s, u, co, hR, hL.up (by omega) (by omega)⟩
      have g720 := Nat.le_refl 720
      have g3200 := Nat.le_refl 3200
      refine ⟨i0, fun _ => kk0 t hIup, fun _ => ?_, fun _ => ?_, fun _ => ?_, fun _ => ?_, fun _ => ?_, fun _ => ?_, fun _ => ?_, fun _ => ?_, fun _ => ?_, fun _ => ?_, fun _ => ?_, fun _ => ?_, fun _ => ?_, fun _ => ?_, fun _ => ?_, fun _ => lw_owner hI kk0, fun _ => ?_, fun _ => ?_, fun _ => ?_, fun _ => ?_, fun _ => ?_⟩
      all_goals
        generalize hx1 : sx (Int32.toNatClampNeg (I (4 * (c : Int)) + (1 : Int32))) = x1
        generalize hx2 : sx (Int32.toNatClampNeg (I (4 * (c : Int)) + (2 : Int32))) = x2
        generalize hx3 : sx (Int32.toNatClampNeg (I (4 * (c : Int)) + (3 : Int32))) = x3
        obtain ⟨v1, hv1, rfl⟩ := vI x1
        obtain ⟨v2, hv2, rfl⟩ := vI x2
        obtain ⟨v3, hv3, rfl⟩ := vI x3
      · unfold V_L_law_136
        rw [hx1]
        exact ⟨i1, 720, 3200, hr.1, hr.2, lw_flat hI g720 g3200 hv1 kk (fun x t h => ⟨i1, h⟩)⟩
      · unfold V_L_law_192
        rw [hx1, hx2]
        exact ⟨i1, i2, 720, 3200, hr.1, hr.2, lw_lease hI hB g720 g3200 hv1 hv2 kk (fun x t h => ⟨i1, i2, h⟩)⟩
      · unfold V_L_law_260
        rw [hx1]
        exact ⟨i1, 720, 3200, hr.1, hr.2, lw_end hI g720 g3200 hv1 kk (fun x t h => ⟨i1, h⟩)⟩
      · unfold V_L_law_316
        rw [hx1]
        exact ⟨i1, 720, 3200, hr.1, hr.2, lw_index hI g720 g3200 hv1 kk (fun x t h => ⟨i1, h⟩)⟩
      · unfold V_L_law_372
        rw [hx1, hx2]
        exact ⟨i1, i2, 720, 3200, hr.1, hr.2, lw_read hI g720 g3200 hv1 hv2 kk (fun x t h => ⟨i1, i2, h⟩)⟩
      · unfold V_L_law_440
        rw [hx1]
        exact ⟨i1, 720, 3200, hr.1, hr.2, lw_heat hI g720 g3200 hv1 kk (fun x t h => ⟨i1, h⟩)⟩
      · unfold V_L_law_496
        rw [hx1, hx2]
        exact ⟨i1, i2, 720, 3200, hr.1, hr.2, lw_report hI g720 g3200 hv1 hv2 kk (fun x t h => ⟨i1, i2, h⟩)⟩
      · unfold V_L_law_564
        rw [hx1]
        exact ⟨i1, 720, 3200, hr.1, hr.2, lw_mend hI g720 g3200 hv1 kk (fun x t h => ⟨i1, h⟩)⟩
      · unfold V_L_law_620
        rw [hx1, hx2, hx3]
        exact ⟨i1, i2, i3, 720, 3200, hr.1, hr.2, lw_income hI g720 g3200 hv1 hv2 hv3 kk (fun x t h => ⟨i1, i2, i3, h⟩)⟩
      · unfold V_L_law_699
        rw [hx1, hx2]
        exact ⟨i1, i2, 720, 3200, hr.1, hr.2, lw_pay hI g720 g3200 hv1 hv2 kk (fun x t h => ⟨i1, i2, h⟩)⟩
      · unfold V_L_law_766
        rw [hx1, hx2]
        exact ⟨i1, i2, 720, 3200, hr.1, hr.2, lw_plan hI hB g720 g3200 hv1 hv2 kk (fun x t h => ⟨i1, i2, h⟩)⟩
      · unfold V_L_law_833
        rw [hx1]
        exact ⟨i1, 720, 3200, hr.1, hr.2, lw_pass hI hB g720 g3200 hv1 kk (fun x t h => ⟨i1, h⟩)⟩
      · unfold V_L_law_889
        rw [hx1]
        exact ⟨i1, 720, 3200, hr.1, hr.2, lw_owes hI g720 g3200 hv1 kk (fun x t h => ⟨i1, h⟩)⟩
      · unfold V_L_law_944
        rw [hx1]
        exact ⟨i1, 720, 3200, hr.1, hr.2, lw_owesAnew hI g720 g3200 hv1 kk (fun x t h => ⟨i1, h⟩)⟩
      · unfold V_L_law_999
        rw [hx1]
        exact ⟨i1, 720, 3200, hr.1, hr.2, lw_desk hI g720 g3200 hv1 kk (fun x t h => ⟨i1, h⟩)⟩
      · unfold V_L_law_1068
        rw [hx1, hx2, hx3]
        exact ⟨i1, i2, i3, 720, 3200, hr.1, hr.2, lw_bill hI g720 g3200 hv1 hv2 hv3 kk (fun x t h => ⟨i1, i2, i3, h⟩)⟩
      · unfold V_L_law_1147
        rw [hx1, hx2, hx3]
        exact ⟨i1, i2, i3, 720, 3200, hr.1, hr.2, lw_line hI g720 g3200 hv1 hv2 hv3 kk (fun x t h => ⟨i1, i2, i3, h⟩)⟩
      · unfold V_L_law_1227
        rw [hx1, hx2]
        exact ⟨i1, i2, 720, 3200, hr.1, hr.2, lw_use hI g720 g3200 hv1 hv2 kk (fun x t h => ⟨i1, i2, h⟩)⟩
      · unfold V_L_law_1295
        rw [hx1]
        exact ⟨i1, 720, 3200, hr.1, hr.2, lw_points hI g720 g3200 hv1 kk (fun x t h => ⟨i1, h⟩)⟩
      · unfold V_L_law_1351
        rw [hx1]
        exact ⟨i1, 720, 3200, hr.1, hr.2, lw_planOf hI g720 g3200 hv1 kk (fun x t h => ⟨i1, h⟩)⟩
end LAWL
