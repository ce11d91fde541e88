/-! ===== the model's signs ===== -/
/-- the model's text so far -/
def MTx (u : xS) (l : List Int) : Prop := u 20 0 39 = l.length ∧ ∀ j : Nat, j < l.length → u 21 38 j = l.getD j 0
/-- the same but for the signs -/
def EL (u u' : xS) : Prop := ∀ p i k, ¬ (p = 21 ∧ i = 38) → ¬ (p = 20 ∧ i = 0 ∧ k = 39) → u' p i k = u p i k
theorem EL.rf {u : xS} : EL u u := fun _ _ _ _ _ => rfl
theorem EL.tr {a b c : xS} (h : EL a b) (g : EL b c) : EL a c := fun p i k h1 h2 => (g p i k h1 h2).trans (h p i k h1 h2)
theorem nar_char {c : Int} (h : 0 ≤ c ∧ c ≤ 127) : vp_nar .char ((I c).toUInt32 % 65536).toInt32 = I c := by
  rw [chr_id (by omega)]
  unfold vp_nar
  obtain ⟨k, rfl⟩ : ∃ k : Nat, c = k := ⟨c.toNat, by omega⟩
  have hk : k < 128 := by omega
  clear h
  revert k
  decide +kernel
def p10 (k : Nat) : Int := match k with | 0 => 1 | 1 => 10 | 2 => 100 | 3 => 1000 | 4 => 10000 | 5 => 100000 | _ => 1000000
theorem p10_rng (k : Nat) : 1 ≤ p10 k ∧ p10 k ≤ 1000000 := by
  unfold p10
  split <;> omega
theorem p10_s {k : Nat} (h : k < 6) : p10 k * 10 = p10 (k + 1) := by
  obtain rfl | rfl | rfl | rfl | rfl | rfl : k = 0 ∨ k = 1 ∨ k = 2 ∨ k = 3 ∨ k = 4 ∨ k = 5 := by omega
  all_goals rfl
/-- how many digits -/
def nd (v : Int) : Nat := if v < 10 then 1 else if v < 100 then 2 else if v < 1000 then 3 else if v < 10000 then 4 else if v < 100000 then 5 else 6
theorem nd_rng (v : Int) : 1 ≤ nd v ∧ nd v ≤ 6 := by
  unfold nd
  repeat' split
  all_goals omega
theorem nd_in {v : Int} {i : Nat} (hv : 0 ≤ v ∧ v < 1000000) (h1 : 1 ≤ i) (h2 : i < nd v) : 0 < v / p10 i := by
  have h3 := nd_rng v
  obtain rfl | rfl | rfl | rfl | rfl : i = 1 ∨ i = 2 ∨ i = 3 ∨ i = 4 ∨ i = 5 := by omega
  all_goals
    unfold nd at h2
    unfold p10
    simp only
    repeat' split at h2
    all_goals omega
theorem nd_end {v : Int} (hv : 0 ≤ v ∧ v < 1000000) : v / p10 (nd v) = 0 := by
  unfold nd
  repeat' split
  all_goals
    unfold p10
    simp only
    omega
def pd (v : Int) : Nat → List Int
  | 0 => []
  | k + 1 => [48 + v / p10 k % 10] ++ pd v k
def pa (v : Int) : Nat → List Int
  | 0 => []
  | k + 1 => [48 + v / p10 k % 10] ++ ((if 0 < k ∧ k % 3 = 0 then [46] else []) ++ pa v k)
theorem pd_digs {v : Int} (hv : 0 ≤ v ∧ v < 1000) : pd v (nd v) = digs v := by
  unfold nd digs
  by_cases c1 : v < 10
  · rw [if_pos c1, if_pos c1]
    show [48 + v / 1 % 10] ++ [] = _
    rw [List.append_nil]
    congr 1
    omega
  · rw [if_neg c1, if_neg c1]
    by_cases c2 : v < 100
    · rw [if_pos c2, if_pos c2]
      show [48 + v / 10 % 10] ++ ([48 + v / 1 % 10] ++ []) = _
      rw [show v / 10 % 10 = v / 10 by omega, show v / 1 % 10 = v % 10 by omega]
      rfl
    · rw [if_neg c2, if_neg c2, if_pos (by omega)]
      show [48 + v / 100 % 10] ++ ([48 + v / 10 % 10] ++ ([48 + v / 1 % 10] ++ [])) = _
      rw [show v / 100 % 10 = v / 100 by omega, show v / 1 % 10 = v % 10 by omega]
      rfl
theorem pa_wh {v : Int} (hv : 0 ≤ v ∧ v < 1000000) : pa v (nd v) = wh v := by
  unfold nd wh digs dg3
  by_cases c1 : v < 10
  · rw [if_pos c1, if_neg (by omega), if_pos c1]
    show [48 + v / 1 % 10] ++ ([] ++ []) = _
    rw [show v / 1 % 10 = v by omega]
    rfl
  · rw [if_neg c1]
    by_cases c2 : v < 100
    · rw [if_pos c2, if_neg (by omega), if_neg c1, if_pos c2]
      show [48 + v / 10 % 10] ++ ([] ++ ([48 + v / 1 % 10] ++ ([] ++ []))) = _
      rw [show v / 10 % 10 = v / 10 by omega, show v / 1 % 10 = v % 10 by omega]
      rfl
    · rw [if_neg c2]
      by_cases c3 : v < 1000
      · rw [if_pos c3, if_neg (by omega), if_neg c1, if_neg c2]
        show [48 + v / 100 % 10] ++ ([] ++ ([48 + v / 10 % 10] ++ ([] ++ ([48 + v / 1 % 10] ++ ([] ++ []))))) = _
        rw [show v / 100 % 10 = v / 100 by omega, show v / 1 % 10 = v % 10 by omega]
        rfl
      · rw [if_neg c3, if_pos (show 0 < v / 1000 by omega)]
        have t1 : v % 1000 / 100 % 10 = v / 100 % 10 := by omega
        have t2 : v % 1000 / 10 % 10 = v / 10 % 10 := by omega
        have t3 : v % 1000 % 10 = v / 1 % 10 := by omega
        rw [t1, t2, t3]
        by_cases c4 : v < 10000
        · rw [if_pos c4, if_pos (show v / 1000 < 10 by omega)]
          show [48 + v / 1000 % 10] ++ ([46] ++ ([48 + v / 100 % 10] ++ ([] ++ ([48 + v / 10 % 10] ++ ([] ++ ([48 + v / 1 % 10] ++ ([] ++ []))))))) = _
          rw [show v / 1000 % 10 = v / 1000 by omega]
          rfl
        · rw [if_neg c4]
          by_cases c5 : v < 100000
          · rw [if_pos c5, if_neg (show ¬ v / 1000 < 10 by omega), if_pos (show v / 1000 < 100 by omega)]
            show [48 + v / 10000 % 10] ++ ([] ++ ([48 + v / 1000 % 10] ++ ([46] ++ ([48 + v / 100 % 10] ++ ([] ++ ([48 + v / 10 % 10] ++ ([] ++ ([48 + v / 1 % 10] ++ ([] ++ []))))))))) = _
            rw [show v / 10000 % 10 = v / 1000 / 10 by omega, show v / 1000 % 10 = v / 1000 % 10 from rfl]
            rfl
          · rw [if_neg c5, if_neg (show ¬ v / 1000 < 10 by omega), if_neg (show ¬ v / 1000 < 100 by omega)]
            show [48 + v / 100000 % 10] ++ ([] ++ ([48 + v / 10000 % 10] ++ ([] ++ ([48 + v / 1000 % 10] ++ ([46] ++ ([48 + v / 100 % 10] ++ ([] ++ ([48 + v / 10 % 10] ++ ([] ++ ([48 + v / 1 % 10] ++ ([] ++ []))))))))))) = _
            rw [show v / 100000 % 10 = v / 1000 / 100 by omega, show v / 10000 % 10 = v / 1000 / 10 % 10 by omega]
            rfl
section MM14
variable {ad : xAd} {q : xL} {lo : Nat → Nat → Prop} {s u : xS} {co : Nat → Nat → xE} {t : xT} {nf n nr : Nat} {l : List Int}
theorem I_pred {k : Nat} : (I (k : Int) + (-1 : Int32)) = I ((k : Int) - 1) := by
  rw [show (-1 : Int32) = I (-1) from rfl, I_add]
  congr 1
theorem I_dg10 {w : Int} (hw : 0 ≤ w ∧ w < 100000000) : (48 : Int32) + xrem (I w / (10 : Int32)) (10 : Int32) = I (48 + w / 10 % 10) := by
  rw [show (48 : Int32) = I 48 from rfl, show (10 : Int32) = I 10 from rfl, I_div ⟨by omega, by omega⟩ ⟨by omega, by omega⟩ hw.1 (by omega), I_rem ⟨by omega, by omega⟩ ⟨by omega, by omega⟩ (by omega) (by omega), I_add]
theorem I_dg1 {w : Int} (hw : 0 ≤ w ∧ w < 100000000) : (48 : Int32) + xrem (I w) (10 : Int32) = I (48 + w % 10) := by
  rw [show (48 : Int32) = I 48 from rfl, show (10 : Int32) = I 10 from rfl, I_rem ⟨by omega, by omega⟩ ⟨by omega, by omega⟩ hw.1 (by omega), I_add]
theorem I_digit {v : Int} {k : Nat} (hv : 0 ≤ v ∧ v < 1000000) : (48 : Int32) + xrem (I v / I (p10 k)) (10 : Int32) = I (48 + v / p10 k % 10) := by
  have hp := p10_rng k
  have h1 : v / p10 k ≤ v := Int.ediv_le_self _ hv.1
  have h2 : 0 ≤ v / p10 k := Int.ediv_nonneg hv.1 (by omega)
  rw [show (48 : Int32) = I 48 from rfl, show (10 : Int32) = I 10 from rfl, I_div ⟨by omega, by omega⟩ ⟨by omega, by omega⟩ hv.1 (by omega), I_rem ⟨by omega, by omega⟩ ⟨by omega, by omega⟩ h2 (by omega), I_add]
def pz (w : Int) : List Int := [44] ++ ([48 + w / 10 % 10] ++ [48 + w % 10])
end MM14
