/-! ===== bills told, incomes told, all settled anew ===== -/
theorem giv_c {n l : Nat} {s : xS} : s 8 l 0 ≤ giv n s 8 l 0 ∧ giv n s 8 l 0 ≤ s 8 l 0 + 1 := by
  unfold giv
  rw [su_r, su_r]
  generalize gpk (fun l => s 8 l 2) n = g
  by_cases c : l = g
  · subst c
    simp
    omega
  · simp [c]
    omega
theorem itg_c {n l : Nat} : ∀ (k : Nat) (s : xS), s 8 l 0 ≤ itn (giv n) k s 8 l 0 ∧ itn (giv n) k s 8 l 0 ≤ s 8 l 0 + k := by
  intro k
  induction k with
  | zero => exact fun s => ⟨Int.le_refl _, by show s 8 l 0 ≤ s 8 l 0 + ((0 : Nat) : Int); simp⟩
  | succ k ih =>
    intro s
    have h1 := ih (giv n s)
    have h2 := giv_c (n := n) (l := l) (s := s)
    show s 8 l 0 ≤ itn (giv n) k (giv n s) 8 l 0 ∧ itn (giv n) k (giv n s) 8 l 0 ≤ s 8 l 0 + ((k + 1 : Nat) : Int)
    omega
theorem sb58_c {n l : Nat} {S A : Int} (hS : 0 ≤ S) (hA : 0 < A) : ∀ (r i : Nat) (s : xS) (left : Int), i + r = n → (∀ l, l < n → 0 ≤ s 8 l 1 ∧ s 8 l 1 ≤ A) → s 8 l 0 ≤ sb58 n S A i r s left 8 l 0 ∧ sb58 n S A i r s left 8 l 0 ≤ s 8 l 0 + (if i ≤ l then S else 0) + left.toNat := by
  intro r
  induction r with
  | zero =>
    intro i s left hi hw
    have := itg_c (n := n) (l := l) left.toNat s
    show s 8 l 0 ≤ itn (giv n) left.toNat s 8 l 0 ∧ itn (giv n) left.toNat s 8 l 0 ≤ _
    split <;> omega
  | succ r ih =>
    intro i s left hi hw
    have hwi := hw i (by omega)
    have hp0 : 0 ≤ S * s 8 i 1 := Int.mul_nonneg hS hwi.1
    have hq0 : 0 ≤ S * s 8 i 1 / A := Int.ediv_nonneg hp0 (by omega)
    have hq1 : S * s 8 i 1 / A ≤ S := Int.ediv_le_of_le_mul hA (Int.mul_le_mul_of_nonneg_left hwi.2 hS)
    have h1 := ih (i + 1) (twk S A i s) (left - S * s 8 i 1 / A) (by omega) (fun l hl => by
      have := hw l hl
      unfold twk
      simp (config := { decide := true }) only [su_r, su_f, sup_n, not_false_eq_true, eq_self_iff_true, true_or, or_true, false_or, or_false, true_and, and_true, false_and, and_false, if_true, if_false, ite_true, ite_false]
      exact this)
    rw [sb58_step]
    have e : twk S A i s 8 l 0 = if l = i then s 8 i 0 + S * s 8 i 1 / A else s 8 l 0 := by
      unfold twk
      by_cases c : l = i
      · subst c
        simp (config := { decide := true }) only [su_r, su_f, sup_n, not_false_eq_true, eq_self_iff_true, true_or, or_true, false_or, or_false, true_and, and_true, false_and, and_false, if_true, if_false, ite_true, ite_false]
      · simp (config := { decide := true }) only [su_r, su_f, sup_n, not_false_eq_true, eq_self_iff_true, true_or, or_true, false_or, or_false, true_and, and_true, false_and, and_false, if_true, if_false, ite_true, ite_false, c]
    rw [e] at h1
    by_cases c : l = i
    · subst c
      rw [if_pos rfl] at h1
      rw [if_pos (Nat.le_refl _)]
      rw [if_neg (by omega)] at h1
      omega
    · rw [if_neg c] at h1
      by_cases c2 : i ≤ l
      · rw [if_pos c2]
        rw [if_pos (by omega)] at h1
        omega
      · rw [if_neg c2]
        rw [if_neg (by omega)] at h1
        omega
theorem sumn_ge {g : Nat → Int} {n l : Nat} (h : ∀ l, l < n → 0 ≤ g l) (hl : l < n) : g l ≤ sumn g n := by
  induction n with
  | zero => omega
  | succ n ih =>
    show g l ≤ sumn g n + g n
    have h1 : 0 ≤ sumn g n := by
      clear ih hl
      have hh : ∀ k, k ≤ n → 0 ≤ sumn g k := by
        intro k
        induction k with
        | zero => exact fun _ => Int.le_refl _
        | succ k ih =>
          intro hk
          show 0 ≤ sumn g k + g k
          have := ih (by omega)
          have := h k (by omega)
          omega
      exact hh n (Nat.le_refl _)
    have h2 := h n (by omega)
    by_cases c : l = n
    · subst c
      omega
    · have := ih (fun l hl => h l (by omega)) (by omega)
      omega
theorem sbw_c {n l : Nat} {S : Int} {s : xS} (hS : 0 ≤ S) (hw : ∀ l, l < n → 0 ≤ s 8 l 1) : s 8 l 0 ≤ sbw n S s 8 l 0 ∧ sbw n S s 8 l 0 ≤ s 8 l 0 + 2 * S := by
  unfold sbw
  split
  · rename_i c
    have := sb58_c (n := n) (l := l) hS c n 0 s S (by omega) (fun l hl => ⟨hw l hl, sumn_ge (g := fun l => s 8 l 1) hw hl⟩)
    rw [if_pos (by omega)] at this
    omega
  · omega
theorem shA_at {m n : Nat} : ∀ (r i : Nat) (s : xS) (l : Nat), (lp (shA m) i r s 8 l 0 = if i ≤ l ∧ l < i + r then 0 else s 8 l 0) ∧ (lp (shA m) i r s 8 l 1 = if i ≤ l ∧ l < i + r then (if runb s l m = 0 then 0 else s 5 (s 6 l 0).toNat 0) else s 8 l 1) := by
  intro r
  induction r with
  | zero =>
    intro i s l
    rw [if_neg (by omega), if_neg (by omega)]
    exact ⟨rfl, rfl⟩
  | succ r ih =>
    intro i s l
    obtain ⟨h1, h2⟩ := ih (i + 1) (shA m i s) l
    show (lp (shA m) (i + 1) r (shA m i s) 8 l 0 = _) ∧ (lp (shA m) (i + 1) r (shA m i s) 8 l 1 = _)
    rw [h1, h2, (E8.shA (m := m) (l := i) (s := s)).runb, (E8.shA (m := m) (l := i) (s := s)) 5 _ (by decide), (E8.shA (m := m) (l := i) (s := s)) 6 _ (by decide)]
    by_cases c : l = i
    · subst c
      rw [if_neg (by omega), if_pos (by omega), if_neg (by omega), if_pos (by omega)]
      unfold shA
      constructor
      · simp (config := { decide := true }) only [su_r, su_f, sup_n, not_false_eq_true, eq_self_iff_true, true_or, or_true, false_or, or_false, true_and, and_true, false_and, and_false, if_true, if_false, ite_true, ite_false]
      · simp (config := { decide := true }) only [su_r, su_f, sup_n, not_false_eq_true, eq_self_iff_true, true_or, or_true, false_or, or_false, true_and, and_true, false_and, and_false, if_true, if_false, ite_true, ite_false]
    · have e0 : shA m i s 8 l 0 = s 8 l 0 := by
        unfold shA
        simp (config := { decide := true }) only [su_r, su_f, sup_n, not_false_eq_true, eq_self_iff_true, true_or, or_true, false_or, or_false, true_and, and_true, false_and, and_false, if_true, if_false, ite_true, ite_false, c]
      have e1 : shA m i s 8 l 1 = s 8 l 1 := by
        unfold shA
        simp (config := { decide := true }) only [su_r, su_f, sup_n, not_false_eq_true, eq_self_iff_true, true_or, or_true, false_or, or_false, true_and, and_true, false_and, and_false, if_true, if_false, ite_true, ite_false, c]
      rw [e0, e1]
      by_cases c2 : i ≤ l ∧ l < i + (r + 1)
      · rw [if_pos (by omega), if_pos c2, if_pos (by omega), if_pos c2]
        exact ⟨rfl, rfl⟩
      · rw [if_neg (by omega), if_neg c2, if_neg (by omega), if_neg c2]
        exact ⟨rfl, rfl⟩
theorem shB_at {m : Nat} : ∀ (r i : Nat) (s : xS) (l : Nat), (lp (shB m) i r s 8 l 0 = s 8 l 0) ∧ (lp (shB m) i r s 8 l 1 = if i ≤ l ∧ l < i + r then useb s l m else s 8 l 1) := by
  intro r
  induction r with
  | zero =>
    intro i s l
    rw [if_neg (by omega)]
    exact ⟨rfl, rfl⟩
  | succ r ih =>
    intro i s l
    obtain ⟨h1, h2⟩ := ih (i + 1) (shB m i s) l
    show (lp (shB m) (i + 1) r (shB m i s) 8 l 0 = _) ∧ (lp (shB m) (i + 1) r (shB m i s) 8 l 1 = _)
    rw [h1, h2, (E8.shB (m := m) (l := i) (s := s)).useb]
    have e0 : shB m i s 8 l 0 = s 8 l 0 := by
      unfold shB
      simp (config := { decide := true }) only [su_r, su_f, sup_n, not_false_eq_true, eq_self_iff_true, true_or, or_true, false_or, or_false, true_and, and_true, false_and, and_false, if_true, if_false, ite_true, ite_false]
    refine ⟨e0, ?_⟩
    by_cases c : l = i
    · subst c
      rw [if_neg (by omega), if_pos (by omega)]
      unfold shB
      simp (config := { decide := true }) only [su_r, su_f, sup_n, not_false_eq_true, eq_self_iff_true, true_or, or_true, false_or, or_false, true_and, and_true, false_and, and_false, if_true, if_false, ite_true, ite_false]
    · have e1 : shB m i s 8 l 1 = s 8 l 1 := by
        unfold shB
        simp (config := { decide := true }) only [su_r, su_f, sup_n, not_false_eq_true, eq_self_iff_true, true_or, or_true, false_or, or_false, true_and, and_true, false_and, and_false, if_true, if_false, ite_true, ite_false, c]
      rw [e1]
      by_cases c2 : i ≤ l ∧ l < i + (r + 1)
      · rw [if_pos (by omega), if_pos c2]
      · rw [if_neg (by omega), if_neg c2]
theorem byR_rng {n m : Nat} {s : xS} (h : 0 ≤ s 4 100 m) : 0 ≤ byR n m s ∧ byR n m s ≤ s 4 100 m := by
  unfold byR
  split <;> omega
theorem shHeat_rng {q : xL} {n m l : Nat} {s : xS} (hW : okW q s n m) (hl : l < n) : 0 ≤ shHeat n m s 8 l 0 ∧ shHeat n m s 8 l 0 ≤ 20000000 := by
  obtain ⟨hW1, hc0, hc1⟩ := hW
  have hb := byR_rng (n := n) hc0
  have a1 := shA_at (m := m) (n := n) n 0 s
  have b1 := sbw_c (n := n) (l := l) (S := byR n m s) (s := lp (shA m) 0 n s) hb.1 (fun l hl => by
    rw [(a1 l).2, if_pos (by omega)]
    have := hW1 l hl
    split <;> omega)
  rw [(a1 l).1, if_pos (by omega)] at b1
  have a2 := shB_at (m := m) n 0 (sbw n (byR n m s) (lp (shA m) 0 n s))
  have b2 := sbw_c (n := n) (l := l) (S := s 4 100 m - byR n m s) (s := lp (shB m) 0 n (sbw n (byR n m s) (lp (shA m) 0 n s))) (by omega) (fun l hl => by
    rw [(a2 l).2, if_pos (by omega), (E8.tr (E8.lp (fun _ _ => E8.shA) _ _ _) E8.sbw : E8 s (sbw n (byR n m s) (lp (shA m) 0 n s))).useb]
    exact (hW1 l hl).2.2.2.1)
  rw [(a2 l).1] at b2
  unfold shHeat
  omega
section CLS11
variable {ad : xAd} {q : xL} {lo : Nat → Nat → Prop} {s u : xS} {co : Nat → Nat → xE} {t : xT} {KX : String → xT → Prop} {rc rs nf n nr : Nat}
theorem sp_billOf {K : Option Nat → xT → Prop} {l : Nat} {z : Int} (hR : RR ad q lo s u co t) (hl : l < q.2.1) (hz : 0 ≤ z ∧ z < 121) (kk : K (if s 9 l z.toNat = 0 then none else some (ad 10 (200 * l + z.toNat))) t) : V_X3_billOf_0 K (ad 6 l) (I z) t := by
  unfold V_X3_billOf_0
  refine xbf (by (try simp only [I_lit, J_lit, I_ofNat, I_neg, I_add, I_sub, I_mul, J_neg, J_add, J_sub, J_mul]); first | (rw [I_lt ⟨by omega, by omega⟩ ⟨by omega, by omega⟩]; omega) | (rw [I_le ⟨by omega, by omega⟩ ⟨by omega, by omega⟩]; omega) | (rw [I_eq ⟨by omega, by omega⟩ ⟨by omega, by omega⟩]; omega) | (rw [J_lt ⟨by omega, by omega⟩ ⟨by omega, by omega⟩]; omega) | (rw [J_le ⟨by omega, by omega⟩ ⟨by omega, by omega⟩]; omega) | (rw [J_eq ⟨by omega, by omega⟩ ⟨by omega, by omega⟩]; omega)) ?_
  refine xgR_R hR (by simp only [clv, eq_self_iff_true, true_or, or_true, false_or, or_false, true_and, and_true, false_and, and_false] <;> omega) rfl rfl ?_
  refine xal_Q hR (p := 9) hl rfl ?_
  refine xbf (by (try simp only [I_lit, J_lit, I_ofNat, I_neg, I_add, I_sub, I_mul, J_neg, J_add, J_sub, J_mul]); first | (rw [I_lt ⟨by omega, by omega⟩ ⟨by omega, by omega⟩]; omega) | (rw [I_le ⟨by omega, by omega⟩ ⟨by omega, by omega⟩]; omega) | (rw [I_eq ⟨by omega, by omega⟩ ⟨by omega, by omega⟩]; omega) | (rw [J_lt ⟨by omega, by omega⟩ ⟨by omega, by omega⟩]; omega) | (rw [J_le ⟨by omega, by omega⟩ ⟨by omega, by omega⟩]; omega) | (rw [J_eq ⟨by omega, by omega⟩ ⟨by omega, by omega⟩]; omega)) ?_
  refine xgR_R hR (by simp only [clv, eq_self_iff_true, true_or, or_true, false_or, or_false, true_and, and_true, false_and, and_false] <;> omega) rfl rfl ?_
  exact xaQ_R hR (p := 9) hl rfl (by decide) hz kk
theorem sp_amount {K : Int32 → xT → Prop} {b : Nat} {z : Int} (hR : RR ad q lo s u co t) (hb : clv q lo 10 b) (hz : 0 ≤ z ∧ z ≤ 3) (kk : K (I (s 10 b z.toNat)) t) : V_X0_amount_0 K (ad 10 b) (I z) t := by
  unfold V_X0_amount_0
  rw [I_toInt ⟨by omega, by omega⟩]
  refine ⟨fun c => ?_, fun c => ?_, fun c => ?_, fun c => ?_⟩
  · refine xgI_R hR hb rfl rfl ?_
    rw [show z.toNat = 3 by omega] at kk
    exact kk
  · refine xgI_R hR hb rfl rfl ?_
    rw [show z.toNat = 0 by omega] at kk
    exact kk
  · refine xgI_R hR hb rfl rfl ?_
    rw [show z.toNat = 1 by omega] at kk
    exact kk
  · refine xgI_R hR hb rfl rfl ?_
    rw [show z.toNat = 2 by omega] at kk
    exact kk
/-- a bill's numbers are in range -/
def okBl (s : xS) (l m : Nat) : Prop := s 9 l m ≠ 0 → (0 ≤ s 10 (200 * l + m) 0 ∧ s 10 (200 * l + m) 0 ≤ 1000000) ∧ (0 ≤ s 10 (200 * l + m) 1 ∧ s 10 (200 * l + m) 1 ≤ s 10 (200 * l + m) 0) ∧ (0 ≤ s 10 (200 * l + m) 2 ∧ s 10 (200 * l + m) 2 ≤ 1000000) ∧ (0 ≤ s 10 (200 * l + m) 3 ∧ s 10 (200 * l + m) 3 ≤ 100000000)
theorem okBl_k {l m : Nat} (h : okBl s l m) (h9 : s 9 l m ≠ 0) {k : Nat} (hk : k < 4) : 0 ≤ s 10 (200 * l + m) k ∧ s 10 (200 * l + m) k ≤ 100000000 := by
  obtain ⟨a, b, c, d⟩ := h h9
  obtain rfl | rfl | rfl | rfl : k = 0 ∨ k = 1 ∨ k = 2 ∨ k = 3 := by omega
  · omega
  · omega
  · omega
  · omega
theorem sp_bill {K : Int64 → xT → Prop} {z m x : Int} (hR : RR ad q lo s u co t) (hB : HB q s) (hT : okT s) (hL : LI q s 1 n) (hn : n ≤ q.2.1) (hz : i32 z) (hm : i32 m) (hx : i32 x) (hbl : ∀ l m, l < n → m < 121 → okBl s l m) (h1 : 5 ≤ rc) (h2 : 30 ≤ rs) (kx : ¬ ((0 ≤ z ∧ z < n) ∧ 0 ≤ m ∧ m ≤ s 0 0 8 / 30) → KX IOB t) (ky : ((0 ≤ z ∧ z < n) ∧ 0 ≤ m ∧ m ≤ s 0 0 8 / 30) → ¬ (0 ≤ x ∧ x ≤ 3) → KX IAE t) (kk : ((0 ≤ z ∧ z < n) ∧ 0 ≤ m ∧ m ≤ s 0 0 8 / 30) → (0 ≤ x ∧ x ≤ 3) → K (J (if s 9 z.toNat m.toNat = 0 then -1 else s 10 (200 * z.toNat + m.toNat) x.toNat)) t) : V_X7_bill_0 KX K (ad 0 0) (I z) (I m) (I x) t rc rs := by
  unfold okT at hT
  unfold i32 at hx
  unfold V_X7_bill_0
  refine ⟨xis_R hR (by simp only [clv, eq_self_iff_true, true_or, or_true, false_or, or_false, true_and, and_true, false_and, and_false] <;> omega) rfl, ?_⟩
  refine ⟨1, 6, by omega, by omega, ?_⟩
  refine sp_leaseAt hR hL hn hz (by omega) (by omega) (fun hc => kx (by omega)) (fun hc => ?_)
  refine ⟨xis_R hR (by simp only [clv, eq_self_iff_true, true_or, or_true, false_or, or_false, true_and, and_true, false_and, and_false] <;> omega) rfl, ?_⟩
  refine ⟨1, 6, by omega, by omega, ?_⟩
  refine sp_needMonth hR (by omega) hm (by omega) (by omega) (fun hd => kx (by omega)) (fun hd => ?_)
  by_cases c1 : x < 0
  · exact xbt (by (try simp only [I_lit, J_lit, I_ofNat, I_neg, I_add, I_sub, I_mul, J_neg, J_add, J_sub, J_mul]); first | (rw [I_lt ⟨by omega, by omega⟩ ⟨by omega, by omega⟩]; omega) | (rw [I_le ⟨by omega, by omega⟩ ⟨by omega, by omega⟩]; omega) | (rw [I_eq ⟨by omega, by omega⟩ ⟨by omega, by omega⟩]; omega) | (rw [J_lt ⟨by omega, by omega⟩ ⟨by omega, by omega⟩]; omega) | (rw [J_le ⟨by omega, by omega⟩ ⟨by omega, by omega⟩]; omega) | (rw [J_eq ⟨by omega, by omega⟩ ⟨by omega, by omega⟩]; omega)) ⟨by omega, by omega, ky ⟨hc, hd⟩ (by omega)⟩
  · refine xbf (by (try simp only [I_lit, J_lit, I_ofNat, I_neg, I_add, I_sub, I_mul, J_neg, J_add, J_sub, J_mul]); first | (rw [I_lt ⟨by omega, by omega⟩ ⟨by omega, by omega⟩]; omega) | (rw [I_le ⟨by omega, by omega⟩ ⟨by omega, by omega⟩]; omega) | (rw [I_eq ⟨by omega, by omega⟩ ⟨by omega, by omega⟩]; omega) | (rw [J_lt ⟨by omega, by omega⟩ ⟨by omega, by omega⟩]; omega) | (rw [J_le ⟨by omega, by omega⟩ ⟨by omega, by omega⟩]; omega) | (rw [J_eq ⟨by omega, by omega⟩ ⟨by omega, by omega⟩]; omega)) ?_
    by_cases c2 : x ≤ 3
    · refine xbt (by (try simp only [I_lit, J_lit, I_ofNat, I_neg, I_add, I_sub, I_mul, J_neg, J_add, J_sub, J_mul]); first | (rw [I_lt ⟨by omega, by omega⟩ ⟨by omega, by omega⟩]; omega) | (rw [I_le ⟨by omega, by omega⟩ ⟨by omega, by omega⟩]; omega) | (rw [I_eq ⟨by omega, by omega⟩ ⟨by omega, by omega⟩]; omega) | (rw [J_lt ⟨by omega, by omega⟩ ⟨by omega, by omega⟩]; omega) | (rw [J_le ⟨by omega, by omega⟩ ⟨by omega, by omega⟩]; omega) | (rw [J_eq ⟨by omega, by omega⟩ ⟨by omega, by omega⟩]; omega)) ⟨_, rfl, ?_⟩
      have hl : z.toNat < q.2.1 := by omega
      refine ⟨xis_R hR (p := 6) hl rfl, ?_⟩
      refine sp_billOf hR hl (by omega) ?_
      have kk2 := kk ⟨hc, hd⟩ (by omega)
      by_cases c3 : s 9 z.toNat m.toNat = 0
      · rw [if_pos c3] at kk2
        rw [if_pos c3]
        exact ⟨fun _ => kk2, fun a e => by cases e⟩
      · rw [if_neg c3] at kk2
        rw [if_neg c3]
        refine ⟨fun e => (nomatch e), fun a e => ?_⟩
        cases e
        have hb : clv q lo 10 (200 * z.toNat + m.toNat) := Or.inr ((hB _ _ hl (by omega)).mpr c3)
        refine ⟨xis_R hR (p := 10) hb rfl, ?_⟩
        refine sp_amount hR hb (by omega) ?_
        have := okBl_k (hbl z.toNat m.toNat (by omega) (by omega)) c3 (k := x.toNat) (by omega)
        rw [I_long ⟨by omega, by omega⟩]
        exact kk2
    · exact xbf (by (try simp only [I_lit, J_lit, I_ofNat, I_neg, I_add, I_sub, I_mul, J_neg, J_add, J_sub, J_mul]); first | (rw [I_lt ⟨by omega, by omega⟩ ⟨by omega, by omega⟩]; omega) | (rw [I_le ⟨by omega, by omega⟩ ⟨by omega, by omega⟩]; omega) | (rw [I_eq ⟨by omega, by omega⟩ ⟨by omega, by omega⟩]; omega) | (rw [J_lt ⟨by omega, by omega⟩ ⟨by omega, by omega⟩]; omega) | (rw [J_le ⟨by omega, by omega⟩ ⟨by omega, by omega⟩]; omega) | (rw [J_eq ⟨by omega, by omega⟩ ⟨by omega, by omega⟩]; omega)) ⟨by omega, by omega, ky ⟨hc, hd⟩ (by omega)⟩
theorem sp_pass {K : Int32 → xT → Prop} {z : Int} {B : Nat → Prop} (hR : RR ad (qw q B) lo s u co t) (hB : HB (qw q B) s) (hT : okT s) (hz : i32 z) (hnf : nf ≤ q.1) (hnf8 : nf ≤ 8) (hn : n ≤ q.2.1) (hn12 : q.2.1 ≤ 12) (hnr : nr ≤ q.2.2.1) (h1 : 720 ≤ rc) (h2 : 2880 ≤ rs) (kx : ¬ (1 ≤ z ∧ z ≤ 60) → KX IAE t) (ky : 1 ≤ z ∧ z ≤ 60 → ¬ s 0 0 8 + z ≤ 3600 → KX ISE t) (hO : 1 ≤ z ∧ z ≤ 60 → s 0 0 8 + z ≤ 3600 → ∀ j, j < z.toNat → okDay q nf n nr (itn (eDay nf n nr) j s)) (kk : 1 ≤ z ∧ z ≤ 60 → s 0 0 8 + z ≤ 3600 → ∀ ad' B' t', AE2 ad ad' → RR ad' (qw q B') lo (pss nf n nr z.toNat s) u co t' → HB (qw q B') (pss nf n nr z.toNat s) → K (I (pss nf n nr z.toNat s 0 0 8)) t') : V_X7_pass_0 KX K (ad 0 0) (I z) t rc rs := by
  unfold okT at hT
  unfold i32 at hz
  unfold V_X7_pass_0
  by_cases c1 : z < 1
  · exact xbt (by (try simp only [I_lit, J_lit, I_ofNat, I_neg, I_add, I_sub, I_mul, J_neg, J_add, J_sub, J_mul]); first | (rw [I_lt ⟨by omega, by omega⟩ ⟨by omega, by omega⟩]; omega) | (rw [I_le ⟨by omega, by omega⟩ ⟨by omega, by omega⟩]; omega) | (rw [I_eq ⟨by omega, by omega⟩ ⟨by omega, by omega⟩]; omega) | (rw [J_lt ⟨by omega, by omega⟩ ⟨by omega, by omega⟩]; omega) | (rw [J_le ⟨by omega, by omega⟩ ⟨by omega, by omega⟩]; omega) | (rw [J_eq ⟨by omega, by omega⟩ ⟨by omega, by omega⟩]; omega)) ⟨by omega, by omega, kx (by omega)⟩
  · refine xbf (by (try simp only [I_lit, J_lit, I_ofNat, I_neg, I_add, I_sub, I_mul, J_neg, J_add, J_sub, J_mul]); first | (rw [I_lt ⟨by omega, by omega⟩ ⟨by omega, by omega⟩]; omega) | (rw [I_le ⟨by omega, by omega⟩ ⟨by omega, by omega⟩]; omega) | (rw [I_eq ⟨by omega, by omega⟩ ⟨by omega, by omega⟩]; omega) | (rw [J_lt ⟨by omega, by omega⟩ ⟨by omega, by omega⟩]; omega) | (rw [J_le ⟨by omega, by omega⟩ ⟨by omega, by omega⟩]; omega) | (rw [J_eq ⟨by omega, by omega⟩ ⟨by omega, by omega⟩]; omega)) ?_
    by_cases c2 : z ≤ 60
    · refine xbt (by (try simp only [I_lit, J_lit, I_ofNat, I_neg, I_add, I_sub, I_mul, J_neg, J_add, J_sub, J_mul]); first | (rw [I_lt ⟨by omega, by omega⟩ ⟨by omega, by omega⟩]; omega) | (rw [I_le ⟨by omega, by omega⟩ ⟨by omega, by omega⟩]; omega) | (rw [I_eq ⟨by omega, by omega⟩ ⟨by omega, by omega⟩]; omega) | (rw [J_lt ⟨by omega, by omega⟩ ⟨by omega, by omega⟩]; omega) | (rw [J_le ⟨by omega, by omega⟩ ⟨by omega, by omega⟩]; omega) | (rw [J_eq ⟨by omega, by omega⟩ ⟨by omega, by omega⟩]; omega)) ?_
      refine xgI_R hR (by simp only [clv, eq_self_iff_true, true_or, or_true, false_or, or_false, true_and, and_true, false_and, and_false] <;> omega) rfl rfl ?_
      rw [I_add]
      by_cases c3 : s 0 0 8 + z ≤ 3600
      · refine xbt (by (try simp only [I_lit, J_lit, I_ofNat, I_neg, I_add, I_sub, I_mul, J_neg, J_add, J_sub, J_mul]); first | (rw [I_lt ⟨by omega, by omega⟩ ⟨by omega, by omega⟩]; omega) | (rw [I_le ⟨by omega, by omega⟩ ⟨by omega, by omega⟩]; omega) | (rw [I_eq ⟨by omega, by omega⟩ ⟨by omega, by omega⟩]; omega) | (rw [J_lt ⟨by omega, by omega⟩ ⟨by omega, by omega⟩]; omega) | (rw [J_le ⟨by omega, by omega⟩ ⟨by omega, by omega⟩]; omega) | (rw [J_eq ⟨by omega, by omega⟩ ⟨by omega, by omega⟩]; omega)) ⟨z.toNat + 1, ?_⟩
        have hmul : z.toNat * n ≤ 60 * 12 := Nat.mul_le_mul (by omega) (by omega)
        have := sp_passLoop (KX := KX) (K := K) (k := z.toNat) (a0 := ad 0 0) hnf hnf8 hn hn12 hnr (by omega) z.toNat 0 s t ad B rc rs (by omega) hR rfl hB (hO (by omega) c3) (by omega) (by omega) (kk (by omega) c3)
        rw [show ((z.toNat : Nat) : Int) = z by omega] at this
        exact this
      · exact xbf (by (try simp only [I_lit, J_lit, I_ofNat, I_neg, I_add, I_sub, I_mul, J_neg, J_add, J_sub, J_mul]); first | (rw [I_lt ⟨by omega, by omega⟩ ⟨by omega, by omega⟩]; omega) | (rw [I_le ⟨by omega, by omega⟩ ⟨by omega, by omega⟩]; omega) | (rw [I_eq ⟨by omega, by omega⟩ ⟨by omega, by omega⟩]; omega) | (rw [J_lt ⟨by omega, by omega⟩ ⟨by omega, by omega⟩]; omega) | (rw [J_le ⟨by omega, by omega⟩ ⟨by omega, by omega⟩]; omega) | (rw [J_eq ⟨by omega, by omega⟩ ⟨by omega, by omega⟩]; omega)) ⟨by omega, by omega, ky (by omega) c3⟩
    · exact xbf (by (try simp only [I_lit, J_lit, I_ofNat, I_neg, I_add, I_sub, I_mul, J_neg, J_add, J_sub, J_mul]); first | (rw [I_lt ⟨by omega, by omega⟩ ⟨by omega, by omega⟩]; omega) | (rw [I_le ⟨by omega, by omega⟩ ⟨by omega, by omega⟩]; omega) | (rw [I_eq ⟨by omega, by omega⟩ ⟨by omega, by omega⟩]; omega) | (rw [J_lt ⟨by omega, by omega⟩ ⟨by omega, by omega⟩]; omega) | (rw [J_le ⟨by omega, by omega⟩ ⟨by omega, by omega⟩]; omega) | (rw [J_eq ⟨by omega, by omega⟩ ⟨by omega, by omega⟩]; omega)) ⟨by omega, by omega, kx (by omega)⟩
/-- a month's benefit made anew -/
def bnV (l m : Nat) (s : xS) : Int := ben (s 10 (200 * l + m) 0 - s 10 (200 * l + m) 1) (incn (s 4 (400 + l)) (m + 1))
def bnA (l m : Nat) (s : xS) : xS := if s 9 l m = 0 then s else su s 10 (200 * l + m) 2 (bnV l m s)
def bnD (l m : Nat) (s : xS) : Int := if s 9 l m = 0 then 0 else s 10 (200 * l + m) 2 - bnV l m s
def bnLs (l : Nat) : Nat → Nat → xS → Int → Int
  | _, 0, _, acc => acc
  | m, k + 1, s, acc => bnLs l (m + 1) k (bnA l m s) (acc + bnD l m s)
theorem bnA_o {l m p i : Nat} (h : ¬ (p = 10 ∧ i = 200 * l + m)) : bnA l m s p i = s p i := by
  unfold bnA
  split
  · rfl
  · rw [su_f _ h]
theorem sp_bnLoop {K : Int64 → xT → Prop} {l e : Nat} (hl : l < q.2.1) (he : e ≤ 121) : ∀ (r m : Nat) (s : xS) (t : xT) (acc : Int), m + r = e → RR ad q lo s u co t → HB q s → (∀ m, m < 121 → okBl s l m) → (∀ m, m < 121 → -1 ≤ s 4 (400 + l) m ∧ s 4 (400 + l) m ≤ 1000000) → (∀ t, RR ad q lo (lp (bnA l) m r s) u co t → K (J (bnLs l m r s acc)) t) → V_X3_benefitsAnew_5 K (r + 1) (ad 6 l) (I e) (J acc) (I m) t := by
  intro r
  induction r with
  | zero =>
    intro m s t acc hm hR hB hbl ht kk
    show VS_X3_benefitsAnew_5 _ _ _ _ _ _ _
    unfold VS_X3_benefitsAnew_5
    exact xbt (by (try simp only [I_lit, J_lit, I_ofNat, I_neg, I_add, I_sub, I_mul, J_neg, J_add, J_sub, J_mul]); first | (rw [I_lt ⟨by omega, by omega⟩ ⟨by omega, by omega⟩]; omega) | (rw [I_le ⟨by omega, by omega⟩ ⟨by omega, by omega⟩]; omega) | (rw [I_eq ⟨by omega, by omega⟩ ⟨by omega, by omega⟩]; omega) | (rw [J_lt ⟨by omega, by omega⟩ ⟨by omega, by omega⟩]; omega) | (rw [J_le ⟨by omega, by omega⟩ ⟨by omega, by omega⟩]; omega) | (rw [J_eq ⟨by omega, by omega⟩ ⟨by omega, by omega⟩]; omega)) (kk _ hR)
  | succ r ih =>
    intro m s t acc hm hR hB hbl ht kk
    show VS_X3_benefitsAnew_5 _ _ _ _ _ _ _
    unfold VS_X3_benefitsAnew_5
    refine xbf (by (try simp only [I_lit, J_lit, I_ofNat, I_neg, I_add, I_sub, I_mul, J_neg, J_add, J_sub, J_mul]); first | (rw [I_lt ⟨by omega, by omega⟩ ⟨by omega, by omega⟩]; omega) | (rw [I_le ⟨by omega, by omega⟩ ⟨by omega, by omega⟩]; omega) | (rw [I_eq ⟨by omega, by omega⟩ ⟨by omega, by omega⟩]; omega) | (rw [J_lt ⟨by omega, by omega⟩ ⟨by omega, by omega⟩]; omega) | (rw [J_le ⟨by omega, by omega⟩ ⟨by omega, by omega⟩]; omega) | (rw [J_eq ⟨by omega, by omega⟩ ⟨by omega, by omega⟩]; omega)) ?_
    refine ⟨xis_R hR (by simp only [clv, eq_self_iff_true, true_or, or_true, false_or, or_false, true_and, and_true, false_and, and_false] <;> omega) rfl, ?_⟩
    refine sp_billOf hR hl (by omega) ?_
    rw [show ((m : Int).toNat) = m by omega, show (I (m : Int) + 1 : Int32) = I ((m + 1 : Nat) : Int) from I_add _ 1]
    have kk2 : ∀ t, RR ad q lo (lp (bnA l) (m + 1) r (bnA l m s)) u co t → K (J (bnLs l (m + 1) r (bnA l m s) (acc + bnD l m s))) t := kk
    have hrng := incn_rng (g := s 4 (400 + l)) (n := m + 1) (fun k hk => ht k (by omega))
    by_cases c : s 9 l m = 0
    · rw [if_pos c]
      have e1 : bnA l m s = s := by unfold bnA; rw [if_pos c]
      have e2 : bnD l m s = 0 := by unfold bnD; rw [if_pos c]
      rw [e1, e2, Int.add_zero] at kk2
      exact ⟨fun _ => ih (m + 1) s t acc (by omega) hR hB hbl ht kk2, fun a e => by cases e⟩
    · rw [if_neg c]
      refine ⟨fun e => (nomatch e), fun a e => ?_⟩
      cases e
      have hb : clv q lo 10 (200 * l + m) := Or.inr ((hB _ _ hl (by omega)).mpr c)
      obtain ⟨b0, b1, b2, b3⟩ := hbl m (by omega) c
      refine xgI_R hR hb rfl rfl ?_
      refine xgI_R hR hb rfl rfl ?_
      refine ⟨xis_R hR (by simp only [clv, eq_self_iff_true, true_or, or_true, false_or, or_false, true_and, and_true, false_and, and_false] <;> omega) rfl, ?_⟩
      refine sp_incomeIn hR hl (fun k hk => by have := ht k hk; exact ⟨by omega, by omega⟩) (by omega) ?_
      rw [show ((m : Int).toNat) = m by omega, I_sub]
      refine sp_benefit (by omega) (by omega) ?_
      have hben := ben_rng (r := s 10 (200 * l + m) 0 - s 10 (200 * l + m) 1) (i := incn (s 4 (400 + l)) (m + 1)) (by omega)
      refine xgI_R hR hb rfl rfl ?_
      rw [I_sub]
      refine xpF_I hR hb (by decide) rfl (Nat.le_of_ble_eq_true rfl) rfl (fun t hR => ?_)
      rw [I_long ⟨by omega, by omega⟩, J_add]
      have e1 : bnA l m s = su s 10 (200 * l + m) 2 (bnV l m s) := by unfold bnA; rw [if_neg c]
      have e2 : bnD l m s = s 10 (200 * l + m) 2 - bnV l m s := by unfold bnD; rw [if_neg c]
      rw [e1, e2] at kk2
      refine ih (m + 1) (su s 10 (200 * l + m) 2 (bnV l m s)) t _ (by omega) hR (fun l' m' a b => ?_) (fun m' hm' => ?_) (fun k hk => by simp (config := { decide := true }) only [su_r, su_f, sup_n, not_false_eq_true, eq_self_iff_true, true_or, or_true, false_or, or_false, true_and, and_true, false_and, and_false, if_true, if_false, ite_true, ite_false]; exact ht k hk) kk2
      · rw [su_f _ (by omega)]
        exact hB l' m' a b
      · have := hbl m' hm'
        unfold okBl at this ⊢
        simp (config := { decide := true }) only [su_r, su_f, sup_n, not_false_eq_true, eq_self_iff_true, true_or, or_true, false_or, or_false, true_and, and_true, false_and, and_false, if_true, if_false, ite_true, ite_false]
        intro h9
        have := this h9
        by_cases cc : m' = m
        · subst cc
          simp only [eq_self_iff_true, if_true]
          unfold bnV
          refine ⟨this.1, this.2.1, ⟨hben.1, by omega⟩, this.2.2.2⟩
        · simp only [show ¬ (200 * l + m' = 200 * l + m) by omega, if_false]
          exact this
def incS (l m now : Nat) (x : Int) (s : xS) : xS := toDsk l (-bnLs l m (now - m) (su s 4 (400 + l) m x) 0) (toTen l (bnLs l m (now - m) (su s 4 (400 + l) m x) 0) (lp (bnA l) m (now - m) (su s 4 (400 + l) m x)))
theorem sp_income {K : Int64 → xT → Prop} {z m x : Int} (hR : RR ad q lo s u co t) (hB : HB q s) (hT : okT s) (hL : LI q s 1 n) (hn : n ≤ q.2.1) (hz : i32 z) (hm : i32 m) (hx : i32 x) (hbl : ∀ l m, l < n → m < 121 → okBl s l m) (hok : ∀ l, l < n → okL q s l) (h1 : 5 ≤ rc) (h2 : 30 ≤ rs) (kx : ¬ ((0 ≤ z ∧ z < n) ∧ 0 ≤ m ∧ m ≤ s 0 0 8 / 30) → KX IOB t) (ky : ((0 ≤ z ∧ z < n) ∧ 0 ≤ m ∧ m ≤ s 0 0 8 / 30) → ¬ (0 ≤ x ∧ x ≤ 1000000) → KX IAE t) (kk : ((0 ≤ z ∧ z < n) ∧ 0 ≤ m ∧ m ≤ s 0 0 8 / 30) → (0 ≤ x ∧ x ≤ 1000000) → ∀ t, RR ad q lo (incS z.toNat m.toNat (nowN s) x s) u co t → K (J (bnLs z.toNat m.toNat (nowN s - m.toNat) (su s 4 (400 + z.toNat) m.toNat x) 0)) t) : V_X7_income_0 KX K (ad 0 0) (I z) (I m) (I x) t rc rs := by
  unfold okT at hT
  unfold i32 at hx
  unfold V_X7_income_0
  refine ⟨xis_R hR (by simp only [clv, eq_self_iff_true, true_or, or_true, false_or, or_false, true_and, and_true, false_and, and_false] <;> omega) rfl, ?_⟩
  refine ⟨1, 6, by omega, by omega, ?_⟩
  refine sp_leaseAt hR hL hn hz (by omega) (by omega) (fun hc => kx (by omega)) (fun hc => ?_)
  refine ⟨xis_R hR (by simp only [clv, eq_self_iff_true, true_or, or_true, false_or, or_false, true_and, and_true, false_and, and_false] <;> omega) rfl, ?_⟩
  refine ⟨1, 6, by omega, by omega, ?_⟩
  refine sp_needMonth hR (by omega) hm (by omega) (by omega) (fun hd => kx (by omega)) (fun hd => ?_)
  by_cases c1 : x < 0
  · exact xbt (by (try simp only [I_lit, J_lit, I_ofNat, I_neg, I_add, I_sub, I_mul, J_neg, J_add, J_sub, J_mul]); first | (rw [I_lt ⟨by omega, by omega⟩ ⟨by omega, by omega⟩]; omega) | (rw [I_le ⟨by omega, by omega⟩ ⟨by omega, by omega⟩]; omega) | (rw [I_eq ⟨by omega, by omega⟩ ⟨by omega, by omega⟩]; omega) | (rw [J_lt ⟨by omega, by omega⟩ ⟨by omega, by omega⟩]; omega) | (rw [J_le ⟨by omega, by omega⟩ ⟨by omega, by omega⟩]; omega) | (rw [J_eq ⟨by omega, by omega⟩ ⟨by omega, by omega⟩]; omega)) ⟨by omega, by omega, ky ⟨hc, hd⟩ (by omega)⟩
  · refine xbf (by (try simp only [I_lit, J_lit, I_ofNat, I_neg, I_add, I_sub, I_mul, J_neg, J_add, J_sub, J_mul]); first | (rw [I_lt ⟨by omega, by omega⟩ ⟨by omega, by omega⟩]; omega) | (rw [I_le ⟨by omega, by omega⟩ ⟨by omega, by omega⟩]; omega) | (rw [I_eq ⟨by omega, by omega⟩ ⟨by omega, by omega⟩]; omega) | (rw [J_lt ⟨by omega, by omega⟩ ⟨by omega, by omega⟩]; omega) | (rw [J_le ⟨by omega, by omega⟩ ⟨by omega, by omega⟩]; omega) | (rw [J_eq ⟨by omega, by omega⟩ ⟨by omega, by omega⟩]; omega)) ?_
    by_cases c2 : x ≤ 1000000
    · refine xbt (by (try simp only [I_lit, J_lit, I_ofNat, I_neg, I_add, I_sub, I_mul, J_neg, J_add, J_sub, J_mul]); first | (rw [I_lt ⟨by omega, by omega⟩ ⟨by omega, by omega⟩]; omega) | (rw [I_le ⟨by omega, by omega⟩ ⟨by omega, by omega⟩]; omega) | (rw [I_eq ⟨by omega, by omega⟩ ⟨by omega, by omega⟩]; omega) | (rw [J_lt ⟨by omega, by omega⟩ ⟨by omega, by omega⟩]; omega) | (rw [J_le ⟨by omega, by omega⟩ ⟨by omega, by omega⟩]; omega) | (rw [J_eq ⟨by omega, by omega⟩ ⟨by omega, by omega⟩]; omega)) ⟨_, rfl, ?_⟩
      have kk2 := kk ⟨hc, hd⟩ (by omega)
      have hl : z.toNat < q.2.1 := by omega
      have hzn : z.toNat < n := by omega
      generalize z.toNat = l at hl kk2 hzn ⊢
      refine xgR_R hR (p := 6) hl rfl rfl ?_
      refine ⟨xis_R hR (p := 3) (by simp only [clv, eq_self_iff_true, true_or, or_true, false_or, or_false, true_and, and_true, false_and, and_false] <;> omega) rfl, ?_⟩
      refine sp_put hR (by simp only [clv, eq_self_iff_true, true_or, or_true, false_or, or_false, true_and, and_true, false_and, and_false] <;> omega) (by omega) (fun t hR => ?_)
      have hmn : m = ((m.toNat : Nat) : Int) := by omega
      have hmn2 : m.toNat ≤ nowN s := by unfold nowN; omega
      generalize m.toNat = mm at hmn hmn2 kk2 hR ⊢
      subst hmn
      refine ⟨xis_R hR (by simp only [clv, eq_self_iff_true, true_or, or_true, false_or, or_false, true_and, and_true, false_and, and_false] <;> omega) rfl, ?_⟩
      refine sp_now hR (by simp (config := { decide := true }) only [su_r, su_f, sup_n, not_false_eq_true, eq_self_iff_true, true_or, or_true, false_or, or_false, true_and, and_true, false_and, and_false, if_true, if_false, ite_true, ite_false]; omega) ?_
      simp (config := { decide := true }) only [su_r, su_f, sup_n, not_false_eq_true, eq_self_iff_true, true_or, or_true, false_or, or_false, true_and, and_true, false_and, and_false, if_true, if_false, ite_true, ite_false]
      rw [show (s 0 0 8 / 30) = ((nowN s : Nat) : Int) by unfold nowN; omega]
      refine ⟨xis_R hR (p := 6) hl rfl, ?_⟩
      refine ⟨nowN s - mm + 1, ?_⟩
      refine sp_bnLoop (e := nowN s) hl (by unfold nowN; omega) (nowN s - mm) mm _ t 0 (by omega) hR (fun l' m' a b => ?_) (fun m' hm' => ?_) (fun k hk => ?_) (fun t hR => ?_)
      · rw [su_f _ (by omega)]
        exact hB l' m' a b
      · have := hbl l m' hzn hm'
        unfold okBl at this ⊢
        simp (config := { decide := true }) only [su_r, su_f, sup_n, not_false_eq_true, eq_self_iff_true, true_or, or_true, false_or, or_false, true_and, and_true, false_and, and_false, if_true, if_false, ite_true, ite_false]
        exact this
      · have := (hok l hzn).2.2.2.2.2 k hk
        rw [su_r]
        split
        · omega
        · exact this
      · refine ⟨xis_R hR (by simp only [clv, eq_self_iff_true, true_or, or_true, false_or, or_false, true_and, and_true, false_and, and_false] <;> omega) rfl, ?_⟩
        refine sp_toTenant hR hl (fun t hR => ?_)
        refine ⟨xis_R hR (by simp only [clv, eq_self_iff_true, true_or, or_true, false_or, or_false, true_and, and_true, false_and, and_false] <;> omega) rfl, ?_⟩
        rw [J_neg]
        refine sp_toDesk hR hl (fun t hR => ?_)
        exact kk2 _ hR
    · exact xbf (by (try simp only [I_lit, J_lit, I_ofNat, I_neg, I_add, I_sub, I_mul, J_neg, J_add, J_sub, J_mul]); first | (rw [I_lt ⟨by omega, by omega⟩ ⟨by omega, by omega⟩]; omega) | (rw [I_le ⟨by omega, by omega⟩ ⟨by omega, by omega⟩]; omega) | (rw [I_eq ⟨by omega, by omega⟩ ⟨by omega, by omega⟩]; omega) | (rw [J_lt ⟨by omega, by omega⟩ ⟨by omega, by omega⟩]; omega) | (rw [J_le ⟨by omega, by omega⟩ ⟨by omega, by omega⟩]; omega) | (rw [J_eq ⟨by omega, by omega⟩ ⟨by omega, by omega⟩]; omega)) ⟨by omega, by omega, ky ⟨hc, hd⟩ (by omega)⟩
end CLS11
