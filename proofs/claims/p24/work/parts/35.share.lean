/-! ===== loops over the lists; the heat is shared ===== -/
/-- k steps from i on -/
def lp (f : Nat → xS → xS) (i : Nat) : Nat → xS → xS
  | 0, s => s
  | k + 1, s => lp f (i + 1) k (f i s)
def sumn (g : Nat → Int) : Nat → Int
  | 0 => 0
  | n + 1 => sumn g n + g n
/-- the first of the greatest -/
def gpk (g : Nat → Int) : Nat → Nat
  | 0 => 0
  | 1 => 0
  | n + 2 => if g (gpk g (n + 1)) < g (n + 1) then n + 1 else gpk g (n + 1)
theorem gpk_lt (g : Nat → Int) (n : Nat) : gpk g (n + 1) < n + 1 := by
  induction n with
  | zero => exact Nat.zero_lt_one
  | succ n ih =>
    show (if g (gpk g (n + 1)) < g (n + 1) then n + 1 else gpk g (n + 1)) < n + 2
    split <;> omega
theorem sumn_rng {g : Nat → Int} {b : Int} {n : Nat} (h : ∀ l, l < n → 0 ≤ g l ∧ g l ≤ b) : 0 ≤ sumn g n ∧ sumn g n ≤ n * b := by
  induction n with
  | zero => exact ⟨Int.le_refl _, by show (0 : Int) ≤ ((0 : Nat) : Int) * b; simp⟩
  | succ n ih =>
    have h1 := ih (fun l hl => h l (by omega))
    have h2 := h n (by omega)
    show 0 ≤ sumn g n + g n ∧ sumn g n + g n ≤ ((n + 1 : Nat) : Int) * b
    rw [show ((n + 1 : Nat) : Int) * b = n * b + b by rw [Int.natCast_add, Int.add_mul]; simp]
    omega
section CLS3
variable {ad : xAd} {q : xL} {lo : Nat → Nat → Prop} {s u : xS} {co : Nat → Nat → xE} {t : xT}
/-- how many live of a list's elements; their class -/
def qn (q : xL) (k : Nat) : Nat := match k with | 0 => q.1 | 1 => q.2.1 | _ => q.2.2.1
def kc (k : Nat) : Nat := match k with | 0 => 1 | 1 => 3 | _ => 6
theorem xlist {k n i : Nat} {E : xT → Prop} {Bd : Nat → xT → Prop} (hk : k < 3) (hR : RR ad q lo s u co t) (hL : LI q s k n) (hn : n ≤ qn q k) (hi : i ≤ n) (e : i = n → E t) (b : i < n → Bd (ad (elt k) i) t) :
    xgR t (ad 0 0) 7 k fun a_1 => (xis t a_1 10 ∧ V_Jx4a65c_size_8abf5_0 (fun x_3 t_2 => ((x_3 ≤ I i → E t_2) ∧ (¬ x_3 ≤ I i → xgR t_2 (ad 0 0) 7 k fun a_6 => (xis t_2 a_6 10 ∧ V_Jx4a65c_get_915e3_0 (fun o t_7 => xnl o fun a_9 => (xis t_7 a_9 (kc k) ∧ Bd a_9 t_7)) a_6 (I i) t_2)))) a_1 t) := by
  have hb : (n : Int) ≤ 1000 := by have := hL.2.1; have := hL.2.2.1; omega
  have h7 : ∀ (K : Nat → Prop), K (ad 1 k) → xgR t (ad 0 0) 7 k K := fun K h => by
    refine xgR_R hR (p := 0) (i := 0) rfl rfl ?_ h
    rcases k with _ | _ | _ | k
    · rfl
    · rfl
    · rfl
    · omega
  refine h7 _ ⟨xis_R hR (p := 1) hk rfl, sp_size hR hk hL ?_⟩
  by_cases c : i = n
  · exact xbt (by (try simp only [I_lit, J_lit, I_ofNat, I_neg, I_add, I_sub, I_mul, J_neg, J_add, J_sub, J_mul]); first | (rw [I_lt ⟨by omega, by omega⟩ ⟨by omega, by omega⟩]; omega) | (rw [I_le ⟨by omega, by omega⟩ ⟨by omega, by omega⟩]; omega) | (rw [I_eq ⟨by omega, by omega⟩ ⟨by omega, by omega⟩]; omega) | (rw [J_lt ⟨by omega, by omega⟩ ⟨by omega, by omega⟩]; omega) | (rw [J_le ⟨by omega, by omega⟩ ⟨by omega, by omega⟩]; omega) | (rw [J_eq ⟨by omega, by omega⟩ ⟨by omega, by omega⟩]; omega)) (e c)
  · refine xbf (by (try simp only [I_lit, J_lit, I_ofNat, I_neg, I_add, I_sub, I_mul, J_neg, J_add, J_sub, J_mul]); first | (rw [I_lt ⟨by omega, by omega⟩ ⟨by omega, by omega⟩]; omega) | (rw [I_le ⟨by omega, by omega⟩ ⟨by omega, by omega⟩]; omega) | (rw [I_eq ⟨by omega, by omega⟩ ⟨by omega, by omega⟩]; omega) | (rw [J_lt ⟨by omega, by omega⟩ ⟨by omega, by omega⟩]; omega) | (rw [J_le ⟨by omega, by omega⟩ ⟨by omega, by omega⟩]; omega) | (rw [J_eq ⟨by omega, by omega⟩ ⟨by omega, by omega⟩]; omega)) (h7 _ ⟨xis_R hR (p := 1) hk rfl, sp_get hR hk hL (by omega) ⟨_, rfl, ?_⟩⟩)
    refine ⟨?_, b (by omega)⟩
    have hl : i < qn q k := by omega
    rcases k with _ | _ | _ | k
    · exact xis_R hR (p := 5) (i := i) hl rfl
    · exact xis_R hR (p := 6) (i := i) hl rfl
    · exact xis_R hR (p := 11) (i := i) hl rfl
    · omega
theorem xlist0 {n i : Nat} {E : xT → Prop} {Bd : Nat → xT → Prop} (hR : RR ad q lo s u co t) (hL : LI q s 0 n) (hn : n ≤ qn q 0) (hi : i ≤ n) (e : i = n → E t) (b : i < n → Bd (ad 5 i) t) :
    xgR t (ad 0 0) 7 0 fun a_1 => (xis t a_1 10 ∧ V_Jx4a65c_size_8abf5_0 (fun x_3 t_2 => ((x_3 ≤ I i → E t_2) ∧ (¬ x_3 ≤ I i → xgR t_2 (ad 0 0) 7 0 fun a_6 => (xis t_2 a_6 10 ∧ V_Jx4a65c_get_915e3_0 (fun o t_7 => xnl o fun a_9 => (xis t_7 a_9 1 ∧ Bd a_9 t_7)) a_6 (I i) t_2)))) a_1 t) := xlist (k := 0) (by decide) hR hL hn hi e b
theorem xlist1 {n i : Nat} {E : xT → Prop} {Bd : Nat → xT → Prop} (hR : RR ad q lo s u co t) (hL : LI q s 1 n) (hn : n ≤ qn q 1) (hi : i ≤ n) (e : i = n → E t) (b : i < n → Bd (ad 6 i) t) :
    xgR t (ad 0 0) 7 1 fun a_1 => (xis t a_1 10 ∧ V_Jx4a65c_size_8abf5_0 (fun x_3 t_2 => ((x_3 ≤ I i → E t_2) ∧ (¬ x_3 ≤ I i → xgR t_2 (ad 0 0) 7 1 fun a_6 => (xis t_2 a_6 10 ∧ V_Jx4a65c_get_915e3_0 (fun o t_7 => xnl o fun a_9 => (xis t_7 a_9 3 ∧ Bd a_9 t_7)) a_6 (I i) t_2)))) a_1 t) := xlist (k := 1) (by decide) hR hL hn hi e b
theorem xlist2 {n i : Nat} {E : xT → Prop} {Bd : Nat → xT → Prop} (hR : RR ad q lo s u co t) (hL : LI q s 2 n) (hn : n ≤ qn q 2) (hi : i ≤ n) (e : i = n → E t) (b : i < n → Bd (ad 11 i) t) :
    xgR t (ad 0 0) 7 2 fun a_1 => (xis t a_1 10 ∧ V_Jx4a65c_size_8abf5_0 (fun x_3 t_2 => ((x_3 ≤ I i → E t_2) ∧ (¬ x_3 ≤ I i → xgR t_2 (ad 0 0) 7 2 fun a_6 => (xis t_2 a_6 10 ∧ V_Jx4a65c_get_915e3_0 (fun o t_7 => xnl o fun a_9 => (xis t_7 a_9 6 ∧ Bd a_9 t_7)) a_6 (I i) t_2)))) a_1 t) := xlist (k := 2) (by decide) hR hL hn hi e b
/-- the use of a lease's flat, as far as it runs -/
def useb (s : xS) (l m : Nat) : Int := if runb s l m = 0 then 0 else s 4 (200 + (s 6 l 0).toNat) m
/-- what a lease is, that loops may ask -/
def okL (q : xL) (s : xS) (l : Nat) : Prop := l < q.2.1 ∧ (s 6 l 0).toNat < q.1 ∧ (0 ≤ s 6 l 8 ∧ s 6 l 8 ≤ 500000) ∧ (-1 ≤ s 6 l 1 ∧ s 6 l 1 ≤ 1000) ∧ (0 ≤ s 6 l 9 ∧ s 6 l 9 ≤ 1000) ∧ ∀ m, m < 121 → -1 ≤ s 4 (400 + l) m ∧ s 4 (400 + l) m ≤ 1000000
theorem sp_useIn {K : Int32 → xT → Prop} {l m : Nat} (hR : RR ad q lo s u co t) (hl : okL q s l) (hm : m < 121) (kk : K (I (useb s l m)) t) : V_X3_useIn_0 K (ad 6 l) (I m) t := by
  obtain ⟨h1, h2, h3, h4, h5, h6⟩ := hl
  unfold V_X3_useIn_0
  refine ⟨xis_R hR (by simp only [clv, eq_self_iff_true, true_or, or_true, false_or, or_false, true_and, and_true, false_and, and_false] <;> omega) rfl, ?_⟩
  refine sp_runsIn hR h1 ⟨by omega, by omega⟩ ⟨by omega, by omega⟩ ⟨by omega, by omega⟩ ?_
  unfold useb at kk
  have hr : runb s l m = 0 ∨ runb s l m = 1 := by unfold runb; split <;> simp
  rcases hr with hr | hr
  · rw [if_pos hr] at kk
    rw [hr]
    exact xbt rfl kk
  · rw [if_neg (by omega)] at kk
    rw [hr]
    refine xbf (by decide) ?_
    refine xgR_R hR (by simp only [clv, eq_self_iff_true, true_or, or_true, false_or, or_false, true_and, and_true, false_and, and_false] <;> omega) rfl rfl ?_
    refine xgR_R hR (by simp only [clv, eq_self_iff_true, true_or, or_true, false_or, or_false, true_and, and_true, false_and, and_false] <;> omega) rfl rfl ?_
    refine ⟨xis_R hR (by simp only [clv, eq_self_iff_true, true_or, or_true, false_or, or_false, true_and, and_true, false_and, and_false] <;> omega) rfl, ?_⟩
    refine sp_in hR (by simp only [clv, eq_self_iff_true, true_or, or_true, false_or, or_false, true_and, and_true, false_and, and_false] <;> omega) (by omega) ?_
    rw [show ((m : Int).toNat) = m by omega]
    exact kk
theorem sp_usesLoop {K : Int64 → xT → Prop} {n m : Nat} (hR : RR ad q lo s u co t) (hL : LI q s 1 n) (hn : n ≤ q.2.1) (ho : ∀ l, l < n → okL q s l) (hm : m < 121) (hu : ∀ l, l < n → i32 (useb s l m)) : ∀ (r i : Nat), i + r = n → K (J (sumn (fun l => useb s l m) n)) t → V_X7_usesOfAll_5 K (r + 1) (ad 0 0) (I m) (J (sumn (fun l => useb s l m) i)) (I i) t := by
  intro r
  induction r with
  | zero =>
    intro i hi kk
    show VS_X7_usesOfAll_5 _ _ _ _ _ _ _
    unfold VS_X7_usesOfAll_5
    refine xlist1 hR hL hn (by omega) (fun e => ?_) (fun c => by omega)
    rw [e]
    exact kk
  | succ r ih =>
    intro i hi kk
    show VS_X7_usesOfAll_5 _ _ _ _ _ _ _
    unfold VS_X7_usesOfAll_5
    refine xlist1 hR hL hn (by omega) (fun e => by omega) (fun c => ?_)
    have hui := hu i c
    refine ⟨xis_R hR (p := 6) (ho i c).1 rfl, sp_useIn hR (ho i c) hm ?_⟩
    rw [I_long hui, J_add]
    have := ih (i + 1) (by omega) kk
    rw [show (I (i : Int) + 1 : Int32) = I ((i + 1 : Nat) : Int) from I_add _ 1]
    exact this
theorem sp_uses {K : Int64 → xT → Prop} {n m : Nat} (hR : RR ad q lo s u co t) (hL : LI q s 1 n) (hn : n ≤ q.2.1) (ho : ∀ l, l < n → okL q s l) (hm : m < 121) (hu : ∀ l, l < n → i32 (useb s l m)) (kk : K (J (sumn (fun l => useb s l m) n)) t) : V_X7_usesOfAll_0 K (ad 0 0) (I m) t := ⟨n + 1, sp_usesLoop hR hL hn ho hm hu n 0 (by omega) kk⟩
end CLS3
