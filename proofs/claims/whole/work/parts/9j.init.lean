/-! ===== the start of the law ===== -/
def mTi (i : Nat) (u : xS) : xS := su u 4 (400 + i / 121) (i % 121) (-1)
def mUi (i : Nat) (u : xS) : xS := su u 4 (200 + i / 121) (i % 121) (-1)
section START
variable {E : Nat → Nat} {ad : xAd} {q : xL} {lo : Nat → Nat → Prop} {s u u' : xS} {co : Nat → Nat → xE} {t : xT}
theorem mi_315 {K : xT → Prop} {rc rs : Nat} : ∀ (r i : Nat) (u : xS) (t : xT), i + r = 968 → RR ad q lo s u co t → (∀ t, RR ad q lo s (lp mUi i r u) co t → K t) → V_X8_init_315 K (r + 1) (ad 20 0) (I i) t rc rs := by
  intro r
  induction r with
  | zero =>
    intro i u t hi hR kk
    show VS_X8_init_315 (V_X8_init_315 K 0) K _ _ _ rc rs
    unfold VS_X8_init_315
    obtain rfl : i = 968 := by omega
    exact xbt (by decide) (kk t hR)
  | succ r ih =>
    intro i u t hi hR kk
    show VS_X8_init_315 (V_X8_init_315 K (r + 1)) K _ _ _ rc rs
    unfold VS_X8_init_315
    refine xbf (by (try simp only [I_lit, J_lit, I_ofNat, I_neg, I_add, I_sub, I_mul, J_neg, J_add, J_sub, J_mul]); first | (rw [I_lt ⟨by omega, by omega⟩ ⟨by omega, by omega⟩]; omega) | (rw [I_le ⟨by omega, by omega⟩ ⟨by omega, by omega⟩]; omega) | (rw [I_eq ⟨by omega, by omega⟩ ⟨by omega, by omega⟩]; omega) | (rw [J_lt ⟨by omega, by omega⟩ ⟨by omega, by omega⟩]; omega) | (rw [J_le ⟨by omega, by omega⟩ ⟨by omega, by omega⟩]; omega) | (rw [J_eq ⟨by omega, by omega⟩ ⟨by omega, by omega⟩]; omega)) ?_
    refine xgR_R hR (p := 20) (i := 0) rfl rfl rfl ?_
    rw [show (-1 : Int32) = I (-1) from rfl, show (I (i : Int) + 1 : Int32) = I ((i + 1 : Nat) : Int) from I_add _ 1]
    exact mpI0 9 hR (by decide) rfl (j := i) (by omega) (show i < 968 by omega) rfl (fun t hR => ih (i + 1) (mUi i u) t (by omega) hR kk)
theorem mi_293 {K : xT → Prop} {rc rs : Nat} : ∀ (r i : Nat) (u : xS) (t : xT), i + r = 1452 → RR ad q lo s u co t → (∀ t, RR ad q lo s (lp mUi 0 968 (lp mTi i r u)) co t → K t) → V_X8_init_293 K (r + 1) (ad 20 0) (I i) t rc rs := by
  intro r
  induction r with
  | zero =>
    intro i u t hi hR kk
    show VS_X8_init_293 (V_X8_init_293 K 0) K _ _ _ _ _
    unfold VS_X8_init_293
    obtain rfl : i = 1452 := by omega
    exact xbt (by decide) ⟨969, mi_315 968 0 u t (by omega) hR kk⟩
  | succ r ih =>
    intro i u t hi hR kk
    show VS_X8_init_293 (V_X8_init_293 K (r + 1)) K _ _ _ _ _
    unfold VS_X8_init_293
    refine xbf (by (try simp only [I_lit, J_lit, I_ofNat, I_neg, I_add, I_sub, I_mul, J_neg, J_add, J_sub, J_mul]); first | (rw [I_lt ⟨by omega, by omega⟩ ⟨by omega, by omega⟩]; omega) | (rw [I_le ⟨by omega, by omega⟩ ⟨by omega, by omega⟩]; omega) | (rw [I_eq ⟨by omega, by omega⟩ ⟨by omega, by omega⟩]; omega) | (rw [J_lt ⟨by omega, by omega⟩ ⟨by omega, by omega⟩]; omega) | (rw [J_le ⟨by omega, by omega⟩ ⟨by omega, by omega⟩]; omega) | (rw [J_eq ⟨by omega, by omega⟩ ⟨by omega, by omega⟩]; omega)) ?_
    refine xgR_R hR (p := 20) (i := 0) rfl rfl rfl ?_
    rw [show (-1 : Int32) = I (-1) from rfl, show (I (i : Int) + 1 : Int32) = I ((i + 1 : Nat) : Int) from I_add _ 1]
    exact mpI0 25 hR (by decide) rfl (j := i) (by omega) (show i < 1452 by omega) rfl (fun t hR => ih (i + 1) (mTi i u) t (by omega) hR kk)
theorem mTi_at : ∀ (r i : Nat) (u : xS) (l m : Nat), m < 121 → lp mTi i r u 4 (400 + l) m = if i ≤ 121 * l + m ∧ 121 * l + m < i + r then -1 else u 4 (400 + l) m := by
  intro r
  induction r with
  | zero =>
    intro i u l m hm
    rw [if_neg (by omega)]
    rfl
  | succ r ih =>
    intro i u l m hm
    show lp mTi (i + 1) r (mTi i u) 4 (400 + l) m = _
    rw [ih _ _ _ _ hm]
    unfold mTi
    rw [su_r]
    by_cases c : 121 * l + m = i
    · rw [if_pos (show i ≤ 121 * l + m ∧ 121 * l + m < i + (r + 1) by omega), if_neg (by omega), if_pos ⟨rfl, by omega, by omega⟩]
    · rw [if_neg (show ¬ (4 = 4 ∧ 400 + l = 400 + i / 121 ∧ m = i % 121) by omega)]
      by_cases c2 : i + 1 ≤ 121 * l + m ∧ 121 * l + m < i + 1 + r
      · rw [if_pos c2, if_pos (by omega)]
      · rw [if_neg c2, if_neg (by omega)]
theorem mUi_at : ∀ (r i : Nat) (u : xS) (l m : Nat), m < 121 → lp mUi i r u 4 (200 + l) m = if i ≤ 121 * l + m ∧ 121 * l + m < i + r then -1 else u 4 (200 + l) m := by
  intro r
  induction r with
  | zero =>
    intro i u l m hm
    rw [if_neg (by omega)]
    rfl
  | succ r ih =>
    intro i u l m hm
    show lp mUi (i + 1) r (mUi i u) 4 (200 + l) m = _
    rw [ih _ _ _ _ hm]
    unfold mUi
    rw [su_r]
    by_cases c : 121 * l + m = i
    · rw [if_pos (show i ≤ 121 * l + m ∧ 121 * l + m < i + (r + 1) by omega), if_neg (by omega), if_pos ⟨rfl, by omega, by omega⟩]
    · rw [if_neg (show ¬ (4 = 4 ∧ 200 + l = 200 + i / 121 ∧ m = i % 121) by omega)]
      by_cases c2 : i + 1 ≤ 121 * l + m ∧ 121 * l + m < i + 1 + r
      · rw [if_pos c2, if_pos (by omega)]
      · rw [if_neg c2, if_neg (by omega)]
/-- the model's numbers may be others where nobody reads them -/
theorem RR_u (hR : RR ad q lo s u co t) (h20 : mce ad u' 20 0 = mce ad u 20 0) (h : ∀ k j, j < (mkd k).2 → mva u' k j = mva u k j) : RR ad q lo s u' co t := by
  refine ⟨fun p i hl => ?_, hR.2⟩
  obtain ⟨e, h1, h2⟩ := hR.1 p i hl
  refine ⟨e, h1, ?_⟩
  by_cases hc : p < 20 ∨ 22 ≤ p
  · rw [xce_u hc]
    exact h2
  · have hc2 : p = 20 ∨ p = 21 := by omega
    rcases hc2 with rfl | rfl
    · have hi : i = 0 := hl
      subst hi
      show sim e (mce ad u' 20 0)
      rw [h20]
      exact h2
    · exact mce_sim (ad := ad) (fun j hj => h i j hj) h2
def uL : xS := lp mUi 0 968 (lp mTi 0 1452 (su (su u00 21 10 0 100) 21 10 1 100))
theorem uL_o {p i k : Nat} (h : ¬ (p = 4 ∧ 200 ≤ i ∧ i < 412)) : uL p i k = if p = 21 ∧ i = 10 ∧ k ≤ 1 then 100 else 0 := by
  have a1 : ∀ (r j : Nat) (u : xS), j + r ≤ 968 → lp mUi j r u p i k = u p i k := by
    intro r
    induction r with
    | zero => exact fun _ _ _ => rfl
    | succ r ih =>
      intro j u hj
      show lp mUi (j + 1) r (mUi j u) p i k = _
      rw [ih _ _ (by omega)]
      unfold mUi
      rw [su_r, if_neg (by omega)]
  have a2 : ∀ (r j : Nat) (u : xS), j + r ≤ 1452 → lp mTi j r u p i k = u p i k := by
    intro r
    induction r with
    | zero => exact fun _ _ _ => rfl
    | succ r ih =>
      intro j u hj
      show lp mTi (j + 1) r (mTi j u) p i k = _
      rw [ih _ _ (by omega)]
      unfold mTi
      rw [su_r, if_neg (by omega)]
  unfold uL
  rw [a1 968 0 _ (by omega), a2 1452 0 _ (by omega), su_r, su_r]
  unfold u00
  by_cases c : p = 21 ∧ i = 10 ∧ k ≤ 1
  · rw [if_pos c]
    by_cases k1 : k = 1
    · rw [if_pos ⟨c.1, c.2.1, k1⟩]
    · rw [if_neg (fun g => k1 g.2.2), if_pos ⟨c.1, c.2.1, by omega⟩]
  · rw [if_neg c, if_neg (by omega), if_neg (by omega)]
theorem uL_t {l m : Nat} (hl : l < 12) (hm : m < 121) : uL 4 (400 + l) m = -1 := by
  unfold uL
  have a1 : ∀ (r j : Nat) (u : xS), j + r ≤ 968 → lp mUi j r u 4 (400 + l) m = u 4 (400 + l) m := by
    intro r
    induction r with
    | zero => exact fun _ _ _ => rfl
    | succ r ih =>
      intro j u hj
      show lp mUi (j + 1) r (mUi j u) 4 (400 + l) m = _
      rw [ih _ _ (by omega)]
      unfold mUi
      rw [su_r, if_neg (by omega)]
  rw [a1 968 0 _ (by omega), mTi_at _ _ _ _ _ hm, if_pos (by omega)]
theorem uL_u {f m : Nat} (hf : f < 8) (hm : m < 121) : uL 4 (200 + f) m = -1 := by
  unfold uL
  rw [mUi_at _ _ _ _ _ hm, if_pos (by omega)]
theorem u0_eq : (∀ ad : xAd, mce ad u0i 20 0 = mce ad uL 20 0) ∧ ∀ k j, j < (mkd k).2 → mva u0i k j = mva uL k j := by
  constructor
  · intro ad
    have e : ∀ a b c, a = 0 ∨ a = 1 ∨ a = 20 → uL a b c = 0 := fun a b c h => by rw [uL_o (by omega), if_neg (by omega)]
    have e2 : ∀ a b c, a = 0 ∨ a = 1 ∨ a = 20 → u0i a b c = 0 := fun a b c h => by
      obtain rfl | rfl | rfl := h
      · rfl
      · rfl
      · rfl
    unfold mce
    simp only [e 20 _ _ (by decide), e 0 _ _ (by decide), e 1 _ _ (by decide), e2 20 _ _ (by decide), e2 0 _ _ (by decide), e2 1 _ _ (by decide)]
  · intro k j hj
    have hk := mvr_tag hj
    unfold mva
    unfold mkd at hj
    split at hj
    all_goals try exact absurd hj (Nat.not_lt_zero j)
    all_goals try (rw [uL_o (by show ¬ ((_ : Nat) = 4 ∧ _); simp [mvr])]; simp [mvr, u0i]; done)
    · have hj' : j < 968 := hj
      show u0i 4 (200 + j / 121) (j % 121) = uL 4 (200 + j / 121) (j % 121)
      rw [uL_u (by omega) (by omega)]
      show (if 200 + j / 121 = 0 then (100 : Int) else if 200 + j / 121 = 100 then 0 else if 300 ≤ 200 + j / 121 ∧ 200 + j / 121 < 400 then 0 else -1) = -1
      rw [if_neg (by omega), if_neg (by omega), if_neg (by omega)]
    · have hj' : j < 1452 := hj
      show u0i 4 (400 + j / 121) (j % 121) = uL 4 (400 + j / 121) (j % 121)
      rw [uL_t (by omega) (by omega)]
      show (if 400 + j / 121 = 0 then (100 : Int) else if 400 + j / 121 = 100 then 0 else if 300 ≤ 400 + j / 121 ∧ 400 + j / 121 < 400 then 0 else -1) = -1
      rw [if_neg (by omega), if_neg (by omega), if_neg (by omega)]
end START
