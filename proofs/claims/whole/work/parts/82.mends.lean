/-! ===== the model ends a month, begins one, lets days pass ===== -/
def mEm (m l : Nat) (u : xS) : xS := if mrunb u l m = 0 then planM l u else mBl m l (planM l u)
theorem mBl_o {m l p i : Nat} {u : xS} (h10 : p ≠ 10) (h6 : ¬ (p = 6 ∧ i = l)) (h9 : ¬ (p = 9 ∧ i = l)) : mBl m l u p i = u p i := by
  unfold mBl mB4
  rw [su_f _ h6, su_f _ h6, su_f _ (by omega), su_f _ (by omega), su_f _ (by omega), su_f _ (by omega), su_f _ h9]
theorem mEm_o {m l p i : Nat} {u : xS} (h10 : p ≠ 10) (h6 : ¬ (p = 6 ∧ i = l)) (h7 : ¬ (p = 7 ∧ i = l)) (h9 : ¬ (p = 9 ∧ i = l)) : mEm m l u p i = u p i := by
  unfold mEm
  split
  · exact planM_o h7
  · rw [mBl_o h10 h6 h9, planM_o h7]
/-- what the model's month's end wants of a lease -/
def okmE (u : xS) (l : Nat) : Prop := okml u l ∧ okP u l ∧ (0 ≤ u 6 l 8 ∧ u 6 l 8 ≤ 500000) ∧ (0 ≤ u 6 l 0 ∧ u 6 l 0 < 8) ∧ (∀ m, m < 121 → -1 ≤ u 4 (400 + l) m ∧ u 4 (400 + l) m ≤ 1000000) ∧ (0 ≤ u 21 36 l ∧ u 21 36 l ≤ 100000000) ∧ (0 ≤ u 21 8 (u 6 l 0).toNat ∧ u 21 8 (u 6 l 0).toNat ≤ 100000000)
theorem okmE_of {u u' : xS} {l : Nat} (h : okmE u l) (h6 : u' 6 l = u 6 l) (h7 : u' 7 l = u 7 l) (h4 : u' 4 (400 + l) = u 4 (400 + l)) (h21 : u' 21 = u 21) : okmE u' l := by
  unfold okmE okml okP at h ⊢
  rw [h6, h7, h4, h21]
  exact h
section MM12
variable {ad : xAd} {q : xL} {lo : Nat → Nat → Prop} {s u : xS} {co : Nat → Nat → xE} {t : xT} {nf n nr : Nat}
theorem mm_emLoop {K : xT → Prop} {m : Nat} (hn12 : n ≤ 12) (hm : m < 121) : ∀ (r i : Nat) (u : xS) (t : xT), i + r = n → RR ad q lo s u co t → u 1 1 2 = n → (∀ l, i ≤ l → l < n → okmE u l) → (0 ≤ u 21 10 m ∧ u 21 10 m ≤ 200) → (∀ t, RR ad q lo s (lp (mEm m) i r u) co t → K t) → V_X8_ends_29 K (r + 1) (ad 20 0) (I m) (I i) t := by
  intro r
  induction r with
  | zero =>
    intro i u t hi hR hn ho hx kk
    show VS_X8_ends_29 (V_X8_ends_29 K 0) K _ _ _ _
    unfold VS_X8_ends_29
    refine xgI_R hR (p := 20) (i := 0) rfl rfl rfl ?_
    rw [hn]
    exact xbt (by (try simp only [I_lit, J_lit, I_ofNat, I_neg, I_add, I_sub, I_mul, J_neg, J_add, J_sub, J_mul]); first | (rw [I_lt ⟨by omega, by omega⟩ ⟨by omega, by omega⟩]; omega) | (rw [I_le ⟨by omega, by omega⟩ ⟨by omega, by omega⟩]; omega) | (rw [I_eq ⟨by omega, by omega⟩ ⟨by omega, by omega⟩]; omega) | (rw [J_lt ⟨by omega, by omega⟩ ⟨by omega, by omega⟩]; omega) | (rw [J_le ⟨by omega, by omega⟩ ⟨by omega, by omega⟩]; omega) | (rw [J_eq ⟨by omega, by omega⟩ ⟨by omega, by omega⟩]; omega)) (kk t hR)
  | succ r ih =>
    intro i u t hi hR hn ho hx kk
    show VS_X8_ends_29 (V_X8_ends_29 K (r + 1)) K _ _ _ _
    unfold VS_X8_ends_29
    refine xgI_R hR (p := 20) (i := 0) rfl rfl rfl ?_
    rw [hn]
    refine xbf (by (try simp only [I_lit, J_lit, I_ofNat, I_neg, I_add, I_sub, I_mul, J_neg, J_add, J_sub, J_mul]); first | (rw [I_lt ⟨by omega, by omega⟩ ⟨by omega, by omega⟩]; omega) | (rw [I_le ⟨by omega, by omega⟩ ⟨by omega, by omega⟩]; omega) | (rw [I_eq ⟨by omega, by omega⟩ ⟨by omega, by omega⟩]; omega) | (rw [J_lt ⟨by omega, by omega⟩ ⟨by omega, by omega⟩]; omega) | (rw [J_le ⟨by omega, by omega⟩ ⟨by omega, by omega⟩]; omega) | (rw [J_eq ⟨by omega, by omega⟩ ⟨by omega, by omega⟩]; omega)) ?_
    obtain ⟨hml, hP, h8, h0, ht, h36, hp⟩ := ho i (Nat.le_refl _) (by omega)
    refine ⟨xis_R hR (p := 20) (i := 0) rfl rfl, ?_⟩
    refine mm_looks hR (by omega) hP (fun t hR => ?_)
    refine ⟨xis_R hR (p := 20) (i := 0) rfl rfl, ?_⟩
    have p6 : planM i u 6 i = u 6 i := planM_o (by omega)
    have p21 : planM i u 21 = u 21 := funext fun j => planM_o (by omega)
    have p4 : planM i u 4 (400 + i) = u 4 (400 + i) := planM_o (by omega)
    have hml' : okml (planM i u) i := by
      unfold okml at hml ⊢
      rw [p6, p21]
      exact hml
    have er : mrunb (planM i u) i m = mrunb u i m := by
      unfold mrunb
      rw [p6, p21]
    refine mm_runs hR hml' ⟨by omega, by omega⟩ ?_
    rw [er, show (I (i : Int) + 1 : Int32) = I ((i + 1 : Nat) : Int) from I_add _ 1]
    have kk' : ∀ t, RR ad q lo s (lp (mEm m) (i + 1) r (mEm m i u)) co t → K t := kk
    have go := ih (i + 1) (mEm m i u) 
    have nx : ∀ t, RR ad q lo s (mEm m i u) co t → V_X8_ends_29 K (r + 1) (ad 20 0) (I m) (I ((i + 1 : Nat) : Int)) t := fun t hR => go t (by omega) hR (by rw [mEm_o (by decide) (by omega) (by omega) (by omega)]; exact hn) (fun l g1 g2 => okmE_of (ho l (by omega) g2) (mEm_o (by decide) (by omega) (by omega) (by omega)) (mEm_o (by decide) (by omega) (by omega) (by omega)) (mEm_o (by decide) (by omega) (by omega) (by omega)) (funext fun j => mEm_o (by decide) (by omega) (by omega) (by omega))) (by rw [mEm_o (p := 21) (by decide) (by omega) (by omega) (by omega)]; exact hx) kk'
    unfold mEm at nx
    rcases mrunb_01 u i m with c | c
    · rw [if_pos c] at nx
      rw [c]
      exact xbt rfl (nx t hR)
    · rw [if_neg (by omega)] at nx
      rw [c]
      refine xbf (by decide) ?_
      refine ⟨xis_R hR (p := 20) (i := 0) rfl rfl, ?_⟩
      exact mm_bills hR (by omega) hm (by rw [p6]; exact h8) (by rw [p21]; exact hx) (by rw [p6]; exact h0) (by rw [p6, p21]; exact hp) (by rw [p4]; exact ht) (by rw [p21]; exact h36) nx
/-- what the model's month's end wants of a flat -/
def okmf (m : Nat) (u : xS) (f : Nat) : Prop := okg (u 4 (200 + f)) (u 21 4 f) m ∧ (0 ≤ u 5 f 3 ∧ u 5 f 3 ≤ 1000000) ∧ (0 ≤ u 5 f 4 ∧ u 5 f 4 ≤ 1000000000) ∧ i32 (u 5 f 5)
def mEnd (nf n m : Nat) (u : xS) : xS := lp (mEm m) 0 n (msHeat n m (lp (fndU m) 0 nf u))
def okmEnd (nf n m : Nat) (u : xS) : Prop := (∀ f, f < nf → okmf m u f) ∧ (∀ l, l < n → okmw m (lp (fndU m) 0 nf u) l ∧ (0 ≤ mwg m 0 (lp (fndU m) 0 nf u) l ∧ mwg m 0 (lp (fndU m) 0 nf u) l ≤ 9) ∧ (0 ≤ mwg m 1 (lp (fndU m) 0 nf u) l ∧ mwg m 1 (lp (fndU m) 0 nf u) l ≤ 1000000)) ∧ (0 ≤ u 20 0 11 ∧ u 20 0 11 ≤ 10000000) ∧ (∀ l, l < n → okmE (msHeat n m (lp (fndU m) 0 nf u)) l) ∧ (0 ≤ u 21 10 m ∧ u 21 10 m ≤ 200)
theorem EM.msHeat {n m : Nat} {u : xS} : EM u (msHeat n m u) := by
  unfold _root_.Jvm.Pilot.CRentStreamLaw_law_r2523_edb67f.msHeat
  have h1 : EM u (_root_.Jvm.Pilot.CRentStreamLaw_law_r2523_edb67f.lp (_root_.Jvm.Pilot.CRentStreamLaw_law_r2523_edb67f.mwS m 1) 0 n (_root_.Jvm.Pilot.CRentStreamLaw_law_r2523_edb67f.lp msZ 0 n u)) := EM.tr (EM.lp (fun _ _ => msZ_e) _ _ _) (EM.lp (fun _ _ => EM.mwS) _ _ _)
  split
  · exact EM.tr h1 (EM.tr (EM.lp (fun _ _ => EM.mwS) _ _ _) EM.msw)
  · exact EM.tr h1 (EM.tr EM.msw (EM.tr (EM.lp (fun _ _ => EM.mwS) _ _ _) EM.msw))
theorem mm_fuLoop {K : xT → Prop} {m : Nat} (hn8 : nf ≤ 8) (hm : m < 121) : ∀ (r i : Nat) (u : xS) (t : xT), i + r = nf → RR ad q lo s u co t → u 1 0 2 = nf → (∀ f, i ≤ f → f < nf → okmf m u f) → (∀ t, RR ad q lo s (lp (fndU m) i r u) co t → (xis t (ad 20 0) 8 ∧ V_X8_sharesHeat_0 (fun t_2 => ∃ f_3 : Nat, V_X8_ends_29 K f_3 (ad 20 0) (I m) (0 : Int32) t_2) (ad 20 0) (I m) t)) → V_X8_ends_2 K (r + 1) (ad 20 0) (I m) (I i) t := by
  intro r
  induction r with
  | zero =>
    intro i u t hi hR hn ho kk
    show VS_X8_ends_2 (V_X8_ends_2 K 0) K _ _ _ _
    unfold VS_X8_ends_2
    refine xgI_R hR (p := 20) (i := 0) rfl rfl rfl ?_
    rw [hn]
    exact xbt (by (try simp only [I_lit, J_lit, I_ofNat, I_neg, I_add, I_sub, I_mul, J_neg, J_add, J_sub, J_mul]); first | (rw [I_lt ⟨by omega, by omega⟩ ⟨by omega, by omega⟩]; omega) | (rw [I_le ⟨by omega, by omega⟩ ⟨by omega, by omega⟩]; omega) | (rw [I_eq ⟨by omega, by omega⟩ ⟨by omega, by omega⟩]; omega) | (rw [J_lt ⟨by omega, by omega⟩ ⟨by omega, by omega⟩]; omega) | (rw [J_le ⟨by omega, by omega⟩ ⟨by omega, by omega⟩]; omega) | (rw [J_eq ⟨by omega, by omega⟩ ⟨by omega, by omega⟩]; omega)) (kk t hR)
  | succ r ih =>
    intro i u t hi hR hn ho kk
    show VS_X8_ends_2 (V_X8_ends_2 K (r + 1)) K _ _ _ _
    unfold VS_X8_ends_2
    refine xgI_R hR (p := 20) (i := 0) rfl rfl rfl ?_
    rw [hn]
    refine xbf (by (try simp only [I_lit, J_lit, I_ofNat, I_neg, I_add, I_sub, I_mul, J_neg, J_add, J_sub, J_mul]); first | (rw [I_lt ⟨by omega, by omega⟩ ⟨by omega, by omega⟩]; omega) | (rw [I_le ⟨by omega, by omega⟩ ⟨by omega, by omega⟩]; omega) | (rw [I_eq ⟨by omega, by omega⟩ ⟨by omega, by omega⟩]; omega) | (rw [J_lt ⟨by omega, by omega⟩ ⟨by omega, by omega⟩]; omega) | (rw [J_le ⟨by omega, by omega⟩ ⟨by omega, by omega⟩]; omega) | (rw [J_eq ⟨by omega, by omega⟩ ⟨by omega, by omega⟩]; omega)) ?_
    obtain ⟨hg, h3, h4, h5⟩ := ho i (Nat.le_refl _) (by omega)
    refine ⟨xis_R hR (p := 20) (i := 0) rfl rfl, ?_⟩
    refine mm_findsUse hR (by omega) hm hg h3 h4 h5 (fun t hR => ?_)
    rw [show (I (i : Int) + 1 : Int32) = I ((i + 1 : Nat) : Int) from I_add _ 1]
    exact ih (i + 1) (fndU m i u) t (by omega) hR (by rw [fndU_o (by omega) (by omega)]; exact hn) (fun f g1 g2 => by
      have := ho f (by omega) g2
      unfold okmf at this ⊢
      rw [fndU_o (p := 4) (by omega) (by omega), fndU_o (p := 5) (by omega) (by omega), fndU_o (p := 21) (by omega) (by omega)]
      exact this) kk
theorem mm_ends {K : xT → Prop} {m : Nat} (hR : RR ad q lo s u co t) (hnf : u 1 0 2 = nf) (hnf8 : nf ≤ 8) (hn : u 1 1 2 = n) (hn12 : n ≤ 12) (hm : m < 121) (hO : okmEnd nf n m u) (kk : ∀ t, RR ad q lo s (mEnd nf n m u) co t → K t) : V_X8_ends_0 K (ad 20 0) (I m) t := by
  obtain ⟨h1, h2, h3, h4, h5⟩ := hO
  have o : ∀ p i, p ≠ 4 → p ≠ 5 → lp (fndU m) 0 nf u p i = u p i := fun p i g4 g5 => lp_o (fun j s => fndU_o (fun h => g4 h.1) (fun h => g5 h.1)) _ _ _
  refine ⟨nf + 1, mm_fuLoop hnf8 hm nf 0 u t (by omega) hR hnf (fun f _ hf => h1 f hf) (fun t hR => ?_)⟩
  refine ⟨xis_R hR (p := 20) (i := 0) rfl rfl, ?_⟩
  have hn' : lp (fndU m) 0 nf u 1 1 2 = n := by rw [o 1 1 (by decide) (by decide)]; exact hn
  refine mm_sharesHeat hR hn' hn12 hm h2 (by rw [o 20 0 (by decide) (by decide)]; exact h3) (fun t hR => ?_)
  have hE := EM.msHeat (n := n) (m := m) (u := lp (fndU m) 0 nf u)
  exact ⟨n + 1, mm_emLoop hn12 hm n 0 _ t (by omega) hR (by rw [hE 1 1 2 (by omega)]; exact hn') (fun l _ hl => h4 l hl) (by rw [hE 21 10 m (by omega), o 21 10 (by decide) (by decide)]; exact h5) kk⟩
def mPz (f : Nat) (u : xS) : xS := su u 21 8 f 0
def mDue (m l : Nat) (u : xS) : Int := ben (u 6 l 8 * u 21 10 m / 100) (incn (u 4 (400 + l)) (m + 1)) + u 6 l 6
def mPa (m l : Nat) (u : xS) : xS := if mrunb u l m = 0 ∨ mDue m l u ≤ 0 then u else su u 6 l 6 (u 6 l 6 - mDue m l u)
def mBeg (nf n m : Nat) (u : xS) : xS := lp (mPa m) 0 n (su (lp mPz 0 nf (su u 20 0 11 0)) 21 10 (m + 1) (u 21 10 m))
theorem mPa_o {m l p i : Nat} (h6 : ¬ (p = 6 ∧ i = l)) : mPa m l u p i = u p i := by
  unfold mPa
  split
  · rfl
  · exact su_f _ h6
def okmB (u : xS) (l : Nat) : Prop := okml u l ∧ (0 ≤ u 6 l 8 ∧ u 6 l 8 ≤ 500000) ∧ (∀ m, m < 121 → -1 ≤ u 4 (400 + l) m ∧ u 4 (400 + l) m ≤ 1000000) ∧ (-1000000000000 ≤ u 6 l 6 ∧ u 6 l 6 ≤ 1000000000000)
theorem mm_bg88 {K : xT → Prop} {R : Nat → Int32 → Int32 → xT → Prop} {m l : Nat} {y : Int} (hR : RR ad q lo s u co t) (hl : l < 12) (hy : -10000000000000 ≤ y ∧ y ≤ 10000000000000) (kk : ∀ t, RR ad q lo s (if y ≤ 0 then u else su u 6 l 6 (u 6 l 6 - y)) co t → R (ad 20 0) (I m) (I ((l + 1 : Nat) : Int)) t) : V_X8_begins_88 R K (ad 20 0) (I m) (I l) (J y) t := by
  unfold V_X8_begins_88
  have el : (l : Int).toNat = l := by omega
  refine xgR_R hR (p := 20) (i := 0) rfl rfl rfl ?_
  refine xaJ_R hR (p := 21) (i := 24) (show 24 < 40 by decide) rfl (by decide) (show 0 ≤ (l : Int) ∧ (l : Int) < ((12 : Nat) : Int) by omega) ?_
  rw [show mva u 24 (l : Int).toNat = u 6 l 6 by show u 6 (l : Int).toNat 6 = _; rw [el], show (I (l : Int) + 1 : Int32) = I ((l + 1 : Nat) : Int) from I_add _ 1]
  by_cases c : y ≤ 0
  · rw [if_pos c] at kk
    refine xbt (by (try simp only [I_lit, J_lit, I_ofNat, I_neg, I_add, I_sub, I_mul, J_neg, J_add, J_sub, J_mul]); first | (rw [I_lt ⟨by omega, by omega⟩ ⟨by omega, by omega⟩]; omega) | (rw [I_le ⟨by omega, by omega⟩ ⟨by omega, by omega⟩]; omega) | (rw [I_eq ⟨by omega, by omega⟩ ⟨by omega, by omega⟩]; omega) | (rw [J_lt ⟨by omega, by omega⟩ ⟨by omega, by omega⟩]; omega) | (rw [J_le ⟨by omega, by omega⟩ ⟨by omega, by omega⟩]; omega) | (rw [J_eq ⟨by omega, by omega⟩ ⟨by omega, by omega⟩]; omega)) ?_
    rw [show (0 : Int64) = J 0 from rfl, J_sub, show u 6 l 6 - 0 = u 6 l 6 by omega]
    refine mpJ0 24 hR (by decide) rfl (j := l) (by omega) (show l < 12 from hl) rfl (fun t hR => ?_)
    rw [show su u 6 l 6 (u 6 l 6) = u from su_same rfl] at hR
    exact kk t hR
  · rw [if_neg c] at kk
    refine xbf (by (try simp only [I_lit, J_lit, I_ofNat, I_neg, I_add, I_sub, I_mul, J_neg, J_add, J_sub, J_mul]); first | (rw [I_lt ⟨by omega, by omega⟩ ⟨by omega, by omega⟩]; omega) | (rw [I_le ⟨by omega, by omega⟩ ⟨by omega, by omega⟩]; omega) | (rw [I_eq ⟨by omega, by omega⟩ ⟨by omega, by omega⟩]; omega) | (rw [J_lt ⟨by omega, by omega⟩ ⟨by omega, by omega⟩]; omega) | (rw [J_le ⟨by omega, by omega⟩ ⟨by omega, by omega⟩]; omega) | (rw [J_eq ⟨by omega, by omega⟩ ⟨by omega, by omega⟩]; omega)) ?_
    rw [J_sub]
    exact mpJ0 24 hR (by decide) rfl (j := l) (by omega) (show l < 12 from hl) rfl kk
theorem mm_bgLoop {K : xT → Prop} {m : Nat} (hn12 : n ≤ 12) (hm : m < 121) : ∀ (r i : Nat) (u : xS) (t : xT), i + r = n → RR ad q lo s u co t → u 1 1 2 = n → (∀ l, i ≤ l → l < n → okmB u l) → (0 ≤ u 21 10 m ∧ u 21 10 m ≤ 200) → (∀ t, RR ad q lo s (lp (mPa m) i r u) co t → K t) → V_X8_begins_44 K (r + 1) (ad 20 0) (I m) (I i) t := by
  intro r
  induction r with
  | zero =>
    intro i u t hi hR hn ho hx kk
    show VS_X8_begins_44 (V_X8_begins_44 K 0) K _ _ _ _
    unfold VS_X8_begins_44
    refine xgI_R hR (p := 20) (i := 0) rfl rfl rfl ?_
    rw [hn]
    exact xbt (by (try simp only [I_lit, J_lit, I_ofNat, I_neg, I_add, I_sub, I_mul, J_neg, J_add, J_sub, J_mul]); first | (rw [I_lt ⟨by omega, by omega⟩ ⟨by omega, by omega⟩]; omega) | (rw [I_le ⟨by omega, by omega⟩ ⟨by omega, by omega⟩]; omega) | (rw [I_eq ⟨by omega, by omega⟩ ⟨by omega, by omega⟩]; omega) | (rw [J_lt ⟨by omega, by omega⟩ ⟨by omega, by omega⟩]; omega) | (rw [J_le ⟨by omega, by omega⟩ ⟨by omega, by omega⟩]; omega) | (rw [J_eq ⟨by omega, by omega⟩ ⟨by omega, by omega⟩]; omega)) (kk t hR)
  | succ r ih =>
    intro i u t hi hR hn ho hx kk
    show VS_X8_begins_44 (V_X8_begins_44 K (r + 1)) K _ _ _ _
    unfold VS_X8_begins_44
    refine xgI_R hR (p := 20) (i := 0) rfl rfl rfl ?_
    rw [hn]
    refine xbf (by (try simp only [I_lit, J_lit, I_ofNat, I_neg, I_add, I_sub, I_mul, J_neg, J_add, J_sub, J_mul]); first | (rw [I_lt ⟨by omega, by omega⟩ ⟨by omega, by omega⟩]; omega) | (rw [I_le ⟨by omega, by omega⟩ ⟨by omega, by omega⟩]; omega) | (rw [I_eq ⟨by omega, by omega⟩ ⟨by omega, by omega⟩]; omega) | (rw [J_lt ⟨by omega, by omega⟩ ⟨by omega, by omega⟩]; omega) | (rw [J_le ⟨by omega, by omega⟩ ⟨by omega, by omega⟩]; omega) | (rw [J_eq ⟨by omega, by omega⟩ ⟨by omega, by omega⟩]; omega)) ?_
    obtain ⟨hml, h8, ht, h6⟩ := ho i (Nat.le_refl _) (by omega)
    refine ⟨xis_R hR (p := 20) (i := 0) rfl rfl, ?_⟩
    refine mm_runs hR hml ⟨by omega, by omega⟩ ?_
    have kk' : ∀ t, RR ad q lo s (lp (mPa m) (i + 1) r (mPa m i u)) co t → K t := kk
    have nx : ∀ t, RR ad q lo s (mPa m i u) co t → V_X8_begins_44 K (r + 1) (ad 20 0) (I m) (I ((i + 1 : Nat) : Int)) t := fun t hR => ih (i + 1) (mPa m i u) t (by omega) hR (by rw [mPa_o (by omega)]; exact hn) (fun l g1 g2 => by
      have := ho l (by omega) g2
      unfold okmB okml at this ⊢
      rw [mPa_o (p := 6) (by omega), mPa_o (p := 4) (by omega), mPa_o (p := 21) (by omega)]
      exact this) (by rw [mPa_o (p := 21) (by omega)]; exact hx) kk'
    have hi := incn_rng (g := u 4 (400 + i)) (n := m + 1) (fun m hm' => ht m (by omega))
    have h0 : 0 ≤ u 6 i 8 * u 21 10 m ∧ u 6 i 8 * u 21 10 m ≤ 100000000 := by
      refine ⟨Int.mul_nonneg h8.1 hx.1, ?_⟩
      have a1 : u 6 i 8 * u 21 10 m ≤ 500000 * u 21 10 m := Int.mul_le_mul_of_nonneg_right h8.2 hx.1
      omega
    have hben := ben_rng (r := u 6 i 8 * u 21 10 m / 100) (i := incn (u 4 (400 + i)) (m + 1)) (by omega)
    rcases mrunb_01 u i m with c | c
    · rw [c]
      refine xbt rfl ?_
      rw [show (0 : Int64) = J 0 from rfl]
      refine mm_bg88 hR (by omega) (by omega) (fun t hR => nx t ?_)
      rw [if_pos (by omega)] at hR
      unfold mPa
      rw [if_pos (Or.inl c)]
      exact hR
    · rw [c]
      refine xbf (by decide) ?_
      refine ⟨xis_R hR (p := 20) (i := 0) rfl rfl, ?_⟩
      refine mm_rentIn hR (by omega) (by omega) (by omega) ?_
      refine ⟨xis_R hR (p := 20) (i := 0) rfl rfl, ?_⟩
      refine mm_incomeIn hR (by omega) hm ht ?_
      refine mm_benefit (by omega) (by omega) ?_
      refine xgR_R hR (p := 20) (i := 0) rfl rfl rfl ?_
      refine xaJ_R hR (p := 21) (i := 24) (show 24 < 40 by decide) rfl (by decide) (show 0 ≤ (i : Int) ∧ (i : Int) < ((12 : Nat) : Int) by omega) ?_
      rw [show mva u 24 (i : Int).toNat = u 6 i 6 by show u 6 (i : Int).toNat 6 = _; rw [show (i : Int).toNat = i by omega], I_long ⟨by omega, by omega⟩, J_add]
      refine mm_bg88 hR (by omega) (by omega) (fun t hR => nx t ?_)
      unfold mPa mDue
      by_cases c2 : ben (u 6 i 8 * u 21 10 m / 100) (incn (u 4 (400 + i)) (m + 1)) + u 6 i 6 ≤ 0
      · rw [if_pos c2] at hR
        rw [if_pos (Or.inr c2)]
        exact hR
      · rw [if_neg c2] at hR
        rw [if_neg (by omega)]
        exact hR
theorem mPz_o {f p i : Nat} (h : ¬ (p = 21 ∧ i = 8)) : mPz f u p i = u p i := su_f _ h
theorem mm_pzLoop {K : xT → Prop} {m : Nat} (hn8 : nf ≤ 8) (hm : m < 121) : ∀ (r i : Nat) (u : xS) (t : xT), i + r = nf → RR ad q lo s u co t → u 1 0 2 = nf → (∀ t, RR ad q lo s (su (lp mPz i r u) 21 10 (m + 1) (lp mPz i r u 21 10 m)) co t → ∃ f_6 : Nat, V_X8_begins_44 K f_6 (ad 20 0) (I m) (0 : Int32) t) → V_X8_begins_7 K (r + 1) (ad 20 0) (I m) (I i) t := by
  intro r
  induction r with
  | zero =>
    intro i u t hi hR hn kk
    show VS_X8_begins_7 (V_X8_begins_7 K 0) K _ _ _ _
    unfold VS_X8_begins_7
    refine xgI_R hR (p := 20) (i := 0) rfl rfl rfl ?_
    rw [hn]
    refine xbt (by (try simp only [I_lit, J_lit, I_ofNat, I_neg, I_add, I_sub, I_mul, J_neg, J_add, J_sub, J_mul]); first | (rw [I_lt ⟨by omega, by omega⟩ ⟨by omega, by omega⟩]; omega) | (rw [I_le ⟨by omega, by omega⟩ ⟨by omega, by omega⟩]; omega) | (rw [I_eq ⟨by omega, by omega⟩ ⟨by omega, by omega⟩]; omega) | (rw [J_lt ⟨by omega, by omega⟩ ⟨by omega, by omega⟩]; omega) | (rw [J_le ⟨by omega, by omega⟩ ⟨by omega, by omega⟩]; omega) | (rw [J_eq ⟨by omega, by omega⟩ ⟨by omega, by omega⟩]; omega)) ?_
    refine xgR_R hR (p := 20) (i := 0) rfl rfl rfl ?_
    refine xgR_R hR (p := 20) (i := 0) rfl rfl rfl ?_
    refine xaI_R hR (p := 21) (i := 10) (show 10 < 40 by decide) rfl (by decide) (show 0 ≤ (m : Int) ∧ (m : Int) < ((122 : Nat) : Int) by omega) ?_
    rw [show mva u 10 (m : Int).toNat = u 21 10 m by show u 21 10 (m : Int).toNat = _; rw [show (m : Int).toNat = m by omega], show (I (m : Int) + (1 : Int32)) = I ((m + 1 : Nat) : Int) from I_add _ 1]
    exact mpI0 10 hR (by decide) rfl (j := m + 1) (by omega) (show m + 1 < 122 by omega) rfl kk
  | succ r ih =>
    intro i u t hi hR hn kk
    show VS_X8_begins_7 (V_X8_begins_7 K (r + 1)) K _ _ _ _
    unfold VS_X8_begins_7
    refine xgI_R hR (p := 20) (i := 0) rfl rfl rfl ?_
    rw [hn]
    refine xbf (by (try simp only [I_lit, J_lit, I_ofNat, I_neg, I_add, I_sub, I_mul, J_neg, J_add, J_sub, J_mul]); first | (rw [I_lt ⟨by omega, by omega⟩ ⟨by omega, by omega⟩]; omega) | (rw [I_le ⟨by omega, by omega⟩ ⟨by omega, by omega⟩]; omega) | (rw [I_eq ⟨by omega, by omega⟩ ⟨by omega, by omega⟩]; omega) | (rw [J_lt ⟨by omega, by omega⟩ ⟨by omega, by omega⟩]; omega) | (rw [J_le ⟨by omega, by omega⟩ ⟨by omega, by omega⟩]; omega) | (rw [J_eq ⟨by omega, by omega⟩ ⟨by omega, by omega⟩]; omega)) ?_
    refine xgR_R hR (p := 20) (i := 0) rfl rfl rfl ?_
    rw [show (0 : Int32) = I 0 from rfl, show (I (i : Int) + 1 : Int32) = I ((i + 1 : Nat) : Int) from I_add _ 1]
    refine mpI0 8 hR (by decide) rfl (j := i) (by omega) (show i < 8 by omega) rfl (fun t hR => ?_)
    exact ih (i + 1) (mPz i u) t (by omega) hR (by rw [mPz_o (by omega)]; exact hn) kk
theorem mm_begins {K : xT → Prop} {m : Nat} (hR : RR ad q lo s u co t) (hnf : u 1 0 2 = nf) (hnf8 : nf ≤ 8) (hn : u 1 1 2 = n) (hn12 : n ≤ 12) (hm : m < 121) (hB : ∀ l, l < n → okmB u l) (hx : 0 ≤ u 21 10 m ∧ u 21 10 m ≤ 200) (kk : ∀ t, RR ad q lo s (mBeg nf n m u) co t → K t) : V_X8_begins_0 K (ad 20 0) (I m) t := by
  unfold V_X8_begins_0
  rw [show (.int (0 : Int32) : Value) = .int (I 0) from rfl]
  refine mpF (p := 20) (i := 0) (f := 11) hR (by decide) rfl (Nat.le_of_ble_eq_true rfl) rfl (fun t hR => ?_)
  have o : ∀ p i, ¬ (p = 21 ∧ i = 8) → ¬ (p = 20 ∧ i = 0) → lp mPz 0 nf (su u 20 0 11 0) p i = u p i := fun p i g1 g2 => by
    rw [lp_o (fun j s => mPz_o g1), su_f _ g2]
  refine ⟨nf + 1, mm_pzLoop hnf8 hm nf 0 _ t (by omega) hR (by rw [su_f _ (by omega)]; exact hnf) (fun t hR => ?_)⟩
  rw [o 21 10 (by omega) (by omega)] at hR
  refine ⟨n + 1, mm_bgLoop hn12 hm n 0 _ t (by omega) hR ?_ ?_ ?_ kk⟩
  · rw [su_f _ (by omega), o 1 1 (by omega) (by omega)]
    exact hn
  · intro l _ hl
    have := hB l hl
    unfold okmB okml at this ⊢
    rw [su_f _ (by omega), su_f (p' := 4) _ (by omega), su_f (p' := 21) _ (by omega), o 6 l (by omega) (by omega), o 4 _ (by omega) (by omega), o 21 22 (by omega) (by omega)]
    exact this
  · rw [su_r, if_neg (by omega), o 21 10 (by omega) (by omega)]
    exact hx
def mDay (nf n nr : Nat) (u : xS) : xS := if (u 0 0 8 + 1) % 30 = 0 then mBeg nf n ((u 0 0 8 + 1) / 30).toNat (mEnd nf n ((u 0 0 8 + 1) / 30 - 1).toNat (su (lp mtk 0 nr u) 0 0 8 (u 0 0 8 + 1))) else su (lp mtk 0 nr u) 0 0 8 (u 0 0 8 + 1)
def okmDay (nf n nr : Nat) (u : xS) : Prop := (0 ≤ u 0 0 8 ∧ u 0 0 8 < 3600) ∧ u 1 0 2 = nf ∧ u 1 1 2 = n ∧ u 1 2 2 = nr ∧ (∀ r, r < nr → okmr u r) ∧ ((u 0 0 8 + 1) % 30 = 0 → okmEnd nf n ((u 0 0 8 + 1) / 30 - 1).toNat (su (lp mtk 0 nr u) 0 0 8 (u 0 0 8 + 1)) ∧ (∀ l, l < n → okmB (mEnd nf n ((u 0 0 8 + 1) / 30 - 1).toNat (su (lp mtk 0 nr u) 0 0 8 (u 0 0 8 + 1))) l) ∧ (0 ≤ u 21 10 ((u 0 0 8 + 1) / 30).toNat ∧ u 21 10 ((u 0 0 8 + 1) / 30).toNat ≤ 200))
theorem mEnd_o {m p i : Nat} (h : p = 0 ∨ p = 1 ∨ p = 20 ∨ (p = 21 ∧ i ≠ 35 ∧ i ≠ 36 ∧ i ≠ 37)) : mEnd nf n m u p i = u p i := by
  unfold mEnd
  rw [lp_o (fun j s => mEm_o (by omega) (by omega) (by omega) (by omega))]
  funext k
  rw [EM.msHeat p i k (by omega), lp_o (fun j s => fndU_o (by omega) (by omega))]
theorem mBeg_o {m p i : Nat} (h : p = 0 ∨ p = 1) : mBeg nf n m u p i = u p i := by
  unfold mBeg
  rw [lp_o (fun j s => mPa_o (by omega)), su_f _ (by omega), lp_o (fun j s => mPz_o (by omega)), su_f _ (by omega)]
theorem mm_passLoop {K : Int32 → xT → Prop} {k : Nat} (hnf8 : nf ≤ 8) (hn12 : n ≤ 12) (hnr : nr ≤ 60) (hk : k ≤ 60) : ∀ (r i : Nat) (u : xS) (t : xT), i + r = k → RR ad q lo s u co t → (∀ j, j < r → okmDay nf n nr (itn (mDay nf n nr) j u)) → (∀ t, RR ad q lo s (itn (mDay nf n nr) r u) co t → K (I (itn (mDay nf n nr) r u 0 0 8)) t) → V_X8_pass_42 K (r + 1) (ad 20 0) (I k) (I i) t := by
  intro r
  induction r with
  | zero =>
    intro i u t hi hR hO kk
    show VS_X8_pass_42 (V_X8_pass_42 K 0) K _ _ _ _
    unfold VS_X8_pass_42
    refine xbt (by (try simp only [I_lit, J_lit, I_ofNat, I_neg, I_add, I_sub, I_mul, J_neg, J_add, J_sub, J_mul]); first | (rw [I_lt ⟨by omega, by omega⟩ ⟨by omega, by omega⟩]; omega) | (rw [I_le ⟨by omega, by omega⟩ ⟨by omega, by omega⟩]; omega) | (rw [I_eq ⟨by omega, by omega⟩ ⟨by omega, by omega⟩]; omega) | (rw [J_lt ⟨by omega, by omega⟩ ⟨by omega, by omega⟩]; omega) | (rw [J_le ⟨by omega, by omega⟩ ⟨by omega, by omega⟩]; omega) | (rw [J_eq ⟨by omega, by omega⟩ ⟨by omega, by omega⟩]; omega)) ?_
    refine xgI_R hR (p := 20) (i := 0) rfl rfl rfl ?_
    exact kk t hR
  | succ r ih =>
    intro i u t hi hR hO kk
    show VS_X8_pass_42 (V_X8_pass_42 K (r + 1)) K _ _ _ _
    unfold VS_X8_pass_42
    refine xbf (by (try simp only [I_lit, J_lit, I_ofNat, I_neg, I_add, I_sub, I_mul, J_neg, J_add, J_sub, J_mul]); first | (rw [I_lt ⟨by omega, by omega⟩ ⟨by omega, by omega⟩]; omega) | (rw [I_le ⟨by omega, by omega⟩ ⟨by omega, by omega⟩]; omega) | (rw [I_eq ⟨by omega, by omega⟩ ⟨by omega, by omega⟩]; omega) | (rw [J_lt ⟨by omega, by omega⟩ ⟨by omega, by omega⟩]; omega) | (rw [J_le ⟨by omega, by omega⟩ ⟨by omega, by omega⟩]; omega) | (rw [J_eq ⟨by omega, by omega⟩ ⟨by omega, by omega⟩]; omega)) ?_
    have nx : ∀ t, RR ad q lo s (mDay nf n nr u) co t → V_X8_pass_42 K (r + 1) (ad 20 0) (I k) (I ((i + 1 : Nat) : Int)) t := fun t hR => ih (i + 1) (mDay nf n nr u) t (by omega) hR (fun j hj => hO (j + 1) (by omega)) kk
    have hO0 : okmDay nf n nr u := hO 0 (by omega)
    obtain ⟨hd, e0, e1, e2, hr, hE⟩ := hO0
    rw [show (I (i : Int) + 1 : Int32) = I ((i + 1 : Nat) : Int) from I_add _ 1]
    refine ⟨xis_R hR (p := 20) (i := 0) rfl rfl, ?_⟩
    refine mm_wears hR e2 hnr (by omega) hr (fun t hR => ?_)
    have o : ∀ p i, p = 0 ∨ p = 1 → lp mtk 0 nr u p i = u p i := fun p i g => lp_o (fun j s => mtk_o (by omega) (by omega)) _ _ _
    refine xgI_R hR (p := 20) (i := 0) rfl rfl rfl ?_
    rw [show (I (lp mtk 0 nr u 0 0 8) + (1 : Int32)) = I (u 0 0 8 + 1) by rw [o 0 0 (Or.inl rfl)]; exact I_add _ 1]
    refine mpF (p := 0) (i := 0) (f := 8) hR (by decide) rfl (Nat.le_of_ble_eq_true rfl) rfl (fun t hR => ?_)
    refine xgI_R hR (p := 20) (i := 0) rfl rfl rfl ?_
    have r8 : su (lp mtk 0 nr u) 0 0 8 (u 0 0 8 + 1) 0 0 8 = u 0 0 8 + 1 := by rw [su_r, if_pos ⟨rfl, rfl, rfl⟩]
    rw [r8]
    refine ⟨by decide, ?_⟩
    rw [show (30 : Int32) = I 30 from rfl, I_rem ⟨by omega, by omega⟩ ⟨by omega, by omega⟩ (by omega) (by omega)]
    unfold mDay at nx
    by_cases c : (u 0 0 8 + 1) % 30 = 0
    · rw [if_pos c] at nx
      obtain ⟨g1, g2, g3⟩ := hE c
      refine ⟨fun h => absurd (by rw [c]; rfl) h, fun _ => ?_⟩
      refine ⟨xis_R hR (p := 20) (i := 0) rfl rfl, ?_⟩
      refine mm_month hR (by rw [r8]; omega) ?_
      rw [r8]
      refine ⟨xis_R hR (p := 20) (i := 0) rfl rfl, ?_⟩
      have em : ((((u 0 0 8 + 1) / 30 - 1).toNat : Nat) : Int) = (u 0 0 8 + 1) / 30 - 1 := by omega
      have en : ((((u 0 0 8 + 1) / 30).toNat : Nat) : Int) = (u 0 0 8 + 1) / 30 := by omega
      rw [show (I ((u 0 0 8 + 1) / 30) - (1 : Int32)) = I ((((u 0 0 8 + 1) / 30 - 1).toNat : Nat) : Int) by rw [em]; exact I_sub _ 1]
      refine mm_ends hR (by rw [su_f _ (by omega), o 1 0 (Or.inr rfl)]; exact e0) hnf8 (by rw [su_f _ (by omega), o 1 1 (Or.inr rfl)]; exact e1) hn12 (by omega) g1 (fun t hR => ?_)
      refine ⟨xis_R hR (p := 20) (i := 0) rfl rfl, ?_⟩
      refine mm_month hR (by rw [mEnd_o (Or.inl rfl), r8]; omega) ?_
      rw [mEnd_o (p := 0) (Or.inl rfl), r8]
      refine ⟨xis_R hR (p := 20) (i := 0) rfl rfl, ?_⟩
      rw [← en]
      refine mm_begins hR (by rw [mEnd_o (Or.inr (Or.inl rfl)), su_f _ (by omega), o 1 0 (Or.inr rfl)]; exact e0) hnf8 (by rw [mEnd_o (Or.inr (Or.inl rfl)), su_f _ (by omega), o 1 1 (Or.inr rfl)]; exact e1) hn12 (by omega) g2 (by
        rw [mEnd_o (p := 21) (by omega), su_f _ (by omega), show lp mtk 0 nr u 21 10 = u 21 10 from lp_o (fun j s => by
          unfold mtk
          split
          · rw [su_f _ (by omega), su_f _ (by omega)]
          · rfl) _ _ _]
        exact g3) nx
    · rw [if_neg c] at nx
      exact ⟨fun _ => nx t hR, fun h => absurd h (by rw [show (0 : Int32) = I 0 from rfl, I_eq ⟨by omega, by omega⟩ ⟨by omega, by omega⟩]; exact c)⟩
theorem mm_pass {K : Int32 → xT → Prop} {z : Int} (hR : RR ad q lo s u co t) (hT : okT u) (hnf8 : nf ≤ 8) (hn12 : n ≤ 12) (hnr : nr ≤ 60) (hz : i32 z) (k1 : ¬ (1 ≤ z ∧ z ≤ 60) → ∀ t, RR ad q lo s (su u 20 0 0 1) co t → K 0 t) (k2 : 1 ≤ z ∧ z ≤ 60 → ¬ u 0 0 8 + z ≤ 3600 → ∀ t, RR ad q lo s (su u 20 0 0 2) co t → K 0 t) (hO : 1 ≤ z ∧ z ≤ 60 → u 0 0 8 + z ≤ 3600 → ∀ j, j < z.toNat → okmDay nf n nr (itn (mDay nf n nr) j (su u 20 0 0 0))) (k0 : 1 ≤ z ∧ z ≤ 60 → u 0 0 8 + z ≤ 3600 → ∀ t, RR ad q lo s (itn (mDay nf n nr) z.toNat (su u 20 0 0 0)) co t → K (I (itn (mDay nf n nr) z.toNat (su u 20 0 0 0) 0 0 8)) t) : V_X8_pass_0 K (ad 20 0) (I z) t := by
  unfold okT at hT
  unfold V_X8_pass_0
  rw [show (1 : Int32) = I 1 from rfl, show (60 : Int32) = I 60 from rfl]
  refine mm_in hz ⟨by decide, by decide⟩ ⟨by decide, by decide⟩ (fun h => ?_) (fun h => ?_)
  · refine xsf (by decide) ?_
    refine xgI_R hR (p := 20) (i := 0) rfl rfl rfl ?_
    rw [I_add]
    by_cases c : u 0 0 8 + z ≤ 3600
    · refine xbt (by (try simp only [I_lit, J_lit, I_ofNat, I_neg, I_add, I_sub, I_mul, J_neg, J_add, J_sub, J_mul]); first | (rw [I_lt ⟨by omega, by omega⟩ ⟨by omega, by omega⟩]; omega) | (rw [I_le ⟨by omega, by omega⟩ ⟨by omega, by omega⟩]; omega) | (rw [I_eq ⟨by omega, by omega⟩ ⟨by omega, by omega⟩]; omega) | (rw [J_lt ⟨by omega, by omega⟩ ⟨by omega, by omega⟩]; omega) | (rw [J_le ⟨by omega, by omega⟩ ⟨by omega, by omega⟩]; omega) | (rw [J_eq ⟨by omega, by omega⟩ ⟨by omega, by omega⟩]; omega)) ?_
      refine ⟨xis_R hR (p := 20) (i := 0) rfl rfl, ?_⟩
      refine mm_ok hR (fun t hR => xsf (by decide) ?_)
      have ez : ((z.toNat : Nat) : Int) = z := by omega
      refine ⟨z.toNat + 1, ?_⟩
      have := mm_passLoop (k := z.toNat) hnf8 hn12 hnr (by omega) z.toNat 0 _ t (by omega) hR (hO h c) (k0 h c)
      rw [ez] at this
      exact this
    · refine xbf (by (try simp only [I_lit, J_lit, I_ofNat, I_neg, I_add, I_sub, I_mul, J_neg, J_add, J_sub, J_mul]); first | (rw [I_lt ⟨by omega, by omega⟩ ⟨by omega, by omega⟩]; omega) | (rw [I_le ⟨by omega, by omega⟩ ⟨by omega, by omega⟩]; omega) | (rw [I_eq ⟨by omega, by omega⟩ ⟨by omega, by omega⟩]; omega) | (rw [J_lt ⟨by omega, by omega⟩ ⟨by omega, by omega⟩]; omega) | (rw [J_le ⟨by omega, by omega⟩ ⟨by omega, by omega⟩]; omega) | (rw [J_eq ⟨by omega, by omega⟩ ⟨by omega, by omega⟩]; omega)) ?_
      refine ⟨xis_R hR (p := 20) (i := 0) rfl rfl, ?_⟩
      exact mm_no (c := 2) (by decide) hR (fun t hR => xst rfl (k2 h c t hR))
  · refine xst rfl ?_
    refine ⟨xis_R hR (p := 20) (i := 0) rfl rfl, ?_⟩
    exact mm_no (c := 1) (by decide) hR (fun t hR => xst rfl (k1 h t hR))
end MM12
