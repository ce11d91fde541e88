/-! ===== the model ends a month, begins one, lets days pass ===== -/
def mEm (m l : Nat) (u : xS) : xS := if mrunb u l m = 0 then planM l u else mBl m l (planM l u)
theorem mBl_o {m l p i : Nat} {u : xS} (h10 : p ≠ 10) (h6 : ¬ (p = 6 ∧ i = l)) (h9 : ¬ (p = 9 ∧ i = l)) : mBl m l u p i = u p i := by
  unfold mBl mB4
  rw [su_f _ h6, su_f _ h6, su_f _ (by omega), su_f _ (by omega), su_f _ (by omega), su_f _ (by omega), su_f _ h9]
theorem mEm_o {m l p i : Nat} {u : xS} (h10 : p ≠ 10) (h6 : ¬ (p = 6 ∧ i = l)) (h7 : ¬ (p = 7 ∧ i = l)) (h9 : ¬ (p = 9 ∧ i = l)) : mEm m l u p i = u p i := by
  unfold mEm
  split
  · exact planM_o h7
  · rw [mBl_o h10 h6 h9, planM_o h7]
/-- what the model's month's end wants of a lease -/
def okmE (u : xS) (l : Nat) : Prop := okml u l ∧ okP u l ∧ (0 ≤ u 6 l 8 ∧ u 6 l 8 ≤ 500000) ∧ (0 ≤ u 6 l 0 ∧ u 6 l 0 < 8) ∧ (∀ m, m < 121 → -1 ≤ u 4 (400 + l) m ∧ u 4 (400 + l) m ≤ 1000000) ∧ (0 ≤ u 21 36 l ∧ u 21 36 l ≤ 100000000) ∧ (0 ≤ u 21 8 (u 6 l 0).toNat ∧ u 21 8 (u 6 l 0).toNat ≤ 100000000)
theorem okmE_of {u u' : xS} {l : Nat} (h : okmE u l) (h6 : u' 6 l = u 6 l) (h7 : u' 7 l = u 7 l) (h4 : u' 4 (400 + l) = u 4 (400 + l)) (h21 : u' 21 = u 21) : okmE u' l := by
  unfold okmE okml okP at h ⊢
  rw [h6, h7, h4, h21]
  exact h
section MM12
variable {ad : xAd} {q : xL} {lo : Nat → Nat → Prop} {s u : xS} {co : Nat → Nat → xE} {t : xT} {nf n nr : Nat}
/-- what the model's month's end wants of a flat -/
def okmf (m : Nat) (u : xS) (f : Nat) : Prop := okg (u 4 (200 + f)) (u 21 4 f) m ∧ (0 ≤ u 5 f 3 ∧ u 5 f 3 ≤ 1000000) ∧ (0 ≤ u 5 f 4 ∧ u 5 f 4 ≤ 1000000000) ∧ i32 (u 5 f 5)
def mEnd (nf n m : Nat) (u : xS) : xS := lp (mEm m) 0 n (msHeat n m (lp (fndU m) 0 nf u))
def okmEnd (nf n m : Nat) (u : xS) : Prop := (∀ f, f < nf → okmf m u f) ∧ (∀ l, l < n → okmw m (lp (fndU m) 0 nf u) l ∧ (0 ≤ mwg m 0 (lp (fndU m) 0 nf u) l ∧ mwg m 0 (lp (fndU m) 0 nf u) l ≤ 9) ∧ (0 ≤ mwg m 1 (lp (fndU m) 0 nf u) l ∧ mwg m 1 (lp (fndU m) 0 nf u) l ≤ 1000000)) ∧ (0 ≤ u 20 0 11 ∧ u 20 0 11 ≤ 10000000) ∧ (∀ l, l < n → okmE (msHeat n m (lp (fndU m) 0 nf u)) l) ∧ (0 ≤ u 21 10 m ∧ u 21 10 m ≤ 200)
theorem EM.msHeat {n m : Nat} {u : xS} : EM u (msHeat n m u) := by
  unfold _root_.Jvm.Pilot.CRentStreamLaw_law_r6381_6d719a.msHeat
  have h1 : EM u (_root_.Jvm.Pilot.CRentStreamLaw_law_r6381_6d719a.lp (_root_.Jvm.Pilot.CRentStreamLaw_law_r6381_6d719a.mwS m 1) 0 n (_root_.Jvm.Pilot.CRentStreamLaw_law_r6381_6d719a.lp msZ 0 n u)) := EM.tr (EM.lp (fun _ _ => msZ_e) _ _ _) (EM.lp (fun _ _ => EM.mwS) _ _ _)
  split
  · exact EM.tr h1 (EM.tr (EM.lp (fun _ _ => EM.mwS) _ _ _) EM.msw)
  · exact EM.tr h1 (EM.tr EM.msw (EM.tr (EM.lp (fun _ _ => EM.mwS) _ _ _) EM.msw))
def mPz (f : Nat) (u : xS) : xS := su u 21 8 f 0
def mDue (m l : Nat) (u : xS) : Int := ben (u 6 l 8 * u 21 10 m / 100) (incn (u 4 (400 + l)) (m + 1)) + u 6 l 6
def mPa (m l : Nat) (u : xS) : xS := if mrunb u l m = 0 ∨ mDue m l u ≤ 0 then u else su u 6 l 6 (u 6 l 6 - mDue m l u)
def mBeg (nf n m : Nat) (u : xS) : xS := lp (mPa m) 0 n (su (lp mPz 0 nf (su u 20 0 11 0)) 21 10 (m + 1) (u 21 10 m))
theorem mPa_o {m l p i : Nat} (h6 : ¬ (p = 6 ∧ i = l)) : mPa m l u p i = u p i := by
  unfold mPa
  split
  · rfl
  · exact su_f _ h6
def okmB (u : xS) (l : Nat) : Prop := okml u l ∧ (0 ≤ u 6 l 8 ∧ u 6 l 8 ≤ 500000) ∧ (∀ m, m < 121 → -1 ≤ u 4 (400 + l) m ∧ u 4 (400 + l) m ≤ 1000000) ∧ (-1000000000000 ≤ u 6 l 6 ∧ u 6 l 6 ≤ 1000000000000)
theorem mPz_o {f p i : Nat} (h : ¬ (p = 21 ∧ i = 8)) : mPz f u p i = u p i := su_f _ h
def mDay (nf n nr : Nat) (u : xS) : xS := if (u 0 0 8 + 1) % 30 = 0 then mBeg nf n ((u 0 0 8 + 1) / 30).toNat (mEnd nf n ((u 0 0 8 + 1) / 30 - 1).toNat (su (lp mtk 0 nr u) 0 0 8 (u 0 0 8 + 1))) else su (lp mtk 0 nr u) 0 0 8 (u 0 0 8 + 1)
def okmDay (nf n nr : Nat) (u : xS) : Prop := (0 ≤ u 0 0 8 ∧ u 0 0 8 < 3600) ∧ u 1 0 2 = nf ∧ u 1 1 2 = n ∧ u 1 2 2 = nr ∧ (∀ r, r < nr → okmr u r) ∧ ((u 0 0 8 + 1) % 30 = 0 → okmEnd nf n ((u 0 0 8 + 1) / 30 - 1).toNat (su (lp mtk 0 nr u) 0 0 8 (u 0 0 8 + 1)) ∧ (∀ l, l < n → okmB (mEnd nf n ((u 0 0 8 + 1) / 30 - 1).toNat (su (lp mtk 0 nr u) 0 0 8 (u 0 0 8 + 1))) l) ∧ (0 ≤ u 21 10 ((u 0 0 8 + 1) / 30).toNat ∧ u 21 10 ((u 0 0 8 + 1) / 30).toNat ≤ 200))
theorem mEnd_o {m p i : Nat} (h : p = 0 ∨ p = 1 ∨ p = 20 ∨ (p = 21 ∧ i ≠ 35 ∧ i ≠ 36 ∧ i ≠ 37)) : mEnd nf n m u p i = u p i := by
  unfold mEnd
  rw [lp_o (fun j s => mEm_o (by omega) (by omega) (by omega) (by omega))]
  funext k
  rw [EM.msHeat p i k (by omega), lp_o (fun j s => fndU_o (by omega) (by omega))]
theorem mBeg_o {m p i : Nat} (h : p = 0 ∨ p = 1) : mBeg nf n m u p i = u p i := by
  unfold mBeg
  rw [lp_o (fun j s => mPa_o (by omega)), su_f _ (by omega), lp_o (fun j s => mPz_o (by omega)), su_f _ (by omega)]
end MM12
