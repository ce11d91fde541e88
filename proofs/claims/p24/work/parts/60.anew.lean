/-! ===== all settled anew ===== -/
def E810 (s s' : xS) : Prop := ∀ p i, p ≠ 8 → p ≠ 10 → s' p i = s p i
theorem E810.rf {s : xS} : E810 s s := fun _ _ _ _ => rfl
theorem E810.tr {a b c : xS} (h : E810 a b) (g : E810 b c) : E810 a c := fun p i h1 h2 => (g p i h1 h2).trans (h p i h1 h2)
theorem E810.of8 {a b : xS} (h : E8 a b) : E810 a b := fun p i h1 _ => h p i h1
theorem E810.settle {s : xS} {l m b : Nat} : E810 s (settle s l m b) := fun p i _ h10 => by
  unfold _root_.Jvm.Pilot.CRentStreamLaw_law_r6381_6d719a.settle
  rw [su_f _ (fun h => h10 h.1), su_f _ (fun h => h10 h.1), su_f _ (fun h => h10 h.1), su_f _ (fun h => h10 h.1)]
def oaS (n l m : Nat) (s : xS) : xS := if runb s l m = 0 then s else settle (shHeat n m s) l m 9999
def oaD (n l m : Nat) (s : xS) : Int := if runb s l m = 0 then 0 else cBill (shHeat n m s) l m 0 - cBill (shHeat n m s) l m 1 - cBill (shHeat n m s) l m 2 + cBill (shHeat n m s) l m 3
def oaL (n l : Nat) : Nat → Nat → xS → Int → Int
  | _, 0, _, acc => acc
  | m, k + 1, s, acc => oaL n l (m + 1) k (oaS n l m s) (acc + oaD n l m s)
theorem oaS_e {n l m : Nat} {s : xS} : E810 s (oaS n l m s) := by
  unfold oaS
  split
  · exact E810.rf
  · exact E810.tr (E810.of8 E8.shHeat) E810.settle
theorem E810.okW {q : xL} {n m : Nat} {s s' : xS} (h : E810 s s') (g : okW q s n m) : okW q s' n m := by
  unfold _root_.Jvm.Pilot.CRentStreamLaw_law_r6381_6d719a.okW at g ⊢
  rw [h 4 100 (by decide) (by decide)]
  refine ⟨fun l hl => ?_, g.2⟩
  have := g.1 l hl
  have eu : useb s' l m = useb s l m := by
    unfold useb runb
    rw [h 6 l (by decide) (by decide), h 4 _ (by decide) (by decide)]
  rw [h 6 l (by decide) (by decide), h 5 _ (by decide) (by decide), eu]
  exact ⟨okL_of this.1 (h _ _ (by decide) (by decide)) (h _ _ (by decide) (by decide)), this.2⟩
section ANEW
variable {ad : xAd} {q : xL} {lo : Nat → Nat → Prop} {s u : xS} {co : Nat → Nat → xE} {t : xT} {rc rs n : Nat} {KX : String → xT → Prop}
theorem okM_810 {s s' : xS} {m : Nat} (h : E810 s s') (g : okM q s m) : okM q s' m := okM_of g (funext fun i => h 4 i (by decide) (by decide))
theorem sp_oaLoop {K : Int64 → xT → Prop} {l e : Nat} (hn : n ≤ q.2.1) (hn12 : n ≤ 12) (hl : l < n) (he : e ≤ 121) : ∀ (r m : Nat) (s : xS) (t : xT) (acc : Int), m + r = e → RR ad q lo s u co t → LI q s 1 n → (∀ k, k < e → okW q s n k ∧ okM q s k) → (∀ t, RR ad q lo (lp (oaS n l) m r s) u co t → K (J (oaL n l m r s acc)) t) → V_X7_owesAnew_21 KX K (r + 1) (ad 0 0) (some (ad 6 l)) (J acc) (I e) (I m) t rc rs := by
  intro r
  induction r with
  | zero =>
    intro m s t acc hm hR hL hW kk
    show VS_X7_owesAnew_21 (V_X7_owesAnew_21 KX K 0) KX K _ _ _ _ _ _ rc rs
    unfold VS_X7_owesAnew_21
    exact xbt (by (try simp only [I_lit, J_lit, I_ofNat, I_neg, I_add, I_sub, I_mul, J_neg, J_add, J_sub, J_mul]); first | (rw [I_lt ⟨by omega, by omega⟩ ⟨by omega, by omega⟩]; omega) | (rw [I_le ⟨by omega, by omega⟩ ⟨by omega, by omega⟩]; omega) | (rw [I_eq ⟨by omega, by omega⟩ ⟨by omega, by omega⟩]; omega) | (rw [J_lt ⟨by omega, by omega⟩ ⟨by omega, by omega⟩]; omega) | (rw [J_le ⟨by omega, by omega⟩ ⟨by omega, by omega⟩]; omega) | (rw [J_eq ⟨by omega, by omega⟩ ⟨by omega, by omega⟩]; omega)) (kk _ hR)
  | succ r ih =>
    intro m s t acc hm hR hL hW kk
    show VS_X7_owesAnew_21 (V_X7_owesAnew_21 KX K (r + 1)) KX K _ _ _ _ _ _ rc rs
    unfold VS_X7_owesAnew_21
    refine xbf (by (try simp only [I_lit, J_lit, I_ofNat, I_neg, I_add, I_sub, I_mul, J_neg, J_add, J_sub, J_mul]); first | (rw [I_lt ⟨by omega, by omega⟩ ⟨by omega, by omega⟩]; omega) | (rw [I_le ⟨by omega, by omega⟩ ⟨by omega, by omega⟩]; omega) | (rw [I_eq ⟨by omega, by omega⟩ ⟨by omega, by omega⟩]; omega) | (rw [J_lt ⟨by omega, by omega⟩ ⟨by omega, by omega⟩]; omega) | (rw [J_le ⟨by omega, by omega⟩ ⟨by omega, by omega⟩]; omega) | (rw [J_eq ⟨by omega, by omega⟩ ⟨by omega, by omega⟩]; omega)) ⟨_, rfl, ?_⟩
    obtain ⟨hWm, hMm⟩ := hW m (by omega)
    have ho := (hWm.1 l hl).1
    obtain ⟨h61, h62, h63, h64, h65, h66⟩ := id ho
    refine ⟨xis_R hR (by simp only [clv, eq_self_iff_true, true_or, or_true, false_or, or_false, true_and, and_true, false_and, and_false] <;> omega) rfl, ?_⟩
    refine sp_runsIn hR h61 ⟨by omega, by omega⟩ ⟨by omega, by omega⟩ ⟨by omega, by omega⟩ ?_
    rw [show (I (m : Int) + 1 : Int32) = I ((m + 1 : Nat) : Int) from I_add _ 1]
    have kk2 : ∀ t, RR ad q lo (lp (oaS n l) (m + 1) r (oaS n l m s)) u co t → K (J (oaL n l (m + 1) r (oaS n l m s) (acc + oaD n l m s))) t := kk
    have hE := oaS_e (n := n) (l := l) (m := m) (s := s)
    have go : ∀ t, RR ad q lo (oaS n l m s) u co t → V_X7_owesAnew_21 KX K (r + 1) (ad 0 0) (some (ad 6 l)) (J (acc + oaD n l m s)) (I e) (I ((m + 1 : Nat) : Int)) t rc rs := fun t hR => ih (m + 1) _ t _ (by omega) hR (LI_of hL (hE _ _ (by decide) (by decide)) (hE _ _ (by decide) (by decide))) (fun k hk => ⟨hE.okW (hW k hk).1, okM_810 hE (hW k hk).2⟩) kk2
    rcases runb_01 s l m with hr | hr
    · rw [hr]
      refine xbt rfl ?_
      have e1 : oaS n l m s = s := by unfold oaS; rw [if_pos hr]
      have e2 : oaD n l m s = 0 := by unfold oaD; rw [if_pos hr]
      have := go t (by rw [e1]; exact hR)
      rw [e2, Int.add_zero] at this
      exact this
    · rw [hr]
      refine xbf (by decide) ?_
      refine ⟨xis_R hR (by simp only [clv, eq_self_iff_true, true_or, or_true, false_or, or_false, true_and, and_true, false_and, and_false] <;> omega) rfl, ?_⟩
      refine sp_shHeat hR hL hn hn12 (by omega) hWm (fun t hR => ?_)
      have h8 : E8 s (shHeat n m s) := E8.shHeat
      refine xgR_R hR (by simp only [clv, eq_self_iff_true, true_or, or_true, false_or, or_false, true_and, and_true, false_and, and_false] <;> omega) rfl rfl ?_
      refine ⟨xis_R hR (by simp only [clv, eq_self_iff_true, true_or, or_true, false_or, or_false, true_and, and_true, false_and, and_false] <;> omega) rfl, ?_⟩
      have em : ((m : Int).toNat) = m := by omega
      have e6 : shHeat n m s 6 l = s 6 l := h8 6 l (by decide)
      have e4 : ∀ i, shHeat n m s 4 i = s 4 i := fun i => h8 4 i (by decide)
      have hrg := incn_rng (g := s 4 (400 + l)) (n := m + 1) (fun k hk => h66 k (by omega))
      refine sp_settle (b := 9999) hR h61 (by rw [e6]; exact h62) (Or.inl rfl) (by omega) (by rw [e6]; exact h63) (by rw [em, e4]; exact hMm.1) (by rw [em, e6, e4]; exact hMm.2 _ h62) (fun k hk => by rw [e4]; have := h66 k hk; exact ⟨by omega, by omega⟩) (by rw [em, e4]; omega) (fun t hR => ?_)
      rw [em] at hR
      refine xgR_R hR (by simp only [clv, eq_self_iff_true, true_or, or_true, false_or, or_false, true_and, and_true, false_and, and_false] <;> omega) rfl rfl ?_
      refine ⟨xis_R hR (p := 10) (Or.inl rfl) rfl, ?_⟩
      refine sp_ofTenant hR (Or.inl rfl) ?_
      have eT : bT (settle (shHeat n m s) l m 9999) 9999 = oaD n l m s := by
        unfold oaD
        rw [if_neg (by omega)]
        unfold bT settle
        simp (config := { decide := true }) only [su_r, su_f, sup_n, not_false_eq_true, eq_self_iff_true, true_or, or_true, false_or, or_false, true_and, and_true, false_and, and_false, if_true, if_false, ite_true, ite_false]
      have hc := cBill_rng (q := q) (s := shHeat n m s) (okL_of ho e6 (e4 _)) (show m < 121 by omega) (okM_of hMm (funext e4))
      have hsr := shHeat_rng hWm hl
      have hr2 : i32 (oaD n l m s) := by
        have e3 : cBill (shHeat n m s) l m 3 = shHeat n m s 8 l 0 := rfl
        unfold oaD
        rw [if_neg (by omega), e3]
        exact ⟨by omega, by omega⟩
      rw [eT, I_long hr2, J_add]
      refine go t ?_
      have e1 : oaS n l m s = settle (shHeat n m s) l m 9999 := by unfold oaS; rw [if_neg (by omega)]
      rw [e1]
      exact hR
theorem sp_owesAnew {K : Int64 → xT → Prop} {z : Int} (hR : RR ad q lo s u co t) (hT : okT s) (hL : LI q s 1 n) (hn : n ≤ q.2.1) (hn12 : n ≤ 12) (hz : i32 z) (hW : ∀ k, k < nowN s → okW q s n k ∧ okM q s k) (h1 : 3 ≤ rc) (h2 : 18 ≤ rs) (kx : ¬ (0 ≤ z ∧ z < n) → KX IOB t) (kk : 0 ≤ z ∧ z < n → ∀ t, RR ad q lo (lp (oaS n z.toNat) 0 (nowN s) s) u co t → K (J (oaL n z.toNat 0 (nowN s) s (-s 6 z.toNat 7))) t) : V_X7_owesAnew_0 KX K (ad 0 0) (I z) t rc rs := by
  unfold okT at hT
  unfold V_X7_owesAnew_0
  refine ⟨xis_R hR (by simp only [clv, eq_self_iff_true, true_or, or_true, false_or, or_false, true_and, and_true, false_and, and_false] <;> omega) rfl, ?_⟩
  refine ⟨1, 6, by omega, by omega, ?_⟩
  refine sp_leaseAt hR hL hn hz (by omega) (by omega) kx (fun hc => ⟨_, rfl, ?_⟩)
  refine xgJ_R hR (p := 6) (show z.toNat < q.2.1 by omega) rfl rfl ?_
  refine ⟨xis_R hR (by simp only [clv, eq_self_iff_true, true_or, or_true, false_or, or_false, true_and, and_true, false_and, and_false] <;> omega) rfl, ?_⟩
  refine sp_now hR (by omega) ⟨nowN s + 1, ?_⟩
  rw [J_neg, show (s 0 0 8 / 30) = ((nowN s : Nat) : Int) by unfold nowN; omega]
  exact sp_oaLoop hn hn12 (by omega) (by unfold nowN; omega) (nowN s) 0 s t _ (by omega) hR hL hW (kk hc)
end ANEW
