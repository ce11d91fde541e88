section LNS3
variable {E : Nat → Nat} {ad : xAd} {q : xL} {lo : Nat → Nat → Prop} {s u : xS} {co : Nat → Nat → xE} {t : xT} {rc rs a0 n : Nat} {l : List Int} {KX : String → xT → Prop}
theorem txt_0 {s : xS} (h : SBk s) : Txt (su s 12 0 3 0) [] := by
  obtain ⟨h1, h2, h3⟩ := h
  refine ⟨⟨?_, ?_, ?_⟩, ?_, fun j hj => absurd hj (Nat.not_lt_zero j)⟩
  · simp (config := { decide := true }) only [su_r, su_f, sup_n, not_false_eq_true, eq_self_iff_true, true_or, or_true, false_or, or_false, true_and, and_true, false_and, and_false, if_true, if_false, ite_true, ite_false]
    omega
  · simp (config := { decide := true }) only [su_r, su_f, sup_n, not_false_eq_true, eq_self_iff_true, true_or, or_true, false_or, or_false, true_and, and_true, false_and, and_false, if_true, if_false, ite_true, ite_false]
    exact h2
  · simp (config := { decide := true }) only [su_r, su_f, sup_n, not_false_eq_true, eq_self_iff_true, true_or, or_true, false_or, or_false, true_and, and_true, false_and, and_false, if_true, if_false, ite_true, ite_false]
    exact h3
  · simp (config := { decide := true }) only [su_r, su_f, sup_n, not_false_eq_true, eq_self_iff_true, true_or, or_true, false_or, or_false, true_and, and_true, false_and, and_false, if_true, if_false, ite_true, ite_false]
theorem sp_setLen0 {K : xT → Prop} (hR : RR ad q lo s u co t) (hS : SBk s) (kk : ∀ s' t', Esb s s' → s' 13 0 0 = s 13 0 0 → RR ad q lo s' u co t' → Txt s' [] → K t') : V_J4_setLength_d00df_0 K (ad 12 0) (0 : Int32) t rc rs := by
  obtain ⟨h1, h2, h3⟩ := id hS
  unfold V_J4_setLength_d00df_0
  refine ⟨xis_R hR (by simp only [clv, eq_self_iff_true, true_or, or_true, false_or, or_false, true_and, and_true, false_and, and_false] <;> omega) rfl, ?_⟩
  refine ⟨rc, rs, Nat.le_refl _, Nat.le_refl _, ?_⟩
  unfold V_J5_setLength_d00df_0
  refine xbt (by decide) ?_
  refine ⟨xis_R hR (by simp only [clv, eq_self_iff_true, true_or, or_true, false_or, or_false, true_and, and_true, false_and, and_false] <;> omega) rfl, ?_⟩
  refine ⟨rc, rs, Nat.le_refl _, Nat.le_refl _, ?_⟩
  refine sp_ensure (need := 0) hR hS (by decide) (fun h => absurd h (by omega)) (fun _ => ?_) (fun h => absurd h (by omega))
  refine xgI_R hR (by simp only [clv, eq_self_iff_true, true_or, or_true, false_or, or_false, true_and, and_true, false_and, and_false] <;> omega) rfl rfl ?_
  refine xbt (by (try simp only [I_lit, J_lit, I_ofNat, I_neg, I_add, I_sub, I_mul, J_neg, J_add, J_sub, J_mul]); first | (rw [I_lt ⟨by omega, by omega⟩ ⟨by omega, by omega⟩]; omega) | (rw [I_le ⟨by omega, by omega⟩ ⟨by omega, by omega⟩]; omega) | (rw [I_eq ⟨by omega, by omega⟩ ⟨by omega, by omega⟩]; omega) | (rw [J_lt ⟨by omega, by omega⟩ ⟨by omega, by omega⟩]; omega) | (rw [J_le ⟨by omega, by omega⟩ ⟨by omega, by omega⟩]; omega) | (rw [J_eq ⟨by omega, by omega⟩ ⟨by omega, by omega⟩]; omega)) ?_
  refine xgI_R hR (by simp only [clv, eq_self_iff_true, true_or, or_true, false_or, or_false, true_and, and_true, false_and, and_false] <;> omega) rfl rfl ?_
  rw [show (0 : Int32) = I 0 from rfl]
  by_cases c : s 12 0 3 ≤ 0
  · refine xbt (by (try simp only [I_lit, J_lit, I_ofNat, I_neg, I_add, I_sub, I_mul, J_neg, J_add, J_sub, J_mul]); first | (rw [I_lt ⟨by omega, by omega⟩ ⟨by omega, by omega⟩]; omega) | (rw [I_le ⟨by omega, by omega⟩ ⟨by omega, by omega⟩]; omega) | (rw [I_eq ⟨by omega, by omega⟩ ⟨by omega, by omega⟩]; omega) | (rw [J_lt ⟨by omega, by omega⟩ ⟨by omega, by omega⟩]; omega) | (rw [J_le ⟨by omega, by omega⟩ ⟨by omega, by omega⟩]; omega) | (rw [J_eq ⟨by omega, by omega⟩ ⟨by omega, by omega⟩]; omega)) ?_
    refine xpF_I hR (by simp only [clv, eq_self_iff_true, true_or, or_true, false_or, or_false, true_and, and_true, false_and, and_false] <;> omega) (by decide) rfl (Nat.le_of_ble_eq_true rfl) rfl (fun t hR => ?_)
    exact kk _ _ (fun p i h12 h13 => su_f _ (fun h => h12 h.1)) (by simp (config := { decide := true }) only [su_r, su_f, sup_n, not_false_eq_true, eq_self_iff_true, true_or, or_true, false_or, or_false, true_and, and_true, false_and, and_false, if_true, if_false, ite_true, ite_false]) hR (txt_0 hS)
  · refine xbf (by (try simp only [I_lit, J_lit, I_ofNat, I_neg, I_add, I_sub, I_mul, J_neg, J_add, J_sub, J_mul]); first | (rw [I_lt ⟨by omega, by omega⟩ ⟨by omega, by omega⟩]; omega) | (rw [I_le ⟨by omega, by omega⟩ ⟨by omega, by omega⟩]; omega) | (rw [I_eq ⟨by omega, by omega⟩ ⟨by omega, by omega⟩]; omega) | (rw [J_lt ⟨by omega, by omega⟩ ⟨by omega, by omega⟩]; omega) | (rw [J_le ⟨by omega, by omega⟩ ⟨by omega, by omega⟩]; omega) | (rw [J_eq ⟨by omega, by omega⟩ ⟨by omega, by omega⟩]; omega)) ?_
    rw [show (1 : Int32) = I 1 from rfl]
    refine xpF_I hR (by simp only [clv, eq_self_iff_true, true_or, or_true, false_or, or_false, true_and, and_true, false_and, and_false] <;> omega) (by decide) rfl (Nat.le_of_ble_eq_true rfl) rfl (fun t hR => ?_)
    refine xpF_I hR (by simp only [clv, eq_self_iff_true, true_or, or_true, false_or, or_false, true_and, and_true, false_and, and_false] <;> omega) (by decide) rfl (Nat.le_of_ble_eq_true rfl) rfl (fun t hR => ?_)
    refine kk _ _ (fun p i h12 h13 => by rw [su_f _ (fun h => h12 h.1), su_f _ (fun h => h12 h.1)]) (by simp (config := { decide := true }) only [su_r, su_f, sup_n, not_false_eq_true, eq_self_iff_true, true_or, or_true, false_or, or_false, true_and, and_true, false_and, and_false, if_true, if_false, ite_true, ite_false]) hR (txt_0 ?_)
    unfold SBk
    simp (config := { decide := true }) only [su_r, su_f, sup_n, not_false_eq_true, eq_self_iff_true, true_or, or_true, false_or, or_false, true_and, and_true, false_and, and_false, if_true, if_false, ite_true, ite_false]
    exact hS
def lnC (l : List Int) (x : Int) : Int := if x < l.length then l.getD x.toNat 0 else 32
theorem sp_charAt {K : Int32 → xT → Prop} {x : Int} (hR : RR ad q lo s u co t) (hT : Txt s l) (hx : 0 ≤ x ∧ x < l.length) (hl : ∀ c ∈ l, 0 ≤ c ∧ c ≤ 127) (kk : K (I (l.getD x.toNat 0)) t) : V_J4_charAt_5068e_0 (fun x_25 t_24 => (narrow .char (.int x_25) = .int x_25 ∧ K x_25 t_24)) (ad 12 0) (I x) t := by
  obtain ⟨⟨h1, h2, h3⟩, hn, hj⟩ := id hT
  unfold V_J4_charAt_5068e_0
  refine ⟨xis_R hR (by simp only [clv, eq_self_iff_true, true_or, or_true, false_or, or_false, true_and, and_true, false_and, and_false] <;> omega) rfl, ?_⟩
  unfold V_J5_charAt_5068e_0
  refine xgI_R hR (by simp only [clv, eq_self_iff_true, true_or, or_true, false_or, or_false, true_and, and_true, false_and, and_false] <;> omega) rfl rfl ?_
  refine xgR_R hR (by simp only [clv, eq_self_iff_true, true_or, or_true, false_or, or_false, true_and, and_true, false_and, and_false] <;> omega) rfl rfl ?_
  refine xgI_R hR (by simp only [clv, eq_self_iff_true, true_or, or_true, false_or, or_false, true_and, and_true, false_and, and_false] <;> omega) rfl rfl ?_
  refine xal_I hR (p := 13) (i := 0) rfl rfl ?_
  rw [sh0r, show (((s 13 0 0).toNat : Nat) : Int) = s 13 0 0 by omega]
  unfold V_J0_checkIndex_df160_0 V_J3_checkIndex_8e157_0
  intro o
  refine xbf (by (try simp only [I_lit, J_lit, I_ofNat, I_neg, I_add, I_sub, I_mul, J_neg, J_add, J_sub, J_mul]); first | (rw [I_lt ⟨by omega, by omega⟩ ⟨by omega, by omega⟩]; omega) | (rw [I_le ⟨by omega, by omega⟩ ⟨by omega, by omega⟩]; omega) | (rw [I_eq ⟨by omega, by omega⟩ ⟨by omega, by omega⟩]; omega) | (rw [J_lt ⟨by omega, by omega⟩ ⟨by omega, by omega⟩]; omega) | (rw [J_le ⟨by omega, by omega⟩ ⟨by omega, by omega⟩]; omega) | (rw [J_eq ⟨by omega, by omega⟩ ⟨by omega, by omega⟩]; omega)) (xbt ?_ ?_)
  · have e : (if I (s 13 0 0) < I (s 12 0 3) then I (s 13 0 0) else I (s 12 0 3)) = I (s 12 0 3) := by
      by_cases c : I (s 13 0 0) < I (s 12 0 3)
      · rw [I_lt ⟨by omega, by omega⟩ ⟨by omega, by omega⟩] at c
        omega
      · rw [if_neg c]
    rw [e, hn]
    exact (by (try simp only [I_lit, J_lit, I_ofNat, I_neg, I_add, I_sub, I_mul, J_neg, J_add, J_sub, J_mul]); first | (rw [I_lt ⟨by omega, by omega⟩ ⟨by omega, by omega⟩]; omega) | (rw [I_le ⟨by omega, by omega⟩ ⟨by omega, by omega⟩]; omega) | (rw [I_eq ⟨by omega, by omega⟩ ⟨by omega, by omega⟩]; omega) | (rw [J_lt ⟨by omega, by omega⟩ ⟨by omega, by omega⟩]; omega) | (rw [J_le ⟨by omega, by omega⟩ ⟨by omega, by omega⟩]; omega) | (rw [J_eq ⟨by omega, by omega⟩ ⟨by omega, by omega⟩]; omega))
  · refine xst rfl ?_
    refine xaB_R (p := 13) (i := 0) hR rfl (show xce ad s u co 13 0 = .inl (3, (s 13 0 0).toNat, .inl (fun j => I (s 13 0 (j + 1)))) from rfl) (Or.inl rfl) (by omega) (by omega) ?_
    show narrow .char (.int ((I (s 13 0 (x.toNat + 1)) &&& 255).toUInt32 % 65536).toInt32) = .int ((I (s 13 0 (x.toNat + 1)) &&& 255).toUInt32 % 65536).toInt32 ∧ narrow .char (.int ((I (s 13 0 (x.toNat + 1)) &&& 255).toUInt32 % 65536).toInt32) = .int ((I (s 13 0 (x.toNat + 1)) &&& 255).toUInt32 % 65536).toInt32 ∧ narrow .char (.int ((I (s 13 0 (x.toNat + 1)) &&& 255).toUInt32 % 65536).toInt32) = .int ((I (s 13 0 (x.toNat + 1)) &&& 255).toUInt32 % 65536).toInt32 ∧ K ((I (s 13 0 (x.toNat + 1)) &&& 255).toUInt32 % 65536).toInt32 t
    rw [hj x.toNat (by omega)]
    have hm : l.getD x.toNat 0 ∈ l := by
      rw [List.getD_eq_getElem?_getD, List.getElem?_eq_getElem (by omega)]
      exact List.getElem_mem _
    have hc := hl _ hm
    generalize l.getD x.toNat 0 = c at hc kk ⊢
    have e1 : (I c &&& 255) = I c := by
      obtain ⟨k, rfl⟩ : ∃ k : Nat, c = k := ⟨c.toNat, by omega⟩
      have hk : k < 128 := by omega
      clear hc kk hm
      revert k
      decide +kernel
    rw [e1, chr_id (by omega)]
    have e2 : narrow .char (.int (I c)) = .int (I c) := by
      obtain ⟨k, rfl⟩ : ∃ k : Nat, c = k := ⟨c.toNat, by omega⟩
      have hk : k < 128 := by omega
      clear hc kk hm e1
      revert k
      decide +kernel
    exact ⟨e2, e2, e2, kk⟩
def rgL (l : List Int) : Prop := ∀ c ∈ l, 0 ≤ c ∧ c ≤ 127
theorem rgL.app {a b : List Int} (h : rgL a) (g : rgL b) : rgL (a ++ b) := fun c hc => by
  rcases List.mem_append.mp hc with q | q
  · exact h c q
  · exact g c q
theorem rgL.one {a : Int} (h : 0 ≤ a ∧ a ≤ 127) : rgL [a] := fun c hc => by
  rw [List.mem_singleton.mp hc]
  exact h
theorem rgL.cons {a : Int} {b : List Int} (h : 0 ≤ a ∧ a ≤ 127) (g : rgL b) : rgL (a :: b) := rgL.app (rgL.one h) g
theorem digs_r {v : Int} (h : 0 ≤ v ∧ v ≤ 999) : rgL (digs v) := by
  unfold digs
  split
  · exact rgL.one (by omega)
  · split
    · exact rgL.cons (by omega) (rgL.one (by omega))
    · exact rgL.cons (by omega) (rgL.cons (by omega) (rgL.one (by omega)))
theorem dg2_r {v : Int} : rgL (dg2 v) := rgL.cons (by omega) (rgL.one (by omega))
theorem dg3_r {v : Int} : rgL (dg3 v) := rgL.cons (by omega) (rgL.cons (by omega) (rgL.one (by omega)))
theorem wh_r {v : Int} (h : 0 ≤ v ∧ v < 1000000) : rgL (wh v) := by
  unfold wh
  split
  · exact rgL.app (digs_r (by omega)) (rgL.app (rgL.one (by decide)) dg3_r)
  · exact digs_r (by omega)
theorem am_r {c v : Int} (hc : 0 ≤ c ∧ c ≤ 127) (h : 0 ≤ v ∧ v < 100000000) : rgL (am c v) := rgL.app (rgL.one (by decide)) (rgL.app (rgL.one hc) (rgL.app (wh_r (by omega)) (rgL.app (rgL.one (by decide)) dg2_r)))
theorem lnT_r {g : Nat → Int} {x m : Int} (hx : 0 ≤ x ∧ x ≤ 999) (hm : 0 ≤ m ∧ m ≤ 999) (hg : ∀ k, k < 4 → 0 ≤ g k ∧ g k < 100000000) (h4 : 0 ≤ g 0 - g 1 - g 2 + g 3 ∧ g 0 - g 1 - g 2 + g 3 < 100000000) : rgL (lnT g x m) :=
  rgL.app (rgL.one (by decide)) (rgL.app (digs_r hx) (rgL.app (rgL.cons (by decide) (rgL.one (by decide))) (rgL.app (digs_r hm) (rgL.app (am_r (by decide) (hg 0 (by decide))) (rgL.app (am_r (by decide) (hg 1 (by decide))) (rgL.app (am_r (by decide) (hg 2 (by decide))) (rgL.app (am_r (by decide) (hg 3 (by decide))) (am_r (by decide) h4))))))))
theorem digs_len1 {v : Int} : 1 ≤ (digs v).length := by
  rw [digs_len]
  unfold dsz
  split
  · decide
  · split <;> decide
theorem wh_len1 {w : Int} : 1 ≤ (wh w).length := by
  unfold wh
  split
  · rw [List.length_append]
    have := digs_len1 (v := w / 1000)
    omega
  · exact digs_len1
theorem am_len1 {c v : Int} : 6 ≤ (am c v).length := by
  have := wh_len1 (w := v / 100)
  unfold am
  simp [dg2]
  omega
theorem lnT_len1 {g : Nat → Int} {l m : Int} : 35 ≤ (lnT g l m).length := by
  have h1 := digs_len1 (v := l)
  have h2 := digs_len1 (v := m)
  have a1 := am_len1 (c := 82) (v := g 0)
  have a2 := am_len1 (c := 88) (v := g 1)
  have a3 := am_len1 (c := 66) (v := g 2)
  have a4 := am_len1 (c := 72) (v := g 3)
  have a5 := am_len1 (c := 84) (v := g 0 - g 1 - g 2 + g 3)
  unfold lnT
  simp only [List.length_append, List.length_cons, List.length_nil]
  omega
theorem sp_line {K : Int32 → xT → Prop} {z m x : Int} (hO : RO E ad lo co) (hR : RR ad q lo s u co t) (hB : HB q s) (hS : SBk s) (hT : okT s) (hL : LI q s 1 n) (hn : n ≤ q.2.1) (hn12 : n ≤ 12) (hz : i32 z) (hm : i32 m) (hx : i32 x) (hbl : ∀ l m, l < n → m < 121 → okBl s l m) (hb4 : ∀ l m, l < n → m < 121 → s 9 l m ≠ 0 → 0 ≤ bT s (200 * l + m) ∧ bT s (200 * l + m) < 100000000) (hb3 : ∀ l m, l < n → m < 121 → s 9 l m ≠ 0 → s 10 (200 * l + m) 3 < 100000000) (h1 : 3 ≤ rc) (h2 : 18 ≤ rs) (h3 : ((0 ≤ z ∧ z < n) ∧ (0 ≤ m ∧ m ≤ s 0 0 8 / 30) ∧ 0 ≤ x) → s 9 z.toNat m.toNat ≠ 0 → 14 * pot (s 13 0 0) + 2 ≤ rc ∧ 1960 * pot (s 13 0 0) + 12 ≤ rs)
    (kx : ¬ ((0 ≤ z ∧ z < n) ∧ (0 ≤ m ∧ m ≤ s 0 0 8 / 30) ∧ 0 ≤ x) → KX IOB t)
    (k0 : ((0 ≤ z ∧ z < n) ∧ (0 ≤ m ∧ m ≤ s 0 0 8 / 30) ∧ 0 ≤ x) → s 9 z.toNat m.toNat = 0 → K (I 32) t)
    (kk : ((0 ≤ z ∧ z < n) ∧ (0 ≤ m ∧ m ≤ s 0 0 8 / 30) ∧ 0 ≤ x) → s 9 z.toNat m.toNat ≠ 0 → ∀ ad' s' t', SBR ad s ad' s' → RR ad' q lo s' u co t' → SBk s' → 70 ≤ s' 13 0 0 → K (I (lnC (lnT (s 10 (200 * z.toNat + m.toNat)) z m) x)) t') : V_X7_line_0 E KX K (ad 0 0) (I z) (I m) (I x) t rc rs := by
  unfold okT at hT
  unfold i32 at hx
  unfold V_X7_line_0
  refine ⟨xis_R hR (by simp only [clv, eq_self_iff_true, true_or, or_true, false_or, or_false, true_and, and_true, false_and, and_false] <;> omega) rfl, ?_⟩
  refine ⟨1, 6, by omega, by omega, ?_⟩
  refine sp_leaseAt hR hL hn hz (by omega) (by omega) (fun hc => kx (by omega)) (fun hc => ?_)
  refine ⟨xis_R hR (by simp only [clv, eq_self_iff_true, true_or, or_true, false_or, or_false, true_and, and_true, false_and, and_false] <;> omega) rfl, ?_⟩
  refine ⟨1, 6, by omega, by omega, ?_⟩
  refine sp_needMonth hR (by omega) hm (by omega) (by omega) (fun hd => kx (by omega)) (fun hd => ?_)
  by_cases c1 : 0 ≤ x
  · refine xbt (by (try simp only [I_lit, J_lit, I_ofNat, I_neg, I_add, I_sub, I_mul, J_neg, J_add, J_sub, J_mul]); first | (rw [I_lt ⟨by omega, by omega⟩ ⟨by omega, by omega⟩]; omega) | (rw [I_le ⟨by omega, by omega⟩ ⟨by omega, by omega⟩]; omega) | (rw [I_eq ⟨by omega, by omega⟩ ⟨by omega, by omega⟩]; omega) | (rw [J_lt ⟨by omega, by omega⟩ ⟨by omega, by omega⟩]; omega) | (rw [J_le ⟨by omega, by omega⟩ ⟨by omega, by omega⟩]; omega) | (rw [J_eq ⟨by omega, by omega⟩ ⟨by omega, by omega⟩]; omega)) ⟨_, rfl, ?_⟩
    have hl : z.toNat < q.2.1 := by omega
    have k02 := k0 ⟨hc, hd, c1⟩
    have kk2 := kk ⟨hc, hd, c1⟩
    refine ⟨xis_R hR (p := 6) hl rfl, ?_⟩
    refine sp_billOf hR hl (by omega) ?_
    by_cases c3 : s 9 z.toNat m.toNat = 0
    · rw [if_pos c3]
      exact ⟨fun _ => k02 c3, fun a e => (nomatch e)⟩
    · rw [if_neg c3]
      refine ⟨fun e => (nomatch e), fun a e => ?_⟩
      cases e
      have h3' := h3 ⟨hc, hd, c1⟩ c3
      have hb : clv q lo 10 (200 * z.toNat + m.toNat) := Or.inr ((hB _ _ hl (by omega)).mpr c3)
      have hk := hbl z.toNat m.toNat (by omega) (by omega)
      have h4 := hb4 z.toNat m.toNat (by omega) (by omega) c3
      have h3 := hb3 z.toNat m.toNat (by omega) (by omega) c3
      have hg : ∀ k, k < 4 → 0 ≤ s 10 (200 * z.toNat + m.toNat) k ∧ s 10 (200 * z.toNat + m.toNat) k < 100000000 := fun k hk4 => by
        obtain ⟨a1, a2, a3, a4⟩ := hk c3
        obtain rfl | rfl | rfl | rfl : k = 0 ∨ k = 1 ∨ k = 2 ∨ k = 3 := by omega
        · omega
        · omega
        · omega
        · omega
      refine xgR_R hR (by simp only [clv, eq_self_iff_true, true_or, or_true, false_or, or_false, true_and, and_true, false_and, and_false] <;> omega) rfl rfl ?_
      refine ⟨xis_R hR (by simp only [clv, eq_self_iff_true, true_or, or_true, false_or, or_false, true_and, and_true, false_and, and_false] <;> omega) rfl, ?_⟩
      refine ⟨0, 0, Nat.zero_le _, Nat.zero_le _, ?_⟩
      refine sp_setLen0 hR hS (fun s1 t hE1 he13 hR hT1 => ?_)
      refine xgR_R hR (by simp only [clv, eq_self_iff_true, true_or, or_true, false_or, or_false, true_and, and_true, false_and, and_false] <;> omega) rfl rfl ?_
      refine ⟨14 * pot (s1 13 0 0), 1960 * pot (s1 13 0 0), by rw [he13]; omega, by rw [he13]; omega, ?_⟩
      have e10 : s1 10 (200 * z.toNat + m.toNat) = s 10 (200 * z.toNat + m.toNat) := hE1 10 _ (by decide) (by decide)
      have eb : bT s1 (200 * z.toNat + m.toNat) = bT s (200 * z.toNat + m.toNat) := by
        unfold bT
        rw [e10]
      refine sp_writeLine hO hR rfl hb hT1 (by omega) (by omega) (by rw [e10]; exact hg) (by rw [eb]; exact h4) (Nat.le_refl _) (Nat.le_refl _) (fun ad' s2 t hB2 hR h0 hT2 => ?_)
      rw [e10] at hT2
      rw [← hB2.1 0 0 (by decide)]
      have hE2 : SBR ad s ad' s2 := ⟨hB2.1, Esb.tr hE1 hB2.2.1, by have := hB2.2.2; rw [he13] at this; exact this⟩
      have kk3 := kk2 c3 ad' s2 t hE2 hR hT2.1 (by have g1 := hT2.1.1; have g2 := hT2.1.2.1; have g3 := hT2.2.1; have g4 := lnT_len1 (g := s 10 (200 * z.toNat + m.toNat)) (l := z) (m := m); omega)
      refine xgR_R hR (by simp only [clv, eq_self_iff_true, true_or, or_true, false_or, or_false, true_and, and_true, false_and, and_false] <;> omega) rfl rfl ?_
      refine ⟨xis_R hR (by simp only [clv, eq_self_iff_true, true_or, or_true, false_or, or_false, true_and, and_true, false_and, and_false] <;> omega) rfl, ?_⟩
      unfold V_J4_length_8abf5_0
      refine ⟨xis_R hR (by simp only [clv, eq_self_iff_true, true_or, or_true, false_or, or_false, true_and, and_true, false_and, and_false] <;> omega) rfl, ?_⟩
      unfold V_J5_length_8abf5_0
      refine xgI_R hR (by simp only [clv, eq_self_iff_true, true_or, or_true, false_or, or_false, true_and, and_true, false_and, and_false] <;> omega) rfl rfl ?_
      rw [hT2.2.1]
      have hlen := hT2.1.1
      rw [hT2.2.1] at hlen
      have hcap := hT2.1.2.1
      unfold lnC at kk3
      by_cases c4 : x < (lnT (s 10 (200 * z.toNat + m.toNat)) z m).length
      · rw [if_pos c4] at kk3
        refine xbf (by (try simp only [I_lit, J_lit, I_ofNat, I_neg, I_add, I_sub, I_mul, J_neg, J_add, J_sub, J_mul]); first | (rw [I_lt ⟨by omega, by omega⟩ ⟨by omega, by omega⟩]; omega) | (rw [I_le ⟨by omega, by omega⟩ ⟨by omega, by omega⟩]; omega) | (rw [I_eq ⟨by omega, by omega⟩ ⟨by omega, by omega⟩]; omega) | (rw [J_lt ⟨by omega, by omega⟩ ⟨by omega, by omega⟩]; omega) | (rw [J_le ⟨by omega, by omega⟩ ⟨by omega, by omega⟩]; omega) | (rw [J_eq ⟨by omega, by omega⟩ ⟨by omega, by omega⟩]; omega)) ?_
        refine xgR_R hR (by simp only [clv, eq_self_iff_true, true_or, or_true, false_or, or_false, true_and, and_true, false_and, and_false] <;> omega) rfl rfl ?_
        refine ⟨xis_R hR (by simp only [clv, eq_self_iff_true, true_or, or_true, false_or, or_false, true_and, and_true, false_and, and_false] <;> omega) rfl, ?_⟩
        exact sp_charAt hR hT2 ⟨c1, c4⟩ (lnT_r (by omega) (by omega) hg h4) kk3
      · rw [if_neg c4] at kk3
        exact xbt (by (try simp only [I_lit, J_lit, I_ofNat, I_neg, I_add, I_sub, I_mul, J_neg, J_add, J_sub, J_mul]); first | (rw [I_lt ⟨by omega, by omega⟩ ⟨by omega, by omega⟩]; omega) | (rw [I_le ⟨by omega, by omega⟩ ⟨by omega, by omega⟩]; omega) | (rw [I_eq ⟨by omega, by omega⟩ ⟨by omega, by omega⟩]; omega) | (rw [J_lt ⟨by omega, by omega⟩ ⟨by omega, by omega⟩]; omega) | (rw [J_le ⟨by omega, by omega⟩ ⟨by omega, by omega⟩]; omega) | (rw [J_eq ⟨by omega, by omega⟩ ⟨by omega, by omega⟩]; omega)) kk3
  · exact xbf (by (try simp only [I_lit, J_lit, I_ofNat, I_neg, I_add, I_sub, I_mul, J_neg, J_add, J_sub, J_mul]); first | (rw [I_lt ⟨by omega, by omega⟩ ⟨by omega, by omega⟩]; omega) | (rw [I_le ⟨by omega, by omega⟩ ⟨by omega, by omega⟩]; omega) | (rw [I_eq ⟨by omega, by omega⟩ ⟨by omega, by omega⟩]; omega) | (rw [J_lt ⟨by omega, by omega⟩ ⟨by omega, by omega⟩]; omega) | (rw [J_le ⟨by omega, by omega⟩ ⟨by omega, by omega⟩]; omega) | (rw [J_eq ⟨by omega, by omega⟩ ⟨by omega, by omega⟩]; omega)) ⟨by omega, by omega, kx (by omega)⟩
end LNS3
