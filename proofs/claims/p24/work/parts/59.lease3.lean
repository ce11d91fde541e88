section MKL3
variable {E : Nat → Nat} {ad : xAd} {q : xL} {lo : Nat → Nat → Prop} {s u : xS} {co : Nat → Nat → xE} {t : xT} {rc rs nf n nr : Nat} {KX : String → xT → Prop}
def isLet (s : xS) (n f : Nat) : Prop := ∃ l, l < n ∧ (s 6 l 0).toNat = f ∧ s 6 l 1 = -1
theorem sp_letLoop {K : Int32 → xT → Prop} {f : Nat} (hR : RR ad q lo s u co t) (hL : LI q s 1 n) (hn : n ≤ q.2.1) (hf : f < q.1) (ho : ∀ l, l < n → okL q s l) (k1 : isLet s n f → K 1 t) (k0 : ¬ isLet s n f → K 0 t) : ∀ (r i : Nat), i + r = n → (∀ l, l < i → ¬ ((s 6 l 0).toNat = f ∧ s 6 l 1 = -1)) → V_X7_isLetOn_2 K (r + 1) (ad 0 0) (ad 5 f) (I i) t := by
  intro r
  induction r with
  | zero =>
    intro i hi hno
    show VS_X7_isLetOn_2 (V_X7_isLetOn_2 K 0) K _ _ _ _
    unfold VS_X7_isLetOn_2
    refine xlist1 hR hL hn (by omega) (fun e => k0 ?_) (fun c => by omega)
    rintro ⟨l, hl, h⟩
    exact hno l (by omega) h
  | succ r ih =>
    intro i hi hno
    show VS_X7_isLetOn_2 (V_X7_isLetOn_2 K (r + 1)) K _ _ _ _
    unfold VS_X7_isLetOn_2
    refine xlist1 hR hL hn (by omega) (fun e => by omega) (fun c => ?_)
    obtain ⟨h61, h62, h63, h64, h65, h66⟩ := ho i c
    refine xgR_R hR (by simp only [clv, eq_self_iff_true, true_or, or_true, false_or, or_false, true_and, and_true, false_and, and_false] <;> omega) rfl rfl ?_
    rw [show (I (i : Int) + 1 : Int32) = I ((i + 1 : Nat) : Int) from I_add _ 1]
    have nx : ¬ ((s 6 i 0).toNat = f ∧ s 6 i 1 = -1) → V_X7_isLetOn_2 K (r + 1) (ad 0 0) (ad 5 f) (I ((i + 1 : Nat) : Int)) t := fun h => ih (i + 1) (by omega) (fun l hl => by
      by_cases e : l = i
      · subst e
        exact h
      · exact hno l (by omega))
    by_cases c1 : (s 6 i 0).toNat = f
    · refine xst (by rw [c1]) ?_
      refine xgI_R hR (by simp only [clv, eq_self_iff_true, true_or, or_true, false_or, or_false, true_and, and_true, false_and, and_false] <;> omega) rfl rfl ?_
      by_cases c2 : s 6 i 1 = -1
      · exact xst (by rw [c2]; rfl) (k1 ⟨i, c, c1, c2⟩)
      · exact xsf (by (try simp only [I_lit, J_lit, I_ofNat, I_neg, I_add, I_sub, I_mul, J_neg, J_add, J_sub, J_mul]); first | (rw [I_lt ⟨by omega, by omega⟩ ⟨by omega, by omega⟩]; omega) | (rw [I_le ⟨by omega, by omega⟩ ⟨by omega, by omega⟩]; omega) | (rw [I_eq ⟨by omega, by omega⟩ ⟨by omega, by omega⟩]; omega) | (rw [J_lt ⟨by omega, by omega⟩ ⟨by omega, by omega⟩]; omega) | (rw [J_le ⟨by omega, by omega⟩ ⟨by omega, by omega⟩]; omega) | (rw [J_eq ⟨by omega, by omega⟩ ⟨by omega, by omega⟩]; omega)) (nx (fun h => c2 h.2))
    · refine xsf (fun e => c1 ?_) (nx (fun h => c1 h.1))
      have e' := Option.some.inj e
      exact (hR.2 5 _ 5 _ h62 hf e').2
theorem sp_isLet {K : Int32 → xT → Prop} {f : Nat} (hR : RR ad q lo s u co t) (hL : LI q s 1 n) (hn : n ≤ q.2.1) (hf : f < q.1) (ho : ∀ l, l < n → okL q s l) (k1 : isLet s n f → K 1 t) (k0 : ¬ isLet s n f → K 0 t) : V_X7_isLetOn_0 K (ad 0 0) (ad 5 f) t := ⟨n + 1, sp_letLoop hR hL hn hf ho k1 k0 n 0 (by omega) (fun l hl => by omega)⟩
theorem mkL_o {L p i : Nat} {a b c : Int} (h6 : ¬ (p = 6 ∧ i = L)) (h4 : ¬ (p = 4 ∧ i = 400 + L)) (h7 : ¬ (p = 7 ∧ i = L)) (h8 : ¬ (p = 8 ∧ i = L)) (h9 : ¬ (p = 9 ∧ i = L)) : mkL L a b c s p i = s p i := by
  unfold mkL
  rw [sup_n _ _ h9, sup_n _ _ h8, sup_n _ _ h7, sup_n _ _ h4, sup_n _ _ h6]
theorem sp_lease {K : Int32 → xT → Prop} {z x : Int} (hO : RO E ad lo co) (hR : RR ad q lo s u co t) (hC : CL q lo s) (hT : okT s) (hLf : LI q s 0 nf) (hnf : nf ≤ q.1) (hnf8 : q.1 ≤ 8) (hL : LI q s 1 n) (ho : ∀ l, l < n → okL q s l) (hZ : LZ s 1 n) (hE : LE E ad q s 1) (hcap : s 2 1 0 ≤ 100) (hn : n = q.2.1) (hn12 : n ≤ 12) (hz : i32 z) (hx : i32 x) (h1 : 20 ≤ rc) (h2 : 500 ≤ rs) (kx : ¬ (0 ≤ z ∧ z < nf) → KX IOB t) (ky : 0 ≤ z ∧ z < nf → ¬ (0 ≤ x ∧ x ≤ 500000) → KX IAE t) (kz : 0 ≤ z ∧ z < nf → 0 ≤ x ∧ x ≤ 500000 → (¬ n < 12 ∨ isLet s n z.toNat) → KX ISE t) (kk : 0 ≤ z ∧ z < nf → 0 ≤ x ∧ x ≤ 500000 → n < 12 → ¬ isLet s n z.toNat → ∀ ad' t' c, AE ad ad' → (∀ j, j ≠ 1 → ad' 2 j = ad 2 j) → RR ad' (qc (qL q) 1) lo (addS (mkL n z x (s 0 0 8 / 30 + 1) s) 1 n c) u co t' → ((n : Int) + 1 ≤ c ∧ 10 ≤ c ∧ c ≤ 100) → K (I n) t') : V_X7_lease_0 E KX K (ad 0 0) (I z) (I x) t rc rs := by
  unfold okT at hT
  unfold i32 at hx
  unfold V_X7_lease_0
  refine ⟨xis_R hR (by simp only [clv, eq_self_iff_true, true_or, or_true, false_or, or_false, true_and, and_true, false_and, and_false] <;> omega) rfl, ?_⟩
  refine ⟨1, 6, by omega, by omega, ?_⟩
  refine sp_flatAt hR hLf hnf hz (by omega) (by omega) kx (fun hc => ?_)
  by_cases c1 : x < 0
  · exact xbt (by (try simp only [I_lit, J_lit, I_ofNat, I_neg, I_add, I_sub, I_mul, J_neg, J_add, J_sub, J_mul]); first | (rw [I_lt ⟨by omega, by omega⟩ ⟨by omega, by omega⟩]; omega) | (rw [I_le ⟨by omega, by omega⟩ ⟨by omega, by omega⟩]; omega) | (rw [I_eq ⟨by omega, by omega⟩ ⟨by omega, by omega⟩]; omega) | (rw [J_lt ⟨by omega, by omega⟩ ⟨by omega, by omega⟩]; omega) | (rw [J_le ⟨by omega, by omega⟩ ⟨by omega, by omega⟩]; omega) | (rw [J_eq ⟨by omega, by omega⟩ ⟨by omega, by omega⟩]; omega)) ⟨by omega, by omega, ky hc (by omega)⟩
  · refine xbf (by (try simp only [I_lit, J_lit, I_ofNat, I_neg, I_add, I_sub, I_mul, J_neg, J_add, J_sub, J_mul]); first | (rw [I_lt ⟨by omega, by omega⟩ ⟨by omega, by omega⟩]; omega) | (rw [I_le ⟨by omega, by omega⟩ ⟨by omega, by omega⟩]; omega) | (rw [I_eq ⟨by omega, by omega⟩ ⟨by omega, by omega⟩]; omega) | (rw [J_lt ⟨by omega, by omega⟩ ⟨by omega, by omega⟩]; omega) | (rw [J_le ⟨by omega, by omega⟩ ⟨by omega, by omega⟩]; omega) | (rw [J_eq ⟨by omega, by omega⟩ ⟨by omega, by omega⟩]; omega)) ?_
    by_cases c2 : x ≤ 500000
    · refine xbt (by (try simp only [I_lit, J_lit, I_ofNat, I_neg, I_add, I_sub, I_mul, J_neg, J_add, J_sub, J_mul]); first | (rw [I_lt ⟨by omega, by omega⟩ ⟨by omega, by omega⟩]; omega) | (rw [I_le ⟨by omega, by omega⟩ ⟨by omega, by omega⟩]; omega) | (rw [I_eq ⟨by omega, by omega⟩ ⟨by omega, by omega⟩]; omega) | (rw [J_lt ⟨by omega, by omega⟩ ⟨by omega, by omega⟩]; omega) | (rw [J_le ⟨by omega, by omega⟩ ⟨by omega, by omega⟩]; omega) | (rw [J_eq ⟨by omega, by omega⟩ ⟨by omega, by omega⟩]; omega)) ?_
      refine xgR_R hR (by simp only [clv, eq_self_iff_true, true_or, or_true, false_or, or_false, true_and, and_true, false_and, and_false] <;> omega) rfl rfl ?_
      refine ⟨xis_R hR (by simp only [clv, eq_self_iff_true, true_or, or_true, false_or, or_false, true_and, and_true, false_and, and_false] <;> omega) rfl, ?_⟩
      refine sp_size hR (by decide) hL ?_
      by_cases c3 : n < 12
      · refine xbf (by (try simp only [I_lit, J_lit, I_ofNat, I_neg, I_add, I_sub, I_mul, J_neg, J_add, J_sub, J_mul]); first | (rw [I_lt ⟨by omega, by omega⟩ ⟨by omega, by omega⟩]; omega) | (rw [I_le ⟨by omega, by omega⟩ ⟨by omega, by omega⟩]; omega) | (rw [I_eq ⟨by omega, by omega⟩ ⟨by omega, by omega⟩]; omega) | (rw [J_lt ⟨by omega, by omega⟩ ⟨by omega, by omega⟩]; omega) | (rw [J_le ⟨by omega, by omega⟩ ⟨by omega, by omega⟩]; omega) | (rw [J_eq ⟨by omega, by omega⟩ ⟨by omega, by omega⟩]; omega)) ⟨_, rfl, ?_⟩
        refine ⟨xis_R hR (by simp only [clv, eq_self_iff_true, true_or, or_true, false_or, or_false, true_and, and_true, false_and, and_false] <;> omega) rfl, ?_⟩
        refine sp_isLet hR hL (by omega) (by omega) ho (fun hlet => ?_) (fun hlet => ?_)
        · exact xbf (by decide) ⟨by omega, by omega, kz hc (by omega) (Or.inr hlet)⟩
        · refine xbt rfl ?_
          refine xgR_R hR (by simp only [clv, eq_self_iff_true, true_or, or_true, false_or, or_false, true_and, and_true, false_and, and_false] <;> omega) rfl rfl ?_
          refine ⟨by omega, by omega, fun a ha => ?_⟩
          have hfr := RR_fresh hR ha
          have hR1 : RR ad q lo s u co (xup t a (.inr (3, [.null, .int 0, .null, .null, .null, .long 0, .long 0, .long 0, .int 0, .int 0, .null]))) := RR_keep hR (fun p i hl => xup_n _ _ (hfr p i hl))
          have hfs : xup t a (.inr (3, [.null, .int 0, .null, .null, .null, .long 0, .long 0, .long 0, .int 0, .int 0, .null])) a = some (.inr (3, [.null, .int 0, .null, .null, .null, .long 0, .long 0, .long 0, .int 0, .int 0, .null])) := xup_s _ _ _
          generalize xup t a (.inr (3, [.null, .int 0, .null, .null, .null, .long 0, .long 0, .long 0, .int 0, .int 0, .null])) = t1 at hR1 hfs ⊢
          refine ⟨xis_R hR1 (p := 0) (i := 0) rfl rfl, ?_⟩
          refine sp_now hR1 (by omega) ?_
          rw [show (I (s 0 0 8 / 30) + (1 : Int32)) = I (s 0 0 8 / 30 + 1) from I_add _ 1]
          refine ⟨5, 250, by omega, by omega, ?_⟩
          refine sp_leaseInit hfs (Nat.le_refl _) (Nat.le_refl _) (fun m ma p h b t2 hm hma hp hh hb hnd hraw => ?_)
          have nf0 : ∀ {c}, t1 c = none → a ≠ c := fun h e => by rw [← e, hfs] at h; cases h
          obtain ⟨hR2, hA2⟩ := RR_lease (home := z) hn.symm (by omega) (by omega) hR1 hC hfr hm hma hp hh hb ⟨nf0 hm, nf0 hma, nf0 hp, nf0 hh, nf0 hb⟩ hnd hraw
          have e10 : ad 1 1 = adL ad n a m ma p h b 1 1 := rfl
          have e00 : ad 0 0 = adL ad n a m ma p h b 0 0 := rfl
          have ef : a = adL ad n a m ma p h b (elt 1) n := (if_pos ⟨rfl, rfl⟩ : adL ad n a m ma p h b 6 n = a).symm
          have e2 : ∀ j, adL ad n a m ma p h b 2 j = ad 2 j := fun j => rfl
          have hO2 := hO.of hA2.2
          have hel : clv (qL q) lo (elt 1) n := show n < q.2.1 + 1 by omega
          generalize hAA : adL ad n a m ma p h b = A at hR2 hA2 e10 e00 ef e2 hO2
          rw [e10, e00, ef]
          have hL2 : LI (qL q) (mkL n z x (s 0 0 8 / 30 + 1) s) 1 n := LI_of (q := qL q) (s := s) hL (mkL_o (by omega) (by omega) (by omega) (by omega) (by omega)) (mkL_o (by omega) (by omega) (by omega) (by omega) (by omega))
          have s20 : mkL n z x (s 0 0 8 / 30 + 1) s 2 1 = s 2 1 := mkL_o (by omega) (by omega) (by omega) (by omega) (by omega)
          refine ⟨xis_R hR2 (p := 1) (show (1 : Nat) < 3 by decide) rfl, ?_⟩
          refine ⟨1, 100, by omega, by omega, ?_⟩
          refine sp_add (by decide) hO2 hR2 hL2 (fun j hj => by rw [s20]; exact hZ j hj) (by unfold LE; rw [s20, e2]; exact hE) (by rw [s20]; exact hcap) (by omega) hel (Nat.le_refl _) (Nat.le_refl _) (fun ad' t' c hA hR hc2 => ?_)
          have hL3 := LI_addS hL2 (c := c) (by omega)
          rw [← hA 0 0 (by omega)]
          refine xgR_R hR (by simp only [clv, eq_self_iff_true, true_or, or_true, false_or, or_false, true_and, and_true, false_and, and_false] <;> omega) rfl rfl ?_
          refine ⟨xis_R hR (by simp only [clv, eq_self_iff_true, true_or, or_true, false_or, or_false, true_and, and_true, false_and, and_false] <;> omega) rfl, ?_⟩
          refine sp_size hR (by decide) hL3 ?_
          rw [show I ((n + 1 : Nat) : Int) - (1 : Int32) = I (n : Int) by simp only [I_lit, J_lit, I_ofNat, I_neg, I_add, I_sub, I_mul, J_neg, J_add, J_sub, J_mul]; congr 1; omega]
          exact kk hc (by omega) c3 hlet ad' t' c (AE.tr hA2 ⟨hA 0 0 (by omega), fun p i hp => hA p i (by omega)⟩) (fun j hj => by rw [hA 2 j (by omega), e2]) hR hc2
      · exact xbt (by (try simp only [I_lit, J_lit, I_ofNat, I_neg, I_add, I_sub, I_mul, J_neg, J_add, J_sub, J_mul]); first | (rw [I_lt ⟨by omega, by omega⟩ ⟨by omega, by omega⟩]; omega) | (rw [I_le ⟨by omega, by omega⟩ ⟨by omega, by omega⟩]; omega) | (rw [I_eq ⟨by omega, by omega⟩ ⟨by omega, by omega⟩]; omega) | (rw [J_lt ⟨by omega, by omega⟩ ⟨by omega, by omega⟩]; omega) | (rw [J_le ⟨by omega, by omega⟩ ⟨by omega, by omega⟩]; omega) | (rw [J_eq ⟨by omega, by omega⟩ ⟨by omega, by omega⟩]; omega)) ⟨by omega, by omega, kz hc (by omega) (Or.inl c3)⟩
    · exact xbf (by (try simp only [I_lit, J_lit, I_ofNat, I_neg, I_add, I_sub, I_mul, J_neg, J_add, J_sub, J_mul]); first | (rw [I_lt ⟨by omega, by omega⟩ ⟨by omega, by omega⟩]; omega) | (rw [I_le ⟨by omega, by omega⟩ ⟨by omega, by omega⟩]; omega) | (rw [I_eq ⟨by omega, by omega⟩ ⟨by omega, by omega⟩]; omega) | (rw [J_lt ⟨by omega, by omega⟩ ⟨by omega, by omega⟩]; omega) | (rw [J_le ⟨by omega, by omega⟩ ⟨by omega, by omega⟩]; omega) | (rw [J_eq ⟨by omega, by omega⟩ ⟨by omega, by omega⟩]; omega)) ⟨by omega, by omega, ky hc (by omega)⟩
end MKL3
