section MKC
variable {E : Nat → Nat} {ad : xAd} {q : xL} {lo : Nat → Nat → Prop} {s u : xS} {co : Nat → Nat → xE} {t : xT} {rc rs nf n nr : Nat} {KX : String → xT → Prop}
theorem LI_addS {k n : Nat} {c : Int} (h : LI q s k n) (hc : (n : Int) + 1 ≤ c ∧ c ≤ 1000) : LI (qc q k) (addS s k n c) k (n + 1) := by
  unfold LI
  rw [addS_1, addS_2]
  refine ⟨by rw [if_pos rfl]; omega, ?_, ?_, fun j hj => ?_, fun _ => Or.inr rfl⟩
  · show ((n + 1 : Nat) : Int) ≤ (if 0 = 0 then c else _)
    rw [if_pos rfl]
    omega
  · show (if 0 = 0 then c else _) ≤ 1000
    rw [if_pos rfl]
    omega
  · show (if j + 1 = 0 then c else if j + 1 ≤ n + 1 then ((j + 1 : Nat) : Int) else 0) = _
    rw [if_neg (by omega), if_pos (by omega)]
    omega
theorem LZ_addS {k n : Nat} {c : Int} : LZ (addS s k n c) k (n + 1) := by
  intro j hj
  rw [addS_2]
  show (if j + 1 = 0 then c else if j + 1 ≤ n + 1 then ((j + 1 : Nat) : Int) else 0) = 0
  rw [if_neg (by omega), if_neg (by omega)]
theorem mkF_o {F p i : Nat} {rooms : Int} (h5 : ¬ (p = 5 ∧ i = F)) (h4 : ¬ (p = 4 ∧ (i = 200 + F ∨ i = 300 + F))) : mkF F rooms s p i = s p i := by
  unfold mkF
  rw [sup_n _ _ (by omega), sup_n _ _ (by omega), sup_n _ _ h5]
theorem sp_flat {K : Int32 → xT → Prop} {z : Int} (hO : RO E ad lo co) (hR : RR ad q lo s u co t) (hC : CL q lo s) (hL : LI q s 0 nf) (hZ : LZ s 0 nf) (hE : LE E ad q s 0) (hcap : s 2 0 0 ≤ 100) (hn : nf = q.1) (hn8 : nf ≤ 8) (hz : i32 z) (h1 : 10 ≤ rc) (h2 : 400 ≤ rs) (kx : ¬ (1 ≤ z ∧ z ≤ 9) → KX IAE t) (ky : 1 ≤ z ∧ z ≤ 9 → ¬ nf < 8 → KX ISE t) (kk : 1 ≤ z ∧ z ≤ 9 → nf < 8 → ∀ ad' t' c, AE ad ad' → (∀ j, j ≠ 0 → ad' 2 j = ad 2 j) → RR ad' (qc (qF q) 0) lo (addS (mkF nf z s) 0 nf c) u co t' → ((nf : Int) + 1 ≤ c ∧ 10 ≤ c ∧ c ≤ 100) → K (I nf) t') : V_X7_flat_0 E KX K (ad 0 0) (I z) t rc rs := by
  unfold i32 at hz
  unfold V_X7_flat_0
  by_cases c1 : z < 1
  · exact xbt (by (try simp only [I_lit, J_lit, I_ofNat, I_neg, I_add, I_sub, I_mul, J_neg, J_add, J_sub, J_mul]); first | (rw [I_lt ⟨by omega, by omega⟩ ⟨by omega, by omega⟩]; omega) | (rw [I_le ⟨by omega, by omega⟩ ⟨by omega, by omega⟩]; omega) | (rw [I_eq ⟨by omega, by omega⟩ ⟨by omega, by omega⟩]; omega) | (rw [J_lt ⟨by omega, by omega⟩ ⟨by omega, by omega⟩]; omega) | (rw [J_le ⟨by omega, by omega⟩ ⟨by omega, by omega⟩]; omega) | (rw [J_eq ⟨by omega, by omega⟩ ⟨by omega, by omega⟩]; omega)) ⟨by omega, by omega, kx (by omega)⟩
  · refine xbf (by (try simp only [I_lit, J_lit, I_ofNat, I_neg, I_add, I_sub, I_mul, J_neg, J_add, J_sub, J_mul]); first | (rw [I_lt ⟨by omega, by omega⟩ ⟨by omega, by omega⟩]; omega) | (rw [I_le ⟨by omega, by omega⟩ ⟨by omega, by omega⟩]; omega) | (rw [I_eq ⟨by omega, by omega⟩ ⟨by omega, by omega⟩]; omega) | (rw [J_lt ⟨by omega, by omega⟩ ⟨by omega, by omega⟩]; omega) | (rw [J_le ⟨by omega, by omega⟩ ⟨by omega, by omega⟩]; omega) | (rw [J_eq ⟨by omega, by omega⟩ ⟨by omega, by omega⟩]; omega)) ?_
    by_cases c2 : z ≤ 9
    · refine xbt (by (try simp only [I_lit, J_lit, I_ofNat, I_neg, I_add, I_sub, I_mul, J_neg, J_add, J_sub, J_mul]); first | (rw [I_lt ⟨by omega, by omega⟩ ⟨by omega, by omega⟩]; omega) | (rw [I_le ⟨by omega, by omega⟩ ⟨by omega, by omega⟩]; omega) | (rw [I_eq ⟨by omega, by omega⟩ ⟨by omega, by omega⟩]; omega) | (rw [J_lt ⟨by omega, by omega⟩ ⟨by omega, by omega⟩]; omega) | (rw [J_le ⟨by omega, by omega⟩ ⟨by omega, by omega⟩]; omega) | (rw [J_eq ⟨by omega, by omega⟩ ⟨by omega, by omega⟩]; omega)) ?_
      refine xgR_R hR (by simp only [clv, eq_self_iff_true, true_or, or_true, false_or, or_false, true_and, and_true, false_and, and_false] <;> omega) rfl rfl ?_
      refine ⟨xis_R hR (by simp only [clv, eq_self_iff_true, true_or, or_true, false_or, or_false, true_and, and_true, false_and, and_false] <;> omega) rfl, ?_⟩
      refine sp_size hR (by decide) hL ?_
      by_cases c3 : nf < 8
      · refine xbt (by (try simp only [I_lit, J_lit, I_ofNat, I_neg, I_add, I_sub, I_mul, J_neg, J_add, J_sub, J_mul]); first | (rw [I_lt ⟨by omega, by omega⟩ ⟨by omega, by omega⟩]; omega) | (rw [I_le ⟨by omega, by omega⟩ ⟨by omega, by omega⟩]; omega) | (rw [I_eq ⟨by omega, by omega⟩ ⟨by omega, by omega⟩]; omega) | (rw [J_lt ⟨by omega, by omega⟩ ⟨by omega, by omega⟩]; omega) | (rw [J_le ⟨by omega, by omega⟩ ⟨by omega, by omega⟩]; omega) | (rw [J_eq ⟨by omega, by omega⟩ ⟨by omega, by omega⟩]; omega)) ?_
        refine xgR_R hR (by simp only [clv, eq_self_iff_true, true_or, or_true, false_or, or_false, true_and, and_true, false_and, and_false] <;> omega) rfl rfl ?_
        refine ⟨by omega, by omega, fun f hf => ?_⟩
        have ff := RR_fresh hR hf
        have hR1 : RR ad q lo s u co (xup t f (.inr (1, [.int 0, .null, .null, .int 0, .int 0, .int 0]))) := RR_keep hR (fun p i hl => xup_n _ _ (ff p i hl))
        have hfs : xup t f (.inr (1, [.int 0, .null, .null, .int 0, .int 0, .int 0])) f = some (.inr (1, [.int 0, .null, .null, .int 0, .int 0, .int 0])) := xup_s _ _ _
        generalize xup t f (.inr (1, [.int 0, .null, .null, .int 0, .int 0, .int 0])) = t1 at hR1 hfs ⊢
        refine ⟨4, 244, by omega, by omega, ?_⟩
        refine sp_flatInit hfs (Nat.le_refl _) (Nat.le_refl _) (fun u' ua p pa t2 hu hua hp hpa hne hraw => ?_)
        have nf0 : ∀ {a}, t1 a = none → f ≠ a := fun h e => by rw [← e, hfs] at h; cases h
        obtain ⟨hR2, hA2⟩ := RR_flat hn.symm (by omega) hR1 hC ff hu hua hp hpa ⟨nf0 hu, nf0 hua, nf0 hp, nf0 hpa⟩ hne hraw
        have e10 : ad 1 0 = adF ad nf f u' ua p pa 1 0 := rfl
        have e00 : ad 0 0 = adF ad nf f u' ua p pa 0 0 := rfl
        have ef : f = adF ad nf f u' ua p pa (elt 0) nf := (if_pos ⟨rfl, rfl⟩ : adF ad nf f u' ua p pa 5 nf = f).symm
        have e2 : ∀ j, adF ad nf f u' ua p pa 2 j = ad 2 j := fun j => rfl
        have hO2 := hO.of hA2.2
        have hel : clv (qF q) lo (elt 0) nf := show nf < q.1 + 1 by omega
        generalize hAA : adF ad nf f u' ua p pa = A at hR2 hA2 e10 e00 ef e2 hO2
        rw [e10, e00, ef]
        have hL2 : LI (qF q) (mkF nf z s) 0 nf := LI_of (q := qF q) (s := s) hL (mkF_o (by omega) (by omega)) (mkF_o (by omega) (by omega))
        have s20 : mkF nf z s 2 0 = s 2 0 := mkF_o (by omega) (by omega)
        refine ⟨xis_R hR2 (p := 1) (show (0 : Nat) < 3 by decide) rfl, ?_⟩
        refine ⟨1, 100, by omega, by omega, ?_⟩
        refine sp_add (by decide) hO2 hR2 hL2 (fun j hj => by rw [s20]; exact hZ j hj) (by unfold LE; rw [s20, e2]; exact hE) (by rw [s20]; exact hcap) (by omega) hel (Nat.le_refl _) (Nat.le_refl _) (fun ad' t' c hA hR hc => ?_)
        have hL3 := LI_addS hL2 (c := c) (by omega)
        rw [← hA 0 0 (by omega)]
        refine xgR_R hR (by simp only [clv, eq_self_iff_true, true_or, or_true, false_or, or_false, true_and, and_true, false_and, and_false] <;> omega) rfl rfl ?_
        refine ⟨xis_R hR (by simp only [clv, eq_self_iff_true, true_or, or_true, false_or, or_false, true_and, and_true, false_and, and_false] <;> omega) rfl, ?_⟩
        refine sp_size hR (by decide) hL3 ?_
        rw [show I ((nf + 1 : Nat) : Int) - (1 : Int32) = I (nf : Int) by simp only [I_lit, J_lit, I_ofNat, I_neg, I_add, I_sub, I_mul, J_neg, J_add, J_sub, J_mul]; congr 1; omega]
        exact kk (by omega) c3 ad' t' c (AE.tr hA2 ⟨hA 0 0 (by omega), fun p i hp => hA p i (by omega)⟩) (fun j hj => by rw [hA 2 j (by omega), e2]) hR hc
      · exact xbf (by (try simp only [I_lit, J_lit, I_ofNat, I_neg, I_add, I_sub, I_mul, J_neg, J_add, J_sub, J_mul]); first | (rw [I_lt ⟨by omega, by omega⟩ ⟨by omega, by omega⟩]; omega) | (rw [I_le ⟨by omega, by omega⟩ ⟨by omega, by omega⟩]; omega) | (rw [I_eq ⟨by omega, by omega⟩ ⟨by omega, by omega⟩]; omega) | (rw [J_lt ⟨by omega, by omega⟩ ⟨by omega, by omega⟩]; omega) | (rw [J_le ⟨by omega, by omega⟩ ⟨by omega, by omega⟩]; omega) | (rw [J_eq ⟨by omega, by omega⟩ ⟨by omega, by omega⟩]; omega)) ⟨by omega, by omega, ky (by omega) c3⟩
    · exact xbf (by (try simp only [I_lit, J_lit, I_ofNat, I_neg, I_add, I_sub, I_mul, J_neg, J_add, J_sub, J_mul]); first | (rw [I_lt ⟨by omega, by omega⟩ ⟨by omega, by omega⟩]; omega) | (rw [I_le ⟨by omega, by omega⟩ ⟨by omega, by omega⟩]; omega) | (rw [I_eq ⟨by omega, by omega⟩ ⟨by omega, by omega⟩]; omega) | (rw [J_lt ⟨by omega, by omega⟩ ⟨by omega, by omega⟩]; omega) | (rw [J_le ⟨by omega, by omega⟩ ⟨by omega, by omega⟩]; omega) | (rw [J_eq ⟨by omega, by omega⟩ ⟨by omega, by omega⟩]; omega)) ⟨by omega, by omega, kx (by omega)⟩
end MKC
