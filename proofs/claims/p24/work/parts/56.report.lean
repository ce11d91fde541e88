section MKR
variable {E : Nat → Nat} {ad : xAd} {q : xL} {lo : Nat → Nat → Prop} {s u : xS} {co : Nat → Nat → xE} {t : xT} {rc rs nf n nr : Nat} {KX : String → xT → Prop}
def qR (q : xL) : xL := (q.1, q.2.1, q.2.2.1 + 1, q.2.2.2)
def mkR (r : Nat) (f g d : Int) (s : xS) : xS := sup s 11 r (fun i => if i = 2 then f else if i = 3 then g else if i = 4 then d else 0)
theorem clv_qR {r p i : Nat} (hr : q.2.2.1 = r) (h : clv (qR q) lo p i) : clv q lo p i ∨ (p = 11 ∧ i = r) := by
  subst hr
  by_cases c : p = 11
  · subst c
    have h' : i < q.2.2.1 + 1 := h
    by_cases e : i = q.2.2.1
    · exact Or.inr ⟨rfl, e⟩
    · exact Or.inl (show i < q.2.2.1 by omega)
  · left
    unfold clv at h ⊢
    split at h <;> first | exact absurd rfl c | exact h
theorem RR_report {r a : Nat} {f g d : Int} {t' : xT} (hr : q.2.2.1 = r) (hR : RR ad q lo s u co t) (hC : CL q lo s) (ha : t a = none) (h1 : ∀ b, b ≠ a → t' b = t b) (h2 : t' a = some (.inr (6, [.int (I 0), .int (I 0), .ref (ad 5 f.toNat), .int (I g), .int (I d)]))) : RR (adu ad 11 r a) (qR q) lo (mkR r f g d s) u co t' := by
  have hfr := RR_fresh hR ha
  have hR' : RR ad q lo s u co t' := RR_keep hR (fun p i hl => h1 _ (hfr p i hl))
  have nl : ∀ p i, clv q lo p i → ¬ (p = 11 ∧ i = r) := by
    rintro p i h ⟨rfl, rfl⟩
    subst hr
    exact Nat.lt_irrefl _ h
  refine RR_new hR' (fun p i hl => adu_n ad a (nl p i hl)) (fun p i hl => sup_n _ _ (nl p i hl)) (fun p i h20 hl p' i' hc => ?_) (fun j => adu_n ad a (by omega)) (fun p' i' hl hn => ?_) (fun p1 i1 p2 i2 g1 n1 g2 e => ?_)
  · by_cases c2 : p' = 2
    · exact adu_n ad a (by omega)
    · exact adu_n ad a (nl _ _ (hC p i h20 hl p' i' hc c2))
  · obtain ⟨rfl, rfl⟩ := (clv_qR hr hl).resolve_left hn
    refine ⟨by decide, _, by rw [adu_s]; exact h2, ?_⟩
    unfold mkR
    rw [sup_s]
    show sim _ (.inr (6, [.int (I 0), .int (I 0), .ref (adu ad 11 i' a 5 f.toNat), .int (I g), .int (I d)]))
    rw [adu_n ad a (by omega)]
    exact rfl
  · obtain ⟨rfl, rfl⟩ := (clv_qR hr g1).resolve_left n1
    rcases clv_qR hr g2 with h | ⟨rfl, rfl⟩
    · rw [adu_s, adu_n ad a (nl _ _ h)] at e
      exact absurd e.symm (hfr _ _ h)
    · exact ⟨rfl, rfl⟩
theorem sp_repInit {K : xT → Prop} {a h : Nat} {x d : Int} (ha : t a = some (.inr (6, [.int 0, .int 0, .null, .int 0, .int 0]))) (kk : ∀ t', (∀ b, b ≠ a → t' b = t b) → t' a = some (.inr (6, [.int (I 0), .int (I 0), .ref h, .int (I x), .int (I d)])) → K t') : V_X6_init_0 K a h (I x) (I d) t := by
  unfold V_X6_init_0
  refine ⟨_, ha, by decide, ?_⟩
  refine ⟨_, xup_s _ _ _, by decide, ?_⟩
  refine ⟨_, xup_s _ _ _, Nat.le_of_ble_eq_true rfl, ?_⟩
  refine ⟨_, xup_s _ _ _, Nat.le_of_ble_eq_true rfl, ?_⟩
  refine ⟨_, xup_s _ _ _, Nat.le_of_ble_eq_true rfl, ?_⟩
  exact kk _ (fun b hb => by rw [xup_n _ _ hb, xup_n _ _ hb, xup_n _ _ hb, xup_n _ _ hb, xup_n _ _ hb]) (by rw [xup_s]; rfl)
theorem sp_report {K : Int32 → xT → Prop} {z x : Int} (hO : RO E ad lo co) (hR : RR ad q lo s u co t) (hC : CL q lo s) (hT : okT s) (hLf : LI q s 0 nf) (hnf : nf ≤ q.1) (hL : LI q s 2 nr) (hZ : LZ s 2 nr) (hE : LE E ad q s 2) (hcap : s 2 2 0 ≤ 100) (hn : nr = q.2.2.1) (hn60 : nr ≤ 60) (hz : i32 z) (hx : i32 x) (h1 : 10 ≤ rc) (h2 : 200 ≤ rs) (kx : ¬ (0 ≤ z ∧ z < nf) → KX IOB t) (ky : 0 ≤ z ∧ z < nf → ¬ (0 ≤ x ∧ x ≤ 2) → KX IAE t) (kz : 0 ≤ z ∧ z < nf → 0 ≤ x ∧ x ≤ 2 → ¬ nr < 60 → KX ISE t) (kk : 0 ≤ z ∧ z < nf → 0 ≤ x ∧ x ≤ 2 → nr < 60 → ∀ ad' t' c, AE ad ad' → (∀ j, j ≠ 2 → ad' 2 j = ad 2 j) → RR ad' (qc (qR q) 2) lo (addS (mkR nr z x (s 0 0 8) s) 2 nr c) u co t' → ((nr : Int) + 1 ≤ c ∧ 10 ≤ c ∧ c ≤ 100) → K (I nr) t') : V_X7_report_0 E KX K (ad 0 0) (I z) (I x) t rc rs := by
  unfold okT at hT
  unfold i32 at hx
  unfold V_X7_report_0
  refine ⟨xis_R hR (by simp only [clv, eq_self_iff_true, true_or, or_true, false_or, or_false, true_and, and_true, false_and, and_false] <;> omega) rfl, ?_⟩
  refine ⟨1, 6, by omega, by omega, ?_⟩
  refine sp_flatAt hR hLf hnf hz (by omega) (by omega) kx (fun hc => ?_)
  by_cases c1 : x < 0
  · exact xbt (by (try simp only [I_lit, J_lit, I_ofNat, I_neg, I_add, I_sub, I_mul, J_neg, J_add, J_sub, J_mul]); first | (rw [I_lt ⟨by omega, by omega⟩ ⟨by omega, by omega⟩]; omega) | (rw [I_le ⟨by omega, by omega⟩ ⟨by omega, by omega⟩]; omega) | (rw [I_eq ⟨by omega, by omega⟩ ⟨by omega, by omega⟩]; omega) | (rw [J_lt ⟨by omega, by omega⟩ ⟨by omega, by omega⟩]; omega) | (rw [J_le ⟨by omega, by omega⟩ ⟨by omega, by omega⟩]; omega) | (rw [J_eq ⟨by omega, by omega⟩ ⟨by omega, by omega⟩]; omega)) ⟨by omega, by omega, ky hc (by omega)⟩
  · refine xbf (by (try simp only [I_lit, J_lit, I_ofNat, I_neg, I_add, I_sub, I_mul, J_neg, J_add, J_sub, J_mul]); first | (rw [I_lt ⟨by omega, by omega⟩ ⟨by omega, by omega⟩]; omega) | (rw [I_le ⟨by omega, by omega⟩ ⟨by omega, by omega⟩]; omega) | (rw [I_eq ⟨by omega, by omega⟩ ⟨by omega, by omega⟩]; omega) | (rw [J_lt ⟨by omega, by omega⟩ ⟨by omega, by omega⟩]; omega) | (rw [J_le ⟨by omega, by omega⟩ ⟨by omega, by omega⟩]; omega) | (rw [J_eq ⟨by omega, by omega⟩ ⟨by omega, by omega⟩]; omega)) ?_
    by_cases c2 : x ≤ 2
    · refine xbt (by (try simp only [I_lit, J_lit, I_ofNat, I_neg, I_add, I_sub, I_mul, J_neg, J_add, J_sub, J_mul]); first | (rw [I_lt ⟨by omega, by omega⟩ ⟨by omega, by omega⟩]; omega) | (rw [I_le ⟨by omega, by omega⟩ ⟨by omega, by omega⟩]; omega) | (rw [I_eq ⟨by omega, by omega⟩ ⟨by omega, by omega⟩]; omega) | (rw [J_lt ⟨by omega, by omega⟩ ⟨by omega, by omega⟩]; omega) | (rw [J_le ⟨by omega, by omega⟩ ⟨by omega, by omega⟩]; omega) | (rw [J_eq ⟨by omega, by omega⟩ ⟨by omega, by omega⟩]; omega)) ?_
      refine xgR_R hR (by simp only [clv, eq_self_iff_true, true_or, or_true, false_or, or_false, true_and, and_true, false_and, and_false] <;> omega) rfl rfl ?_
      refine ⟨xis_R hR (by simp only [clv, eq_self_iff_true, true_or, or_true, false_or, or_false, true_and, and_true, false_and, and_false] <;> omega) rfl, ?_⟩
      refine sp_size hR (by decide) hL ?_
      by_cases c3 : nr < 60
      · refine xbt (by (try simp only [I_lit, J_lit, I_ofNat, I_neg, I_add, I_sub, I_mul, J_neg, J_add, J_sub, J_mul]); first | (rw [I_lt ⟨by omega, by omega⟩ ⟨by omega, by omega⟩]; omega) | (rw [I_le ⟨by omega, by omega⟩ ⟨by omega, by omega⟩]; omega) | (rw [I_eq ⟨by omega, by omega⟩ ⟨by omega, by omega⟩]; omega) | (rw [J_lt ⟨by omega, by omega⟩ ⟨by omega, by omega⟩]; omega) | (rw [J_le ⟨by omega, by omega⟩ ⟨by omega, by omega⟩]; omega) | (rw [J_eq ⟨by omega, by omega⟩ ⟨by omega, by omega⟩]; omega)) ?_
        refine xgR_R hR (by simp only [clv, eq_self_iff_true, true_or, or_true, false_or, or_false, true_and, and_true, false_and, and_false] <;> omega) rfl rfl ?_
        refine ⟨by omega, by omega, fun a ha => ?_⟩
        have hfr := RR_fresh hR ha
        have hR1 : RR ad q lo s u co (xup t a (.inr (6, [.int 0, .int 0, .null, .int 0, .int 0]))) := RR_keep hR (fun p i hl => xup_n _ _ (hfr p i hl))
        refine xgI_R hR1 (p := 0) (i := 0) rfl rfl rfl ⟨_, rfl, ?_⟩
        refine sp_repInit (xup_s _ _ _) (fun t2 g1 g2 => ?_)
        have hR2 := RR_report (f := z) (g := x) (d := s 0 0 8) hn.symm hR hC ha (fun b hb => by rw [g1 b hb, xup_n _ _ hb]) g2
        have e10 : ad 1 2 = adu ad 11 nr a 1 2 := rfl
        have e00 : ad 0 0 = adu ad 11 nr a 0 0 := rfl
        have ef : a = adu ad 11 nr a (elt 2) nr := (adu_s ad 11 nr a).symm
        have e2 : ∀ j, adu ad 11 nr a 2 j = ad 2 j := fun j => rfl
        have hA2 : AE ad (adu ad 11 nr a) := ⟨rfl, fun p i hp => adu_n ad a (by omega)⟩
        have hO2 := hO.of hA2.2
        have hel : clv (qR q) lo (elt 2) nr := show nr < q.2.2.1 + 1 by omega
        generalize hAA : adu ad 11 nr a = A at hR2 hA2 e10 e00 ef e2 hO2
        rw [e10, e00, ef]
        have hL2 : LI (qR q) (mkR nr z x (s 0 0 8) s) 2 nr := LI_of (q := qR q) (s := s) hL (sup_n _ _ (by omega)) (sup_n _ _ (by omega))
        have s20 : mkR nr z x (s 0 0 8) s 2 2 = s 2 2 := sup_n _ _ (by omega)
        refine ⟨xis_R hR2 (p := 1) (show (2 : Nat) < 3 by decide) rfl, ?_⟩
        refine ⟨1, 100, by omega, by omega, ?_⟩
        refine sp_add (by decide) hO2 hR2 hL2 (fun j hj => by rw [s20]; exact hZ j hj) (by unfold LE; rw [s20, e2]; exact hE) (by rw [s20]; exact hcap) (by omega) hel (Nat.le_refl _) (Nat.le_refl _) (fun ad' t' c hA hR hc2 => ?_)
        have hL3 := LI_addS hL2 (c := c) (by omega)
        rw [← hA 0 0 (by omega)]
        refine xgR_R hR (by simp only [clv, eq_self_iff_true, true_or, or_true, false_or, or_false, true_and, and_true, false_and, and_false] <;> omega) rfl rfl ?_
        refine ⟨xis_R hR (by simp only [clv, eq_self_iff_true, true_or, or_true, false_or, or_false, true_and, and_true, false_and, and_false] <;> omega) rfl, ?_⟩
        refine sp_size hR (by decide) hL3 ?_
        rw [show I ((nr + 1 : Nat) : Int) - (1 : Int32) = I (nr : Int) by simp only [I_lit, J_lit, I_ofNat, I_neg, I_add, I_sub, I_mul, J_neg, J_add, J_sub, J_mul]; congr 1; omega]
        exact kk hc (by omega) c3 ad' t' c (AE.tr hA2 ⟨hA 0 0 (by omega), fun p i hp => hA p i (by omega)⟩) (fun j hj => by rw [hA 2 j (by omega), e2]) hR hc2
      · exact xbf (by (try simp only [I_lit, J_lit, I_ofNat, I_neg, I_add, I_sub, I_mul, J_neg, J_add, J_sub, J_mul]); first | (rw [I_lt ⟨by omega, by omega⟩ ⟨by omega, by omega⟩]; omega) | (rw [I_le ⟨by omega, by omega⟩ ⟨by omega, by omega⟩]; omega) | (rw [I_eq ⟨by omega, by omega⟩ ⟨by omega, by omega⟩]; omega) | (rw [J_lt ⟨by omega, by omega⟩ ⟨by omega, by omega⟩]; omega) | (rw [J_le ⟨by omega, by omega⟩ ⟨by omega, by omega⟩]; omega) | (rw [J_eq ⟨by omega, by omega⟩ ⟨by omega, by omega⟩]; omega)) ⟨by omega, by omega, kz hc (by omega) c3⟩
    · exact xbf (by (try simp only [I_lit, J_lit, I_ofNat, I_neg, I_add, I_sub, I_mul, J_neg, J_add, J_sub, J_mul]); first | (rw [I_lt ⟨by omega, by omega⟩ ⟨by omega, by omega⟩]; omega) | (rw [I_le ⟨by omega, by omega⟩ ⟨by omega, by omega⟩]; omega) | (rw [I_eq ⟨by omega, by omega⟩ ⟨by omega, by omega⟩]; omega) | (rw [J_lt ⟨by omega, by omega⟩ ⟨by omega, by omega⟩]; omega) | (rw [J_le ⟨by omega, by omega⟩ ⟨by omega, by omega⟩]; omega) | (rw [J_eq ⟨by omega, by omega⟩ ⟨by omega, by omega⟩]; omega)) ⟨by omega, by omega, ky hc (by omega)⟩
end MKR
