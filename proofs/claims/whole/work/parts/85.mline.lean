/-! ===== the model's line ===== -/
theorem nrw_char {c : Int} (h : 0 ≤ c ∧ c ≤ 127) : narrow .char (.int (I c)) = .int (I c) := by
  obtain ⟨k, rfl⟩ : ∃ k : Nat, c = k := ⟨c.toNat, by omega⟩
  have hk : k < 128 := by omega
  clear h
  revert k
  decide +kernel
section MM15
variable {ad : xAd} {q : xL} {lo : Nat → Nat → Prop} {s u : xS} {co : Nat → Nat → xE} {t : xT} {nf n nr : Nat} {l : List Int}
theorem mm_sign {K : Int32 → xT → Prop} {x : Int} (hR : RR ad q lo s u co t) (hT : MTx u l) (hl : l.length ≤ 99) (hr : rgL l) (hx : 0 ≤ x ∧ i32 x) (kk : K (I (lnC l x)) t) : (xgI t (ad 20 0) 8 39 fun x_37 => ((x_37 ≤ I x → K (32 : Int32) t) ∧ (¬ x_37 ≤ I x → xgR t (ad 20 0) 8 38 fun a_38 => xaI 4 t a_38 (I x) fun x_39 => (narrow .char (.int x_39) = .int x_39 ∧ K x_39 t)))) := by
  have hx2 := hx.2
  unfold i32 at hx2
  obtain ⟨h1, h2⟩ := hT
  refine xgI_R hR (p := 20) (i := 0) rfl rfl rfl ?_
  rw [h1]
  unfold lnC at kk
  by_cases c : x < l.length
  · rw [if_pos c] at kk
    refine xbf (by (try simp only [I_lit, J_lit, I_ofNat, I_neg, I_add, I_sub, I_mul, J_neg, J_add, J_sub, J_mul]); first | (rw [I_lt ⟨by omega, by omega⟩ ⟨by omega, by omega⟩]; omega) | (rw [I_le ⟨by omega, by omega⟩ ⟨by omega, by omega⟩]; omega) | (rw [I_eq ⟨by omega, by omega⟩ ⟨by omega, by omega⟩]; omega) | (rw [J_lt ⟨by omega, by omega⟩ ⟨by omega, by omega⟩]; omega) | (rw [J_le ⟨by omega, by omega⟩ ⟨by omega, by omega⟩]; omega) | (rw [J_eq ⟨by omega, by omega⟩ ⟨by omega, by omega⟩]; omega)) ?_
    refine xgR_R hR (p := 20) (i := 0) rfl rfl rfl ?_
    refine xaI_R hR (p := 21) (i := 38) (show 38 < 40 by decide) rfl (by decide) (show 0 ≤ x ∧ x < ((100 : Nat) : Int) by omega) ?_
    rw [show mva u 38 x.toNat = l.getD x.toNat 0 from h2 x.toNat (by omega)]
    have hm : l.getD x.toNat 0 ∈ l := by
      simp only [List.getD]
      rw [List.getElem?_eq_getElem (by omega)]
      exact List.getElem_mem _
    exact ⟨nrw_char (hr _ hm), kk⟩
  · rw [if_neg c] at kk
    exact xbt (by (try simp only [I_lit, J_lit, I_ofNat, I_neg, I_add, I_sub, I_mul, J_neg, J_add, J_sub, J_mul]); first | (rw [I_lt ⟨by omega, by omega⟩ ⟨by omega, by omega⟩]; omega) | (rw [I_le ⟨by omega, by omega⟩ ⟨by omega, by omega⟩]; omega) | (rw [I_eq ⟨by omega, by omega⟩ ⟨by omega, by omega⟩]; omega) | (rw [J_lt ⟨by omega, by omega⟩ ⟨by omega, by omega⟩]; omega) | (rw [J_le ⟨by omega, by omega⟩ ⟨by omega, by omega⟩]; omega) | (rw [J_eq ⟨by omega, by omega⟩ ⟨by omega, by omega⟩]; omega)) kk
theorem am_len2 {c v : Int} : (am c v).length ≤ 12 := am_len
theorem mm_line {K : Int32 → xT → Prop} {z m x : Int} (hR : RR ad q lo s u co t) (hT : okT u) (hn : u 1 1 2 = n) (hn12 : n ≤ 12) (hz : i32 z) (hm : i32 m) (hx : i32 x) (hbl : ∀ l m, l < n → m < 121 → okBl u l m ∧ (u 9 l m = 0 ∨ u 9 l m = 1)) (hb4 : ∀ l m, l < n → m < 121 → u 9 l m ≠ 0 → 0 ≤ bT u (200 * l + m) ∧ bT u (200 * l + m) < 100000000) (hb3 : ∀ l m, l < n → m < 121 → u 9 l m ≠ 0 → u 10 (200 * l + m) 3 < 100000000)
    (k1 : ¬ ((0 ≤ z ∧ z < n) ∧ (0 ≤ m ∧ m ≤ u 0 0 8 / 30) ∧ 0 ≤ x) → ∀ t, RR ad q lo s (su u 20 0 0 1) co t → K 0 t)
    (k2 : ((0 ≤ z ∧ z < n) ∧ (0 ≤ m ∧ m ≤ u 0 0 8 / 30) ∧ 0 ≤ x) → u 9 z.toNat m.toNat = 0 → ∀ u' t, RR ad q lo s u' co t → EL (su u 20 0 0 0) u' → K (I 32) t)
    (k0 : ((0 ≤ z ∧ z < n) ∧ (0 ≤ m ∧ m ≤ u 0 0 8 / 30) ∧ 0 ≤ x) → u 9 z.toNat m.toNat ≠ 0 → ∀ u' t, RR ad q lo s u' co t → EL (su u 20 0 0 0) u' → K (I (lnC (lnT (u 10 (200 * z.toNat + m.toNat)) z m) x)) t) : V_X8_line_0 K (ad 20 0) (I z) (I m) (I x) t := by
  have hT' := hT
  unfold okT at hT
  unfold i32 at hx
  unfold V_X8_line_0
  refine ⟨xis_R hR (p := 20) (i := 0) rfl rfl, ?_⟩
  have no : ¬ ((0 ≤ z ∧ z < n) ∧ (0 ≤ m ∧ m ≤ u 0 0 8 / 30) ∧ 0 ≤ x) → V_X8_line_38 K (ad 20 0) (I z) (I m) (I x) (1 : Int32) (ad 20 0) t := fun h => by
    unfold V_X8_line_38
    refine ⟨xis_R hR (p := 20) (i := 0) rfl rfl, ?_⟩
    exact mm_no (c := 1) (by decide) hR (fun t hR => xst rfl (k1 h t hR))
  refine mm_isLease hR hn (by omega) hz (fun h => ?_) (fun h => ?_)
  · refine xbf (by decide) ?_
    refine ⟨xis_R hR (p := 20) (i := 0) rfl rfl, ?_⟩
    refine mm_isMonth hR hT' hm (fun h2 => ?_) (fun h2 => ?_)
    · refine xbf (by decide) ?_
      by_cases c0 : x < 0
      · exact xbt (by (try simp only [I_lit, J_lit, I_ofNat, I_neg, I_add, I_sub, I_mul, J_neg, J_add, J_sub, J_mul]); first | (rw [I_lt ⟨by omega, by omega⟩ ⟨by omega, by omega⟩]; omega) | (rw [I_le ⟨by omega, by omega⟩ ⟨by omega, by omega⟩]; omega) | (rw [I_eq ⟨by omega, by omega⟩ ⟨by omega, by omega⟩]; omega) | (rw [J_lt ⟨by omega, by omega⟩ ⟨by omega, by omega⟩]; omega) | (rw [J_le ⟨by omega, by omega⟩ ⟨by omega, by omega⟩]; omega) | (rw [J_eq ⟨by omega, by omega⟩ ⟨by omega, by omega⟩]; omega)) (xbt rfl (no (by omega)))
      · refine xbf (by (try simp only [I_lit, J_lit, I_ofNat, I_neg, I_add, I_sub, I_mul, J_neg, J_add, J_sub, J_mul]); first | (rw [I_lt ⟨by omega, by omega⟩ ⟨by omega, by omega⟩]; omega) | (rw [I_le ⟨by omega, by omega⟩ ⟨by omega, by omega⟩]; omega) | (rw [I_eq ⟨by omega, by omega⟩ ⟨by omega, by omega⟩]; omega) | (rw [J_lt ⟨by omega, by omega⟩ ⟨by omega, by omega⟩]; omega) | (rw [J_le ⟨by omega, by omega⟩ ⟨by omega, by omega⟩]; omega) | (rw [J_eq ⟨by omega, by omega⟩ ⟨by omega, by omega⟩]; omega)) (xbf (by decide) ?_)
        have hc : (0 ≤ z ∧ z < n) ∧ (0 ≤ m ∧ m ≤ u 0 0 8 / 30) ∧ 0 ≤ x := ⟨h, h2, by omega⟩
        unfold V_X8_line_38
        refine ⟨xis_R hR (p := 20) (i := 0) rfl rfl, ?_⟩
        refine mm_ok hR (fun t hR => xsf (by decide) ?_)
        unfold V_X8_at_0
        rw [show (121 : Int32) = I 121 from rfl, I_mul, I_add, show (.int (0 : Int32) : Value) = .int (I 0) from rfl]
        refine mpF (p := 20) (i := 0) (f := 39) hR (by decide) rfl (Nat.le_of_ble_eq_true rfl) rfl (fun t hR => ?_)
        have hm121 : m.toNat < 121 := by omega
        have hz2 : 0 ≤ 121 * z + m ∧ 121 * z + m < ((1452 : Nat) : Int) := by omega
        have ez : (121 * z + m).toNat = 121 * z.toNat + m.toNat := by omega
        have hE0 : EL (su u 20 0 0 0) (su (su u 20 0 0 0) 20 0 39 0) := fun p i k g1 g2 => by rw [su_r (su u 20 0 0 0), if_neg g2]
        have r9 : ∀ v, EL (su u 20 0 0 0) v → mva v 26 (121 * z + m).toNat = u 9 z.toNat m.toNat := fun v hv => by
          unfold mva
          rw [ez, mv_9 hm121]
          show v 9 _ _ = _
          rw [hv 9 _ _ (by omega) (by omega), su_r, if_neg (by omega)]
        have rb : ∀ v, EL (su u 20 0 0 0) v → ∀ k, k < 4 → mva v (27 + k) (121 * z + m).toNat = u 10 (200 * z.toNat + m.toNat) k := fun v hv k hk => by
          unfold mva
          rw [ez, mv_b hm121 hk]
          show v 10 _ _ = _
          rw [hv 10 _ _ (by omega) (by omega), su_r, if_neg (by omega)]
        have hT0 : MTx (su (su u 20 0 0 0) 20 0 39 0) [] := ⟨by rw [su_r, if_pos ⟨rfl, rfl, rfl⟩]; rfl, fun j hj => absurd hj (Nat.not_lt_zero j)⟩
        refine xgR_R hR (p := 20) (i := 0) rfl rfl rfl ?_
        refine xaI_R hR (p := 21) (i := 26) (show 26 < 40 by decide) rfl (by decide) hz2 ?_
        rw [r9 _ hE0]
        obtain ⟨hb, h9⟩ := hbl z.toNat m.toNat (by omega) hm121
        by_cases c9 : u 9 z.toNat m.toNat = 0
        · refine xbt (by rw [c9]; rfl) ?_
          refine mm_sign hR hT0 (Nat.zero_le _) (fun c h => absurd h List.not_mem_nil) ⟨hc.2.2, hx⟩ ?_
          rw [show lnC [] x = 32 from if_neg (by show ¬ x < 0; omega)]
          exact k2 hc c9 _ t hR hE0
        · refine xbf (by (try simp only [I_lit, J_lit, I_ofNat, I_neg, I_add, I_sub, I_mul, J_neg, J_add, J_sub, J_mul]); first | (rw [I_lt ⟨by omega, by omega⟩ ⟨by omega, by omega⟩]; omega) | (rw [I_le ⟨by omega, by omega⟩ ⟨by omega, by omega⟩]; omega) | (rw [I_eq ⟨by omega, by omega⟩ ⟨by omega, by omega⟩]; omega) | (rw [J_lt ⟨by omega, by omega⟩ ⟨by omega, by omega⟩]; omega) | (rw [J_le ⟨by omega, by omega⟩ ⟨by omega, by omega⟩]; omega) | (rw [J_eq ⟨by omega, by omega⟩ ⟨by omega, by omega⟩]; omega)) ?_
          have kk := k0 hc c9
          have hb3' := hb3 z.toNat m.toNat (by omega) hm121 c9
          have hb4' := hb4 z.toNat m.toNat (by omega) hm121 c9
          unfold bT at hb4'
          obtain ⟨b0, b1, b2, b3⟩ := hb c9
          generalize hg : u 10 (200 * z.toNat + m.toNat) = g at *
          have hrg := lnT_r (g := g) (x := z) (m := m) (by omega) (by omega) (fun k hk => by
            obtain rfl | rfl | rfl | rfl : k = 0 ∨ k = 1 ∨ k = 2 ∨ k = 3 := by omega
            all_goals omega) hb4'
          have dz := digs_le z
          have dm := digs_le m
          refine ⟨xis_R hR (p := 20) (i := 0) rfl rfl, ?_⟩
          rw [show (76 : Int32) = I 76 from rfl]
          refine mm_adds hR hT0 (by decide) (by decide) (fun u1 t hR hE1 hT1 => ?_)
          refine ⟨xis_R hR (p := 20) (i := 0) rfl rfl, ?_⟩
          refine mm_number (by omega) hR hT1 (by decide) (fun u2 t hR hE2 hT2 => ?_)
          have l2 : ([] ++ [(76 : Int)] ++ digs z).length ≤ 4 := by
            rw [List.length_append]
            show 1 + _ ≤ 4
            omega
          refine ⟨xis_R hR (p := 20) (i := 0) rfl rfl, ?_⟩
          rw [show (32 : Int32) = I 32 from rfl]
          refine mm_adds hR hT2 (by decide) (by omega) (fun u3 t hR hE3 hT3 => ?_)
          have l3 : ([] ++ [(76 : Int)] ++ digs z ++ [32]).length ≤ 5 := by
            rw [List.length_append]
            show _ + 1 ≤ 5
            omega
          refine ⟨xis_R hR (p := 20) (i := 0) rfl rfl, ?_⟩
          rw [show (77 : Int32) = I 77 from rfl]
          refine mm_adds hR hT3 (by decide) (by omega) (fun u4 t hR hE4 hT4 => ?_)
          have l4 : ([] ++ [(76 : Int)] ++ digs z ++ [32] ++ [77]).length ≤ 6 := by
            rw [List.length_append]
            show _ + 1 ≤ 6
            omega
          refine ⟨xis_R hR (p := 20) (i := 0) rfl rfl, ?_⟩
          refine mm_number (by omega) hR hT4 (by omega) (fun u5 t hR hE5 hT5 => ?_)
          have e5 := EL.tr hE0 (EL.tr hE1 (EL.tr hE2 (EL.tr hE3 (EL.tr hE4 hE5))))
          generalize ht5 : [] ++ [(76 : Int)] ++ digs z ++ [32] ++ [77] ++ digs m = t5 at hT5
          have l5 : t5.length ≤ 9 := by
            rw [← ht5, List.length_append]
            omega
          have f5 : t5 = [76] ++ (digs z ++ ([32, 77] ++ digs m)) := by
            rw [← ht5]
            simp only [List.append_assoc, List.nil_append, List.cons_append]
          clear hT0 hT1 hT2 hT3 hT4 hE1 hE2 hE3 hE4 hE5
          refine xgR_R hR (p := 20) (i := 0) rfl rfl rfl ?_
          refine xaI_R hR (p := 21) (i := 27) (show 27 < 40 by decide) rfl (by decide) hz2 ?_
          rw [rb u5 e5 0 (by decide)]
          refine ⟨xis_R hR (p := 20) (i := 0) rfl rfl, ?_⟩
          rw [show (82 : Int32) = I 82 from rfl]
          refine mm_amount (by decide) (by omega) hR hT5 (by omega) (fun u6 t hR hE6 hT6 => ?_)
          have e6 := EL.tr e5 hE6
          have l6 : (t5 ++ am 82 (g 0)).length ≤ 21 := by
            rw [List.length_append]
            have := am_len (c := 82) (v := g 0)
            omega
          refine xgR_R hR (p := 20) (i := 0) rfl rfl rfl ?_
          refine xaI_R hR (p := 21) (i := 28) (show 28 < 40 by decide) rfl (by decide) hz2 ?_
          rw [rb u6 e6 1 (by decide)]
          refine ⟨xis_R hR (p := 20) (i := 0) rfl rfl, ?_⟩
          rw [show (88 : Int32) = I 88 from rfl]
          refine mm_amount (by decide) (by omega) hR hT6 (by omega) (fun u7 t hR hE7 hT7 => ?_)
          have e7 := EL.tr e6 hE7
          have l7 : (t5 ++ am 82 (g 0) ++ am 88 (g 1)).length ≤ 33 := by
            rw [List.length_append]
            have := am_len (c := 88) (v := g 1)
            omega
          refine xgR_R hR (p := 20) (i := 0) rfl rfl rfl ?_
          refine xaI_R hR (p := 21) (i := 29) (show 29 < 40 by decide) rfl (by decide) hz2 ?_
          rw [rb u7 e7 2 (by decide)]
          refine ⟨xis_R hR (p := 20) (i := 0) rfl rfl, ?_⟩
          rw [show (66 : Int32) = I 66 from rfl]
          refine mm_amount (by decide) (by omega) hR hT7 (by omega) (fun u8 t hR hE8 hT8 => ?_)
          have e8 := EL.tr e7 hE8
          have l8 : (t5 ++ am 82 (g 0) ++ am 88 (g 1) ++ am 66 (g 2)).length ≤ 45 := by
            rw [List.length_append]
            have := am_len (c := 66) (v := g 2)
            omega
          refine xgR_R hR (p := 20) (i := 0) rfl rfl rfl ?_
          refine xaI_R hR (p := 21) (i := 30) (show 30 < 40 by decide) rfl (by decide) hz2 ?_
          rw [rb u8 e8 3 (by decide)]
          refine ⟨xis_R hR (p := 20) (i := 0) rfl rfl, ?_⟩
          rw [show (72 : Int32) = I 72 from rfl]
          refine mm_amount (by decide) (by omega) hR hT8 (by omega) (fun u9 t hR hE9 hT9 => ?_)
          have e9 := EL.tr e8 hE9
          have l9 : (t5 ++ am 82 (g 0) ++ am 88 (g 1) ++ am 66 (g 2) ++ am 72 (g 3)).length ≤ 57 := by
            rw [List.length_append]
            have := am_len (c := 72) (v := g 3)
            omega
          refine xgR_R hR (p := 20) (i := 0) rfl rfl rfl ?_
          refine xaI_R hR (p := 21) (i := 27) (show 27 < 40 by decide) rfl (by decide) hz2 ?_
          rw [rb u9 e9 0 (by decide)]
          refine xgR_R hR (p := 20) (i := 0) rfl rfl rfl ?_
          refine xaI_R hR (p := 21) (i := 28) (show 28 < 40 by decide) rfl (by decide) hz2 ?_
          rw [rb u9 e9 1 (by decide)]
          refine xgR_R hR (p := 20) (i := 0) rfl rfl rfl ?_
          refine xaI_R hR (p := 21) (i := 29) (show 29 < 40 by decide) rfl (by decide) hz2 ?_
          rw [rb u9 e9 2 (by decide)]
          refine xgR_R hR (p := 20) (i := 0) rfl rfl rfl ?_
          refine xaI_R hR (p := 21) (i := 30) (show 30 < 40 by decide) rfl (by decide) hz2 ?_
          rw [rb u9 e9 3 (by decide)]
          refine ⟨xis_R hR (p := 20) (i := 0) rfl rfl, ?_⟩
          rw [show (84 : Int32) = I 84 from rfl, I_sub, I_sub, I_add]
          refine mm_amount (by decide) hb4' hR hT9 (by omega) (fun u10 t hR hE10 hT10 => ?_)
          have e10 := EL.tr e9 hE10
          have fin : t5 ++ am 82 (g 0) ++ am 88 (g 1) ++ am 66 (g 2) ++ am 72 (g 3) ++ am 84 (g 0 - g 1 - g 2 + g 3) = lnT g z m := by
            rw [f5]
            unfold lnT
            simp only [List.append_assoc]
          rw [fin] at hT10
          refine mm_sign hR hT10 ?_ hrg ⟨hc.2.2, hx⟩ (kk u10 t hR e10)
          rw [← fin, List.length_append]
          have := am_len (c := 84) (v := g 0 - g 1 - g 2 + g 3)
          omega
    · exact xbt rfl (xbt rfl (no (by omega)))
  · exact xbt rfl (xbt rfl (no (by omega)))
end MM15
