section LNS2
variable {E : Nat → Nat} {ad : xAd} {q : xL} {lo : Nat → Nat → Prop} {s u : xS} {co : Nat → Nat → xE} {t : xT} {rc rs a0 : Nat} {l : List Int} {KX : String → xT → Prop}
/-- the line of a bill of a lease and a month -/
def lnT (g : Nat → Int) (l m : Int) : List Int := [76] ++ (digs l ++ ([32, 77] ++ (digs m ++ (am 82 (g 0) ++ (am 88 (g 1) ++ (am 66 (g 2) ++ (am 72 (g 3) ++ am 84 (g 0 - g 1 - g 2 + g 3))))))))
theorem digs_le (v : Int) : (digs v).length ≤ 3 := by
  rw [digs_len]
  unfold dsz
  split <;> (try split) <;> omega
theorem digs_le2 {v : Int} (h : v < 100) : (digs v).length ≤ 2 := by
  rw [digs_len]
  unfold dsz
  split <;> (try split) <;> omega
theorem sp_writeLine {K : xT → Prop} {b : Nat} {x m : Int} (hO : RO E ad lo co) (hR : RR ad q lo s u co t) (h0 : ad 12 0 = a0) (hb : clv q lo 10 b) (hT : Txt s []) (hx : 0 ≤ x ∧ x < 100) (hm : 0 ≤ m ∧ m ≤ 999) (hg : ∀ k, k < 4 → 0 ≤ s 10 b k ∧ s 10 b k < 100000000) (hg4 : 0 ≤ bT s b ∧ bT s b < 100000000) (h1 : 14 * pot (s 13 0 0) ≤ rc) (h2 : 1960 * pot (s 13 0 0) ≤ rs) (kk : ∀ ad' s' t', SBR ad s ad' s' → RR ad' q lo s' u co t' → ad' 12 0 = a0 → Txt s' (lnT (s 10 b) x m) → K t') : V_X7_writeLine_0 E K a0 (I x) (I m) (ad 10 b) t rc rs := by
  have x12 : ∀ {ad : xAd} {s : xS} {t : xT}, RR ad q lo s u co t → ad 12 0 = a0 → xis t a0 9 := fun hR h0 => by rw [← h0]; exact xis_R hR (p := 12) (i := 0) rfl rfl
  have hp0 : pot (s 13 0 0) ≤ 2 := by unfold pot; split <;> (try split) <;> omega
  have dx := digs_le2 hx.2
  have dm := digs_le m
  unfold V_X7_writeLine_0
  rw [show (76 : Int32) = I 76 from rfl, show (82 : Int32) = I 82 from rfl, show (88 : Int32) = I 88 from rfl, show (66 : Int32) = I 66 from rfl, show (72 : Int32) = I 72 from rfl, show (84 : Int32) = I 84 from rfl]
  refine ⟨x12 hR h0, ?_⟩
  refine ap_c hR h0 hT (by decide) (by simp) (by omega) (by omega) (fun m1 z1 ad1 s1 t hB1 hR h0 hT1 g1 g2 => ⟨x12 hR h0, ?_⟩)
  have p1 := hB1.2.2
  refine ap_i (hO.of hB1.1.ge) hR h0 hT1 (by omega) (by simp) (by omega) (by omega) (fun m2 z2 ad2 s2 t hB2 hR h0 hT2 g3 g4 => ⟨x12 hR h0, ?_⟩)
  have p2 := hB2.2.2
  have B2 := SBR.tr hB1 hB2
  refine ap_s (hO.of B2.1.ge) hR h0 hT2 (by simp; omega) (by omega) (by omega) (fun m3 z3 ad3 s3 t hB3 hR h0 hT3 g5 g6 => ⟨x12 hR h0, ?_⟩)
  have p3 := hB3.2.2
  have B3 := SBR.tr B2 hB3
  refine ap_i (hO.of B3.1.ge) hR h0 hT3 (by omega) (by simp; omega) (by omega) (by omega) (fun m4 z4 ad4 s4 t hB4 hR h0 hT4 g7 g8 => ?_)
  have p4 := hB4.2.2
  have B4 := SBR.tr B3 hB4
  rw [← B4.1 10 b (by decide)]
  refine xgI_R hR hb rfl rfl ?_
  refine ⟨2 * pot (s4 13 0 0), 280 * pot (s4 13 0 0), by omega, by omega, ?_⟩
  have l4 : ([] ++ [76] ++ digs x ++ [32, 77] ++ digs m : List Int).length ≤ 8 := by simp; omega
  rw [B4.2.1 10 b (by decide) (by decide)]
  refine sp_amount1 (hO.of B4.1.ge) hR h0 hT4 (by decide) (by have := hg 0 (by decide); omega) (by omega) (by omega) (by omega) (fun ad5 s5 t hB5 hR h0 hT5 => ?_)
  have p5 := hB5.2.2
  have B5 := SBR.tr B4 hB5
  have l5 := am_len (c := 82) (v := s 10 b 0)
  rw [B4.1 10 b (by decide), ← B5.1 10 b (by decide)]
  refine xgI_R hR hb rfl rfl ?_
  refine ⟨2 * pot (s5 13 0 0), 280 * pot (s5 13 0 0), by omega, by omega, ?_⟩
  rw [B5.2.1 10 b (by decide) (by decide)]
  refine sp_amount1 (hO.of B5.1.ge) hR h0 hT5 (by decide) (by have := hg 1 (by decide); omega) (by rw [List.length_append]; omega) (by omega) (by omega) (fun ad6 s6 t hB6 hR h0 hT6 => ?_)
  have p6 := hB6.2.2
  have B6 := SBR.tr B5 hB6
  have l6 := am_len (c := 88) (v := s 10 b 1)
  rw [B5.1 10 b (by decide), ← B6.1 10 b (by decide)]
  refine xgI_R hR hb rfl rfl ?_
  refine ⟨2 * pot (s6 13 0 0), 280 * pot (s6 13 0 0), by omega, by omega, ?_⟩
  rw [B6.2.1 10 b (by decide) (by decide)]
  refine sp_amount1 (hO.of B6.1.ge) hR h0 hT6 (by decide) (by have := hg 2 (by decide); omega) (by rw [List.length_append, List.length_append]; omega) (by omega) (by omega) (fun ad7 s7 t hB7 hR h0 hT7 => ?_)
  have p7 := hB7.2.2
  have B7 := SBR.tr B6 hB7
  have l7 := am_len (c := 66) (v := s 10 b 2)
  rw [B6.1 10 b (by decide), ← B7.1 10 b (by decide)]
  refine xgI_R hR hb rfl rfl ?_
  refine ⟨2 * pot (s7 13 0 0), 280 * pot (s7 13 0 0), by omega, by omega, ?_⟩
  rw [B7.2.1 10 b (by decide) (by decide)]
  refine sp_amount1 (hO.of B7.1.ge) hR h0 hT7 (by decide) (by have := hg 3 (by decide); omega) (by rw [List.length_append, List.length_append, List.length_append]; omega) (by omega) (by omega) (fun ad8 s8 t hB8 hR h0 hT8 => ?_)
  have p8 := hB8.2.2
  have B8 := SBR.tr B7 hB8
  have l8 := am_len (c := 72) (v := s 10 b 3)
  rw [B7.1 10 b (by decide), ← B8.1 10 b (by decide)]
  refine ⟨xis_R hR (p := 10) hb rfl, ?_⟩
  refine sp_ofTenant hR hb ?_
  refine ⟨2 * pot (s8 13 0 0), 280 * pot (s8 13 0 0), by omega, by omega, ?_⟩
  have eT : bT s8 b = bT s b := by
    unfold bT
    rw [B8.2.1 10 b (by decide) (by decide)]
  rw [eT]
  refine sp_amount1 (hO.of B8.1.ge) hR h0 hT8 (by decide) (by omega) (by rw [List.length_append, List.length_append, List.length_append, List.length_append]; omega) (by omega) (by omega) (fun ad9 s9 t hB9 hR h0 hT9 => ?_)
  refine kk _ _ _ (SBR.tr B8 hB9) hR h0 ?_
  simp only [List.nil_append, List.append_assoc] at hT9
  exact hT9
end LNS2
