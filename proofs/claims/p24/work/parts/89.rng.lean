/-! ===== what the calls want, out of what holds ===== -/
section RNG
variable {q : xL} {s u : xS} {nf n nr M : Nat} {Bp D P : Int}
theorem GL.okL (h : GL s nf n M) (hM : M ≤ 121) (hq1 : q.1 = nf) (hq2 : q.2.1 = n) {l : Nat} (hl : l < n) : okL q s l := by
  obtain ⟨h0, h8, h1, h9, ht⟩ := h l hl
  unfold _root_.Jvm.Pilot.CRentStreamLaw_law_r6381_6d719a.okL
  rw [hq1, hq2]
  exact ⟨hl, by omega, h8, by omega, by omega, ht⟩
theorem GF.okF (h : GF s nf M Bp) (hM : M ≤ 121) (hq1 : q.1 = nf) {f : Nat} (hf : f < nf) : okF q s f := by
  obtain ⟨h0, h3, h4, h5, hm⟩ := h f hf
  unfold _root_.Jvm.Pilot.CRentStreamLaw_law_r6381_6d719a.okF
  rw [hq1]
  exact ⟨hf, fun m hm' => (hm m hm').1, ⟨by omega, by omega⟩, h3, by omega⟩
theorem GR.okR (h : GR s nf nr) (hq1 : q.1 = nf) (hq2 : q.2.2.1 = nr) {r : Nat} (hr : r < nr) : okR q s r := by
  obtain ⟨h2, h0, h3, h4⟩ := h r hr
  unfold _root_.Jvm.Pilot.CRentStreamLaw_law_r6381_6d719a.okR
  rw [hq1, hq2]
  exact ⟨hr, by omega, ⟨by omega, by omega⟩, ⟨by omega, by omega⟩, by omega⟩
theorem okM_of_G (hF : GF s nf M Bp) (hM : GM s) (hB : Bp ≤ 100000000) (hq1 : q.1 = nf) {m : Nat} (hm : m < 121) : okM q s m := by
  have := (hM.2 m hm).1
  refine ⟨by omega, fun f hf => ?_⟩
  rw [hq1] at hf
  have := ((hF f hf).2.2.2.2 m hm).2.2
  omega
theorem useb_rng {Ma : Nat} (hF : GF s nf Ma Bp) (hL : GL s nf n M) {M' : Nat} (hU : GU s n M') {l m : Nat} (hl : l < n) (hm : m < 121) (hm2 : m < M') : 0 ≤ useb s l m ∧ useb s l m ≤ 1000000 := by
  have h0 := (hL l hl).1
  have hu := ((hF (s 6 l 0).toNat (by omega)).2.2.2.2 m hm).1
  unfold useb
  by_cases c : runb s l m = 0
  · rw [if_pos c]
    omega
  · rw [if_neg c]
    have c1 : s 6 l 9 ≤ m := by
      unfold runb at c
      split at c
      · next h => exact h.1
      · exact absurd rfl c
    have := hU l hl m hm2 c1
    omega
theorem okW_of_G {Ma : Nat} (hF : GF s nf Ma Bp) (hL : GL s nf n M) (hMM : GM s) (hM : M ≤ 121) {M' : Nat} (hU : GU s n M') (hq1 : q.1 = nf) (hq2 : q.2.1 = n) {m : Nat} (hm : m < 121) (hm2 : m < M') : okW q s n m := by
  refine ⟨fun l hl => ?_, (hMM.2 m hm).2⟩
  have h0 := (hL l hl).1
  have h5 := (hF (s 6 l 0).toNat (by omega)).1
  have hu := useb_rng hF hL hU hl hm hm2
  exact ⟨hL.okL hM hq1 hq2 hl, by omega, by omega, hu⟩
theorem bl_rng {Ma : Nat} (hF : GF s nf Ma Bp) (hL : GL s nf n M) (hMM : GM s) (hM : M ≤ 121) (hB : Bp ≤ 100000000) {M' : Nat} (hU : GU s n M') {l m : Nat} (hl : l < n) (hm : m < 121) (hm2 : m < M') : (0 ≤ bl s n l m 0 ∧ bl s n l m 0 ≤ 1000000) ∧ (0 ≤ bl s n l m 1 ∧ bl s n l m 1 ≤ bl s n l m 0) ∧ (0 ≤ bl s n l m 2 ∧ bl s n l m 2 ≤ bl s n l m 0 - bl s n l m 1) ∧ (0 ≤ bl s n l m 3 ∧ bl s n l m 3 ≤ 20000000) := by
  have hW := okW_of_G (q := (nf, n, 0, (fun _ => False), fun _ => False)) hF hL hMM hM hU rfl rfl hm hm2
  have h3 := shHeat_rng hW hl
  rw [shHeat_HS hl] at h3
  have hc := cBill_rng (hL.okL (q := (nf, n, 0, (fun _ => False), fun _ => False)) hM rfl rfl hl) hm (okM_of_G hF hMM hB rfl hm)
  exact ⟨hc.1, hc.2.1, hc.2.2, h3⟩
/-- a bill that is made -/
theorem LH.val {Ma Mu Ml : Nat} (hF : GF s nf Ma Bp) (hL : GL s nf n M) (hMM : GM s) (hM : M ≤ 121) (hB : Bp ≤ 100000000) (hU : GU s n Mu) {l m : Nat} (hl : l < n) (hm : m < 121) (hH : LH s n Ml l) (hMl : Ml ≤ Mu) : (s 9 l m = 0 ∨ s 9 l m = 1) ∧ (s 9 l m ≠ 0 → (0 ≤ s 10 (200 * l + m) 0 ∧ s 10 (200 * l + m) 0 ≤ 1000000) ∧ (0 ≤ s 10 (200 * l + m) 1 ∧ s 10 (200 * l + m) 1 ≤ s 10 (200 * l + m) 0) ∧ (0 ≤ s 10 (200 * l + m) 2 ∧ s 10 (200 * l + m) 2 ≤ s 10 (200 * l + m) 0 - s 10 (200 * l + m) 1) ∧ (0 ≤ s 10 (200 * l + m) 3 ∧ s 10 (200 * l + m) 3 ≤ 20000000)) := by
  obtain ⟨h1, h2⟩ := hH m hm
  by_cases c : m < Ml ∧ runb s l m ≠ 0
  · obtain ⟨a, b⟩ := h1 c
    refine ⟨Or.inr a, fun _ => ?_⟩
    rw [b 0 (by decide), b 1 (by decide), b 2 (by decide), b 3 (by decide)]
    exact bl_rng hF hL hMM hM hB hU hl hm (by omega)
  · exact ⟨Or.inl (h2 c), fun h => absurd (h2 c) h⟩
theorem GG.bill (h : GG nf n nr M Bp D P s) (hM : M ≤ 121) (hB : Bp ≤ 100000000) {l m : Nat} (hl : l < n) (hm : m < 121) : (s 9 l m = 0 ∨ s 9 l m = 1) ∧ (s 9 l m ≠ 0 → (0 ≤ s 10 (200 * l + m) 0 ∧ s 10 (200 * l + m) 0 ≤ 1000000) ∧ (0 ≤ s 10 (200 * l + m) 1 ∧ s 10 (200 * l + m) 1 ≤ s 10 (200 * l + m) 0) ∧ (0 ≤ s 10 (200 * l + m) 2 ∧ s 10 (200 * l + m) 2 ≤ s 10 (200 * l + m) 0 - s 10 (200 * l + m) 1) ∧ (0 ≤ s 10 (200 * l + m) 3 ∧ s 10 (200 * l + m) 3 ≤ 20000000)) := by
  obtain ⟨hF, hL, hU, hR, hMM, hZ, hA, hO, hD⟩ := h
  exact LH.val hF hL hMM hM hB hU hl hm (hA l hl).1 (Nat.le_refl _)
theorem GG.okBl (h : GG nf n nr M Bp D P s) (hM : M ≤ 121) (hB : Bp ≤ 100000000) {l m : Nat} (hl : l < n) (hm : m < 121) : okBl s l m := fun h9 => by
  have := (h.bill hM hB hl hm).2 h9
  omega
theorem GG.bT (h : GG nf n nr M Bp D P s) (hM : M ≤ 121) (hB : Bp ≤ 100000000) {l m : Nat} (hl : l < n) (hm : m < 121) (h9 : s 9 l m ≠ 0) : 0 ≤ bT s (200 * l + m) ∧ bT s (200 * l + m) < 100000000 := by
  have := (h.bill hM hB hl hm).2 h9
  unfold _root_.Jvm.Pilot.CRentStreamLaw_law_r6381_6d719a.bT
  omega
theorem TT_rng {l : Nat} (hb : ∀ m, m < 121 → s 9 l m ≠ 0 → 0 ≤ bT s (200 * l + m) ∧ bT s (200 * l + m) < 100000000) : 0 ≤ TT s l ∧ TT s l ≤ 12100000000 := by
  have := sumn_rng (g := fun m => if s 9 l m = 0 then 0 else bT s (200 * l + m)) (b := 100000000) (n := 121) (fun m hm => by
    show 0 ≤ (if s 9 l m = 0 then 0 else bT s (200 * l + m)) ∧ (if s 9 l m = 0 then 0 else bT s (200 * l + m)) ≤ 100000000
    by_cases c : s 9 l m = 0
    · rw [if_pos c]
      omega
    · rw [if_neg c]
      have := hb m hm c
      omega)
  unfold TT
  omega
theorem bT_of {l m : Nat} (h : (0 ≤ s 10 (200 * l + m) 0 ∧ s 10 (200 * l + m) 0 ≤ 1000000) ∧ (0 ≤ s 10 (200 * l + m) 1 ∧ s 10 (200 * l + m) 1 ≤ s 10 (200 * l + m) 0) ∧ (0 ≤ s 10 (200 * l + m) 2 ∧ s 10 (200 * l + m) 2 ≤ s 10 (200 * l + m) 0 - s 10 (200 * l + m) 1) ∧ (0 ≤ s 10 (200 * l + m) 3 ∧ s 10 (200 * l + m) 3 ≤ 20000000)) : 0 ≤ bT s (200 * l + m) ∧ bT s (200 * l + m) < 100000000 := by
  unfold bT
  omega
theorem okP_of {Ma Mu Ml Mn l : Nat} (hF : GF s nf Ma Bp) (hL : GL s nf n M) (hMM : GM s) (hM : M ≤ 121) (hB : Bp ≤ 100000000) (hU : GU s n Mu) (hl : l < n) (hH : LH s n Ml l) (hMl : Ml ≤ Mu) (hC : LC s D P l) (hP : P ≤ 100000000000) (hN : LN s Mn l) (hMn : Mn ≤ 121) : okP s l := by
  have ht := TT_rng (s := s) (l := l) (fun m hm h9 => bT_of ((LH.val hF hL hMM hM hB hU hl hm hH hMl).2 h9))
  obtain ⟨a1, a2, a3⟩ := hC
  obtain ⟨b1, b2, b3, b4⟩ := hN
  exact ⟨⟨by omega, by omega⟩, by omega, b2, b3, by omega⟩
theorem GG.okP (h : GG nf n nr M Bp D P s) (hM : M ≤ 121) (hB : Bp ≤ 100000000) (hP : P ≤ 100000000000) {l : Nat} (hl : l < n) : okP s l := by
  obtain ⟨hF, hL, hU, hR, hMM, hZ, hA, hO, hD⟩ := h
  exact okP_of hF hL hMM hM hB hU hl (hA l hl).1 (Nat.le_refl _) (hA l hl).2.1 hP (hA l hl).2.2 hM
theorem mrunb_eq {l : Nat} (hS : S0 s u) (hl : u 21 22 l = if s 6 l 1 = -1 then 1000 else s 6 l 1) {m : Int} (hm : m ≤ 1000) : mrunb u l m = runb s l m := by
  unfold mrunb runb
  rw [hS.r6 l 9 (by decide), hl]
  by_cases c : s 6 l 1 = -1
  · rw [if_pos c]
    by_cases c2 : s 6 l 9 ≤ m
    · rw [if_pos ⟨c2, hm⟩, if_pos ⟨c2, Or.inl c⟩]
    · rw [if_neg (fun h => c2 h.1), if_neg (fun h => c2 h.1)]
  · rw [if_neg c]
    by_cases c2 : s 6 l 9 ≤ m ∧ m ≤ s 6 l 1
    · rw [if_pos c2, if_pos ⟨c2.1, Or.inr c2.2⟩]
    · rw [if_neg c2, if_neg (fun h => c2 ⟨h.1, by omega⟩)]
theorem okml_of (hS : S0 s u) (hL : GL s nf n M) (hn : n ≤ 12) (hM : M ≤ 121) (hnf : nf ≤ 8) {l : Nat} (hl : l < n) (h1 : u 21 22 l = if s 6 l 1 = -1 then 1000 else s 6 l 1) : okml u l := by
  obtain ⟨a0, a8, a1, a9, at'⟩ := hL l hl
  unfold okml
  rw [hS.r6 l 0 (by decide), hS.r6 l 9 (by decide), h1]
  refine ⟨by omega, ⟨by omega, by omega⟩, ⟨by omega, by omega⟩, ?_⟩
  by_cases c : s 6 l 1 = -1
  · rw [if_pos c]
    exact ⟨by decide, by decide⟩
  · rw [if_neg c]
    exact ⟨by omega, by omega⟩
end RNG
