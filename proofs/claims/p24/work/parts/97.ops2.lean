section OPS2
variable {q : xL} {s s' s2 u u' u2 : xS} {nf n nr M : Nat} {Bp D P : Int}
/-- a lease ends -/
theorem op_end {l : Nat} (hl : l < n) (h1m : s 6 l 1 = -1) (h : DRel nf n nr D P s u) : DRel nf n nr D P (su s 6 l 1 (s 0 0 8 / 30)) (su (su u 20 0 0 0) 21 22 l (u 0 0 8 / 30)) := by
  obtain ⟨hC, hT⟩ := DRel.thr (c := 0) h
  rw [h.1.2.1.rd]
  unfold okT at hT
  have hy : s 0 0 8 / 30 = (nowN s : Int) := by unfold nowN; omega
  have hy2 : nowN s ≤ 120 := by unfold nowN; omega
  rw [hy]
  generalize hM : nowN s = M at *
  have o : ∀ p i, ¬ (p = 6 ∧ i = l) → su s 6 l 1 M p i = s p i := fun p i hp => su_f _ hp
  have o4 : ∀ i, su s 6 l 1 M 4 i = s 4 i := fun i => o 4 i (by omega)
  have o6 : ∀ j k, k ≠ 1 → su s 6 l 1 M 6 j k = s 6 j k := fun j k hk => by rw [su_r, if_neg (fun h => hk h.2.2)]
  have o61 : ∀ j, su s 6 l 1 M 6 j 1 = if j = l then (M : Int) else s 6 j 1 := fun j => by
    rw [su_r]
    by_cases c : j = l
    · rw [if_pos ⟨rfl, c, rfl⟩, if_pos c]
    · rw [if_neg (fun h => c h.2.1), if_neg c]
  refine ⟨?_, by unfold okT; rw [o 0 0 (by omega)]; exact hT⟩
  rw [nowN_of (s := s) (by rw [o 0 0 (by omega)]), o 0 0 (by omega), hM]
  obtain ⟨⟨hF, hL, hU, hR, hMM, hZ, hLL, hO, hD⟩, hS0, h1, hA⟩ := hC
  have hrb : ∀ j, ∀ m : Nat, m < M → runb (su s 6 l 1 M) j m = runb s j m := fun j m hm => by
    unfold runb
    rw [o6 j 9 (by decide), o61]
    by_cases c : j = l
    · subst c
      rw [if_pos rfl, h1m]
      by_cases c2 : s 6 j 9 ≤ m
      · rw [if_pos ⟨c2, Or.inr (by omega)⟩, if_pos ⟨c2, Or.inl rfl⟩]
      · rw [if_neg (fun h => c2 h.1), if_neg (fun h => c2 h.1)]
    · rw [if_neg c]
  refine ⟨⟨hF.of (fun f _ => by rw [o 5 f (by omega)]; exact ⟨rfl, rfl, rfl, rfl⟩) (fun f _ => o4 _) (fun f _ => o4 _), fun j hj => ?_, hU.of (fun j _ => ⟨o6 j 0 (by decide), o6 j 9 (by decide)⟩) (fun j _ => o4 _), hR.of (fun r _ => by rw [o 11 r (by omega)]; exact ⟨rfl, rfl, rfl, rfl⟩), hMM.of (by rw [o 0 0 (by omega)]) (o4 _) (o4 _), hZ.of (o4 _) (fun f _ m _ => by rw [o4]), fun j hj => ⟨(hLL j hj).1.of2 (fun m hm => hrb j m hm) (fun m hm hm2 _ k _ => bl_congr hj (fun i _ => o6 i 0 (by decide)) (fun i _ => hrb i m hm2) (o6 j 8 (by decide)) (fun i _ => by rw [o 5 _ (by omega)]) (fun i _ _ => by rw [o4]) (by rw [o4]) (by rw [o4]) (by rw [o4]) (by rw [o4]) k) (o 9 j (by omega)) (fun m _ => o 10 _ (by omega)), ?_, (hLL j hj).2.2.of (o 7 j (by omega))⟩, hO.of (by rw [o 0 0 (by omega)]) (fun j _ => ⟨o6 j 5 (by decide), o6 j 6 (by decide)⟩), hD.of (fun j _ _ => ⟨o 5 j (by omega), o4 _, o4 _⟩) (fun j _ _ => ⟨o 6 j (by omega), o 7 j (by omega), o 9 j (by omega), o4 _⟩) (fun j _ _ => o 11 j (by omega))⟩, (hS0.cls (p := 6) (i := l) (k := 1) (show ¬ (1 = 0 ∨ 1 = 5 ∨ 1 = 6 ∨ 1 = 8 ∨ 1 = 9) by decide)).mdl (p := 21) (i := 22) (k := l) (fun h => h), ⟨fun m hm => ?_, ?_, ?_, fun j hj => ?_, fun j hj => ?_⟩, fun j hj => ?_⟩
  · obtain ⟨a, b, c, d, e⟩ := hL j hj
    rw [o6 j 0 (by decide), o6 j 8 (by decide), o6 j 9 (by decide), o61, o4]
    refine ⟨a, b, ?_, d, e⟩
    by_cases cj : j = l
    · rw [if_pos cj]
      omega
    · rw [if_neg cj]
      exact c
  · have := (hLL j hj).2.1
    unfold LC at this ⊢
    rw [TT.of (s := s) (o 9 j (by omega)) (fun m _ => o 10 _ (by omega)), o6 j 5 (by decide), o6 j 6 (by decide), o6 j 7 (by decide)]
    exact this
  · rw [su_f _ (by omega), o4]
    exact h1.1 m hm
  · rw [su_f _ (by omega), o 0 0 (by omega)]
    exact h1.2.1
  · rw [su_f _ (by omega), o4]
    exact h1.2.2.1
  · rw [su_f _ (by omega), o4]
    exact h1.2.2.2.1 j hj
  · rw [o61, su_r]
    by_cases c : j = l
    · rw [if_pos ⟨rfl, rfl, c⟩, if_pos c, if_neg (by omega)]
    · rw [if_neg (fun h => c h.2.2), if_neg c]
      exact h1.2.2.2.2 j hj
  · rw [o4, su_f _ (by omega)]
    exact hA j hj
theorem toTen_r {l k : Nat} {z : Int} : toTen l z s 6 l k = if k = 5 then s 6 l 5 + z else s 6 l k := by
  unfold toTen
  rw [su_f _ (by omega), su_r]
  by_cases c : k = 5
  · rw [if_pos ⟨rfl, rfl, c⟩, if_pos c]
  · rw [if_neg (fun h => c h.2.2), if_neg c]
theorem toTen_0 {l k : Nat} {z : Int} : toTen l z s 0 0 k = if k = 9 then s 0 0 9 - z else s 0 0 k := by
  unfold toTen
  rw [su_r]
  by_cases c : k = 9
  · rw [if_pos ⟨rfl, rfl, c⟩, if_pos c]
  · rw [if_neg (fun h => c h.2.2), if_neg c, su_f _ (by omega)]
theorem toTen_o {l p i : Nat} {z : Int} (h0 : p ≠ 0) (h6 : ¬ (p = 6 ∧ i = l)) : toTen l z s p i = s p i := by
  unfold toTen
  rw [su_f _ (by omega), su_f _ h6]
/-- a tenant pays -/
theorem op_pay {l : Nat} {x : Int} (hl : l < n) (hx : 1 ≤ x ∧ x ≤ 1000000) (h : DRel nf n nr D P s u) : DRel nf n nr D (P + 1000000) (toTen l (-x) (su s 6 l 7 (s 6 l 7 + x))) (su (su u 20 0 0 0) 6 l 5 (u 6 l 5 - x)) := by
  obtain ⟨hC, hT⟩ := DRel.thr (c := 0) h
  rw [h.1.2.1.r6 l 5 (by decide)]
  generalize hw : toTen l (-x) (su s 6 l 7 (s 6 l 7 + x)) = w
  have o : ∀ p i, p ≠ 0 → ¬ (p = 6 ∧ i = l) → w p i = s p i := fun p i h0 hp => by rw [← hw, toTen_o h0 hp, su_f _ hp]
  have o4 : ∀ i, w 4 i = s 4 i := fun i => o 4 i (by omega) (by omega)
  have o6 : ∀ k, w 6 l k = if k = 5 then s 6 l 5 - x else if k = 7 then s 6 l 7 + x else s 6 l k := fun k => by
    rw [← hw, toTen_r]
    by_cases c : k = 5
    · rw [if_pos c, if_pos c, su_r, if_neg (by omega)]
      omega
    · rw [if_neg c, if_neg c, su_r]
      by_cases c2 : k = 7
      · rw [if_pos ⟨rfl, rfl, c2⟩, if_pos c2]
      · rw [if_neg (fun h => c2 h.2.2), if_neg c2]
  have o0 : ∀ k, w 0 0 k = if k = 9 then s 0 0 9 + x else s 0 0 k := fun k => by
    rw [← hw, toTen_0, su_f _ (by omega)]
    by_cases c : k = 9
    · rw [if_pos c, if_pos c]
      omega
    · rw [if_neg c, if_neg c]
  have hS : St s w := ⟨funext o4, funext fun i => o 5 i (by omega) (by omega), fun j => by
    by_cases c : j = l
    · subst c
      refine ⟨?_, ?_, ?_, ?_⟩ <;> rw [o6] <;> rfl
    · rw [o 6 j (by decide) (by omega)]
      exact ⟨rfl, rfl, rfl, rfl⟩⟩
  have e8 : w 0 0 8 = s 0 0 8 := by rw [o0, if_neg (by decide)]
  refine ⟨?_, by unfold okT at hT ⊢; rw [e8]; exact hT⟩
  rw [nowN_of e8, e8]
  obtain ⟨⟨hF, hL, hU, hR, hMM, hZ, hLL, hO, hD⟩, hS0, h1, hA⟩ := hC
  refine ⟨⟨hF.of (fun f _ => by rw [o 5 f (by omega) (by omega)]; exact ⟨rfl, rfl, rfl, rfl⟩) (fun f _ => o4 _) (fun f _ => o4 _), hL.of (fun j _ => hS.2.2 j) (fun j _ => o4 _), hU.of (fun j _ => ⟨(hS.2.2 j).1, (hS.2.2 j).2.2.2⟩) (fun j _ => o4 _), hR.of (fun r _ => by rw [o 11 r (by omega) (by omega)]; exact ⟨rfl, rfl, rfl, rfl⟩), hMM.of (by rw [o0, if_neg (by decide)]) (o4 _) (o4 _), hZ.of (o4 _) (fun f _ m _ => by rw [o4]), fun j hj => ⟨(hLL j hj).1.of hS hj (o 9 j (by omega) (by omega)) (fun m _ => o 10 _ (by omega) (by omega)), ?_, (hLL j hj).2.2.of (o 7 j (by omega) (by omega))⟩, ?_, hD.of (fun j _ _ => ⟨o 5 j (by omega) (by omega), o4 _, o4 _⟩) (fun j _ _ => ⟨o 6 j (by omega) (by omega), o 7 j (by omega) (by omega), o 9 j (by omega) (by omega), o4 _⟩) (fun j _ _ => o 11 j (by omega) (by omega))⟩, ?_, ⟨fun m hm => ?_, ?_, ?_, fun j hj => ?_, fun j hj => ?_⟩, fun j hj => ?_⟩
  · have := (hLL j hj).2.1
    unfold LC at this ⊢
    rw [TT.of (s := s) (o 9 j (by omega) (by omega)) (fun m _ => o 10 _ (by omega) (by omega))]
    by_cases c : j = l
    · subst c
      rw [o6, o6, o6, if_pos rfl, if_neg (by decide), if_pos rfl, if_neg (by decide), if_neg (by decide)]
      omega
    · rw [o 6 j (by decide) (by omega)]
      omega
  · unfold GO at hO ⊢
    have e : sumn (fun j => w 6 j 5 + w 6 j 6) n = sumn (fup (fun j => s 6 j 5 + s 6 j 6) l (s 6 l 5 + s 6 l 6 - x)) n := sumn_congr n (fun j hj => by
      by_cases c : j = l
      · subst c
        rw [fup_s, o6, o6, if_pos rfl, if_neg (by decide), if_neg (by decide)]
        omega
      · rw [fup_n _ _ c, o 6 j (by decide) (by omega)])
    rw [e, sumn_fup n hl, o0, if_pos rfl, hO]
    omega
  · intro p i k hc
    rw [su_r]
    by_cases c : p = 6 ∧ i = l
    · obtain ⟨rfl, rfl⟩ := c
      rw [o6]
      by_cases c5 : k = 5
      · rw [if_pos ⟨rfl, rfl, c5⟩, if_pos c5]
      · have hk : k = 0 ∨ k = 5 ∨ k = 6 ∨ k = 8 ∨ k = 9 := hc
        rw [if_neg (fun h => c5 h.2.2), if_neg c5, if_neg (by omega)]
        exact hS0 6 i k hc
    · rw [if_neg (fun h => c ⟨h.1, h.2.1⟩)]
      by_cases c0 : p = 0
      · subst c0
        have e : i = 0 ∧ k = 8 := hc
        obtain ⟨e1, e2⟩ := e
        subst e1
        subst e2
        rw [e8]
        exact hS0 0 0 8 hc
      · rw [o p i c0 c]
        exact hS0 p i k hc
  · rw [su_f _ (by omega), o4]
    exact h1.1 m hm
  · rw [su_f _ (by omega), o0, if_neg (by decide)]
    exact h1.2.1
  · rw [su_f _ (by omega), o4]
    exact h1.2.2.1
  · rw [su_f _ (by omega), o4]
    exact h1.2.2.2.1 j hj
  · rw [su_f _ (by omega), (hS.2.2 j).2.1]
    exact h1.2.2.2.2 j hj
  · rw [o4, su_f _ (by omega)]
    exact hA j hj
theorem GG.ten (h : GG nf n nr M Bp D P s) (hM : M ≤ 121) (hB : Bp ≤ 100000000) {l : Nat} (hl : l < n) : -P ≤ s 6 l 5 ∧ s 6 l 5 ≤ 12100000000 := by
  have ht := TT_rng (s := s) (l := l) (fun m hm => h.bT hM hB hl hm)
  obtain ⟨a1, a2, a3⟩ := (h.2.2.2.2.2.2.1 l hl).2.1
  omega
/-- a plan -/
theorem op_plan {l : Nat} {x : Int} (hl : l < n) (hx : 1 ≤ x ∧ x ≤ 12) (h5 : 0 < s 6 l 5) (h : DRel nf n nr D P s u) : DRel nf n nr D P (plnS l x s) (mPl l x u) := by
  obtain ⟨hC, hT⟩ := DRel.thr (c := 0) h
  have e5 : u 6 l 5 = s 6 l 5 := h.1.2.1.r6 l 5 (by decide)
  unfold okT at hT
  have hM : nowN s ≤ 120 := by unfold nowN; omega
  have hten := hC.1.ten (by omega) (by omega) hl
  unfold plnS mPl
  rw [e5]
  have hpart : 0 ≤ (s 6 l 5 + x - 1) / x ∧ (s 6 l 5 + x - 1) / x ≤ 1000000000000 := by
    refine ⟨Int.ediv_nonneg (by omega) (by omega), ?_⟩
    have := Int.ediv_le_self (b := x) (a := s 6 l 5 + x - 1) (by omega)
    omega
  generalize (s 6 l 5 + x - 1) / x = y at hpart ⊢
  generalize hw : su (su (su (su s 7 l 0 1) 7 l 1 (s 6 l 5)) 7 l 2 y) 7 l 3 0 = w
  have o : ∀ p i, ¬ (p = 7 ∧ i = l) → w p i = s p i := fun p i hp => by rw [← hw, su_f _ hp, su_f _ hp, su_f _ hp, su_f _ hp]
  have v : ∀ p i, ¬ (p = 7 ∧ i = l) → su (su (su (su (su u 20 0 0 0) 7 l 0 1) 7 l 1 (s 6 l 5)) 7 l 2 y) 7 l 3 0 p i = su u 20 0 0 0 p i := fun p i hp => by rw [su_f _ hp, su_f _ hp, su_f _ hp, su_f _ hp]
  have o4 : ∀ i, w 4 i = s 4 i := fun i => o 4 i (by omega)
  have hS : St s w := ⟨funext o4, funext fun i => o 5 i (by omega), fun j => by rw [o 6 j (by omega)]; exact ⟨rfl, rfl, rfl, rfl⟩⟩
  have e8 : w 0 0 8 = s 0 0 8 := by rw [o 0 0 (by omega)]
  refine ⟨?_, by unfold okT; rw [e8]; exact hT⟩
  rw [nowN_of e8, e8]
  obtain ⟨⟨hF, hL, hU, hR, hMM, hZ, hLL, hO, hD⟩, hS0, h1, hA⟩ := hC
  refine ⟨⟨hF.of (fun f _ => by rw [o 5 f (by omega)]; exact ⟨rfl, rfl, rfl, rfl⟩) (fun f _ => o4 _) (fun f _ => o4 _), hL.of (fun j _ => hS.2.2 j) (fun j _ => o4 _), hU.of (fun j _ => ⟨(hS.2.2 j).1, (hS.2.2 j).2.2.2⟩) (fun j _ => o4 _), hR.of (fun r _ => by rw [o 11 r (by omega)]; exact ⟨rfl, rfl, rfl, rfl⟩), hMM.of (by rw [o 0 0 (by omega)]) (o4 _) (o4 _), hZ.of (o4 _) (fun f _ m _ => by rw [o4]), fun j hj => ⟨(hLL j hj).1.of hS hj (o 9 j (by omega)) (fun m _ => o 10 _ (by omega)), (hLL j hj).2.1.of (o 6 j (by omega)) (o 9 j (by omega)) (fun m _ => o 10 _ (by omega)), ?_⟩, hO.of (by rw [o 0 0 (by omega)]) (fun j _ => by rw [o 6 j (by omega)]; exact ⟨rfl, rfl⟩), hD.of (fun j _ _ => ⟨o 5 j (by omega), o4 _, o4 _⟩) (fun j _ _ => ⟨o 6 j (by omega), o 7 j (by omega), o 9 j (by omega), o4 _⟩) (fun j _ _ => o 11 j (by omega))⟩, ?_, ⟨fun m hm => ?_, ?_, ?_, fun j hj => ?_, fun j hj => ?_⟩, fun j hj => ?_⟩
  · by_cases c : j = l
    · subst c
      unfold LN
      rw [← hw, su_r, if_neg (by omega), su_r, if_neg (by omega), su_r, if_neg (by omega), su_r, if_pos ⟨rfl, rfl, rfl⟩, su_r, if_neg (by omega), su_r, if_neg (by omega), su_r, if_pos ⟨rfl, rfl, rfl⟩, su_r, if_neg (by omega), su_r, if_pos ⟨rfl, rfl, rfl⟩, su_r, if_pos ⟨rfl, rfl, rfl⟩]
      omega
    · exact (hLL j hj).2.2.of (o 7 j (by omega))
  · rw [← hw]
    exact hS0.both.both.both.both
  · rw [v 21 10 (by omega), o4]
    exact h1.1 m hm
  · rw [v 21 10 (by omega), o 0 0 (by omega)]
    exact h1.2.1
  · rw [v 20 0 (by omega), o4]
    exact h1.2.2.1
  · rw [v 21 8 (by omega), o4]
    exact h1.2.2.2.1 j hj
  · rw [v 21 22 (by omega), o 6 j (by omega)]
    exact h1.2.2.2.2 j hj
  · rw [v 21 4 (by omega), o4]
    exact hA j hj
end OPS2
