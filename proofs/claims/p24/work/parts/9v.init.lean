/-! ===== the first calls: four flats, two leases at each ===== -/
section INI
variable {E : Nat → Nat} {ad ad' : xAd} {q q' : xL} {lo : Nat → Nat → Prop} {s s' u u' w : xS} {co : Nat → Nat → xE} {t : xT} {D P D' P' : Int} {m z : Nat} {KX : String → xT → Prop} {KI : Int32 → xT → Prop} {a b c : Int}
theorem OB.flat0 (hR : RR ad q lo s w co t) (hL : OB E lo co D P ad q s u) (h1 : 720 ≤ m) (h2 : 3200 ≤ z) (hc : 1 ≤ a ∧ a ≤ 9) (hd : q.1 < 8) (k1 : KN E lo co w ad s u D P 0 a 0 (fun _ t => KI (I (q.1 : Int)) t) q.1 (mFl q.1 a (u 0 0 8 / 30) u)) : V_X7_flat_0 E KX KI (ad 0 0) (I a) t m z := by
  have hn := hL.n
  have hQ := hL.2.1
  refine sp_flat hL.1 hR hL.cl hQ.n0 hQ.1.2.1 hQ.1.2.2.1 hQ.1.2.2.2 rfl hn.1 ⟨by omega, by omega⟩ (by omega) (by omega) (fun h => absurd hc h) (fun _ h => absurd hd h) (fun _ _ ad' t' c hA hA2 hR hcc => ?_)
  have hO : OB E lo co (D + 200000000) (P + 1000000) ad' (qc (qF q) 0) (addS (mkF q.1 a s) 0 q.1 c) (mFl q.1 a (u 0 0 8 / 30) u) := ⟨hL.1.of hA.2, hQ.flat hd hA2 hcc, (op_flat hd hn.2.1 hc hL.2.2).up (by omega) (by omega)⟩
  have o : ∀ p i, p ≠ 4 → p ≠ 5 → ¬ ((p = 1 ∨ p = 2) ∧ i = 0) → addS (mkF q.1 a s) 0 q.1 c p i = s p i := fun p i h4 h5 h1 => by rw [addS_o (by omega) (by omega), mkF_o (by omega) (by omega)]
  exact k1 _ _ _ _ hR hO hA (hL.pdn hO (by decide) (Nat.le_refl _) (fun l hl => by rw [o 6 l (by decide) (by decide) (by omega)]) (fun l g1 g2 => absurd (show l < q.2.1 from g2) (by omega))) (dayn (by decide) (hL.day' hO (by rw [o 0 0 (by decide) (by decide) (by omega)]))) (by rw [o 13 0 (by decide) (by decide) (by omega)])
theorem OB.lease0 (hR : RR ad q lo s w co t) (hL : OB E lo co D P ad q s u) (hB : Bd D P) (h1 : 720 ≤ m) (h2 : 3200 ≤ z) (hc : 0 ≤ a ∧ a < q.1) (hd : 0 ≤ b ∧ b ≤ 500000) (he : q.2.1 < 12) (hf : ¬ mLet u q.2.1 a) (k1 : KN E lo co w ad s u D P 1 a b (fun _ t => KI (I (q.2.1 : Int)) t) q.2.1 (mLe q.2.1 a b (u 0 0 8 / 30 + 1) u)) : V_X7_lease_0 E KX KI (ad 0 0) (I a) (I b) t m z := by
  have hu := hL.u0
  have hn := hL.n
  have ht := hL.t8
  have hQ := hL.2.1
  have heq := let_eq hc.1 hL.2.2 hn.2.1
  refine sp_lease hL.1 hR hL.cl hL.2.2.2 hQ.n0 (Nat.le_refl _) hn.1 hQ.n1 hL.okl hQ.2.1.2.1 hQ.2.1.2.2.1 hQ.2.1.2.2.2 rfl hn.2.1 ⟨by omega, by omega⟩ ⟨by omega, by omega⟩ (by omega) (by omega) (fun h => absurd hc h) (fun _ h => absurd hd h) (fun _ _ h => ?_) (fun _ _ _ _ ad' t' c hA hA2 hR hcc => ?_)
  · rcases h with h | h
    · exact absurd he h
    · exact absurd (heq.mp h) hf
  · have hO : OB E lo co (D + 200000000) (P + 1000000) ad' (qc (qL q) 1) (addS (mkL q.2.1 a b (s 0 0 8 / 30 + 1) s) 1 q.2.1 c) (mLe q.2.1 a b (u 0 0 8 / 30 + 1) u) := ⟨hL.1.of hA.2, hQ.lease he hA2 hcc, (op_lease hn.1 he hc hd hB.1.1 hB.2.1 hL.2.2).up (by omega) (by omega)⟩
    have o : ∀ p i, p ≠ 4 → ¬ ((p = 6 ∨ p = 7 ∨ p = 8 ∨ p = 9) ∧ i = q.2.1) → ¬ ((p = 1 ∨ p = 2) ∧ i = 1) → addS (mkL q.2.1 a b (s 0 0 8 / 30 + 1) s) 1 q.2.1 c p i = s p i := fun p i h4 h6 h1 => by rw [addS_o (by omega) (by omega), mkL_o (by omega) (by omega) (by omega) (by omega) (by omega)]
    refine k1 _ _ _ _ hR hO hA (hL.pdn hO (by decide) (Nat.le_succ _) (fun l hl => by rw [o 6 l (by decide) (by omega) (by omega)]) (fun l g1 g2 => ?_)) (dayn (by decide) (hL.day' hO (by rw [o 0 0 (by decide) (by omega) (by omega)]))) (by rw [o 13 0 (by decide) (by omega) (by omega)])
    have g3 : l < q.2.1 + 1 := g2
    obtain rfl : l = q.2.1 := by omega
    rw [addS_o (by omega) (by omega)]
    unfold mkL
    rw [sup_n _ _ (by omega), sup_n _ _ (by omega), sup_n _ _ (by omega), sup_n _ _ (by omega), sup_s]
    rfl
end INI
section INI2
variable {E : Nat → Nat} {aa : Nat → Int64} {sl : Nat} {sx : Nat → Int32} {a1 a2 a3 a4 L1 L2 L m z N rc rs : Nat} {u u' u1 u2 : xS} {D P D' P' d : Int} {t : xT} {a b c : Int} {KX : String → xT → Prop} {KI : Int32 → xT → Prop}
theorem T2.flat0 (hT : T2 E sl sx aa a3 a4 a1 L1 u1 a2 L2 u2 D P t) (h1 : 720 ≤ m) (h2 : 3200 ≤ z) (hc : 1 ≤ a ∧ a ≤ 9) (hd : u1 1 0 2 < 8) (k : ∀ t, T2 E sl sx aa a3 a4 a1 L1 (mFl (u1 1 0 2).toNat a (u1 0 0 8 / 30) u1) a2 L2 u2 (D + 200000000) (P + 1000000) t → PDn 0 a 0 u1 (mFl (u1 1 0 2).toNat a (u1 0 0 8 / 30) u1) → KI (I (u1 1 0 2)) t) : V_X7_flat_0 E KX KI a1 (I a) t m z := by
  obtain ⟨ad, ad2, q1, q2, s1, s2, hR, hA, ⟨e1, e2, e3, e4⟩, hE, ⟨g1, g2, g3⟩, j1, j2, j3⟩ := hT
  have hL : OB E (lo2 q2) (co2 E aa sl sx ad2 s2) D P ad q1 s1 u1 := ⟨hE.RO, g1, g2⟩
  have hu := hL.u0
  rw [show (u1 1 0 2).toNat = q1.1 by omega, hu.1] at k
  rw [← e1]
  refine OB.flat0 hR hL h1 h2 hc (by omega) (fun ad' q' s' t' hR' hO hAE hpd hday h13 => k t' ⟨ad', ad2, q', q2, s', s2, hR', fun p i hp => ?_, ⟨hAE.1.trans e1, e2, ?_, ?_⟩, hE.of hAE.2, ⟨hO.2.1, hO.2.2, ?_⟩, j1, j2.up (by omega) (by omega), j3⟩ ⟨hpd, hday⟩)
  · rw [hAE.2 (p + 50) i (by omega)]
    exact hA p i hp
  · rw [hAE.2 36 0 (by decide)]
    exact e3
  · rw [hAE.2 37 0 (by decide)]
    exact e4
  · unfold lam at g3 ⊢
    rw [h13]
    exact g3
theorem T2.lease0 (hT : T2 E sl sx aa a3 a4 a1 L1 u1 a2 L2 u2 D P t) (hB : Bd D P) (h1 : 720 ≤ m) (h2 : 3200 ≤ z) (hc : 0 ≤ a ∧ a < u1 1 0 2) (hd : 0 ≤ b ∧ b ≤ 500000) (he : u1 1 1 2 < 12) (hf : ¬ mLet u1 (u1 1 1 2).toNat a) (k : ∀ t, T2 E sl sx aa a3 a4 a1 L1 (mLe (u1 1 1 2).toNat a b (u1 0 0 8 / 30 + 1) u1) a2 L2 u2 (D + 200000000) (P + 1000000) t → PDn 1 a b u1 (mLe (u1 1 1 2).toNat a b (u1 0 0 8 / 30 + 1) u1) → KI (I (u1 1 1 2)) t) : V_X7_lease_0 E KX KI a1 (I a) (I b) t m z := by
  obtain ⟨ad, ad2, q1, q2, s1, s2, hR, hA, ⟨e1, e2, e3, e4⟩, hE, ⟨g1, g2, g3⟩, j1, j2, j3⟩ := hT
  have hL : OB E (lo2 q2) (co2 E aa sl sx ad2 s2) D P ad q1 s1 u1 := ⟨hE.RO, g1, g2⟩
  have hu := hL.u0
  have en : (u1 1 1 2).toNat = q1.2.1 := by omega
  rw [en] at hf
  rw [en, hu.2.1] at k
  rw [← e1]
  refine OB.lease0 hR hL hB h1 h2 (by omega) hd (by omega) hf (fun ad' q' s' t' hR' hO hAE hpd hday h13 => k t' ⟨ad', ad2, q', q2, s', s2, hR', fun p i hp => ?_, ⟨hAE.1.trans e1, e2, ?_, ?_⟩, hE.of hAE.2, ⟨hO.2.1, hO.2.2, ?_⟩, j1, j2.up (by omega) (by omega), j3⟩ ⟨hpd, hday⟩)
  · rw [hAE.2 (p + 50) i (by omega)]
    exact hA p i hp
  · rw [hAE.2 36 0 (by decide)]
    exact e3
  · rw [hAE.2 37 0 (by decide)]
    exact e4
  · unfold lam at g3 ⊢
    rw [h13]
    exact g3
/-- no call has been made but flats -/
def IS (u : xS) (k n : Int) : Prop := u 1 0 2 = k ∧ u 1 1 2 = n ∧ u 0 0 8 = 0 ∧ ∀ l, l < 12 → PD u l = 0
theorem IS.fl {k : Int} {x : Int} (h : IS u k 0) (hk : 0 ≤ k) (hp : PDn 0 x 0 u (mFl (u 1 0 2).toNat x (u 0 0 8 / 30) u)) : IS (mFl (u 1 0 2).toNat x (u 0 0 8 / 30) u) (k + 1) 0 := by
  obtain ⟨h1, h2, h3, h4⟩ := h
  refine ⟨?_, ?_, ?_, fun l hl => ?_⟩
  · unfold mFl
    rw [su_r, if_pos ⟨rfl, rfl, rfl⟩]
    omega
  · unfold mFl
    rw [su_r, if_neg (by omega), su_f _ (by omega), su_f _ (by omega), su_f _ (by omega), su_f _ (by omega)]
    exact h2
  · rw [hp.2, if_neg (by decide), h3]
    rfl
  · rw [hp.1 l hl, if_neg (fun g => absurd g.1 (by decide)), h4 l hl]
    rfl
theorem IS.le {k n : Int} {x y : Int} (h : IS u k n) (hn : 0 ≤ n) (hp : PDn 1 x y u (mLe (u 1 1 2).toNat x y (u 0 0 8 / 30 + 1) u)) : IS (mLe (u 1 1 2).toNat x y (u 0 0 8 / 30 + 1) u) k (n + 1) ∧ mLe (u 1 1 2).toNat x y (u 0 0 8 / 30 + 1) u 6 n.toNat 0 = x := by
  obtain ⟨h1, h2, h3, h4⟩ := h
  refine ⟨⟨?_, ?_, ?_, fun l hl => ?_⟩, ?_⟩
  · unfold mLe
    rw [su_r, if_neg (by omega), su_f _ (by omega), su_f _ (by omega), su_f _ (by omega), su_f _ (by omega), su_f _ (by omega)]
    exact h1
  · unfold mLe
    rw [su_r, if_pos ⟨rfl, rfl, rfl⟩]
    omega
  · rw [hp.2, if_neg (by decide), h3]
    rfl
  · rw [hp.1 l hl, if_neg (fun g => absurd g.1 (by decide)), h4 l hl]
    rfl
  · unfold mLe
    rw [h2, su_f _ (by omega), su_f _ (by omega), su_r, if_neg (by omega), su_r, if_neg (by omega), su_r, if_pos ⟨rfl, rfl, rfl⟩]
theorem l104 (hsl : sl ≤ 260) (hT : T2 E sl sx (fun _ => 0) a3 a4 a1 1 u a2 1 u D P t) (hI : IS u 4 0) (hD : 0 ≤ D ∧ D ≤ 2200000000) (hP : 0 ≤ P ∧ P ≤ 16000000) {C0 S0 : Nat} (hC : remC 0 140 ≤ C0) (hS : remS 0 140 ≤ S0) (h1 : C0 + 2880 ≤ rc) (h2 : S0 + 12800 ≤ rs) : V_L_law_104 E a4 a1 a2 a3 (1 : Int32) t rc rs := by
  unfold V_L_law_104
  refine xbf (by decide) ⟨hT.x7, 720, 3200, by clear hC hS; omega, by clear hC hS; omega, ?_⟩
  have hn := hI.2.1
  refine hT.lease0 (a := 0) (b := 40000) ⟨by clear hC hS; omega, by clear hC hS; omega⟩ (Nat.le_refl _) (Nat.le_refl _) (by rw [hI.1]; decide) (by decide) (by clear hC hS; omega) (fun g => ?_) (fun t hT hp => xst (by rw [hn]; rfl) ?_)
  · obtain ⟨l, hl, -⟩ := g
    rw [hn] at hl
    exact absurd hl (Nat.not_lt_zero l)
  have hI1 := hI.le (by decide) hp
  generalize hu1 : mLe (u 1 1 2).toNat 0 40000 (u 0 0 8 / 30 + 1) u = u1 at *
  refine ⟨hT.sw.x7, 720, 3200, by clear hC hS; omega, by clear hC hS; omega, ?_⟩
  refine hT.sw.lease0 (a := 0) (b := 40000) ⟨by clear hC hS; omega, by clear hC hS; omega⟩ (Nat.le_refl _) (Nat.le_refl _) (by rw [hI.1]; decide) (by decide) (by clear hC hS; omega) (fun g => ?_) (fun t hT hp => xst (by rw [hn]; rfl) ?_)
  · obtain ⟨l, hl, -⟩ := g
    rw [hn] at hl
    exact absurd hl (Nat.not_lt_zero l)
  rw [hu1] at hT hp
  have hn1 := hI1.1.2.1
  have nl : ¬ mLet u1 (u1 1 1 2).toNat 2 := fun g => by
    obtain ⟨l, hl, e, -⟩ := g
    rw [hn1] at hl
    have hl2 : l < 1 := hl
    obtain rfl : l = 0 := by clear hC hS; omega
    have e0 : u1 6 0 0 = 0 := hI1.2
    clear hC hS
    omega
  refine ⟨hT.sw.x7, 720, 3200, by clear hC hS; omega, by clear hC hS; omega, ?_⟩
  refine hT.sw.lease0 (a := 2) (b := 70003) ⟨by clear hC hS; omega, by clear hC hS; omega⟩ (Nat.le_refl _) (Nat.le_refl _) (by rw [hI1.1.1]; decide) (by decide) (by clear hC hS; omega) nl (fun t hT hp => xst (by rw [hn1]; rfl) ?_)
  have hI2 := hI1.1.le (by decide) hp
  generalize hu2 : mLe (u1 1 1 2).toNat 2 70003 (u1 0 0 8 / 30 + 1) u1 = u2 at *
  refine ⟨hT.sw.x7, 720, 3200, by clear hC hS; omega, by clear hC hS; omega, ?_⟩
  refine hT.sw.lease0 (a := 2) (b := 70003) ⟨by clear hC hS; omega, by clear hC hS; omega⟩ (Nat.le_refl _) (Nat.le_refl _) (by rw [hI1.1.1]; decide) (by decide) (by clear hC hS; omega) nl (fun t hT hp => xst (by rw [hn1]; rfl) ?_)
  rw [hu2] at hT hp
  refine ⟨141, ?_⟩
  refine law_164 hsl 140 0 0 _ _ _ (by decide) ⟨u2, fun _ => 0, hT.sw.up (by clear hC hS; omega) (by clear hC hS; omega), fun l hl => ?_, hI2.1.2.2.1⟩ (by decide) (Nat.le_trans hC (by clear hC hS; omega)) (Nat.le_trans hS (by clear hC hS; omega))
  rw [hI2.1.2.2.2 l hl]
  rfl
def rmm (C0 S0 : Nat) : Prop := remC 0 140 ≤ C0 ∧ remS 0 140 ≤ S0
theorem l34 {x4 : Int32} (hsl : sl ≤ 260) {C0 S0 : Nat} (hCS : rmm C0 S0) : ∀ (r k : Nat) (u : xS) (t : xT) (rc rs : Nat), k + r = 4 → T2 E sl sx (fun _ => 0) a3 a4 a1 1 u a2 1 u (500000000 * (k : Int)) (3000000 * (k : Int)) t → IS u k 0 → C0 + 2880 + 1440 * r ≤ rc → S0 + 12800 + 6400 * r ≤ rs → V_L_law_34 E (r + 1) a4 a1 a2 a3 x4 (1 : Int32) (I k) t rc rs := by
  intro r
  induction r with
  | zero =>
    intro k u t rc rs hk hT hI h1 h2
    show VS_L_law_34 E (V_L_law_34 E 0) a4 a1 a2 a3 x4 1 (I k) t rc rs
    unfold VS_L_law_34
    obtain rfl : k = 4 := by omega
    have h1' : C0 + 2880 ≤ rc := h1
    have h2' : S0 + 12800 ≤ rs := h2
    exact xbt (by decide) (l104 hsl hT hI (by decide) (by decide) hCS.1 hCS.2 h1' h2')
  | succ r ih =>
    intro k u t rc rs hk hT hI h1 h2
    have b1 : 720 ≤ rc ∧ 720 ≤ rc - 720 ∧ C0 + 2880 + 1440 * r ≤ rc - 720 - 720 := by clear hT hI hCS ih h2 hsl; omega
    have b2 : 3200 ≤ rs ∧ 3200 ≤ rs - 3200 ∧ S0 + 12800 + 6400 * r ≤ rs - 3200 - 3200 := by clear hT hI hCS ih h1 hsl b1; omega
    show VS_L_law_34 E (V_L_law_34 E (r + 1)) a4 a1 a2 a3 x4 1 (I k) t rc rs
    unfold VS_L_law_34
    have em : I (k : Int) + 1 = I ((k + 1 : Nat) : Int) := I_add _ 1
    obtain ⟨p, hp, e⟩ := lowf_rng (x4 >>> (((4 : Int32) * I (k : Int)) &&& 31)) (n := 9) (by decide)
    have e : lowf (x4 >>> (((4 : Int32) * I (k : Int)) &&& 31)) 9 = I p := e
    refine xbf (by (try simp only [I_lit, J_lit, I_ofNat, I_neg, I_add, I_sub, I_mul, J_neg, J_add, J_sub, J_mul]); first | (rw [I_lt ⟨by omega, by omega⟩ ⟨by omega, by omega⟩]; omega) | (rw [I_le ⟨by omega, by omega⟩ ⟨by omega, by omega⟩]; omega) | (rw [I_eq ⟨by omega, by omega⟩ ⟨by omega, by omega⟩]; omega) | (rw [J_lt ⟨by omega, by omega⟩ ⟨by omega, by omega⟩]; omega) | (rw [J_le ⟨by omega, by omega⟩ ⟨by omega, by omega⟩]; omega) | (rw [J_eq ⟨by omega, by omega⟩ ⟨by omega, by omega⟩]; omega)) (xbf (by decide) (low_k (by decide) ?_))
    rw [e, show (1 : Int32) + I p = I (1 + p) from I_add 1 p]
    refine ⟨hT.x7, 720, 3200, b1.1, b2.1, ?_⟩
    refine hT.flat0 (a := 1 + p) (Nat.le_refl _) (Nat.le_refl _) (by omega) (by rw [hI.1]; omega) (fun t hT hpd => xst (by rw [hI.1]) (low_k (by decide) ?_))
    rw [e, show (1 : Int32) + I p = I (1 + p) from I_add 1 p]
    refine ⟨hT.sw.x7, 720, 3200, b1.2.1, b2.2.1, ?_⟩
    refine hT.sw.flat0 (a := 1 + p) (Nat.le_refl _) (Nat.le_refl _) (by omega) (by rw [hI.1]; omega) (fun t hT hpd => xst (by rw [hI.1]) ?_)
    rw [em]
    exact ih (k + 1) _ _ _ _ (by omega) (hT.sw.up (by omega) (by omega)) (hI.fl (by omega) hpd) b1.2.2 b2.2.2
end INI2
