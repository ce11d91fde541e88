/-! ===== flats, repairs, leases are made ===== -/
section MAKE
variable {E : Nat → Nat} {ad : xAd} {q : xL} {lo : Nat → Nat → Prop} {s u : xS} {co : Nat → Nat → xE} {t : xT} {rc rs nf n nr : Nat} {KX : String → xT → Prop}
/-- a flat's cells, raw -/
def FlatRaw (t t' : xT) (f u ua p pa : Nat) (rooms : Int) : Prop := (∀ b, b ≠ f → b ≠ u → b ≠ ua → b ≠ p → b ≠ pa → t' b = t b) ∧ t' f = some (.inr (1, [.int (I rooms), .ref u, .ref p, .int (I 0), .int (I 0), .int (I (-1))])) ∧ t' u = some (.inr (4, [.ref ua])) ∧ (∃ g, t' ua = some (.inl (0, 121, .inl g)) ∧ ∀ j, j < 121 → g j = I (-1)) ∧ t' p = some (.inr (4, [.ref pa])) ∧ (∃ g, t' pa = some (.inl (0, 121, .inl g)) ∧ ∀ j, j < 121 → g j = I 0)
theorem sp_flatInit {K : xT → Prop} {f : Nat} {rooms : Int} (hf : t f = some (.inr (1, [.int 0, .null, .null, .int 0, .int 0, .int 0]))) (h1 : 4 ≤ rc) (h2 : 244 ≤ rs) (kk : ∀ u ua p pa t', t u = none → t ua = none → t p = none → t pa = none → (u ≠ ua ∧ u ≠ p ∧ u ≠ pa ∧ ua ≠ p ∧ ua ≠ pa ∧ p ≠ pa) → FlatRaw t t' f u ua p pa rooms → K t') : V_X1_init_0 K f (I rooms) t rc rs := by
  unfold V_X1_init_0
  have ne : ∀ {t : xT} {a b : Nat} {x : xE}, t a = none → t b = some x → b ≠ a := fun h1 h2 e => by rw [e, h1] at h2; cases h2
  refine ⟨by omega, by omega, fun u hu => ?_⟩
  have n1 := ne hu hf
  rw [show (-1 : Int32) = I (-1) from rfl, show (0 : Int32) = I 0 from rfl]
  refine ⟨1, 121, by omega, by omega, ?_⟩
  refine sp_mInit (xup_s _ _ _) (Nat.le_refl _) (Nat.le_refl _) (fun ua t1 hua n2 g1 g2 ⟨ga, g3, g4⟩ => ?_)
  have hua0 : t ua = none := by rw [xup_n _ _ n2] at hua; exact hua
  have n3 := ne hua0 hf
  have hf1 : t1 f = some (.inr (1, [.int 0, .null, .null, .int 0, .int 0, .int 0])) := by rw [g1 f n1 n3, xup_n _ _ n1]; exact hf
  refine ⟨_, hf1, by decide, ?_⟩
  refine ⟨by omega, by omega, fun p hp => ?_⟩
  have np : p ≠ f := fun e => by rw [e, xup_s] at hp; cases hp
  rw [xup_n _ _ np] at hp
  have npu : p ≠ u := fun e => by rw [e, g2] at hp; cases hp
  have npa : p ≠ ua := fun e => by rw [e, g3] at hp; cases hp
  have hp0 : t p = none := by rw [g1 p npu npa, xup_n _ _ npu] at hp; exact hp
  refine ⟨1, 121, by omega, by omega, ?_⟩
  refine sp_mInit (xup_s _ _ _) (Nat.le_refl _) (Nat.le_refl _) (fun pa t2 hpa m2 k1 k2 ⟨gb, k3, k4⟩ => ?_)
  rw [xup_n _ _ m2] at hpa
  have mf : pa ≠ f := fun e => by rw [e, xup_s] at hpa; cases hpa
  rw [xup_n _ _ mf] at hpa
  have mu : pa ≠ u := fun e => by rw [e, g2] at hpa; cases hpa
  have ma : pa ≠ ua := fun e => by rw [e, g3] at hpa; cases hpa
  have hpa0 : t pa = none := by rw [g1 pa mu ma, xup_n _ _ mu] at hpa; exact hpa
  have hf2 : t2 f = some (.inr (1, [.int 0, .ref u, .null, .int 0, .int 0, .int 0])) := by
    rw [k1 f (Ne.symm np) (Ne.symm mf), xup_n _ _ (Ne.symm np), xup_s]
    rfl
  refine ⟨_, hf2, Nat.le_of_ble_eq_true rfl, ?_⟩
  refine ⟨_, xup_s _ _ _, Nat.le_of_ble_eq_true rfl, ?_⟩
  refine ⟨_, xup_s _ _ _, Nat.le_of_ble_eq_true rfl, ?_⟩
  refine ⟨_, xup_s _ _ _, Nat.le_of_ble_eq_true rfl, ?_⟩
  refine ⟨_, xup_s _ _ _, Nat.le_of_ble_eq_true rfl, ?_⟩
  refine kk u ua p pa _ hu hua0 hp0 hpa0 ⟨Ne.symm n2, Ne.symm npu, Ne.symm mu, Ne.symm npa, Ne.symm ma, Ne.symm m2⟩ ?_
  have red : ∀ b, b ≠ f → ∀ a1 a2 a3 a4 a5, xup (xup (xup (xup (xup t2 f a1) f a2) f a3) f a4) f a5 b = t2 b := fun b hb a1 a2 a3 a4 a5 => by rw [xup_n _ _ hb, xup_n _ _ hb, xup_n _ _ hb, xup_n _ _ hb, xup_n _ _ hb]
  refine ⟨fun b b1 b2 b3 b4 b5 => ?_, ?_, ?_, ⟨ga, ?_, g4⟩, ?_, ⟨gb, ?_, k4⟩⟩
  · rw [red b b1, k1 b b4 b5, xup_n _ _ b4, xup_n _ _ b1, g1 b b2 b3, xup_n _ _ b2]
  · rw [xup_s]
    rfl
  · rw [red u (Ne.symm n1), k1 u (Ne.symm npu) (Ne.symm mu), xup_n _ _ (Ne.symm npu), xup_n _ _ (Ne.symm n1)]
    exact g2
  · rw [red ua (Ne.symm n3), k1 ua (Ne.symm npa) (Ne.symm ma), xup_n _ _ (Ne.symm npa), xup_n _ _ (Ne.symm n3)]
    exact g3
  · rw [red p np]
    exact k2
  · rw [red pa mf]
    exact k3
/-- live roles name live ones (lists' own arrays apart) -/
def CL (q : xL) (lo : Nat → Nat → Prop) (s : xS) : Prop := ∀ p i, p < 20 → clv q lo p i → ∀ p' i', cites p i (s p i) p' i' → p' ≠ 2 → clv q lo p' i'
theorem CL_of (h6 : ∀ l, l < q.2.1 → (s 6 l 0).toNat < q.1) (h11 : ∀ r, r < q.2.2.1 → (s 11 r 2).toNat < q.1) (hl : ∀ k, k < 3 → ∃ n, n ≤ qn q k ∧ LI q s k n ∧ LZ s k n) (hB : HB q s) : CL q lo s := by
  intro p i h20 hv p' i' hc h2
  unfold cites at hc
  split at hc
  · have hi : i = 0 := hv
    rcases hc with ⟨rfl, h⟩ | ⟨rfl, h | h⟩ | ⟨rfl, h⟩ | ⟨rfl, h⟩
    · exact h
    · exact Or.inl h
    · exact Or.inr (Or.inl h)
    · exact h
    · exact Or.inl h
  · exact absurd hc.1 h2
  · obtain ⟨h1, j, hj, hne, rfl⟩ := hc
    obtain ⟨n, hn, ⟨-, -, -, e4, -⟩, hz⟩ := hl i hv.1
    have hjn : j < n := Nat.not_le.mp (fun hle => hne (hz j hle))
    rw [e4 j hjn, show ((j : Int) + 1 - 1).toNat = j by omega, h1]
    have hik := hv.1
    obtain rfl | rfl | rfl : i = 0 ∨ i = 1 ∨ i = 2 := by omega
    · exact Nat.lt_of_lt_of_le hjn hn
    · exact Nat.lt_of_lt_of_le hjn hn
    · exact Nat.lt_of_lt_of_le hjn hn
  · obtain ⟨rfl, rfl⟩ := hc
    exact hv
  · exact hc.elim
  · have hi : i < q.1 := hv
    obtain ⟨rfl, rfl | rfl⟩ := hc
    · simp only [clv]
      omega
    · simp only [clv]
      omega
  · have hi : i < q.2.1 := hv
    rcases hc with ⟨rfl, rfl⟩ | ⟨rfl, rfl⟩ | ⟨rfl, rfl⟩ | ⟨rfl, rfl⟩ | ⟨rfl, rfl⟩
    · exact h6 i hi
    · simp only [clv]
      omega
    · exact hi
    · exact hi
    · exact hi
  · exact hc.elim
  · exact hc.elim
  · obtain ⟨rfl, j, hj, hne, rfl⟩ := hc
    exact Or.inr ((hB i j hv hj).mpr hne)
  · exact hc.elim
  · obtain ⟨rfl, rfl⟩ := hc
    exact h11 i hv
  · obtain ⟨rfl, rfl⟩ := hc
    exact rfl
  · exact hc.elim
def qF (q : xL) : xL := (q.1 + 1, q.2)
def mkF (F : Nat) (rooms : Int) (s : xS) : xS := sup (sup (sup s 5 F (fun i => if i = 0 then rooms else if i = 5 then -1 else 0)) 4 (200 + F) (fun _ => -1)) 4 (300 + F) (fun _ => 0)
def adF (ad : xAd) (F f u ua p pa : Nat) : xAd := fun p' i' => if p' = 5 ∧ i' = F then f else if p' = 3 ∧ i' = 200 + F then u else if p' = 4 ∧ i' = 200 + F then ua else if p' = 3 ∧ i' = 300 + F then p else if p' = 4 ∧ i' = 300 + F then pa else ad p' i'
theorem clv_qF {F p i : Nat} (hF : q.1 = F) (h : clv (qF q) lo p i) : clv q lo p i ∨ (p = 5 ∧ i = F) ∨ (p = 3 ∧ i = 200 + F) ∨ (p = 4 ∧ i = 200 + F) ∨ (p = 3 ∧ i = 300 + F) ∨ (p = 4 ∧ i = 300 + F) := by
  subst hF
  by_cases c3 : p = 3
  · subst c3
    simp only [clv, qF, eq_self_iff_true, true_or, or_true, false_or, or_false, true_and, and_true, false_and, and_false] at h ⊢
    omega
  · by_cases c4 : p = 4
    · subst c4
      simp only [clv, qF, eq_self_iff_true, true_or, or_true, false_or, or_false, true_and, and_true, false_and, and_false] at h ⊢
      omega
    · by_cases c5 : p = 5
      · subst c5
        simp only [clv, qF, eq_self_iff_true, true_or, or_true, false_or, or_false, true_and, and_true, false_and, and_false] at h ⊢
        omega
      · left
        unfold clv at h ⊢
        split at h <;> first | exact absurd rfl c3 | exact absurd rfl c4 | exact absurd rfl c5 | exact h
theorem RR_flat {F f u' ua p pa : Nat} {rooms : Int} {t' : xT} (hF : q.1 = F) (hF8 : F ≤ 90) (hR : RR ad q lo s u co t) (hC : CL q lo s) (hf : ∀ p i, clv q lo p i → ad p i ≠ f) (hu : t u' = none) (hua : t ua = none) (hp : t p = none) (hpa : t pa = none) (hff : f ≠ u' ∧ f ≠ ua ∧ f ≠ p ∧ f ≠ pa) (hne : u' ≠ ua ∧ u' ≠ p ∧ u' ≠ pa ∧ ua ≠ p ∧ ua ≠ pa ∧ p ≠ pa) (hraw : FlatRaw t t' f u' ua p pa rooms) : RR (adF ad F f u' ua p pa) (qF q) lo (mkF F rooms s) u co t' ∧ AE ad (adF ad F f u' ua p pa) := by
  obtain ⟨r0, r1, r2, ⟨ga, r3, r3'⟩, r4, ⟨gb, r5, r5'⟩⟩ := hraw
  have nl : ∀ p i, clv q lo p i → ¬ (p = 5 ∧ i = F) ∧ ¬ (p = 3 ∧ i = 200 + F) ∧ ¬ (p = 4 ∧ i = 200 + F) ∧ ¬ (p = 3 ∧ i = 300 + F) ∧ ¬ (p = 4 ∧ i = 300 + F) := by
    intro p i h
    subst hF
    refine ⟨?_, ?_, ?_, ?_, ?_⟩
    · rintro ⟨rfl, rfl⟩
      exact Nat.lt_irrefl _ h
    · rintro ⟨rfl, rfl⟩
      simp only [clv] at h
      omega
    · rintro ⟨rfl, rfl⟩
      simp only [clv] at h
      omega
    · rintro ⟨rfl, rfl⟩
      simp only [clv] at h
      omega
    · rintro ⟨rfl, rfl⟩
      simp only [clv] at h
      omega
  have same : ∀ p' i', ¬ (p' = 5 ∧ i' = F) ∧ ¬ (p' = 3 ∧ i' = 200 + F) ∧ ¬ (p' = 4 ∧ i' = 200 + F) ∧ ¬ (p' = 3 ∧ i' = 300 + F) ∧ ¬ (p' = 4 ∧ i' = 300 + F) → adF ad F f u' ua p pa p' i' = ad p' i' := fun p' i' h => by
    unfold adF
    rw [if_neg h.1, if_neg h.2.1, if_neg h.2.2.1, if_neg h.2.2.2.1, if_neg h.2.2.2.2]
  have x5 : adF ad F f u' ua p pa 5 F = f := if_pos ⟨rfl, rfl⟩
  have x3 : adF ad F f u' ua p pa 3 (200 + F) = u' := by unfold adF; rw [if_neg (by omega), if_pos ⟨rfl, rfl⟩]
  have x4 : adF ad F f u' ua p pa 4 (200 + F) = ua := by unfold adF; rw [if_neg (by omega), if_neg (by omega), if_pos ⟨rfl, rfl⟩]
  have y3 : adF ad F f u' ua p pa 3 (300 + F) = p := by unfold adF; rw [if_neg (by omega), if_neg (by omega), if_neg (by omega), if_pos ⟨rfl, rfl⟩]
  have y4 : adF ad F f u' ua p pa 4 (300 + F) = pa := by unfold adF; rw [if_neg (by omega), if_neg (by omega), if_neg (by omega), if_neg (by omega), if_pos ⟨rfl, rfl⟩]
  have fu := RR_fresh hR hu
  have fua := RR_fresh hR hua
  have fp := RR_fresh hR hp
  have fpa := RR_fresh hR hpa
  have hR' : RR ad q lo s u co t' := RR_keep hR (fun p i hl => r0 _ (hf p i hl) (fu p i hl) (fua p i hl) (fp p i hl) (fpa p i hl))
  refine ⟨RR_new hR' (fun p i hl => same p i (nl p i hl)) (fun p i hl => ?_) (fun p i h20 hl p' i' hc => ?_) (fun j => same 21 j ⟨by omega, by omega, by omega, by omega, by omega⟩) (fun p' i' hl hn => ?_) (fun p1 i1 p2 i2 g1 n1 g2 e => ?_), same 0 0 ⟨by omega, by omega, by omega, by omega, by omega⟩, fun p i hp => same p i ⟨by omega, by omega, by omega, by omega, by omega⟩⟩
  · obtain ⟨a1, a2, a3, a4, a5⟩ := nl p i hl
    unfold mkF
    rw [sup_n _ _ a5, sup_n _ _ a3, sup_n _ _ a1]
  · by_cases c2 : p' = 2
    · exact same p' i' ⟨by omega, by omega, by omega, by omega, by omega⟩
    · exact same p' i' (nl _ _ (hC p i h20 hl p' i' hc c2))
  · rcases clv_qF hF hl with h | ⟨rfl, rfl⟩ | ⟨rfl, rfl⟩ | ⟨rfl, rfl⟩ | ⟨rfl, rfl⟩ | ⟨rfl, rfl⟩
    · exact absurd h hn
    · refine ⟨by decide, _, by rw [x5]; exact r1, ?_⟩
      unfold mkF
      rw [sup_n _ _ (by omega), sup_n _ _ (by omega), sup_s]
      show sim _ (.inr (1, [.int (I rooms), .ref (adF ad i' f u' ua p pa 3 (200 + i')), .ref (adF ad i' f u' ua p pa 3 (300 + i')), .int (I 0), .int (I 0), .int (I (-1))]))
      rw [x3, y3]
      exact rfl
    · refine ⟨by decide, _, by rw [x3]; exact r2, ?_⟩
      show sim _ (.inr (4, [.ref (adF ad F f u' ua p pa 4 (200 + F))]))
      rw [x4]
      exact rfl
    · refine ⟨by decide, _, by rw [x4]; exact r3, ?_⟩
      unfold mkF
      rw [sup_n _ _ (by omega), sup_s]
      exact ⟨rfl, rfl, r3'⟩
    · refine ⟨by decide, _, by rw [y3]; exact r4, ?_⟩
      show sim _ (.inr (4, [.ref (adF ad F f u' ua p pa 4 (300 + F))]))
      rw [y4]
      exact rfl
    · refine ⟨by decide, _, by rw [y4]; exact r5, ?_⟩
      unfold mkF
      rw [sup_s]
      exact ⟨rfl, rfl, r5'⟩
  · obtain ⟨d1, d2, d3, d4⟩ := hff
    obtain ⟨d5, d6, d7, d8, d9, d10⟩ := hne
    rcases clv_qF hF g2 with h | h | h | h | h | h <;> rcases (clv_qF hF g1).resolve_left n1 with k | k | k | k | k <;> obtain ⟨rfl, rfl⟩ := k <;>
      first
      | (rw [same p2 i2 (nl p2 i2 h)] at e; first | (rw [x5] at e; exact absurd e.symm (hf _ _ h)) | (rw [x3] at e; exact absurd e.symm (fu _ _ h)) | (rw [x4] at e; exact absurd e.symm (fua _ _ h)) | (rw [y3] at e; exact absurd e.symm (fp _ _ h)) | (rw [y4] at e; exact absurd e.symm (fpa _ _ h)))
      | (obtain ⟨rfl, rfl⟩ := h; exact ⟨rfl, rfl⟩)
      | (obtain ⟨rfl, rfl⟩ := h; simp only [x5, x3, x4, y3, y4] at e; first | exact absurd e d1 | exact absurd e d2 | exact absurd e d3 | exact absurd e d4 | exact absurd e d5 | exact absurd e d6 | exact absurd e d7 | exact absurd e d8 | exact absurd e d9 | exact absurd e d10 | exact absurd e.symm d1 | exact absurd e.symm d2 | exact absurd e.symm d3 | exact absurd e.symm d4 | exact absurd e.symm d5 | exact absurd e.symm d6 | exact absurd e.symm d7 | exact absurd e.symm d8 | exact absurd e.symm d9 | exact absurd e.symm d10)
end MAKE
