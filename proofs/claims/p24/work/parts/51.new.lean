/-! ===== new cells get roles ===== -/
/-- which roles a cell names -/
def cites (p i : Nat) (g : Nat → Int) (p' i' : Nat) : Prop := match p with
  | 0 => (p' = 1 ∧ i' < 3) ∨ (p' = 3 ∧ (i' = 0 ∨ i' = 100)) ∨ (p' = 12 ∧ i' = 0) ∨ (p' = 10 ∧ i' = 9999)
  | 1 => p' = 2 ∧ i' = i
  | 2 => p' = elt i ∧ ∃ j : Nat, j < (g 0).toNat ∧ g (j + 1) ≠ 0 ∧ i' = (g (j + 1) - 1).toNat
  | 3 => p' = 4 ∧ i' = i
  | 4 => False
  | 5 => p' = 3 ∧ (i' = 200 + i ∨ i' = 300 + i)
  | 6 => (p' = 5 ∧ i' = (g 0).toNat) ∨ (p' = 3 ∧ i' = 400 + i) ∨ (p' = 7 ∧ i' = i) ∨ (p' = 8 ∧ i' = i) ∨ (p' = 9 ∧ i' = i)
  | 7 => False
  | 8 => False
  | 9 => p' = 10 ∧ ∃ j : Nat, j < 121 ∧ g j ≠ 0 ∧ i' = 200 * i + j
  | 10 => False
  | 11 => p' = 5 ∧ i' = (g 2).toNat
  | 12 => p' = 13 ∧ i' = 0
  | _ => False
theorem cel_ext {ad ad' : xAd} {p i : Nat} {g : Nat → Int} {e : xE} (h : ∀ p' i', cites p i g p' i' → ad' p' i' = ad p' i') (hs : sim e (cel ad p i g)) : sim e (cel ad' p i g) := by
  by_cases h2 : p = 2
  · subst h2
    obtain ⟨f, rfl, hf⟩ := sim_ref hs
    refine ⟨rfl, rfl, fun j hj => ?_⟩
    rw [hf j hj]
    show (if g (j + 1) = 0 then none else some (ad (elt i) (g (j + 1) - 1).toNat)) = if g (j + 1) = 0 then none else some (ad' (elt i) (g (j + 1) - 1).toNat)
    by_cases c : g (j + 1) = 0
    · rw [if_pos c, if_pos c]
    · rw [if_neg c, if_neg c, h _ _ ⟨rfl, j, hj, c, rfl⟩]
  · by_cases h9 : p = 9
    · subst h9
      obtain ⟨f, rfl, hf⟩ := sim_ref hs
      refine ⟨rfl, rfl, fun j hj => ?_⟩
      rw [hf j hj]
      show (if g j = 0 then none else some (ad 10 (200 * i + j))) = if g j = 0 then none else some (ad' 10 (200 * i + j))
      by_cases c : g j = 0
      · rw [if_pos c, if_pos c]
      · rw [if_neg c, if_neg c, h _ _ ⟨rfl, j, hj, c, rfl⟩]
    · have : cel ad' p i g = cel ad p i g := by
        unfold cel
        split
        · rw [h 1 0 (Or.inl ⟨rfl, by decide⟩), h 1 1 (Or.inl ⟨rfl, by decide⟩), h 1 2 (Or.inl ⟨rfl, by decide⟩), h 3 0 (Or.inr (Or.inl ⟨rfl, Or.inl rfl⟩)), h 3 100 (Or.inr (Or.inl ⟨rfl, Or.inr rfl⟩)), h 12 0 (Or.inr (Or.inr (Or.inl ⟨rfl, rfl⟩))), h 10 9999 (Or.inr (Or.inr (Or.inr ⟨rfl, rfl⟩)))]
        · rw [h 2 i ⟨rfl, rfl⟩]
        · exact absurd rfl h2
        · rw [h 4 i ⟨rfl, rfl⟩]
        · rfl
        · rw [h 3 (200 + i) ⟨rfl, Or.inl rfl⟩, h 3 (300 + i) ⟨rfl, Or.inr rfl⟩]
        · rw [h 5 _ (Or.inl ⟨rfl, rfl⟩), h 3 _ (Or.inr (Or.inl ⟨rfl, rfl⟩)), h 7 _ (Or.inr (Or.inr (Or.inl ⟨rfl, rfl⟩))), h 8 _ (Or.inr (Or.inr (Or.inr (Or.inl ⟨rfl, rfl⟩)))), h 9 _ (Or.inr (Or.inr (Or.inr (Or.inr ⟨rfl, rfl⟩))))]
        · rfl
        · rfl
        · exact absurd rfl h9
        · rfl
        · rw [h 5 _ ⟨rfl, rfl⟩]
        · rw [h 13 0 ⟨rfl, rfl⟩]
        · rfl
      rw [this]
      exact hs
section NEW
variable {ad ad' : xAd} {q q' : xL} {lo : Nat → Nat → Prop} {s s' u : xS} {co : Nat → Nat → xE} {t : xT}
theorem RR_new (hR : RR ad q lo s u co t) (hold : ∀ p i, clv q lo p i → ad' p i = ad p i) (hs : ∀ p i, clv q lo p i → s' p i = s p i) (hcl : ∀ p i, p < 20 → clv q lo p i → ∀ p' i', cites p i (s p i) p' i' → ad' p' i' = ad p' i') (h21 : ∀ j, ad' 21 j = ad 21 j) (hnew : ∀ p i, clv q' lo p i → ¬ clv q lo p i → p < 20 ∧ ∃ e, t (ad' p i) = some e ∧ sim e (cel ad' p i (s' p i))) (hinj : ∀ p i p' i', clv q' lo p i → ¬ clv q lo p i → clv q' lo p' i' → ad' p i = ad' p' i' → p = p' ∧ i = i') : RR ad' q' lo s' u co t := by
  refine ⟨fun p i hl => ?_, fun p i p' i' g1 g2 e => ?_⟩
  · by_cases ho : clv q lo p i
    · obtain ⟨x, h1, h2⟩ := hR.1 p i ho
      refine ⟨x, by rw [hold p i ho]; exact h1, ?_⟩
      unfold xce at h2 ⊢
      by_cases h20 : p < 20
      · rw [if_pos h20] at h2 ⊢
        rw [hs p i ho]
        exact cel_ext (hcl p i h20 ho) h2
      · rw [if_neg h20] at h2 ⊢
        by_cases h22 : p < 22
        · rw [if_pos h22] at h2 ⊢
          have : mce ad' u p i = mce ad u p i := by
            unfold mce
            split
            · simp only [h21]
            · rfl
          rw [this]
          exact h2
        · rw [if_neg h22] at h2 ⊢
          exact h2
    · obtain ⟨h20, x, h1, h2⟩ := hnew p i hl ho
      refine ⟨x, h1, ?_⟩
      unfold xce
      rw [if_pos h20]
      exact h2
  · by_cases ho : clv q lo p i
    · by_cases ho' : clv q lo p' i'
      · rw [hold _ _ ho, hold _ _ ho'] at e
        exact hR.2 _ _ _ _ ho ho' e
      · have := hinj p' i' p i g2 ho' g1 e.symm
        exact ⟨this.1.symm, this.2.symm⟩
    · exact hinj p i p' i' g1 ho g2 e
/-- cells that nobody has a role for may change -/
theorem RR_keep {t' : xT} (hR : RR ad q lo s u co t) (h : ∀ p i, clv q lo p i → t' (ad p i) = t (ad p i)) : RR ad q lo s u co t' := by
  refine ⟨fun p i hl => ?_, hR.2⟩
  obtain ⟨x, h1, h2⟩ := hR.1 p i hl
  exact ⟨x, by rw [h p i hl]; exact h1, h2⟩
theorem RR_fresh {a : Nat} (hR : RR ad q lo s u co t) (ha : t a = none) : ∀ p i, clv q lo p i → ad p i ≠ a := by
  intro p i hl e
  obtain ⟨x, h1, -⟩ := hR.1 p i hl
  rw [e, ha] at h1
  cases h1
/-- a row of months is made -/
theorem sp_mFill {K : xT → Prop} {c a v0 : Nat} {v : Int} (hca : c ≠ a) : ∀ (r i : Nat) (t : xT) (rc rs : Nat), i + r = 121 → t c = some (.inr (4, [.ref a])) → (∃ f, t a = some (.inl (0, 121, .inl f)) ∧ ∀ j, j < i → f j = I v) → (∀ t', (∀ b, b ≠ a → t' b = t b) → (∃ f, t' a = some (.inl (0, 121, .inl f)) ∧ ∀ j, j < 121 → f j = I v) → K t') → V_X4_init_14 K (r + 1) c (I v) (I i) t rc rs := by
  intro r
  induction r with
  | zero =>
    intro i t rc rs hi hc ⟨f, ha, hf⟩ kk
    show VS_X4_init_14 (V_X4_init_14 K 0) K c (I v) (I i) t rc rs
    unfold VS_X4_init_14
    refine ⟨_, hc, _, rfl, _, _, ha, ?_⟩
    refine xbt ?_ (kk t (fun _ _ => rfl) ⟨f, ha, fun j hj => hf j (by omega)⟩)
    show I ((121 : Nat) : Int) ≤ I i
    exact (by (try simp only [I_lit, J_lit, I_ofNat, I_neg, I_add, I_sub, I_mul, J_neg, J_add, J_sub, J_mul]); first | (rw [I_lt ⟨by omega, by omega⟩ ⟨by omega, by omega⟩]; omega) | (rw [I_le ⟨by omega, by omega⟩ ⟨by omega, by omega⟩]; omega) | (rw [I_eq ⟨by omega, by omega⟩ ⟨by omega, by omega⟩]; omega) | (rw [J_lt ⟨by omega, by omega⟩ ⟨by omega, by omega⟩]; omega) | (rw [J_le ⟨by omega, by omega⟩ ⟨by omega, by omega⟩]; omega) | (rw [J_eq ⟨by omega, by omega⟩ ⟨by omega, by omega⟩]; omega))
  | succ r ih =>
    intro i t rc rs hi hc ⟨f, ha, hf⟩ kk
    show VS_X4_init_14 (V_X4_init_14 K (r + 1)) K c (I v) (I i) t rc rs
    unfold VS_X4_init_14
    refine ⟨_, hc, _, rfl, _, _, ha, ?_⟩
    refine xbf ?_ ?_
    · show ¬ I ((121 : Nat) : Int) ≤ I i
      exact (by (try simp only [I_lit, J_lit, I_ofNat, I_neg, I_add, I_sub, I_mul, J_neg, J_add, J_sub, J_mul]); first | (rw [I_lt ⟨by omega, by omega⟩ ⟨by omega, by omega⟩]; omega) | (rw [I_le ⟨by omega, by omega⟩ ⟨by omega, by omega⟩]; omega) | (rw [I_eq ⟨by omega, by omega⟩ ⟨by omega, by omega⟩]; omega) | (rw [J_lt ⟨by omega, by omega⟩ ⟨by omega, by omega⟩]; omega) | (rw [J_le ⟨by omega, by omega⟩ ⟨by omega, by omega⟩]; omega) | (rw [J_eq ⟨by omega, by omega⟩ ⟨by omega, by omega⟩]; omega))
    · have hr : i32 (i : Int) := ⟨by omega, by omega⟩
      refine ⟨_, hc, _, rfl, 121, f, ha, (I_in hr).mpr (by omega), ?_⟩
      rw [show (I (i : Int) + 1 : Int32) = I ((i + 1 : Nat) : Int) from I_add _ 1]
      refine ih (i + 1) _ rc rs (by omega) (by rw [xup_n _ _ hca]; exact hc) ⟨_, xup_s _ _ _, fun j hj => ?_⟩ (fun t' h1 h2 => kk t' (fun b hb => by rw [h1 b hb, xup_n _ _ hb]) h2)
      rw [I_nat hr]
      show (if j = (i : Int).toNat then I v else f j) = I v
      by_cases e : j = i
      · rw [if_pos (by omega)]
      · rw [if_neg (by omega)]
        exact hf j (by omega)
theorem sp_mInit {K : xT → Prop} {c rc rs : Nat} {v : Int} (hc : t c = some (.inr (4, [.null]))) (h1 : 1 ≤ rc) (h2 : 121 ≤ rs) (kk : ∀ a t', t a = none → a ≠ c → (∀ b, b ≠ c → b ≠ a → t' b = t b) → t' c = some (.inr (4, [.ref a])) → (∃ f, t' a = some (.inl (0, 121, .inl f)) ∧ ∀ j, j < 121 → f j = I v) → K t') : V_X4_init_0 K c (I v) t rc rs := by
  unfold V_X4_init_0
  refine ⟨by decide, by decide, h1, h2, fun a ha => ?_⟩
  have hca : c ≠ a := fun e => by rw [e, ha] at hc; cases hc
  refine ⟨[.null], by rw [xup_n _ _ hca]; exact hc, by decide, 122, ?_⟩
  refine sp_mFill (v0 := 0) hca 121 0 _ _ _ (by omega) (xup_s _ _ _) ⟨_, by rw [xup_n _ _ (Ne.symm hca)]; exact xup_s _ _ _, fun j hj => by omega⟩ (fun t' g1 g2 => ?_)
  refine kk a t' ha (Ne.symm hca) (fun b hb1 hb2 => ?_) ?_ g2
  · rw [g1 b hb2, xup_n _ _ hb1, xup_n _ _ hb2]
  · rw [g1 c hca, xup_s]
    rfl
end NEW
