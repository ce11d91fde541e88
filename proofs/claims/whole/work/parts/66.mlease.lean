section MC5
variable {ad : xAd} {q : xL} {lo : Nat → Nat → Prop} {s u : xS} {co : Nat → Nat → xE} {t : xT} {nf n nr : Nat}
/-- whether a lease runs in a month, in the model -/
def mrunb (u : xS) (l : Nat) (m : Int) : Int := if u 6 l 9 ≤ m ∧ m ≤ u 21 22 l then 1 else 0
theorem mrunb_01 (u : xS) (l : Nat) (m : Int) : mrunb u l m = 0 ∨ mrunb u l m = 1 := by
  unfold mrunb
  split <;> simp
def okml (u : xS) (l : Nat) : Prop := l < 12 ∧ i32 (u 6 l 0) ∧ i32 (u 6 l 9) ∧ i32 (u 21 22 l)
theorem mm_runs {K : Int32 → xT → Prop} {l : Nat} {m : Int} (hR : RR ad q lo s u co t) (hl : okml u l) (hm : i32 m) (kk : K (I (mrunb u l m)) t) : V_X8_runs_0 K (ad 20 0) (I l) (I m) t := by
  obtain ⟨h1, h2, h3, h4⟩ := hl
  unfold i32 at hm h3 h4
  unfold mrunb at kk
  unfold V_X8_runs_0
  refine xgR_R hR (p := 20) (i := 0) rfl rfl rfl ?_
  refine xaI_R hR (p := 21) (i := 21) (show 21 < 40 by decide) rfl (by decide) (show 0 ≤ (l : Int) ∧ (l : Int) < ((12 : Nat) : Int) by omega) ?_
  show (I m < I (u 6 (l : Int).toNat 9) → _) ∧ (¬ I m < I (u 6 (l : Int).toNat 9) → _)
  rw [show ((l : Int).toNat) = l by omega]
  by_cases c1 : m < u 6 l 9
  · rw [if_neg (by omega)] at kk
    exact xbt (by (try simp only [I_lit, J_lit, I_ofNat, I_neg, I_add, I_sub, I_mul, J_neg, J_add, J_sub, J_mul]); first | (rw [I_lt ⟨by omega, by omega⟩ ⟨by omega, by omega⟩]; omega) | (rw [I_le ⟨by omega, by omega⟩ ⟨by omega, by omega⟩]; omega) | (rw [I_eq ⟨by omega, by omega⟩ ⟨by omega, by omega⟩]; omega) | (rw [J_lt ⟨by omega, by omega⟩ ⟨by omega, by omega⟩]; omega) | (rw [J_le ⟨by omega, by omega⟩ ⟨by omega, by omega⟩]; omega) | (rw [J_eq ⟨by omega, by omega⟩ ⟨by omega, by omega⟩]; omega)) kk
  · refine xbf (by (try simp only [I_lit, J_lit, I_ofNat, I_neg, I_add, I_sub, I_mul, J_neg, J_add, J_sub, J_mul]); first | (rw [I_lt ⟨by omega, by omega⟩ ⟨by omega, by omega⟩]; omega) | (rw [I_le ⟨by omega, by omega⟩ ⟨by omega, by omega⟩]; omega) | (rw [I_eq ⟨by omega, by omega⟩ ⟨by omega, by omega⟩]; omega) | (rw [J_lt ⟨by omega, by omega⟩ ⟨by omega, by omega⟩]; omega) | (rw [J_le ⟨by omega, by omega⟩ ⟨by omega, by omega⟩]; omega) | (rw [J_eq ⟨by omega, by omega⟩ ⟨by omega, by omega⟩]; omega)) ?_
    refine xgR_R hR (p := 20) (i := 0) rfl rfl rfl ?_
    refine xaI_R hR (p := 21) (i := 22) (show 22 < 40 by decide) rfl (by decide) (show 0 ≤ (l : Int) ∧ (l : Int) < ((12 : Nat) : Int) by omega) ?_
    show (I (u 21 22 (l : Int).toNat) < I m → _) ∧ (¬ I (u 21 22 (l : Int).toNat) < I m → _)
    rw [show ((l : Int).toNat) = l by omega]
    by_cases c2 : u 21 22 l < m
    · rw [if_neg (by omega)] at kk
      exact xbt (by (try simp only [I_lit, J_lit, I_ofNat, I_neg, I_add, I_sub, I_mul, J_neg, J_add, J_sub, J_mul]); first | (rw [I_lt ⟨by omega, by omega⟩ ⟨by omega, by omega⟩]; omega) | (rw [I_le ⟨by omega, by omega⟩ ⟨by omega, by omega⟩]; omega) | (rw [I_eq ⟨by omega, by omega⟩ ⟨by omega, by omega⟩]; omega) | (rw [J_lt ⟨by omega, by omega⟩ ⟨by omega, by omega⟩]; omega) | (rw [J_le ⟨by omega, by omega⟩ ⟨by omega, by omega⟩]; omega) | (rw [J_eq ⟨by omega, by omega⟩ ⟨by omega, by omega⟩]; omega)) kk
    · rw [if_pos (by omega)] at kk
      exact xbf (by (try simp only [I_lit, J_lit, I_ofNat, I_neg, I_add, I_sub, I_mul, J_neg, J_add, J_sub, J_mul]); first | (rw [I_lt ⟨by omega, by omega⟩ ⟨by omega, by omega⟩]; omega) | (rw [I_le ⟨by omega, by omega⟩ ⟨by omega, by omega⟩]; omega) | (rw [I_eq ⟨by omega, by omega⟩ ⟨by omega, by omega⟩]; omega) | (rw [J_lt ⟨by omega, by omega⟩ ⟨by omega, by omega⟩]; omega) | (rw [J_le ⟨by omega, by omega⟩ ⟨by omega, by omega⟩]; omega) | (rw [J_eq ⟨by omega, by omega⟩ ⟨by omega, by omega⟩]; omega)) kk
/-- whether a flat is let on, in the model -/
def mLet (u : xS) (n : Nat) (f : Int) : Prop := ∃ l, l < n ∧ u 6 l 0 = f ∧ mrunb u l (u 0 0 8 / 30 + 1) = 1
theorem mm_letLoop {K : Int32 → xT → Prop} {f : Int} (hR : RR ad q lo s u co t) (hT : okT u) (hn : u 1 1 2 = n) (hn12 : n ≤ 12) (hf : i32 f) (ho : ∀ l, l < n → okml u l) (k1 : mLet u n f → K 1 t) (k0 : ¬ mLet u n f → K 0 t) : ∀ (r i : Nat) (b : Int), i + r = n → (b = 0 ∨ b = 1) → (b = 1 ↔ ∃ l, l < i ∧ u 6 l 0 = f ∧ mrunb u l (u 0 0 8 / 30 + 1) = 1) → V_X8_isLet_4 K (r + 1) (ad 20 0) (I f) (I b) (I i) t := by
  unfold okT at hT
  unfold i32 at hf
  intro r
  induction r with
  | zero =>
    intro i b hi hb hiff
    show VS_X8_isLet_4 (V_X8_isLet_4 K 0) K _ _ _ _ _
    unfold VS_X8_isLet_4
    refine xgI_R hR (p := 20) (i := 0) rfl rfl rfl ?_
    rw [hn]
    refine xbt (by (try simp only [I_lit, J_lit, I_ofNat, I_neg, I_add, I_sub, I_mul, J_neg, J_add, J_sub, J_mul]); first | (rw [I_lt ⟨by omega, by omega⟩ ⟨by omega, by omega⟩]; omega) | (rw [I_le ⟨by omega, by omega⟩ ⟨by omega, by omega⟩]; omega) | (rw [I_eq ⟨by omega, by omega⟩ ⟨by omega, by omega⟩]; omega) | (rw [J_lt ⟨by omega, by omega⟩ ⟨by omega, by omega⟩]; omega) | (rw [J_le ⟨by omega, by omega⟩ ⟨by omega, by omega⟩]; omega) | (rw [J_eq ⟨by omega, by omega⟩ ⟨by omega, by omega⟩]; omega)) ?_
    have hin : i = n := by omega
    subst hin
    rcases hb with rfl | rfl
    · exact ⟨rfl, k0 (fun h => absurd (hiff.mpr h) (by decide))⟩
    · exact ⟨rfl, k1 (hiff.mp rfl)⟩
  | succ r ih =>
    intro i b hi hb hiff
    show VS_X8_isLet_4 (V_X8_isLet_4 K (r + 1)) K _ _ _ _ _
    unfold VS_X8_isLet_4
    refine xgI_R hR (p := 20) (i := 0) rfl rfl rfl ?_
    rw [hn]
    refine xbf (by (try simp only [I_lit, J_lit, I_ofNat, I_neg, I_add, I_sub, I_mul, J_neg, J_add, J_sub, J_mul]); first | (rw [I_lt ⟨by omega, by omega⟩ ⟨by omega, by omega⟩]; omega) | (rw [I_le ⟨by omega, by omega⟩ ⟨by omega, by omega⟩]; omega) | (rw [I_eq ⟨by omega, by omega⟩ ⟨by omega, by omega⟩]; omega) | (rw [J_lt ⟨by omega, by omega⟩ ⟨by omega, by omega⟩]; omega) | (rw [J_le ⟨by omega, by omega⟩ ⟨by omega, by omega⟩]; omega) | (rw [J_eq ⟨by omega, by omega⟩ ⟨by omega, by omega⟩]; omega)) ?_
    have hoi := ho i (by omega)
    obtain ⟨h1, h2, h3, h4⟩ := id hoi
    unfold i32 at h2
    rw [show (I (i : Int) + 1 : Int32) = I ((i + 1 : Nat) : Int) from I_add _ 1]
    rcases hb with rfl | rfl
    · refine xst rfl ?_
      refine xgR_R hR (p := 20) (i := 0) rfl rfl rfl ?_
      refine xaI_R hR (p := 21) (i := 19) (show 19 < 40 by decide) rfl (by decide) (show 0 ≤ (i : Int) ∧ (i : Int) < ((12 : Nat) : Int) by omega) ?_
      show (¬ I (u 6 (i : Int).toNat 0) = I f → _) ∧ (I (u 6 (i : Int).toNat 0) = I f → _)
      rw [show ((i : Int).toNat) = i by omega]
      have nx : ¬ (u 6 i 0 = f ∧ mrunb u i (u 0 0 8 / 30 + 1) = 1) → V_X8_isLet_4 K (r + 1) (ad 20 0) (I f) (0 : Int32) (I ((i + 1 : Nat) : Int)) t := fun hh => ih (i + 1) 0 (by omega) (Or.inl rfl) ⟨fun h => absurd h (by decide), fun ⟨l, hl, h⟩ => by
        by_cases e : l = i
        · subst e
          exact absurd h hh
        · exact hiff.mpr ⟨l, by omega, h⟩⟩
      by_cases c : u 6 i 0 = f
      · refine xst (by rw [c]) ?_
        refine ⟨xis_R hR (p := 20) (i := 0) rfl rfl, ?_⟩
        refine mm_month hR (by omega) ?_
        refine ⟨xis_R hR (p := 20) (i := 0) rfl rfl, ?_⟩
        rw [show (I (u 0 0 8 / 30) + (1 : Int32)) = I (u 0 0 8 / 30 + 1) from I_add _ 1]
        refine mm_runs hR hoi ⟨by omega, by omega⟩ ?_
        rcases mrunb_01 u i (u 0 0 8 / 30 + 1) with hr | hr
        · rw [hr]
          exact xbt rfl (nx (fun h => by rw [hr] at h; exact absurd h.2 (by decide)))
        · rw [hr]
          refine xbf (by decide) ?_
          exact ih (i + 1) 1 (by omega) (Or.inr rfl) ⟨fun _ => ⟨i, by omega, c, hr⟩, fun _ => rfl⟩
      · exact xsf (by (try simp only [I_lit, J_lit, I_ofNat, I_neg, I_add, I_sub, I_mul, J_neg, J_add, J_sub, J_mul]); first | (rw [I_lt ⟨by omega, by omega⟩ ⟨by omega, by omega⟩]; omega) | (rw [I_le ⟨by omega, by omega⟩ ⟨by omega, by omega⟩]; omega) | (rw [I_eq ⟨by omega, by omega⟩ ⟨by omega, by omega⟩]; omega) | (rw [J_lt ⟨by omega, by omega⟩ ⟨by omega, by omega⟩]; omega) | (rw [J_le ⟨by omega, by omega⟩ ⟨by omega, by omega⟩]; omega) | (rw [J_eq ⟨by omega, by omega⟩ ⟨by omega, by omega⟩]; omega)) (nx (fun h => c h.1))
    · refine xsf (by decide) ?_
      refine ih (i + 1) 1 (by omega) (Or.inr rfl) ⟨fun _ => ?_, fun _ => rfl⟩
      obtain ⟨l, hl, h⟩ := hiff.mp rfl
      exact ⟨l, by omega, h⟩
theorem mm_isLet {K : Int32 → xT → Prop} {f : Int} (hR : RR ad q lo s u co t) (hT : okT u) (hn : u 1 1 2 = n) (hn12 : n ≤ 12) (hf : i32 f) (ho : ∀ l, l < n → okml u l) (k1 : mLet u n f → K 1 t) (k0 : ¬ mLet u n f → K 0 t) : V_X8_isLet_0 K (ad 20 0) (I f) t := ⟨n + 1, mm_letLoop hR hT hn hn12 hf ho k1 k0 n 0 0 (by omega) (Or.inl rfl) ⟨fun h => absurd h (by decide), fun ⟨l, hl, _⟩ => by omega⟩⟩
end MC5
