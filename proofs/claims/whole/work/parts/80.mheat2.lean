section MM10
variable {ad : xAd} {q : xL} {lo : Nat → Nat → Prop} {s u : xS} {co : Nat → Nat → xE} {t : xT} {nf n nr : Nat}
def msZ (l : Nat) (u : xS) : xS := su u 21 36 l 0
def mby (n m : Nat) (u : xS) : Int := if sumn (mwg m 1 u) n ≤ 0 then u 20 0 11 else 3 * u 20 0 11 / 10
def msHeat (n m : Nat) (u : xS) : xS :=
  if sumn (mwg m 1 u) n ≤ 0 then msw n (u 20 0 11) (lp (mwS m 0) 0 n (lp (mwS m 1) 0 n (lp msZ 0 n u)))
  else msw n (3 * u 20 0 11 / 10) (lp (mwS m 0) 0 n (msw n (u 20 0 11 - 3 * u 20 0 11 / 10) (lp (mwS m 1) 0 n (lp msZ 0 n u))))
theorem msZ_e {l : Nat} : EM u (msZ l u) := EM.su (by decide)
theorem mm_shHeat {K : xT → Prop} {m : Nat} (hR : RR ad q lo s u co t) (hn : u 1 1 2 = n) (hn12 : n ≤ 12) (hm : m < 121) (ho : ∀ l, l < n → okmw m u l ∧ (0 ≤ mwg m 0 u l ∧ mwg m 0 u l ≤ 9) ∧ (0 ≤ mwg m 1 u l ∧ mwg m 1 u l ≤ 1000000)) (hc : 0 ≤ u 20 0 11 ∧ u 20 0 11 ≤ 10000000) (kk : ∀ t, RR ad q lo s (msHeat n m u) co t → K t) : ∀ (r i : Nat) (v : xS) (t : xT), i + r = n → RR ad q lo s v co t → EM u v → (lp msZ i r v = lp msZ 0 n u) → V_X8_sharesHeat_2 K (r + 1) (ad 20 0) (I m) (I i) t := by
  intro r
  induction r with
  | zero =>
    intro i v t hi hR hE he
    show VS_X8_sharesHeat_2 (V_X8_sharesHeat_2 K 0) K _ _ _ _
    unfold VS_X8_sharesHeat_2
    have hnv : v 1 1 2 = n := by rw [hE 1 1 2 (by omega)]; exact hn
    have e : i = n := by omega
    subst e
    refine xgI_R hR (p := 20) (i := 0) rfl rfl rfl ?_
    rw [hnv]
    refine xbt (by (try simp only [I_lit, J_lit, I_ofNat, I_neg, I_add, I_sub, I_mul, J_neg, J_add, J_sub, J_mul]); first | (rw [I_lt ⟨by omega, by omega⟩ ⟨by omega, by omega⟩]; omega) | (rw [I_le ⟨by omega, by omega⟩ ⟨by omega, by omega⟩]; omega) | (rw [I_eq ⟨by omega, by omega⟩ ⟨by omega, by omega⟩]; omega) | (rw [J_lt ⟨by omega, by omega⟩ ⟨by omega, by omega⟩]; omega) | (rw [J_le ⟨by omega, by omega⟩ ⟨by omega, by omega⟩]; omega) | (rw [J_eq ⟨by omega, by omega⟩ ⟨by omega, by omega⟩]; omega)) ?_
    refine ⟨xis_R hR (p := 20) (i := 0) rfl rfl, ?_⟩
    have he' : v = lp msZ 0 i u := he
    subst he'
    have w1 : mwg m 1 (lp msZ 0 i u) = mwg m 1 u := funext fun l => hE.mwg
    refine mm_weighs (by1 := 1) hR hm (Or.inr rfl) hnv hn12 (fun l hl => hE.okmw (ho l hl).1) (fun t hR => ?_)
    rw [w1]
    have hE1 : EM u (lp (mwS m 1) 0 i (lp msZ 0 i u)) := EM.tr hE (EM.lp (fun _ _ => EM.mwS) _ _ _)
    have hs := sumn_rng (g := mwg m 1 u) (b := 1000000) (n := i) (fun l hl => (ho l hl).2.2)
    have c1 : lp (mwS m 1) 0 i (lp msZ 0 i u) 20 0 11 = u 20 0 11 := hE1 20 0 11 (by omega)
    unfold msHeat at kk
    by_cases c : sumn (mwg m 1 u) i ≤ 0
    · rw [if_pos c] at kk
      refine xbt (by (try simp only [I_lit, J_lit, I_ofNat, I_neg, I_add, I_sub, I_mul, J_neg, J_add, J_sub, J_mul]); first | (rw [I_lt ⟨by omega, by omega⟩ ⟨by omega, by omega⟩]; omega) | (rw [I_le ⟨by omega, by omega⟩ ⟨by omega, by omega⟩]; omega) | (rw [I_eq ⟨by omega, by omega⟩ ⟨by omega, by omega⟩]; omega) | (rw [J_lt ⟨by omega, by omega⟩ ⟨by omega, by omega⟩]; omega) | (rw [J_le ⟨by omega, by omega⟩ ⟨by omega, by omega⟩]; omega) | (rw [J_eq ⟨by omega, by omega⟩ ⟨by omega, by omega⟩]; omega)) ?_
      unfold V_X8_sharesHeat_39
      refine xbt rfl ?_
      refine xgI_R hR (p := 20) (i := 0) rfl rfl rfl ?_
      rw [c1, I_long ⟨by omega, by omega⟩]
      unfold V_X8_sharesHeat_65
      refine xbt rfl ?_
      refine ⟨xis_R hR (p := 20) (i := 0) rfl rfl, ?_⟩
      refine mm_weighs (by1 := 0) hR hm (Or.inl rfl) (by rw [hE1 1 1 2 (by omega)]; exact hn) hn12 (fun l hl => hE1.okmw (ho l hl).1) (fun t hR => ?_)
      refine ⟨xis_R hR (p := 20) (i := 0) rfl rfl, ?_⟩
      refine mm_sharesBy hR (by rw [(EM.tr hE1 (EM.lp (fun _ _ => EM.mwS) _ _ _)) 1 1 2 (by omega)]; exact hn) hn12 (by omega) (fun l hl => ?_) kk
      rw [mwS_at, if_pos (by omega), hE1.mwg]
      have := (ho l hl).2.1
      omega
    · rw [if_neg c] at kk
      refine xbf (by (try simp only [I_lit, J_lit, I_ofNat, I_neg, I_add, I_sub, I_mul, J_neg, J_add, J_sub, J_mul]); first | (rw [I_lt ⟨by omega, by omega⟩ ⟨by omega, by omega⟩]; omega) | (rw [I_le ⟨by omega, by omega⟩ ⟨by omega, by omega⟩]; omega) | (rw [I_eq ⟨by omega, by omega⟩ ⟨by omega, by omega⟩]; omega) | (rw [J_lt ⟨by omega, by omega⟩ ⟨by omega, by omega⟩]; omega) | (rw [J_le ⟨by omega, by omega⟩ ⟨by omega, by omega⟩]; omega) | (rw [J_eq ⟨by omega, by omega⟩ ⟨by omega, by omega⟩]; omega)) ?_
      unfold V_X8_sharesHeat_39
      refine xbf (by decide) ?_
      refine xgI_R hR (p := 20) (i := 0) rfl rfl rfl ?_
      refine ⟨by decide, ?_⟩
      rw [c1, I_long ⟨by omega, by omega⟩, show (3 : Int64) = J 3 from rfl, show (10 : Int64) = J 10 from rfl, J_mul, J_div ⟨by omega, by omega⟩ ⟨by omega, by omega⟩ (by omega) (by omega)]
      unfold V_X8_sharesHeat_65
      refine xbf (by decide) ?_
      refine xgI_R hR (p := 20) (i := 0) rfl rfl rfl ?_
      refine ⟨xis_R hR (p := 20) (i := 0) rfl rfl, ?_⟩
      rw [c1, I_long ⟨by omega, by omega⟩, J_sub]
      refine mm_sharesBy hR (by rw [hE1 1 1 2 (by omega)]; exact hn) hn12 (by omega) (fun l hl => ?_) (fun t hR => ?_)
      · rw [mwS_at, if_pos (by omega), w1]
        have := (ho l hl).2.2
        omega
      · refine ⟨xis_R hR (p := 20) (i := 0) rfl rfl, ?_⟩
        have hE2 := EM.tr hE1 (EM.msw (n := i) (S := u 20 0 11 - 3 * u 20 0 11 / 10) (u := lp (mwS m 1) 0 i (lp msZ 0 i u)))
        refine mm_weighs (by1 := 0) hR hm (Or.inl rfl) (by rw [hE2 1 1 2 (by omega)]; exact hn) hn12 (fun l hl => hE2.okmw (ho l hl).1) (fun t hR => ?_)
        refine ⟨xis_R hR (p := 20) (i := 0) rfl rfl, ?_⟩
        refine mm_sharesBy hR (by rw [(EM.tr hE2 (EM.lp (fun _ _ => EM.mwS) _ _ _)) 1 1 2 (by omega)]; exact hn) hn12 (by omega) (fun l hl => ?_) kk
        rw [mwS_at, if_pos (by omega), hE2.mwg]
        have := (ho l hl).2.1
        omega
  | succ r ih =>
    intro i v t hi hR hE he
    show VS_X8_sharesHeat_2 (V_X8_sharesHeat_2 K (r + 1)) K _ _ _ _
    unfold VS_X8_sharesHeat_2
    have hnv : v 1 1 2 = n := by rw [hE 1 1 2 (by omega)]; exact hn
    refine xgI_R hR (p := 20) (i := 0) rfl rfl rfl ?_
    rw [hnv]
    refine xbf (by (try simp only [I_lit, J_lit, I_ofNat, I_neg, I_add, I_sub, I_mul, J_neg, J_add, J_sub, J_mul]); first | (rw [I_lt ⟨by omega, by omega⟩ ⟨by omega, by omega⟩]; omega) | (rw [I_le ⟨by omega, by omega⟩ ⟨by omega, by omega⟩]; omega) | (rw [I_eq ⟨by omega, by omega⟩ ⟨by omega, by omega⟩]; omega) | (rw [J_lt ⟨by omega, by omega⟩ ⟨by omega, by omega⟩]; omega) | (rw [J_le ⟨by omega, by omega⟩ ⟨by omega, by omega⟩]; omega) | (rw [J_eq ⟨by omega, by omega⟩ ⟨by omega, by omega⟩]; omega)) ?_
    refine xgR_R hR (p := 20) (i := 0) rfl rfl rfl ?_
    rw [show (0 : Int64) = J 0 from rfl, show (I (i : Int) + 1 : Int32) = I ((i + 1 : Nat) : Int) from I_add _ 1]
    refine mpJ0 36 hR (by decide) rfl (j := i) (by omega) (show i < 12 by omega) rfl (fun t hR => ?_)
    exact ih (i + 1) (msZ i v) t (by omega) hR (EM.tr hE msZ_e) he
theorem mm_sharesHeat {K : xT → Prop} {m : Nat} (hR : RR ad q lo s u co t) (hn : u 1 1 2 = n) (hn12 : n ≤ 12) (hm : m < 121) (ho : ∀ l, l < n → okmw m u l ∧ (0 ≤ mwg m 0 u l ∧ mwg m 0 u l ≤ 9) ∧ (0 ≤ mwg m 1 u l ∧ mwg m 1 u l ≤ 1000000)) (hc : 0 ≤ u 20 0 11 ∧ u 20 0 11 ≤ 10000000) (kk : ∀ t, RR ad q lo s (msHeat n m u) co t → K t) : V_X8_sharesHeat_0 K (ad 20 0) (I m) t := ⟨n + 1, mm_shHeat hR hn hn12 hm ho hc kk n 0 u t (by omega) hR EM.rf rfl⟩
end MM10
