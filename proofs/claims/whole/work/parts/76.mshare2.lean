section MM7
variable {ad : xAd} {q : xL} {lo : Nat → Nat → Prop} {s u : xS} {co : Nat → Nat → xE} {t : xT} {nf n nr : Nat}
theorem mgv_o {n p i k : Nat} {u : xS} (h : ¬ (p = 21 ∧ (i = 36 ∨ i = 37))) : mgv n u p i k = u p i k := by
  unfold mgv
  rw [su_r, if_neg (by omega), su_r, if_neg (by omega)]
theorem mm_give {K : xT → Prop} (h0 : 0 < n) (hn12 : n ≤ 12) : ∀ (r : Nat) (left : Int) (u : xS) (t : xT), i64 left → left.toNat = r → RR ad q lo s u co t → u 1 1 2 = n → (∀ l, l < n → i64 (u 21 37 l)) → (∀ t, RR ad q lo s (itn (mgv n) r u) co t → K t) → V_X8_sharesBy_117 K (r + 1) (ad 20 0) (J left) t := by
  intro r
  induction r with
  | zero =>
    intro left u t hl hr hR hn hb kk
    unfold i64 at hl
    show VS_X8_sharesBy_117 (V_X8_sharesBy_117 K 0) K _ _ _
    unfold VS_X8_sharesBy_117
    exact xbt (by (try simp only [I_lit, J_lit, I_ofNat, I_neg, I_add, I_sub, I_mul, J_neg, J_add, J_sub, J_mul]); first | (rw [I_lt ⟨by omega, by omega⟩ ⟨by omega, by omega⟩]; omega) | (rw [I_le ⟨by omega, by omega⟩ ⟨by omega, by omega⟩]; omega) | (rw [I_eq ⟨by omega, by omega⟩ ⟨by omega, by omega⟩]; omega) | (rw [J_lt ⟨by omega, by omega⟩ ⟨by omega, by omega⟩]; omega) | (rw [J_le ⟨by omega, by omega⟩ ⟨by omega, by omega⟩]; omega) | (rw [J_eq ⟨by omega, by omega⟩ ⟨by omega, by omega⟩]; omega)) (kk t hR)
  | succ r ih =>
    intro left u t hl hr hR hn hb kk
    unfold i64 at hl
    show VS_X8_sharesBy_117 (V_X8_sharesBy_117 K (r + 1)) K _ _ _
    unfold VS_X8_sharesBy_117
    refine xbf (by (try simp only [I_lit, J_lit, I_ofNat, I_neg, I_add, I_sub, I_mul, J_neg, J_add, J_sub, J_mul]); first | (rw [I_lt ⟨by omega, by omega⟩ ⟨by omega, by omega⟩]; omega) | (rw [I_le ⟨by omega, by omega⟩ ⟨by omega, by omega⟩]; omega) | (rw [I_eq ⟨by omega, by omega⟩ ⟨by omega, by omega⟩]; omega) | (rw [J_lt ⟨by omega, by omega⟩ ⟨by omega, by omega⟩]; omega) | (rw [J_le ⟨by omega, by omega⟩ ⟨by omega, by omega⟩]; omega) | (rw [J_eq ⟨by omega, by omega⟩ ⟨by omega, by omega⟩]; omega)) ⟨n - 1 + 1, ?_⟩
    have := mm_pick (K := K) (R117 := V_X8_sharesBy_117 K (r + 1)) (left := left) hR hn hn12 hb (fun t hR => ih (left - 1) (mgv n u) t ⟨by omega, by omega⟩ (by omega) hR (by rw [mgv_o (by omega)]; exact hn) (fun l hl => ?_) kk) (n - 1) 1 (by omega) (by decide)
    · exact this
    · have := hb l hl
      unfold i64 at this ⊢
      unfold mgv
      rw [su_r]
      split
      · omega
      · rw [su_r, if_neg (by omega)]
        exact this
end MM7
