section MM4
variable {ad : xAd} {q : xL} {lo : Nat → Nat → Prop} {s u : xS} {co : Nat → Nat → xE} {t : xT} {nf n nr : Nat}
def mput (f m : Nat) (x : Int) (u : xS) : xS := su (su u 4 (200 + f) m x) 5 f 4 (u 5 f 4 + x)
theorem mm_find104 {K : xT → Prop} {f m : Nat} {x : Int} (hR : RR ad q lo s u co t) (hf : f < 8) (hm : m < 121) (kk : ∀ t, RR ad q lo s (mput f m x u) co t → K t) : V_X8_findsUse_104 K (ad 20 0) (I f) (I m) (I x) t := by
  have ef : ((f : Int).toNat) = f := by omega
  unfold V_X8_findsUse_104
  refine xgR_R hR (p := 20) (i := 0) rfl rfl rfl ?_
  rw [show (121 : Int32) = I 121 from rfl, I_mul, I_add]
  refine mpI0 9 (j := 121 * f + m) (p := 4) (i := 200 + f) (f := m) hR (by decide) rfl (by omega) (show 121 * f + m < 968 by omega) ?_ (fun t hR => ?_)
  · show (4, 200 + (121 * f + m) / 121, (121 * f + m) % 121) = _
    rw [show (121 * f + m) / 121 = f by omega, show (121 * f + m) % 121 = m by omega]
  · refine xgR_R hR (p := 20) (i := 0) rfl rfl rfl ?_
    refine xaI_R hR (p := 21) (i := 7) (show 7 < 40 by decide) rfl (by decide) (show 0 ≤ (f : Int) ∧ (f : Int) < ((8 : Nat) : Int) by omega) ?_
    rw [show mva (su u 4 (200 + f) m x) 7 (f : Int).toNat = u 5 f 4 by show su u 4 (200 + f) m x 5 (f : Int).toNat 4 = _; rw [ef, su_r, if_neg (by omega)], I_add]
    exact mpI0 7 hR (by decide) rfl (j := f) (by omega) (show f < 8 by omega) rfl kk
end MM4
