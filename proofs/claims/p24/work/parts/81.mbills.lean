/-! ===== the model makes a bill ===== -/
theorem mv_b {l m k : Nat} (hm : m < 121) (hk : k < 4) : mvr (27 + k) (121 * l + m) = (10, 200 * l + m, k) := by
  have e1 : (121 * l + m) / 121 = l := by omega
  have e2 : (121 * l + m) % 121 = m := by omega
  obtain rfl | rfl | rfl | rfl : k = 0 ∨ k = 1 ∨ k = 2 ∨ k = 3 := by omega
  · show (10, 200 * ((121 * l + m) / 121) + (121 * l + m) % 121, 0) = _
    rw [e1, e2]
  · show (10, 200 * ((121 * l + m) / 121) + (121 * l + m) % 121, 1) = _
    rw [e1, e2]
  · show (10, 200 * ((121 * l + m) / 121) + (121 * l + m) % 121, 2) = _
    rw [e1, e2]
  · show (10, 200 * ((121 * l + m) / 121) + (121 * l + m) % 121, 3) = _
    rw [e1, e2]
theorem mv_9 {l m : Nat} (hm : m < 121) : mvr 26 (121 * l + m) = (9, l, m) := by
  show (9, (121 * l + m) / 121, (121 * l + m) % 121) = _
  rw [show (121 * l + m) / 121 = l by omega, show (121 * l + m) % 121 = m by omega]
theorem mv_t {l m : Nat} (hm : m < 121) : mvr 25 (121 * l + m) = (4, 400 + l, m) := by
  show (4, 400 + (121 * l + m) / 121, (121 * l + m) % 121) = _
  rw [show (121 * l + m) / 121 = l by omega, show (121 * l + m) % 121 = m by omega]
/-- the numbers of a bill in the model -/
def mBv (l m : Nat) (u : xS) : Nat → Int := fun k => match k with
  | 0 => u 6 l 8 * u 21 10 m / 100
  | 1 => low (u 6 l 8 * u 21 10 m / 100) (u 21 8 (u 6 l 0).toNat)
  | 2 => ben (u 6 l 8 * u 21 10 m / 100 - low (u 6 l 8 * u 21 10 m / 100) (u 21 8 (u 6 l 0).toNat)) (incn (u 4 (400 + l)) (m + 1))
  | _ => u 21 36 l
def mB4 (l m : Nat) (u : xS) (v : Nat → Int) : xS := su (su (su (su (su u 9 l m 1) 10 (200 * l + m) 0 (v 0)) 10 (200 * l + m) 1 (v 1)) 10 (200 * l + m) 3 (v 3)) 10 (200 * l + m) 2 (v 2)
def mBl (m l : Nat) (u : xS) : xS := su (su (mB4 l m u (mBv l m u)) 6 l 5 (u 6 l 5 + (mBv l m u 0 - mBv l m u 1 - mBv l m u 2 + mBv l m u 3))) 6 l 6 (u 6 l 6 + mBv l m u 2)
section MM11
variable {ad : xAd} {q : xL} {lo : Nat → Nat → Prop} {s u : xS} {co : Nat → Nat → xE} {t : xT} {nf n nr : Nat}
end MM11
