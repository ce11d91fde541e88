section MM10
variable {ad : xAd} {q : xL} {lo : Nat → Nat → Prop} {s u : xS} {co : Nat → Nat → xE} {t : xT} {nf n nr : Nat}
def msZ (l : Nat) (u : xS) : xS := su u 21 36 l 0
def mby (n m : Nat) (u : xS) : Int := if sumn (mwg m 1 u) n ≤ 0 then u 20 0 11 else 3 * u 20 0 11 / 10
def msHeat (n m : Nat) (u : xS) : xS :=
  if sumn (mwg m 1 u) n ≤ 0 then msw n (u 20 0 11) (lp (mwS m 0) 0 n (lp (mwS m 1) 0 n (lp msZ 0 n u)))
  else msw n (3 * u 20 0 11 / 10) (lp (mwS m 0) 0 n (msw n (u 20 0 11 - 3 * u 20 0 11 / 10) (lp (mwS m 1) 0 n (lp msZ 0 n u))))
theorem msZ_e {l : Nat} : EM u (msZ l u) := EM.su (by decide)
end MM10
