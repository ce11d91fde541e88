section MM8
variable {ad : xAd} {q : xL} {lo : Nat → Nat → Prop} {s u : xS} {co : Nat → Nat → xE} {t : xT} {nf n nr : Nat}
def mtw (S A : Int) (l : Nat) (u : xS) : xS := su (su u 21 37 l (S * u 21 35 l % A)) 21 36 l (u 21 36 l + S * u 21 35 l / A)
def msb (n : Nat) (S A : Int) : Nat → Nat → xS → Int → xS
  | _, 0, u, left => itn (mgv n) left.toNat u
  | i, r + 1, u, left => msb n S A (i + 1) r (mtw S A i u) (left - S * u 21 35 i / A)
end MM8
