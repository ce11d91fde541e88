section MC7
variable {ad : xAd} {q : xL} {lo : Nat → Nat → Prop} {s u : xS} {co : Nat → Nat → xE} {t : xT} {nf n nr : Nat}
def mPl (l : Nat) (x : Int) (u : xS) : xS := su (su (su (su (su u 20 0 0 0) 7 l 0 1) 7 l 1 (u 6 l 5)) 7 l 2 ((u 6 l 5 + x - 1) / x)) 7 l 3 0
end MC7
