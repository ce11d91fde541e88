section MC4
variable {ad : xAd} {q : xL} {lo : Nat → Nat → Prop} {s u : xS} {co : Nat → Nat → xE} {t : xT} {nf n nr : Nat}
def mRe (nr : Nat) (f g : Int) (u : xS) : xS := su (su (su (su (su u 20 0 0 0) 11 nr 2 f) 11 nr 3 g) 11 nr 4 (u 0 0 8)) 1 2 2 (nr + 1)
end MC4
