section MC2
variable {ad : xAd} {q : xL} {lo : Nat → Nat → Prop} {s u : xS} {co : Nat → Nat → xE} {t : xT} {nf n nr : Nat}
/-- a flat's numbers in the model -/
def mFl (nf : Nat) (many now : Int) (u : xS) : xS := su (su (su (su (su u 20 0 0 0) 5 nf 0 many) 21 4 nf now) 5 nf 5 (-1)) 1 0 2 (nf + 1)
end MC2
