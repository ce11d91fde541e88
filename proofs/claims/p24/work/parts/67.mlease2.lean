section MC6
variable {ad : xAd} {q : xL} {lo : Nat → Nat → Prop} {s u : xS} {co : Nat → Nat → xE} {t : xT} {nf n nr : Nat}
def mLe (n : Nat) (f rent first : Int) (u : xS) : xS := su (su (su (su (su (su u 20 0 0 0) 6 n 0 f) 6 n 8 rent) 6 n 9 first) 21 22 n 1000) 1 1 2 (n + 1)
end MC6
