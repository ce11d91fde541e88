section MM9
variable {ad : xAd} {q : xL} {lo : Nat → Nat → Prop} {s u : xS} {co : Nat → Nat → xE} {t : xT} {nf n nr : Nat}
def msw (n : Nat) (S : Int) (u : xS) : xS := if 0 < sumn (fun l => u 21 35 l) n then msb n S (sumn (fun l => u 21 35 l) n) 0 n u S else u
end MM9
