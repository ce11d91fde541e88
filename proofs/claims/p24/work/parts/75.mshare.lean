section MM6
variable {ad : xAd} {q : xL} {lo : Nat → Nat → Prop} {s u : xS} {co : Nat → Nat → xE} {t : xT} {nf n nr : Nat}
/-- the model gives one more -/
def mgv (n : Nat) (u : xS) : xS := su (su u 21 36 (gpk (fun l => u 21 37 l) n) (u 21 36 (gpk (fun l => u 21 37 l) n) + 1)) 21 37 (gpk (fun l => u 21 37 l) n) (-1)
end MM6
