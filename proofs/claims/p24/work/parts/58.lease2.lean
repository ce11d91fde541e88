section MKL2
variable {E : Nat → Nat} {ad : xAd} {q : xL} {lo : Nat → Nat → Prop} {s u : xS} {co : Nat → Nat → xE} {t : xT} {rc rs nf n nr : Nat} {KX : String → xT → Prop}
def qL (q : xL) : xL := (q.1, q.2.1 + 1, q.2.2)
def mkL (L : Nat) (home rent first : Int) (s : xS) : xS := sup (sup (sup (sup (sup s 6 L (fun i => if i = 0 then home else if i = 1 then -1 else if i = 8 then rent else if i = 9 then first else 0)) 4 (400 + L) (fun _ => -1)) 7 L (fun _ => 0)) 8 L (fun _ => 0)) 9 L (fun _ => 0)
def adL (ad : xAd) (L a m ma p h b : Nat) : xAd := fun p' i' => if p' = 6 ∧ i' = L then a else if p' = 3 ∧ i' = 400 + L then m else if p' = 4 ∧ i' = 400 + L then ma else if p' = 7 ∧ i' = L then p else if p' = 8 ∧ i' = L then h else if p' = 9 ∧ i' = L then b else ad p' i'
theorem clv_qL {L p i : Nat} (hL : q.2.1 = L) (hh : clv (qL q) lo p i) : clv q lo p i ∨ (p = 6 ∧ i = L) ∨ (p = 3 ∧ i = 400 + L) ∨ (p = 4 ∧ i = 400 + L) ∨ (p = 7 ∧ i = L) ∨ (p = 8 ∧ i = L) ∨ (p = 9 ∧ i = L) := by
  subst hL
  by_cases c3 : p = 3
  · subst c3
    simp only [clv, qL, eq_self_iff_true, true_or, or_true, false_or, or_false, true_and, and_true, false_and, and_false] at hh ⊢
    omega
  by_cases c4 : p = 4
  · subst c4
    simp only [clv, qL, eq_self_iff_true, true_or, or_true, false_or, or_false, true_and, and_true, false_and, and_false] at hh ⊢
    omega
  by_cases c6 : p = 6
  · subst c6
    simp only [clv, qL, eq_self_iff_true, true_or, or_true, false_or, or_false, true_and, and_true, false_and, and_false] at hh ⊢
    omega
  by_cases c7 : p = 7
  · subst c7
    simp only [clv, qL, eq_self_iff_true, true_or, or_true, false_or, or_false, true_and, and_true, false_and, and_false] at hh ⊢
    omega
  by_cases c8 : p = 8
  · subst c8
    simp only [clv, qL, eq_self_iff_true, true_or, or_true, false_or, or_false, true_and, and_true, false_and, and_false] at hh ⊢
    omega
  by_cases c9 : p = 9
  · subst c9
    simp only [clv, qL, eq_self_iff_true, true_or, or_true, false_or, or_false, true_and, and_true, false_and, and_false] at hh ⊢
    omega
  left
  unfold clv at hh ⊢
  split at hh <;> first | exact absurd rfl c3 | exact absurd rfl c4 | exact absurd rfl c6 | exact absurd rfl c7 | exact absurd rfl c8 | exact absurd rfl c9 | exact hh
theorem RR_lease {L a m ma p h b : Nat} {home rent first : Int} {t' : xT} (hL : q.2.1 = L) (hL8 : L ≤ 90) (hF8 : q.1 ≤ 90) (hR : RR ad q lo s u co t) (hC : CL q lo s) (fa : ∀ p i, clv q lo p i → ad p i ≠ a) (hm : t m = none) (hma : t ma = none) (hp : t p = none) (hh : t h = none) (hb : t b = none) (haa : a ≠ m ∧ a ≠ ma ∧ a ≠ p ∧ a ≠ h ∧ a ≠ b) (hnd : [m, ma, p, h, b].Nodup) (hraw : LeaseRaw t t' a m ma p h b (ad 5 home.toNat) rent first) : RR (adL ad L a m ma p h b) (qL q) lo (mkL L home rent first s) u co t' ∧ AE ad (adL ad L a m ma p h b) := by
  obtain ⟨r0, r1, r2, ⟨gf, r3, r3'⟩, r4, r5, r6⟩ := hraw
  have nl : ∀ p i, clv q lo p i → ¬ (p = 6 ∧ i = L) ∧ ¬ (p = 3 ∧ i = 400 + L) ∧ ¬ (p = 4 ∧ i = 400 + L) ∧ ¬ (p = 7 ∧ i = L) ∧ ¬ (p = 8 ∧ i = L) ∧ ¬ (p = 9 ∧ i = L) := by
    intro p i hv
    subst hL
    refine ⟨?_, ?_, ?_, ?_, ?_, ?_⟩
    · rintro ⟨rfl, rfl⟩
      exact Nat.lt_irrefl _ hv
    · rintro ⟨rfl, rfl⟩
      simp only [clv] at hv
      omega
    · rintro ⟨rfl, rfl⟩
      simp only [clv] at hv
      omega
    · rintro ⟨rfl, rfl⟩
      exact Nat.lt_irrefl _ hv
    · rintro ⟨rfl, rfl⟩
      exact Nat.lt_irrefl _ hv
    · rintro ⟨rfl, rfl⟩
      exact Nat.lt_irrefl _ hv
  have same : ∀ p' i', ¬ (p' = 6 ∧ i' = L) ∧ ¬ (p' = 3 ∧ i' = 400 + L) ∧ ¬ (p' = 4 ∧ i' = 400 + L) ∧ ¬ (p' = 7 ∧ i' = L) ∧ ¬ (p' = 8 ∧ i' = L) ∧ ¬ (p' = 9 ∧ i' = L) → adL ad L a m ma p h b p' i' = ad p' i' := fun p' i' hq => by
    unfold adL
    rw [if_neg hq.1, if_neg hq.2.1, if_neg hq.2.2.1, if_neg hq.2.2.2.1, if_neg hq.2.2.2.2.1, if_neg hq.2.2.2.2.2]
  have x6 : adL ad L a m ma p h b 6 L = a := if_pos ⟨rfl, rfl⟩
  have x3 : adL ad L a m ma p h b 3 (400 + L) = m := by unfold adL; rw [if_neg (by omega), if_pos ⟨rfl, rfl⟩]
  have x4 : adL ad L a m ma p h b 4 (400 + L) = ma := by unfold adL; rw [if_neg (by omega), if_neg (by omega), if_pos ⟨rfl, rfl⟩]
  have x7 : adL ad L a m ma p h b 7 L = p := by unfold adL; rw [if_neg (by omega), if_neg (by omega), if_neg (by omega), if_pos ⟨rfl, rfl⟩]
  have x8 : adL ad L a m ma p h b 8 L = h := by unfold adL; rw [if_neg (by omega), if_neg (by omega), if_neg (by omega), if_neg (by omega), if_pos ⟨rfl, rfl⟩]
  have x9 : adL ad L a m ma p h b 9 L = b := by unfold adL; rw [if_neg (by omega), if_neg (by omega), if_neg (by omega), if_neg (by omega), if_neg (by omega), if_pos ⟨rfl, rfl⟩]
  have fm := RR_fresh hR hm
  have fma := RR_fresh hR hma
  have fp := RR_fresh hR hp
  have fh := RR_fresh hR hh
  have fb := RR_fresh hR hb
  have hR' : RR ad q lo s u co t' := RR_keep hR (fun p i hl => r0 _ (fa p i hl) (fm p i hl) (fma p i hl) (fp p i hl) (fh p i hl) (fb p i hl))
  refine ⟨RR_new hR' (fun p i hl => same p i (nl p i hl)) (fun p i hl => ?_) (fun p i h20 hl p' i' hc => ?_) (fun j => same 21 j ⟨by omega, by omega, by omega, by omega, by omega, by omega⟩) (fun p' i' hl hn => ?_) (fun p1 i1 p2 i2 g1 n1 g2 e => ?_), same 0 0 ⟨by omega, by omega, by omega, by omega, by omega, by omega⟩, fun p i hp => same p i ⟨by omega, by omega, by omega, by omega, by omega, by omega⟩⟩
  · obtain ⟨a1, a2, a3, a4, a5, a6⟩ := nl p i hl
    unfold mkL
    rw [sup_n _ _ a6, sup_n _ _ a5, sup_n _ _ a4, sup_n _ _ a3, sup_n _ _ a1]
  · by_cases c2 : p' = 2
    · exact same p' i' ⟨by omega, by omega, by omega, by omega, by omega, by omega⟩
    · exact same p' i' (nl _ _ (hC p i h20 hl p' i' hc c2))
  · rcases clv_qL hL hl with hv | ⟨rfl, rfl⟩ | ⟨rfl, rfl⟩ | ⟨rfl, rfl⟩ | ⟨rfl, rfl⟩ | ⟨rfl, rfl⟩ | ⟨rfl, rfl⟩
    · exact absurd hv hn
    · refine ⟨by decide, _, by rw [x6]; exact r1, ?_⟩
      unfold mkL
      rw [sup_n _ _ (by omega), sup_n _ _ (by omega), sup_n _ _ (by omega), sup_n _ _ (by omega), sup_s]
      show sim _ (.inr (3, [.ref (adL ad i' a m ma p h b 5 home.toNat), .int (I (-1)), .ref (adL ad i' a m ma p h b 3 (400 + i')), .ref (adL ad i' a m ma p h b 7 i'), .ref (adL ad i' a m ma p h b 8 i'), .long (J 0), .long (J 0), .long (J 0), .int (I rent), .int (I first), .ref (adL ad i' a m ma p h b 9 i')]))
      rw [x3, x7, x8, x9, same 5 _ ⟨by omega, by omega, by omega, by omega, by omega, by omega⟩]
      exact rfl
    · refine ⟨by decide, _, by rw [x3]; exact r2, ?_⟩
      show sim _ (.inr (4, [.ref (adL ad L a m ma p h b 4 (400 + L))]))
      rw [x4]
      exact rfl
    · refine ⟨by decide, _, by rw [x4]; exact r3, ?_⟩
      unfold mkL
      rw [sup_n _ _ (by omega), sup_n _ _ (by omega), sup_n _ _ (by omega), sup_s]
      exact ⟨rfl, rfl, r3'⟩
    · refine ⟨by decide, _, by rw [x7]; exact r4, ?_⟩
      unfold mkL
      rw [sup_n _ _ (by omega), sup_n _ _ (by omega), sup_s]
      exact rfl
    · refine ⟨by decide, _, by rw [x8]; exact r5, ?_⟩
      unfold mkL
      rw [sup_n _ _ (by omega), sup_s]
      exact rfl
    · refine ⟨by decide, _, by rw [x9]; exact r6, ?_⟩
      unfold mkL
      rw [sup_s]
      exact ⟨rfl, rfl, fun j hj => rfl⟩
  · obtain ⟨d1, d2, d3, d4, d5⟩ := haa
    simp only [List.nodup_cons, List.mem_cons, List.not_mem_nil, or_false, not_or, List.nodup_nil, and_true, not_false_eq_true] at hnd
    obtain ⟨⟨e1, e2, e3, e4⟩, ⟨e5, e6, e7⟩, ⟨e8, e9⟩, e10⟩ := hnd
    rcases clv_qL hL g2 with hv | hv | hv | hv | hv | hv | hv <;> rcases (clv_qL hL g1).resolve_left n1 with k | k | k | k | k | k <;> obtain ⟨rfl, rfl⟩ := k <;>
      first
      | (rw [same p2 i2 (nl p2 i2 hv)] at e; first | (rw [x6] at e; exact absurd e.symm (fa _ _ hv)) | (rw [x3] at e; exact absurd e.symm (fm _ _ hv)) | (rw [x4] at e; exact absurd e.symm (fma _ _ hv)) | (rw [x7] at e; exact absurd e.symm (fp _ _ hv)) | (rw [x8] at e; exact absurd e.symm (fh _ _ hv)) | (rw [x9] at e; exact absurd e.symm (fb _ _ hv)))
      | (obtain ⟨rfl, rfl⟩ := hv; exact ⟨rfl, rfl⟩)
      | (obtain ⟨rfl, rfl⟩ := hv; simp only [x6, x3, x4, x7, x8, x9] at e; first | exact absurd e d1 | exact absurd e.symm d1 | exact absurd e d2 | exact absurd e.symm d2 | exact absurd e d3 | exact absurd e.symm d3 | exact absurd e d4 | exact absurd e.symm d4 | exact absurd e d5 | exact absurd e.symm d5 | exact absurd e e1 | exact absurd e.symm e1 | exact absurd e e2 | exact absurd e.symm e2 | exact absurd e e3 | exact absurd e.symm e3 | exact absurd e e4 | exact absurd e.symm e4 | exact absurd e e5 | exact absurd e.symm e5 | exact absurd e e6 | exact absurd e.symm e6 | exact absurd e e7 | exact absurd e.symm e7 | exact absurd e e8 | exact absurd e.symm e8 | exact absurd e e9 | exact absurd e.symm e9 | exact absurd e e10 | exact absurd e.symm e10)
end MKL2
