/-! ===== the first heap: two objects ===== -/
def q0 : xL := (0, 0, 0, (fun _ => False), fun _ => False)
def s0i : xS := fun p i k => match p with
  | 0 => if k = 7 then 100 else 0
  | 4 => if i = 0 then 100 else if i = 100 then 0 else if 300 ≤ i ∧ i < 400 then 0 else -1
  | 13 => if k = 0 then 16 else 0
  | _ => 0
def u0i : xS := fun p i k => match p with
  | 4 => if i = 0 then 100 else if i = 100 then 0 else if 300 ≤ i ∧ i < 400 then 0 else -1
  | 21 => if i = 10 ∧ k ≤ 1 then 100 else 0
  | _ => 0
theorem nodup_inj {f : xC → Nat} : ∀ (l : List xC), (l.map f).Nodup → ∀ x ∈ l, ∀ y ∈ l, f x = f y → x = y := by
  intro l
  induction l with
  | nil => exact fun _ x hx => absurd hx List.not_mem_nil
  | cons a l ih =>
    intro hn x hx y hy e
    rw [List.map_cons, List.nodup_cons] at hn
    rcases List.mem_cons.mp hx with rfl | hx'
    · rcases List.mem_cons.mp hy with rfl | hy'
      · rfl
      · exact absurd (List.mem_map.mpr ⟨y, hy', e.symm⟩) hn.1
    · rcases List.mem_cons.mp hy with rfl | hy'
      · exact absurd (List.mem_map.mpr ⟨x, hx', e⟩) hn.1
      · exact ih hn.2 x hx' y hy' e
theorem Rw.rel {t : xT} {l : List xC} {ad : xAd} {lv : Nat → Nat → Prop} {ce : Nat → Nat → xE} (h : Rw t l) (hlv : ∀ p i, lv p i → ∃ x ∈ l, x.1 = p ∧ x.2.1 = i ∧ ad p i = x.2.2.1 ∧ sim x.2.2.2 (ce p i)) : Rel ad lv ce t := by
  refine ⟨fun p i hl => ?_, fun p i p' i' h1 h2 e => ?_⟩
  · obtain ⟨x, hx, -, -, ha, hs⟩ := hlv p i hl
    exact ⟨_, by rw [ha]; exact h.1 x hx, hs⟩
  · obtain ⟨x, hx, rfl, rfl, ha, -⟩ := hlv p i h1
    obtain ⟨y, hy, rfl, rfl, hb, -⟩ := hlv p' i' h2
    have : x = y := by
      have hn := h.2
      rw [ha, hb] at e
      exact nodup_inj l hn x hx y hy e
    subst this
    exact ⟨rfl, rfl⟩

def adO (e0 a0 l0 l1 l2 x0 y0 x1 y1 b0 c0 s0 : Nat) : xAd := fun p i => match p with | 0 => a0 | 1 => (match i with | 0 => l0 | 1 => l1 | _ => l2) | 2 => e0 | 3 => (match i with | 0 => x0 | _ => x1) | 4 => (match i with | 0 => y0 | _ => y1) | 10 => s0 | 12 => b0 | 13 => c0 | _ => 0
def obL (o e0 a0 l0 l1 l2 x0 y0 x1 y1 b0 c0 s0 : Nat) (f0 f1 g : Nat → Int32) : List xC := [(o, 0, a0, .inr (7, [.ref l0, .ref l1, .ref l2, .ref x0, .ref x1, .ref b0, .ref s0, .int 100, .int 0, .long 0])), (o + 10, 9999, s0, .inr (0, [.int 0, .int 0, .int 0, .int 0])), (o + 12, 0, b0, .inr (9, [.ref c0, .int 0, .int 0, .int 0])), (o + 13, 0, c0, .inl (3, 16, .inl g)), (o + 3, 100, x1, .inr (4, [.ref y1])), (o + 4, 100, y1, .inl (0, 121, .inl f1)), (o + 3, 0, x0, .inr (4, [.ref y0])), (o + 4, 0, y0, .inl (0, 121, .inl f0)), (o + 1, 2, l2, .inr (10, [.int 0, .ref e0, .int 0])), (o + 1, 1, l1, .inr (10, [.int 0, .ref e0, .int 0])), (o + 1, 0, l0, .inr (10, [.int 0, .ref e0, .int 0]))]
def adT (E : Nat → Nat) (a3 a4 : Nat) (f g : xAd) : xAd := fun p i => if p < 20 then f p i else if 50 ≤ p ∧ p < 70 then g (p - 50) i else match p with | 30 => E 0 | 31 => E 1 | 32 => E 2 | 33 => E 3 | 34 => E 4 | 36 => a3 | 37 => a4 | _ => 0
theorem ob_cells {o e0 a0 l0 l1 l2 x0 y0 x1 y1 b0 c0 s0 : Nat} {f0 f1 g : Nat → Int32} {L : List xC} {lo : Nat → Nat → Prop} (hL : ∀ x ∈ obL o e0 a0 l0 l1 l2 x0 y0 x1 y1 b0 c0 s0 f0 f1 g, x ∈ L) (h0 : ∀ j, j < 121 → f0 j = I 100) (h1 : ∀ j, j < 121 → f1 j = I 0) (hg : ∀ j : Nat, j < 16 → g j = I 0) (hlo : ∀ p i, 14 ≤ p → p < 20 → ¬ lo p i) {p i : Nat} (hp : p < 20) (hl : clv q0 lo p i) : ∃ x ∈ L, x.1 = o + p ∧ x.2.1 = i ∧ adO e0 a0 l0 l1 l2 x0 y0 x1 y1 b0 c0 s0 p i = x.2.2.1 ∧ sim x.2.2.2 (cel (adO e0 a0 l0 l1 l2 x0 y0 x1 y1 b0 c0 s0) p i (s0i p i)) := by
  obtain rfl | rfl | rfl | rfl | rfl | rfl | rfl | rfl | rfl | rfl | rfl | rfl | rfl | rfl | rfl | rfl | rfl | rfl | rfl | rfl : p = 0 ∨ p = 1 ∨ p = 2 ∨ p = 3 ∨ p = 4 ∨ p = 5 ∨ p = 6 ∨ p = 7 ∨ p = 8 ∨ p = 9 ∨ p = 10 ∨ p = 11 ∨ p = 12 ∨ p = 13 ∨ p = 14 ∨ p = 15 ∨ p = 16 ∨ p = 17 ∨ p = 18 ∨ p = 19 := by omega
  · have hl : i = 0 := hl
    subst hl
    exact ⟨_, hL _ (List.mem_of_getElem? (i := 0) rfl), rfl, rfl, rfl, rfl⟩
  · have hl : i < 3 := hl
    obtain rfl | rfl | rfl : i = 0 ∨ i = 1 ∨ i = 2 := by omega
    · exact ⟨_, hL _ (List.mem_of_getElem? (i := 10) rfl), rfl, rfl, rfl, rfl⟩
    · exact ⟨_, hL _ (List.mem_of_getElem? (i := 9) rfl), rfl, rfl, rfl, rfl⟩
    · exact ⟨_, hL _ (List.mem_of_getElem? (i := 8) rfl), rfl, rfl, rfl, rfl⟩
  · exact hl.2.elim
  · skip
    have hl : i = 0 ∨ i = 100 ∨ (200 ≤ i ∧ i < 200 + 0) ∨ (300 ≤ i ∧ i < 300 + 0) ∨ (400 ≤ i ∧ i < 400 + 0) := hl
    obtain rfl | rfl : i = 0 ∨ i = 100 := by omega
    · exact ⟨_, hL _ (List.mem_of_getElem? (i := 6) rfl), rfl, rfl, rfl, rfl⟩
    · exact ⟨_, hL _ (List.mem_of_getElem? (i := 4) rfl), rfl, rfl, rfl, rfl⟩
  · skip
    have hl : i = 0 ∨ i = 100 ∨ (200 ≤ i ∧ i < 200 + 0) ∨ (300 ≤ i ∧ i < 300 + 0) ∨ (400 ≤ i ∧ i < 400 + 0) := hl
    obtain rfl | rfl : i = 0 ∨ i = 100 := by omega
    · exact ⟨_, hL _ (List.mem_of_getElem? (i := 7) rfl), rfl, rfl, rfl, ⟨rfl, rfl, h0⟩⟩
    · exact ⟨_, hL _ (List.mem_of_getElem? (i := 5) rfl), rfl, rfl, rfl, ⟨rfl, rfl, h1⟩⟩
  · exact absurd hl (Nat.not_lt_zero i)
  · exact absurd hl (Nat.not_lt_zero i)
  · exact absurd hl (Nat.not_lt_zero i)
  · exact absurd hl (Nat.not_lt_zero i)
  · exact absurd hl (Nat.not_lt_zero i)
  · obtain rfl : i = 9999 := hl.elim id (fun h => h.elim)
    exact ⟨_, hL _ (List.mem_of_getElem? (i := 1) rfl), rfl, rfl, rfl, rfl⟩
  · exact absurd hl (Nat.not_lt_zero i)
  · have hl : i = 0 := hl
    subst hl
    exact ⟨_, hL _ (List.mem_of_getElem? (i := 2) rfl), rfl, rfl, rfl, rfl⟩
  · have hl : i = 0 := hl
    subst hl
    exact ⟨_, hL _ (List.mem_of_getElem? (i := 3) rfl), rfl, rfl, rfl, ⟨rfl, rfl, hg⟩⟩
  · exact absurd hl (hlo _ _ (by decide) (by decide))
  · exact absurd hl (hlo _ _ (by decide) (by decide))
  · exact absurd hl (hlo _ _ (by decide) (by decide))
  · exact absurd hl (hlo _ _ (by decide) (by decide))
  · exact absurd hl (hlo _ _ (by decide) (by decide))
  · exact absurd hl (hlo _ _ (by decide) (by decide))
section START2
variable {E : Nat → Nat} {ad : xAd} {q : xL} {lo : Nat → Nat → Prop} {s u u' : xS} {co : Nat → Nat → xE} {t : xT}
theorem first_GQ (h2 : ∀ k, ad 2 k = E 0) : GQ E ad q0 s0i := by
  have hl : ∀ k, LQ E ad q0 s0i k 0 := fun k => ⟨⟨rfl, Int.le_refl 0, show (0 : Int) ≤ 1000 by decide, fun j hj => absurd hj (Nat.not_lt_zero j), fun h => absurd h (by decide)⟩, fun j _ => rfl, Or.inl ⟨rfl, h2 k⟩, show (0 : Int) ≤ 100 by decide⟩
  refine ⟨hl 0, hl 1, hl 2, fun l m hl => absurd hl (Nat.not_lt_zero l), ⟨⟨by decide, by decide⟩, Or.inl rfl, fun j _ => ?_⟩, ⟨by decide, by decide, by decide⟩, fun i h => h.elim⟩
  show -128 ≤ (if j + 1 = 0 then (16 : Int) else 0) ∧ (if j + 1 = 0 then (16 : Int) else 0) ≤ 127
  rw [if_neg (by omega)]
  decide
theorem first_DRel {D P : Int} : DRel 0 0 0 D P s0i u0i := by
  refine ⟨⟨⟨fun f hf => absurd hf (Nat.not_lt_zero f), fun l hl => absurd hl (Nat.not_lt_zero l), fun l hl => absurd hl (Nat.not_lt_zero l), fun r hr => absurd hr (Nat.not_lt_zero r), ⟨by decide, fun m _ => ⟨by show 50 ≤ (100 : Int) ∧ (100 : Int) ≤ 200; decide, by show 0 ≤ (0 : Int) ∧ (0 : Int) ≤ 10000000; decide⟩⟩, fun m _ _ => ⟨rfl, fun f hf => absurd hf (Nat.not_lt_zero f)⟩, fun l hl => absurd hl (Nat.not_lt_zero l), rfl, ⟨fun f _ hf => ⟨rfl, rfl, fun m => ?_, fun m => ?_⟩, fun l _ hl => ⟨rfl, rfl, fun _ _ => rfl, fun _ => rfl, fun m => ?_⟩, fun r _ _ => ⟨rfl, rfl⟩⟩⟩, fun p i k hc => ?_, ⟨fun m hm => ?_, rfl, rfl, fun f hf => ?_, fun l hl => absurd hl (Nat.not_lt_zero l)⟩, fun f hf => absurd hf (Nat.not_lt_zero f)⟩, ⟨by decide, by decide⟩⟩
  · show (if 200 + f = 0 then (100 : Int) else if 200 + f = 100 then 0 else if 300 ≤ 200 + f ∧ 200 + f < 400 then 0 else -1) = -1
    rw [if_neg (by omega), if_neg (by omega), if_neg (by omega)]
  · show (if 300 + f = 0 then (100 : Int) else if 300 + f = 100 then 0 else if 300 ≤ 300 + f ∧ 300 + f < 400 then 0 else -1) = 0
    rw [if_neg (by omega), if_neg (by omega), if_pos (by omega)]
  · show (if 400 + l = 0 then (100 : Int) else if 400 + l = 100 then 0 else if 300 ≤ 400 + l ∧ 400 + l < 400 then 0 else -1) = -1
    rw [if_neg (by omega), if_neg (by omega), if_neg (by omega)]
  · unfold Cm at hc
    split at hc
    · obtain ⟨rfl, rfl⟩ := hc
      rfl
    · rfl
    · rfl
    · rfl
    · rfl
    · rfl
    · rfl
    · rfl
    · rfl
    · exact hc.elim
  · have hm0 : m = 0 := by
      have : nowN s0i = 0 := rfl
      omega
    subst hm0
    rfl
  · show (0 : Int) = (if 300 + f = 0 then (100 : Int) else if 300 + f = 100 then 0 else if 300 ≤ 300 + f ∧ 300 + f < 400 then 0 else -1)
    rw [if_neg (by omega), if_neg (by omega), if_pos (by omega)]

theorem build2 {sl : Nat} {sx : Nat → Int32} {a3 b a0 l0 l1 l2 x0 y0 x1 y1 b0 c0 s0 a0' l0' l1' l2' x0' y0' x1' y1' b0' c0' s0' : Nat} {f0 f1 g f0' f1' g' : Nat → Int32} (h0 : ∀ j, j < 121 → f0 j = I 100) (h1 : ∀ j, j < 121 → f1 j = I 0) (hg : ∀ j : Nat, j < 16 → g j = I 0) (h0' : ∀ j, j < 121 → f0' j = I 100) (h1' : ∀ j, j < 121 → f1' j = I 0) (hg' : ∀ j : Nat, j < 16 → g' j = I 0) (h : Rw t ((36, 0, a3, .inl (1, 12, .inr (.inl fun _ => 0))) :: (obL 50 (E 0) a0' l0' l1' l2' x0' y0' x1' y1' b0' c0' s0' f0' f1' g' ++ (obL 0 (E 0) a0 l0 l1 l2 x0 y0 x1 y1 b0 c0 s0 f0 f1 g ++ [(30, 0, E 0, coE E 30 0), (31, 0, E 1, coE E 31 0), (32, 0, E 2, coE E 32 0), (33, 0, E 3, coE E 33 0), (34, 0, E 4, coE E 34 0), (37, 0, b, .inl (9, sl, .inl sx))])))) : RR (adT E a3 b (adO (E 0) a0 l0 l1 l2 x0 y0 x1 y1 b0 c0 s0) (adO (E 0) a0' l0' l1' l2' x0' y0' x1' y1' b0' c0' s0')) q0 (lo2 q0) s0i w0 (co2 E (fun _ => 0) sl sx (adO (E 0) a0' l0' l1' l2' x0' y0' x1' y1' b0' c0' s0') s0i) t := by
  refine h.rel (fun p i hl => ?_)
  by_cases c1 : p < 20
  · obtain ⟨x, hx, e1, e2, e3, e4⟩ := ob_cells (lo := lo2 q0) (fun x hx => List.mem_cons_of_mem _ (List.mem_append_right _ (List.mem_append_left _ hx))) h0 h1 hg (fun p i g1 g2 hq => by unfold lo2 at hq; rw [if_neg (by omega)] at hq; omega) c1 hl
    refine ⟨x, hx, by omega, e2, (if_pos c1).trans e3, ?_⟩
    unfold xce
    rw [if_pos c1, cel_congr (ad' := adT E a3 b (adO (E 0) a0 l0 l1 l2 x0 y0 x1 y1 b0 c0 s0) (adO (E 0) a0' l0' l1' l2' x0' y0' x1' y1' b0' c0' s0')) (ad := (adO (E 0) a0 l0 l1 l2 x0 y0 x1 y1 b0 c0 s0)) (fun p i h => if_pos h)]
    exact e4
  · by_cases c2 : 50 ≤ p ∧ p < 70
    · have hl2 : clv q0 (fun _ _ => False) (p - 50) i := by
        obtain ⟨r, rfl⟩ : ∃ r, p = r + 22 := ⟨p - 22, by omega⟩
        have g1 : lo2 q0 (r + 22) i := hl
        unfold lo2 at g1
        rw [if_pos c2] at g1
        exact g1
      obtain ⟨x, hx, e1, e2, e3, e4⟩ := ob_cells (fun x hx => List.mem_cons_of_mem _ (List.mem_append_left _ hx)) h0' h1' hg' (fun _ _ _ _ hq => hq) (show p - 50 < 20 by omega) hl2
      refine ⟨x, hx, by omega, e2, ?_, ?_⟩
      · unfold adT
        rw [if_neg c1, if_pos c2]
        exact e3
      · unfold xce
        rw [if_neg c1, if_neg (by omega)]
        unfold co2
        rw [if_pos c2]
        exact e4
    · by_cases c3 : p < 22
      · have : p = 20 ∨ p = 21 := by omega
        rcases this with rfl | rfl
        · exact hl.elim
        · exact hl.elim
      · obtain ⟨r, hr⟩ : ∃ r, p = r + 22 := ⟨p - 22, by omega⟩
        have g1 : lo2 q0 p i := by
          subst hr
          exact hl
        unfold lo2 at g1
        rw [if_neg c2] at g1
        obtain ⟨hp, rfl⟩ := g1
        clear hr hl c1 c2 c3
        obtain rfl | rfl | rfl | rfl | rfl | rfl | rfl := hp
        · exact ⟨_, List.mem_of_getElem? (i := 23) rfl, rfl, rfl, rfl, ⟨rfl, rfl, fun j hj => rfl⟩⟩
        · exact ⟨_, List.mem_of_getElem? (i := 24) rfl, rfl, rfl, rfl, ⟨rfl, rfl, fun j hj => rfl⟩⟩
        · exact ⟨_, List.mem_of_getElem? (i := 25) rfl, rfl, rfl, rfl, ⟨rfl, rfl, fun j hj => rfl⟩⟩
        · exact ⟨_, List.mem_of_getElem? (i := 26) rfl, rfl, rfl, rfl, rfl⟩
        · exact ⟨_, List.mem_of_getElem? (i := 27) rfl, rfl, rfl, rfl, ⟨rfl, rfl, fun j hj => rfl⟩⟩
        · exact ⟨_, List.mem_of_getElem? (i := 0) rfl, rfl, rfl, rfl, ⟨rfl, rfl, fun j hj => rfl⟩⟩
        · exact ⟨_, List.mem_of_getElem? (i := 28) rfl, rfl, rfl, rfl, ⟨rfl, rfl, fun j hj => rfl⟩⟩
theorem law_start {sl b : Nat} {sx : Nat → Int32} {t0 : xT} {rc rs : Nat} (hsl : sl ≤ 260) (h : Rw t0 [(30, 0, E 0, coE E 30 0), (31, 0, E 1, coE E 31 0), (32, 0, E 2, coE E 32 0), (33, 0, E 3, coE E 33 0), (34, 0, E 4, coE E 34 0), (37, 0, b, .inl (9, sl, .inl sx))]) (hrc : 600130 ≤ rc) (hrs : 7301080 ≤ rs) : V_L_law_0 E b t0 rc rs := by
  unfold V_L_law_0
  refine Rw.nw h 0 0 (by omega) (by omega) (fun a1 t h => ?_)
  refine ⟨20, 400, by omega, by omega, Rw.cls (o := 0) h (fun t l0 l1 l2 x0 y0 x1 y1 b0 c0 s0 f0 f1 g hv0 hv1 hg h => ?_)⟩
  refine Rw.nw h 50 0 (by omega) (by omega) (fun a2 t h => ?_)
  refine ⟨20, 400, by omega, by omega, Rw.cls (o := 50) h (fun t l0' l1' l2' x0' y0' x1' y1' b0' c0' s0' f0' f1' g' hv0' hv1' hg' h => ?_)⟩
  have n12 : (12 : Int32).toNatClampNeg = 12 := rfl
  rw [n12]
  refine ⟨by decide, by decide, by omega, by rw [n12]; omega, fun a3 hq => ?_⟩
  have h3 := h.add (e := .inl (1, (12 : Int32).toNatClampNeg, .inr (.inl (fun _ => 0)))) hq 36 0
  clear h
  have hR := build2 (E := E) (sl := sl) (sx := sx) (a3 := a3) (b := b) hv0 hv1 hg hv0' hv1' hg' h3
  have hT : T2 E sl sx (fun _ => 0) a3 b a1 1 u0i a2 1 u0i 0 0 _ := ⟨_, _, q0, q0, s0i, s0i, hR, fun p i hp => ?_, ⟨rfl, rfl, rfl, rfl⟩, ⟨rfl, rfl, rfl, rfl, rfl⟩, ⟨first_GQ (fun k => rfl), first_DRel, by decide⟩, first_GQ (fun k => rfl), first_DRel, by decide⟩
  · refine T2.cell (z0 := 0) hT hsl (by decide) (fun x4 => ⟨5, ?_⟩)
    refine l34 (C0 := 560000) (S0 := 7000000) hsl rem_all 4 0 u0i _ _ _ (by decide) hT ⟨rfl, rfl, rfl, fun l hl => ?_⟩ (by clear hT hR h3; omega) (by clear hT hR h3; omega)
    unfold PD
    rw [TT_0 (fun m => rfl)]
    rfl
  · show _ = adT E a3 b _ _ (p + 50) i
    unfold adT
    rw [if_neg (by omega), if_pos (by omega), show p + 50 - 50 = p by omega]
end START2
