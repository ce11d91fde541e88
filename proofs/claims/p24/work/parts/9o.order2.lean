theorem av_some {h : Nat} {a b c v : Int} {u : xS} (hd : doA h a b c u = some v) : av h a b c u = v := by
  unfold av
  rw [hd]
theorem av_none {h : Nat} {a b c : Int} {u : xS} (hd : doA h a b c u = none) : av h a b c u = -9000000000000 := by
  unfold av
  rw [hd]
theorem doA3 {a b c : Int} {u : xS} (h : ((0 ≤ a ∧ a < u 1 1 2) ∧ 0 ≤ b ∧ b ≤ u 0 0 8 / 30) ∧ 0 ≤ c ∧ c ≤ 3) : doA 3 a b c u = some (if u 9 a.toNat b.toNat = 0 then -1 else u 10 (200 * a.toNat + b.toNat) c.toNat) := if_pos h
section ORD3
variable {E : Nat → Nat} {aa : Nat → Int64} {sl : Nat} {sx : Nat → Int32} {a1 a2 a3 a4 L1 L2 L m z N rc rs : Nat} {u u1 u2 : xS} {D P D' P' : Int} {t : xT} {a b c : Int} {KX : String → xT → Prop} {K : Int32 → xT → Prop} {R8 : Nat → Nat → Int64 → Int32 → Int32 → xT → Nat → Nat → Prop}
/-- the months of a lease -/
theorem io_51 {k : Nat} {y2 y6 : Int64} {z0 : Int} (hB : Bd D P) (hk : (k : Int) < u 1 1 2) : ∀ (r m L1 : Nat) (t : xT) (rc rs : Nat), (m : Int) + r = u 0 0 8 / 30 + 1 → T2 E sl sx aa a3 a4 a1 L1 u a2 L2 u2 D P t → BG (N + 6 * r + 1) (L1 + L2) rc rs → (∀ L1 t rc rs, T2 E sl sx aa a3 a4 a1 L1 u a2 L2 u2 D P t → BG N (L1 + L2) rc rs → V_L_isInOrder_280 E R8 KX K a1 a3 y2 (1 : Int32) (I k) y6 (J (z0 + sumn (bb u k) ((u 0 0 8 / 30).toNat + 1))) t rc rs) → V_L_isInOrder_51 E R8 KX K (r + 1) a1 a3 y2 (1 : Int32) (I k) y6 (J (z0 + sumn (bb u k) m)) (I m) t rc rs := by
  intro r
  induction r with
  | zero =>
    intro m L1 t rc rs hm hT hG kk
    show VS_L_isInOrder_51 E R8 (V_L_isInOrder_51 E R8 KX K 0) KX K a1 a3 y2 1 (I k) y6 _ (I m) t rc rs
    unfold VS_L_isInOrder_51
    have hn := hT.nn
    refine hT.ask (N := N) hB 3 (by decide) rfl (I k) (I m) 0 hG (fun m' z L1 t hT hG => ?_)
    have ev : av 3 (I (k : Int)).toInt (I (m : Int)).toInt (0 : Int32).toInt u = -9000000000000 := by
      rw [I_toInt ⟨by omega, by omega⟩, I_toInt ⟨by omega, by omega⟩]
      exact av_none (if_neg (by omega))
    rw [ev]
    refine xbt rfl ?_
    have e : m = (u 0 0 8 / 30).toNat + 1 := by omega
    rw [e]
    exact kk _ _ _ _ hT hG
  | succ r ih =>
    intro m L1 t rc rs hm hT hG kk
    show VS_L_isInOrder_51 E R8 (V_L_isInOrder_51 E R8 KX K (r + 1)) KX K a1 a3 y2 1 (I k) y6 _ (I m) t rc rs
    unfold VS_L_isInOrder_51
    have hn := hT.nn
    have hbf := hT.bf (k := k) (m := m) hk (by omega)
    have em : I (m : Int) + 1 = I ((m + 1 : Nat) : Int) := I_add _ 1
    have hbb : sumn (bb u k) (m + 1) = sumn (bb u k) m + bb u k m := rfl
    have ha : 0 ≤ (k : Int) ∧ (k : Int) < u 1 1 2 := ⟨by omega, hk⟩
    have hb : 0 ≤ (m : Int) ∧ (m : Int) ≤ u 0 0 8 / 30 := ⟨by omega, by omega⟩
    refine hT.ask (N := N + 6 * r + 6) hB 3 (by decide) rfl (I k) (I m) 0 (by unfold BG at hG ⊢; omega) (fun m' z L1 t hT hG => ?_)
    by_cases c : u 9 k m = 0
    · have ev : av 3 (I (k : Int)).toInt (I (m : Int)).toInt (0 : Int32).toInt u = -1 := by
        rw [I_toInt ⟨by omega, by omega⟩, I_toInt ⟨by omega, by omega⟩]
        exact (av_some (doA3 ⟨⟨ha, hb⟩, by decide⟩)).trans (if_pos c)
      rw [ev]
      refine xbf (by decide) (xbf (by decide) ?_)
      refine hT.bill (N := N + 6 * r + 5) (a := k) (b := m) (c := 0) ha hb (by decide) hG (if_pos c) (fun m' z hG => ?_)
      refine hT.bill (N := N + 6 * r + 4) (a := k) (b := m) (c := 1) ha hb (by decide) hG (if_pos c) (fun m' z hG => ?_)
      refine hT.bill (N := N + 6 * r + 3) (a := k) (b := m) (c := 2) ha hb (by decide) hG (if_pos c) (fun m' z hG => ?_)
      refine hT.bill (N := N + 6 * r + 2) (a := k) (b := m) (c := 3) ha hb (by decide) hG (if_pos c) (fun m' z hG => ?_)
      refine xst rfl (xst rfl (xst rfl (xst rfl ?_)))
      refine hT.line (N := N + 6 * r + 1) (a := k) (b := m) ha hb hG (if_pos c) (fun m' z L1 t hT hG => xst rfl ?_)
      unfold V_L_isInOrder_243
      refine xst rfl ?_
      have e0 : bb u k m = 0 := if_pos c
      rw [em, show J (z0 + sumn (bb u k) m) + (0 : Int64) = J (z0 + sumn (bb u k) (m + 1)) by rw [hbb, e0, show (0 : Int64) = J 0 from rfl, J_add]; congr 1; omega]
      exact ih (m + 1) _ _ _ _ (by omega) hT hG kk
    · obtain ⟨h0, hb0, hb1, hb2, hb3⟩ := hbf.2 c
      have ev : av 3 (I (k : Int)).toInt (I (m : Int)).toInt (0 : Int32).toInt u = u 10 (200 * k + m) 0 := by
        rw [I_toInt ⟨by omega, by omega⟩, I_toInt ⟨by omega, by omega⟩]
        exact (av_some (doA3 ⟨⟨ha, hb⟩, by decide⟩)).trans (if_neg c)
      have e0 : bb u k m = u 10 (200 * k + m) 0 - u 10 (200 * k + m) 1 - u 10 (200 * k + m) 2 + u 10 (200 * k + m) 3 := if_neg c
      rw [ev]
      refine xbf (rgV.ne ⟨by omega, by omega⟩) (xbf (by decide) ?_)
      refine hT.bill (N := N + 6 * r + 5) (a := k) (b := m) (c := 0) (v := u 10 (200 * k + m) 0) ha hb (by decide) hG (if_neg c) (fun m' z hG => ?_)
      refine hT.bill (N := N + 6 * r + 4) (a := k) (b := m) (c := 1) (v := u 10 (200 * k + m) 1) ha hb (by decide) hG (if_neg c) (fun m' z hG => ?_)
      refine hT.bill (N := N + 6 * r + 3) (a := k) (b := m) (c := 2) (v := u 10 (200 * k + m) 2) ha hb (by decide) hG (if_neg c) (fun m' z hG => ?_)
      refine hT.bill (N := N + 6 * r + 2) (a := k) (b := m) (c := 3) (v := u 10 (200 * k + m) 3) ha hb (by decide) hG (if_neg c) (fun m' z hG => ?_)
      generalize hg0 : u 10 (200 * k + m) 0 = b0 at *
      generalize hg1 : u 10 (200 * k + m) 1 = b1 at *
      generalize hg2 : u 10 (200 * k + m) 2 = b2 at *
      generalize hg3 : u 10 (200 * k + m) 3 = b3 at *
      have n1 : ¬ J b0 = (-1 : Int64) := fun h => by
        have := (J_eq (b := -1) ⟨by omega, by omega⟩ ⟨by decide, by decide⟩).mp h
        omega
      rw [show (8 : Int64) = J 8 from rfl, show (10 : Int64) = J 10 from rfl, J_sub, J_mul, J_div ⟨by omega, by omega⟩ ⟨by decide, by decide⟩ (by omega) (by decide)]
      refine xsf n1 (xbf (by (try simp only [I_lit, J_lit, I_ofNat, I_neg, I_add, I_sub, I_mul, J_neg, J_add, J_sub, J_mul]); first | (rw [I_lt ⟨by omega, by omega⟩ ⟨by omega, by omega⟩]; omega) | (rw [I_le ⟨by omega, by omega⟩ ⟨by omega, by omega⟩]; omega) | (rw [I_eq ⟨by omega, by omega⟩ ⟨by omega, by omega⟩]; omega) | (rw [J_lt ⟨by omega, by omega⟩ ⟨by omega, by omega⟩]; omega) | (rw [J_le ⟨by omega, by omega⟩ ⟨by omega, by omega⟩]; omega) | (rw [J_eq ⟨by omega, by omega⟩ ⟨by omega, by omega⟩]; omega)) (xbf (by (try simp only [I_lit, J_lit, I_ofNat, I_neg, I_add, I_sub, I_mul, J_neg, J_add, J_sub, J_mul]); first | (rw [I_lt ⟨by omega, by omega⟩ ⟨by omega, by omega⟩]; omega) | (rw [I_le ⟨by omega, by omega⟩ ⟨by omega, by omega⟩]; omega) | (rw [I_eq ⟨by omega, by omega⟩ ⟨by omega, by omega⟩]; omega) | (rw [J_lt ⟨by omega, by omega⟩ ⟨by omega, by omega⟩]; omega) | (rw [J_le ⟨by omega, by omega⟩ ⟨by omega, by omega⟩]; omega) | (rw [J_eq ⟨by omega, by omega⟩ ⟨by omega, by omega⟩]; omega)) (xbf (by (try simp only [I_lit, J_lit, I_ofNat, I_neg, I_add, I_sub, I_mul, J_neg, J_add, J_sub, J_mul]); first | (rw [I_lt ⟨by omega, by omega⟩ ⟨by omega, by omega⟩]; omega) | (rw [I_le ⟨by omega, by omega⟩ ⟨by omega, by omega⟩]; omega) | (rw [I_eq ⟨by omega, by omega⟩ ⟨by omega, by omega⟩]; omega) | (rw [J_lt ⟨by omega, by omega⟩ ⟨by omega, by omega⟩]; omega) | (rw [J_le ⟨by omega, by omega⟩ ⟨by omega, by omega⟩]; omega) | (rw [J_eq ⟨by omega, by omega⟩ ⟨by omega, by omega⟩]; omega)) ⟨by decide, xbf (by (try simp only [I_lit, J_lit, I_ofNat, I_neg, I_add, I_sub, I_mul, J_neg, J_add, J_sub, J_mul]); first | (rw [I_lt ⟨by omega, by omega⟩ ⟨by omega, by omega⟩]; omega) | (rw [I_le ⟨by omega, by omega⟩ ⟨by omega, by omega⟩]; omega) | (rw [I_eq ⟨by omega, by omega⟩ ⟨by omega, by omega⟩]; omega) | (rw [J_lt ⟨by omega, by omega⟩ ⟨by omega, by omega⟩]; omega) | (rw [J_le ⟨by omega, by omega⟩ ⟨by omega, by omega⟩]; omega) | (rw [J_eq ⟨by omega, by omega⟩ ⟨by omega, by omega⟩]; omega)) (xbf (by (try simp only [I_lit, J_lit, I_ofNat, I_neg, I_add, I_sub, I_mul, J_neg, J_add, J_sub, J_mul]); first | (rw [I_lt ⟨by omega, by omega⟩ ⟨by omega, by omega⟩]; omega) | (rw [I_le ⟨by omega, by omega⟩ ⟨by omega, by omega⟩]; omega) | (rw [I_eq ⟨by omega, by omega⟩ ⟨by omega, by omega⟩]; omega) | (rw [J_lt ⟨by omega, by omega⟩ ⟨by omega, by omega⟩]; omega) | (rw [J_le ⟨by omega, by omega⟩ ⟨by omega, by omega⟩]; omega) | (rw [J_eq ⟨by omega, by omega⟩ ⟨by omega, by omega⟩]; omega)) ?_)⟩)))
      refine hT.line (N := N + 6 * r + 1) (a := k) (b := m) ha hb hG (if_neg c) (fun m' z L1 t hT hG => xst rfl ?_)
      unfold V_L_isInOrder_243
      refine xsf n1 ?_
      rw [em, show J (z0 + sumn (bb u k) m) + (((J b0 - J b1) - J b2) + J b3) = J (z0 + sumn (bb u k) (m + 1)) by rw [hbb, e0, J_sub, J_sub, J_add, J_add]; congr 1; omega]
      exact ih (m + 1) _ _ _ _ (by omega) hT hG kk
end ORD3
