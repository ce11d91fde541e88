section ORD4
variable {E : Nat → Nat} {aa : Nat → Int64} {sl : Nat} {sx : Nat → Int32} {a1 a2 a3 a4 L1 L2 L m z N rc rs : Nat} {u u1 u2 : xS} {D P D' P' : Int} {t : xT} {a b c : Int} {KX : String → xT → Prop} {K : Int32 → xT → Prop} {R8 : Nat → Nat → Int64 → Int32 → Int32 → xT → Nat → Nat → Prop}
theorem T2.ten (hT : T2 E sl sx aa a3 a4 a1 L1 u1 a2 L2 u2 D P t) (hB : Bd D P) {l : Nat} (hl : (l : Int) < u1 1 1 2) : -1000000000000 ≤ u1 6 l 5 ∧ u1 6 l 5 ≤ 1000000000000 := by
  obtain ⟨ad, ad2, q1, q2, s1, s2, hR, hA, ⟨e1, e2, e3, e4⟩, hE, ⟨g1, g2, g3⟩, j⟩ := hT
  have hL : OB E (lo2 q2) (co2 E aa sl sx ad2 s2) D P ad q1 s1 u1 := ⟨hE.RO, g1, g2⟩
  have := hL.u0
  exact hL.ten (by have := hB.2; omega) (by omega)
/-- what the first k leases owe and are owed -/
def acS (u : xS) (k : Nat) : Int := sumn (fun l => if (l : Int) < u 1 1 2 then u 6 l 5 + u 6 l 6 else 0) k
theorem acS_ow (h0 : 0 ≤ u 1 1 2 ∧ u 1 1 2 ≤ 12) : ow u = -acS u 12 := by
  unfold ow acS
  have e1 := sumn_tail (g := fun l : Nat => if (l : Int) < u 1 1 2 then u 6 l 5 + u 6 l 6 else 0) (a := (u 1 1 2).toNat) (12 - (u 1 1 2).toNat) (fun j h1 h2 => if_neg (by omega))
  rw [show (u 1 1 2).toNat + (12 - (u 1 1 2).toNat) = 12 by omega] at e1
  rw [e1]
  congr 1
  exact (sumn_congr _ (fun l hl => if_pos (by omega))).symm
theorem io_280 {k : Nat} {y2 y8 : Int64} (hB : Bd D P) (hk : (k : Int) < u 1 1 2) (e8 : y8 = J (u 6 k 5)) (hT : T2 E sl sx aa a3 a4 a1 L1 u a2 L2 u2 D P t) (hG : BG (N + 2) (L1 + L2) rc rs) (kk : ∀ L1 t rc rs, T2 E sl sx aa a3 a4 a1 L1 u a2 L2 u2 D P t → BG N (L1 + L2) rc rs → R8 a1 a3 (y2 + (J (u 6 k 5) + J (u 6 k 6))) (1 : Int32) (I k + 1) t rc rs) : V_L_isInOrder_280 E R8 KX K a1 a3 y2 (1 : Int32) (I k) (J (u 6 k 5)) y8 t rc rs := by
  unfold V_L_isInOrder_280
  have ha : 0 ≤ (k : Int) ∧ (k : Int) < u 1 1 2 := ⟨by omega, hk⟩
  refine xbf (by decide) (xst e8 ?_)
  refine hT.anew (N := N + 1) (a := k) ha hG (fun m z t hT hG => xst rfl ?_)
  exact hT.desk (N := N) (a := k) ha hG (fun m z hG => kk _ _ _ _ hT hG)
theorem io_8 (hB : Bd D P) (haa : ∀ l, l < 12 → aa l = J (PD u l)) (hday : u 0 0 8 ≤ 479) : ∀ (r k L1 : Nat) (t : xT) (rc rs : Nat), k + r = 12 → T2 E sl sx aa a3 a4 a1 L1 u a2 L2 u2 D P t → BG (N + 110 * r) (L1 + L2) rc rs → (∀ L1 t, T2 E sl sx aa a3 a4 a1 L1 u a2 L2 u2 D P t → K 1 t) → V_L_isInOrder_8 E KX K (r + 1) a1 a3 (J (acS u k)) (1 : Int32) (I k) t rc rs := by
  intro r
  induction r with
  | zero =>
    intro k L1 t rc rs hk hT hG kk
    show VS_L_isInOrder_8 E (V_L_isInOrder_8 E KX K 0) KX K a1 a3 _ 1 (I k) t rc rs
    unfold VS_L_isInOrder_8
    refine xbt (by (try simp only [I_lit, J_lit, I_ofNat, I_neg, I_add, I_sub, I_mul, J_neg, J_add, J_sub, J_mul]); first | (rw [I_lt ⟨by omega, by omega⟩ ⟨by omega, by omega⟩]; omega) | (rw [I_le ⟨by omega, by omega⟩ ⟨by omega, by omega⟩]; omega) | (rw [I_eq ⟨by omega, by omega⟩ ⟨by omega, by omega⟩]; omega) | (rw [J_lt ⟨by omega, by omega⟩ ⟨by omega, by omega⟩]; omega) | (rw [J_le ⟨by omega, by omega⟩ ⟨by omega, by omega⟩]; omega) | (rw [J_eq ⟨by omega, by omega⟩ ⟨by omega, by omega⟩]; omega)) ?_
    unfold V_L_isInOrder_330
    refine xbf (by decide) ?_
    obtain rfl : k = 12 := by omega
    have hn := hT.nn
    refine hT.owner (xst ?_ (kk _ _ hT))
    rw [acS_ow ⟨hn.1, hn.2.1⟩, J_neg]
  | succ r ih =>
    intro k L1 t rc rs hk hT hG kk
    show VS_L_isInOrder_8 E (V_L_isInOrder_8 E KX K (r + 1)) KX K a1 a3 _ 1 (I k) t rc rs
    unfold VS_L_isInOrder_8
    have hn := hT.nn
    have em : I (k : Int) + 1 = I ((k + 1 : Nat) : Int) := I_add _ 1
    have hac : acS u (k + 1) = acS u k + (if (k : Int) < u 1 1 2 then u 6 k 5 + u 6 k 6 else 0) := rfl
    refine xbf (by (try simp only [I_lit, J_lit, I_ofNat, I_neg, I_add, I_sub, I_mul, J_neg, J_add, J_sub, J_mul]); first | (rw [I_lt ⟨by omega, by omega⟩ ⟨by omega, by omega⟩]; omega) | (rw [I_le ⟨by omega, by omega⟩ ⟨by omega, by omega⟩]; omega) | (rw [I_eq ⟨by omega, by omega⟩ ⟨by omega, by omega⟩]; omega) | (rw [J_lt ⟨by omega, by omega⟩ ⟨by omega, by omega⟩]; omega) | (rw [J_le ⟨by omega, by omega⟩ ⟨by omega, by omega⟩]; omega) | (rw [J_eq ⟨by omega, by omega⟩ ⟨by omega, by omega⟩]; omega)) (xbf (by decide) ?_)
    refine hT.ask (N := N + 110 * r + 109) hB 0 (by decide) rfl (I k) 0 0 (by unfold BG at hG ⊢; omega) (fun m z L1 t hT hG => ?_)
    by_cases c : (k : Int) < u 1 1 2
    · have ev : av 0 (I (k : Int)).toInt (0 : Int32).toInt (0 : Int32).toInt u = u 6 k 5 := by
        rw [I_toInt ⟨by omega, by omega⟩]
        exact av_some (if_pos ⟨by omega, c⟩)
      have htn := hT.ten hB c
      rw [ev]
      refine xbf (rgV.ne ⟨by omega, by omega⟩) (hT.row (a := k) (by omega) ?_)
      have e : -(aa (k : Int).toNat) = J (-PD u k + sumn (bb u k) 0) := by
        rw [show (k : Int).toNat = k from rfl, haa k (by omega), J_neg]
        exact congrArg J (show -PD u k = -PD u k + sumn (bb u k) 0 from (Int.add_zero _).symm)
      rw [e]
      refine ⟨(u 0 0 8 / 30).toNat + 1 + 1, io_51 (N := N + 110 * r + 2) hB c ((u 0 0 8 / 30).toNat + 1) 0 _ _ _ _ (by omega) hT (by unfold BG at hG ⊢; omega) (fun L1 t rc rs hT hG => ?_)⟩
      have htt := hT.bb0 (k := k) (m := (u 0 0 8 / 30).toNat + 1) c (by omega) (by omega)
      refine io_280 (N := N + 110 * r) hB c ?_ hT hG (fun L1 t rc rs hT hG => ?_)
      · rw [htt]
        exact congrArg J (by unfold PD; omega)
      · rw [if_pos c] at hac
        rw [em, show J (acS u k) + (J (u 6 k 5) + J (u 6 k 6)) = J (acS u (k + 1)) by rw [hac, J_add, J_add]]
        exact ih (k + 1) _ _ _ _ (by omega) hT hG kk
    · have ev : av 0 (I (k : Int)).toInt (0 : Int32).toInt (0 : Int32).toInt u = -9000000000000 := by
        rw [I_toInt ⟨by omega, by omega⟩]
        exact av_none (if_neg (by omega))
      rw [ev]
      rw [if_neg c] at hac
      refine xbt rfl ?_
      rw [em, show J (acS u k) = J (acS u (k + 1)) from congrArg J (by omega)]
      exact ih (k + 1) _ _ _ _ (by omega) hT (by unfold BG at hG ⊢; omega) kk
theorem isInOrder_ok {rc rs : Nat} (hT : T2 E sl sx aa a3 a4 a1 1 u1 a2 1 u2 D P t) (hB : Bd D P) (haa : ∀ l, l < 12 → aa l = J (PD u1 l)) (hday : u1 0 0 8 ≤ 479) (hG : 8000 ≤ rc ∧ 60800 ≤ rs) (kk : ∀ t, T2 E sl sx aa a3 a4 a1 1 u1 a2 1 u2 D P t → K 1 t) : V_L_isInOrder_0 E KX K a1 a3 t rc rs := by
  unfold V_L_isInOrder_0
  exact ⟨13, io_8 (N := 0) hB haa hday 12 0 1 t rc rs (by omega) hT (by unfold BG; omega) (fun L1 t hT => kk t hT.l1)⟩
end ORD4
