/-! ===== both objects answer alike ===== -/
/-- the owner's account -/
def ow (u : xS) : Int := -sumn (fun l => u 6 l 5 + u 6 l 6) (u 1 1 2).toNat
section ALK
variable {E : Nat → Nat} {aa : Nat → Int64} {sl : Nat} {sx : Nat → Int32} {a1 a2 a3 a4 L1 L2 L m z : Nat} {u u1 u2 : xS} {D P D' P' : Int} {t : xT} {K : Int32 → xT → Prop}
theorem T2.owner {KJ : Int64 → xT → Prop} (hT : T2 E sl sx aa a3 a4 a1 L1 u1 a2 L2 u2 D P t) (k : KJ (J (ow u1)) t) : xis t a1 7 ∧ V_X7_owner_0 KJ a1 t := by
  refine ⟨hT.x7, ?_⟩
  obtain ⟨ad, ad2, q1, q2, s1, s2, hR, hA, ⟨e1, e2, e3, e4⟩, hE, ⟨g1, g2, g3⟩, j⟩ := hT
  have hS := g2.1.2.1
  have hn : (u1 1 1 2).toNat = q1.2.1 := by
    rw [hS.rn, g1.n1.1]
    omega
  rw [← e1]
  refine sp_owner hR ?_
  have e := g2.1.1.2.2.2.2.2.2.2.1
  unfold GO at e
  rw [e, show -sumn (fun l => s1 6 l 5 + s1 6 l 6) q1.2.1 = ow u1 from ?_]
  · exact k
  · unfold ow
    rw [hn]
    congr 1
    exact (sumn_congr _ (fun l hl => by rw [hS.r6 l 5 (by decide), hS.r6 l 6 (by decide)])).symm
theorem al_171 {R29 : Nat → Nat → Int32 → Int32 → Int32 → Int32 → xT → Nat → Nat → Prop} {x2 x4 x5 : Int32} {N : Nat} (hB : Bd D P) : ∀ (r j L1 L2 : Nat) (t : xT) (rc rs : Nat), j + r = 4 → T2 E sl sx aa a3 a4 a1 L1 u a2 L2 u D P t → BG (N + 4 * r) (L1 + L2) rc rs → (∀ L1 L2 t rc rs, T2 E sl sx aa a3 a4 a1 L1 u a2 L2 u D P t → BG N (L1 + L2) rc rs → R29 a1 a2 x2 1 x4 (x5 + 1) t rc rs) → V_L_areAlike_171 E R29 K (r + 1) a1 a2 x2 (1 : Int32) x4 x5 (I j) t rc rs := by
  intro r
  induction r with
  | zero =>
    intro j L1 L2 t rc rs hj hT hG kk
    show VS_L_areAlike_171 E R29 (V_L_areAlike_171 E R29 K 0) K a1 a2 x2 1 x4 x5 (I j) t rc rs
    unfold VS_L_areAlike_171
    exact xbt (by (try simp only [I_lit, J_lit, I_ofNat, I_neg, I_add, I_sub, I_mul, J_neg, J_add, J_sub, J_mul]); first | (rw [I_lt ⟨by omega, by omega⟩ ⟨by omega, by omega⟩]; omega) | (rw [I_le ⟨by omega, by omega⟩ ⟨by omega, by omega⟩]; omega) | (rw [I_eq ⟨by omega, by omega⟩ ⟨by omega, by omega⟩]; omega) | (rw [J_lt ⟨by omega, by omega⟩ ⟨by omega, by omega⟩]; omega) | (rw [J_le ⟨by omega, by omega⟩ ⟨by omega, by omega⟩]; omega) | (rw [J_eq ⟨by omega, by omega⟩ ⟨by omega, by omega⟩]; omega)) (kk _ _ _ _ _ hT hG)
  | succ r ih =>
    intro j L1 L2 t rc rs hj hT hG kk
    show VS_L_areAlike_171 E R29 (V_L_areAlike_171 E R29 K (r + 1)) K a1 a2 x2 1 x4 x5 (I j) t rc rs
    unfold VS_L_areAlike_171
    refine xbf (by (try simp only [I_lit, J_lit, I_ofNat, I_neg, I_add, I_sub, I_mul, J_neg, J_add, J_sub, J_mul]); first | (rw [I_lt ⟨by omega, by omega⟩ ⟨by omega, by omega⟩]; omega) | (rw [I_le ⟨by omega, by omega⟩ ⟨by omega, by omega⟩]; omega) | (rw [I_eq ⟨by omega, by omega⟩ ⟨by omega, by omega⟩]; omega) | (rw [J_lt ⟨by omega, by omega⟩ ⟨by omega, by omega⟩]; omega) | (rw [J_le ⟨by omega, by omega⟩ ⟨by omega, by omega⟩]; omega) | (rw [J_eq ⟨by omega, by omega⟩ ⟨by omega, by omega⟩]; omega)) (xbf (by decide) ?_)
    refine hT.ask (N := N + 4 * r + 3) hB 3 (by decide) rfl x5 x4 (I j) hG (fun m z L1 t hT hG => ?_)
    refine hT.ask' (N := N + 4 * r + 2) hB 3 (by decide) rfl x5 x4 (I j) hG (fun m z L2 t hT hG => xst rfl (low_k (by decide) ?_))
    refine hT.ask (N := N + 4 * r + 1) hB 4 (by decide) rfl x5 x4 _ hG (fun m z L1 t hT hG => low_k (by decide) ?_)
    refine hT.ask' (N := N + 4 * r) hB 4 (by decide) rfl x5 x4 _ hG (fun m z L2 t hT hG => xst rfl ?_)
    rw [show I (j : Int) + 1 = I ((j + 1 : Nat) : Int) from I_add _ 1]
    exact ih (j + 1) _ _ _ _ _ (by omega) hT hG kk
theorem al_29 {x2 x4 : Int32} {N : Nat} (hB : Bd D P) : ∀ (r k L1 L2 : Nat) (t : xT) (rc rs : Nat), k + r = 12 → T2 E sl sx aa a3 a4 a1 L1 u a2 L2 u D P t → BG (N + 26 * r) (L1 + L2) rc rs → (∀ L1 L2 t, T2 E sl sx aa a3 a4 a1 L1 u a2 L2 u D P t → K 1 t) → V_L_areAlike_29 E K (r + 1) a1 a2 x2 (1 : Int32) x4 (I k) t rc rs := by
  intro r
  induction r with
  | zero =>
    intro k L1 L2 t rc rs hk hT hG kk
    show VS_L_areAlike_29 E (V_L_areAlike_29 E K 0) K a1 a2 x2 1 x4 (I k) t rc rs
    unfold VS_L_areAlike_29
    exact xbt (by (try simp only [I_lit, J_lit, I_ofNat, I_neg, I_add, I_sub, I_mul, J_neg, J_add, J_sub, J_mul]); first | (rw [I_lt ⟨by omega, by omega⟩ ⟨by omega, by omega⟩]; omega) | (rw [I_le ⟨by omega, by omega⟩ ⟨by omega, by omega⟩]; omega) | (rw [I_eq ⟨by omega, by omega⟩ ⟨by omega, by omega⟩]; omega) | (rw [J_lt ⟨by omega, by omega⟩ ⟨by omega, by omega⟩]; omega) | (rw [J_le ⟨by omega, by omega⟩ ⟨by omega, by omega⟩]; omega) | (rw [J_eq ⟨by omega, by omega⟩ ⟨by omega, by omega⟩]; omega)) ⟨rfl, kk _ _ _ hT⟩
  | succ r ih =>
    intro k L1 L2 t rc rs hk hT hG kk
    show VS_L_areAlike_29 E (V_L_areAlike_29 E K (r + 1)) K a1 a2 x2 1 x4 (I k) t rc rs
    unfold VS_L_areAlike_29
    refine xbf (by (try simp only [I_lit, J_lit, I_ofNat, I_neg, I_add, I_sub, I_mul, J_neg, J_add, J_sub, J_mul]); first | (rw [I_lt ⟨by omega, by omega⟩ ⟨by omega, by omega⟩]; omega) | (rw [I_le ⟨by omega, by omega⟩ ⟨by omega, by omega⟩]; omega) | (rw [I_eq ⟨by omega, by omega⟩ ⟨by omega, by omega⟩]; omega) | (rw [J_lt ⟨by omega, by omega⟩ ⟨by omega, by omega⟩]; omega) | (rw [J_le ⟨by omega, by omega⟩ ⟨by omega, by omega⟩]; omega) | (rw [J_eq ⟨by omega, by omega⟩ ⟨by omega, by omega⟩]; omega)) (xbf (by decide) ?_)
    refine hT.ask (N := N + 26 * r + 25) hB 0 (by decide) rfl (I k) (0 : Int32) (0 : Int32) hG (fun m z L1 t hT hG => ?_)
    refine hT.ask' (N := N + 26 * r + 24) hB 0 (by decide) rfl (I k) (0 : Int32) (0 : Int32) hG (fun m z L2 t hT hG => xst rfl ?_)
    refine hT.ask (N := N + 26 * r + 23) hB 2 (by decide) rfl (I k) (0 : Int32) (0 : Int32) hG (fun m z L1 t hT hG => ?_)
    refine hT.ask' (N := N + 26 * r + 22) hB 2 (by decide) rfl (I k) (0 : Int32) (0 : Int32) hG (fun m z L2 t hT hG => xst rfl ?_)
    refine hT.ask (N := N + 26 * r + 21) hB 7 (by decide) rfl (I k) (0 : Int32) (0 : Int32) hG (fun m z L1 t hT hG => ?_)
    refine hT.ask' (N := N + 26 * r + 20) hB 7 (by decide) rfl (I k) (0 : Int32) (0 : Int32) hG (fun m z L2 t hT hG => xst rfl ?_)
    refine hT.ask (N := N + 26 * r + 19) hB 5 (by decide) rfl (I k) x4 (0 : Int32) hG (fun m z L1 t hT hG => ?_)
    refine hT.ask' (N := N + 26 * r + 18) hB 5 (by decide) rfl (I k) x4 (0 : Int32) hG (fun m z L2 t hT hG => xst rfl ?_)
    refine hT.ask (N := N + 26 * r + 17) hB 6 (by decide) rfl (I k) (0 : Int32) (0 : Int32) hG (fun m z L1 t hT hG => ?_)
    refine hT.ask' (N := N + 26 * r + 16) hB 6 (by decide) rfl (I k) (0 : Int32) (0 : Int32) hG (fun m z L2 t hT hG => xst rfl ?_)
    refine ⟨5, al_171 (N := N + 26 * r) hB 4 0 _ _ _ _ _ (by omega) hT hG (fun L1 L2 t rc rs hT hG => ?_)⟩
    rw [show I (k : Int) + 1 = I ((k + 1 : Nat) : Int) from I_add _ 1]
    exact ih (k + 1) _ _ _ _ _ (by omega) hT hG kk
theorem T2.l1 (h : T2 E sl sx aa a3 a4 a1 L1 u1 a2 L2 u2 D P t) : T2 E sl sx aa a3 a4 a1 1 u1 a2 1 u2 D P t := by
  obtain ⟨ad, ad2, q1, q2, s1, s2, hR, hA, e, hE, ⟨g1, g2, g3⟩, k1, k2, k3⟩ := h
  refine ⟨ad, ad2, q1, q2, s1, s2, hR, hA, e, hE, ⟨g1, g2, ?_⟩, k1, k2, ?_⟩
  · unfold lam
    split <;> omega
  · unfold lam
    split <;> omega
theorem areAlike_ok {x2 : Int32} {rc rs : Nat} (hT : T2 E sl sx aa a3 a4 a1 1 u a2 1 u D P t) (hB : Bd D P) (hG : 3054 ≤ rc ∧ 20360 ≤ rs) (kk : ∀ t, T2 E sl sx aa a3 a4 a1 1 u a2 1 u D P t → K 1 t) : V_L_areAlike_0 E K a1 a2 x2 t rc rs := by
  unfold V_L_areAlike_0
  obtain ⟨h1, h2⟩ := hT.owner (KJ := fun y_2 t_1 => (xis t_1 a2 7 ∧ V_X7_owner_0 (fun y_4 t_3 => ((¬ y_2 = y_4 → (V_L_low_0 (fun x_6 t_5 => ∃ f_7 : Nat, V_L_areAlike_29 E K f_7 a1 a2 x2 (0 : Int32) x_6 (0 : Int32) t_5 rc rs) x2 (20 : Int32) t_3)) ∧ (y_2 = y_4 → (V_L_low_0 (fun x_9 t_8 => ∃ f_10 : Nat, V_L_areAlike_29 E K f_10 a1 a2 x2 (1 : Int32) x_9 (0 : Int32) t_8 rc rs) x2 (20 : Int32) t_3)))) a2 t_1)) (hT.sw.owner (xst rfl (low_k (by decide) ⟨13, al_29 (N := 0) hB 12 0 1 1 t rc rs (by omega) hT (by unfold BG; omega) (fun L1 L2 t hT => kk t hT.l1)⟩)))
  exact ⟨h1, h2⟩
end ALK
