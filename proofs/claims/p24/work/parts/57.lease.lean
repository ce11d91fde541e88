section MKL
variable {E : Nat → Nat} {ad : xAd} {q : xL} {lo : Nat → Nat → Prop} {s u : xS} {co : Nat → Nat → xE} {t : xT} {rc rs nf n nr : Nat} {KX : String → xT → Prop}
theorem sp_planInit {K : xT → Prop} {p : Nat} (hp : t p = some (.inr (5, [.int 0, .long 0, .long 0, .int 0]))) (kk : ∀ t', (∀ b, b ≠ p → t' b = t b) → t' p = some (.inr (5, [.int (I 0), .long (J 0), .long (J 0), .int (I 0)])) → K t') : V_X5_init_0 K p t := by
  unfold V_X5_init_0
  refine ⟨_, hp, by decide, ?_⟩
  refine ⟨_, xup_s _ _ _, by decide, ?_⟩
  refine ⟨_, xup_s _ _ _, by decide, ?_⟩
  refine ⟨_, xup_s _ _ _, by decide, ?_⟩
  exact kk _ (fun b hb => by rw [xup_n _ _ hb, xup_n _ _ hb, xup_n _ _ hb, xup_n _ _ hb]) (by rw [xup_s]; rfl)
theorem sp_shareInit {K : xT → Prop} {p : Nat} (hp : t p = some (.inr (2, [.int 0, .int 0, .long 0]))) (kk : ∀ t', (∀ b, b ≠ p → t' b = t b) → t' p = some (.inr (2, [.int (I 0), .int (I 0), .long (J 0)])) → K t') : V_X2_init_0 K p t := by
  unfold V_X2_init_0
  refine ⟨_, hp, by decide, ?_⟩
  refine ⟨_, xup_s _ _ _, by decide, ?_⟩
  refine ⟨_, xup_s _ _ _, by decide, ?_⟩
  exact kk _ (fun b hb => by rw [xup_n _ _ hb, xup_n _ _ hb, xup_n _ _ hb]) (by rw [xup_s]; rfl)
def LeaseRaw (t t' : xT) (a m ma p h b home : Nat) (rent first : Int) : Prop := (∀ x, x ≠ a → x ≠ m → x ≠ ma → x ≠ p → x ≠ h → x ≠ b → t' x = t x) ∧ t' a = some (.inr (3, [.ref home, .int (I (-1)), .ref m, .ref p, .ref h, .long (J 0), .long (J 0), .long (J 0), .int (I rent), .int (I first), .ref b])) ∧ t' m = some (.inr (4, [.ref ma])) ∧ (∃ g, t' ma = some (.inl (0, 121, .inl g)) ∧ ∀ j, j < 121 → g j = I (-1)) ∧ t' p = some (.inr (5, [.int (I 0), .long (J 0), .long (J 0), .int (I 0)])) ∧ t' h = some (.inr (2, [.int (I 0), .int (I 0), .long (J 0)])) ∧ t' b = some (.inl (5, 121, .inr (.inr (.inr (.inr fun _ => none)))))
theorem sp_leaseInit {K : xT → Prop} {a home : Nat} {rent first : Int} (ha : t a = some (.inr (3, [.null, .int 0, .null, .null, .null, .long 0, .long 0, .long 0, .int 0, .int 0, .null]))) (h1 : 5 ≤ rc) (h2 : 250 ≤ rs) (kk : ∀ m ma p h b t', t m = none → t ma = none → t p = none → t h = none → t b = none → [m, ma, p, h, b].Nodup → LeaseRaw t t' a m ma p h b home rent first → K t') : V_X3_init_0 K a home (I rent) (I first) t rc rs := by
  unfold V_X3_init_0
  rw [show (-1 : Int32) = I (-1) from rfl]
  refine ⟨_, ha, by decide, ?_⟩
  refine ⟨by omega, by omega, fun m hm => ?_⟩
  have ma1 : m ≠ a := fun e => by rw [e, xup_s] at hm; cases hm
  have hm0 : t m = none := by rw [xup_n _ _ ma1] at hm; exact hm
  refine ⟨1, 121, by omega, by omega, ?_⟩
  refine sp_mInit (xup_s _ _ _) (Nat.le_refl _) (Nat.le_refl _) (fun ma t3 hma nmm g1 g2 ⟨gf, g3, g4⟩ => ?_)
  rw [xup_n _ _ nmm] at hma
  have mb1 : ma ≠ a := fun e => by rw [e, xup_s] at hma; cases hma
  have hma0 : t ma = none := by rw [xup_n _ _ mb1] at hma; exact hma
  have f3 : ∀ x, x ≠ a → x ≠ m → x ≠ ma → t3 x = t x := fun x x1 x2 x3 => by rw [g1 x x2 x3, xup_n _ _ x2, xup_n _ _ x1]
  have a3 : t3 a = some (.inr (3, [.null, .int (I (-1)), .null, .null, .null, .long 0, .long 0, .long 0, .int 0, .int 0, .null])) := by
    rw [g1 a (Ne.symm ma1) (Ne.symm mb1), xup_n _ _ (Ne.symm ma1), xup_s]
    rfl
  refine ⟨_, a3, by decide, ?_⟩
  refine ⟨by omega, by omega, fun p hp => ?_⟩
  have pa : p ≠ a := fun e => by rw [e, xup_s] at hp; cases hp
  rw [xup_n _ _ pa] at hp
  have pm : p ≠ m := fun e => by rw [e, g2] at hp; cases hp
  have pma : p ≠ ma := fun e => by rw [e, g3] at hp; cases hp
  have hp0 : t p = none := by rw [f3 p pa pm pma] at hp; exact hp
  refine sp_planInit (xup_s _ _ _) (fun t6 k1 k2 => ?_)
  have f6 : ∀ x, x ≠ a → x ≠ p → t6 x = t3 x := fun x x1 x2 => by rw [k1 x x2, xup_n _ _ x2, xup_n _ _ x1]
  have a6 : t6 a = some (.inr (3, [.null, .int (I (-1)), .ref m, .null, .null, .long 0, .long 0, .long 0, .int 0, .int 0, .null])) := by
    rw [k1 a (Ne.symm pa), xup_n _ _ (Ne.symm pa), xup_s]
    rfl
  refine ⟨_, a6, Nat.le_of_ble_eq_true rfl, ?_⟩
  refine ⟨by omega, by omega, fun h hh => ?_⟩
  have ha' : h ≠ a := fun e => by rw [e, xup_s] at hh; cases hh
  rw [xup_n _ _ ha'] at hh
  have hp' : h ≠ p := fun e => by rw [e, k2] at hh; cases hh
  rw [f6 h ha' hp'] at hh
  have hm' : h ≠ m := fun e => by rw [e, g2] at hh; cases hh
  have hma' : h ≠ ma := fun e => by rw [e, g3] at hh; cases hh
  have hh0 : t h = none := by rw [f3 h ha' hm' hma'] at hh; exact hh
  refine sp_shareInit (xup_s _ _ _) (fun t9 l1 l2 => ?_)
  have f9 : ∀ x, x ≠ a → x ≠ h → t9 x = t6 x := fun x x1 x2 => by rw [l1 x x2, xup_n _ _ x2, xup_n _ _ x1]
  have a9 : t9 a = some (.inr (3, [.null, .int (I (-1)), .ref m, .ref p, .null, .long 0, .long 0, .long 0, .int 0, .int 0, .null])) := by
    rw [l1 a (Ne.symm ha'), xup_n _ _ (Ne.symm ha'), xup_s]
    rfl
  refine ⟨_, a9, Nat.le_of_ble_eq_true rfl, ?_⟩
  refine ⟨_, xup_s _ _ _, Nat.le_of_ble_eq_true rfl, ?_⟩
  refine ⟨_, xup_s _ _ _, Nat.le_of_ble_eq_true rfl, ?_⟩
  refine ⟨_, xup_s _ _ _, Nat.le_of_ble_eq_true rfl, ?_⟩
  have n121 : (121 : Int32).toNatClampNeg = 121 := rfl
  refine ⟨by decide, by decide, by omega, by rw [n121]; omega, fun b hb => ?_⟩
  have ba : b ≠ a := fun e => by rw [e, xup_s] at hb; cases hb
  rw [xup_n _ _ ba, xup_n _ _ ba, xup_n _ _ ba, xup_n _ _ ba] at hb
  have bh : b ≠ h := fun e => by rw [e, l2] at hb; cases hb
  rw [f9 b ba bh] at hb
  have bp : b ≠ p := fun e => by rw [e, k2] at hb; cases hb
  rw [f6 b ba bp] at hb
  have bm : b ≠ m := fun e => by rw [e, g2] at hb; cases hb
  have bma : b ≠ ma := fun e => by rw [e, g3] at hb; cases hb
  have hb0 : t b = none := by rw [f3 b ba bm bma] at hb; exact hb
  refine ⟨_, by rw [xup_n _ _ (Ne.symm ba), xup_s], Nat.le_of_ble_eq_true rfl, ?_⟩
  refine ⟨_, xup_s _ _ _, Nat.le_of_ble_eq_true rfl, ?_⟩
  refine ⟨_, xup_s _ _ _, Nat.le_of_ble_eq_true rfl, ?_⟩
  refine ⟨_, xup_s _ _ _, Nat.le_of_ble_eq_true rfl, ?_⟩
  refine kk m ma p h b _ hm0 hma0 hp0 hh0 hb0 ?_ ?_
  · simp only [List.nodup_cons, List.mem_cons, List.not_mem_nil, or_false, not_or, List.nodup_nil, and_true, not_false_eq_true]
    exact ⟨⟨Ne.symm nmm, Ne.symm pm, Ne.symm hm', Ne.symm bm⟩, ⟨Ne.symm pma, Ne.symm hma', Ne.symm bma⟩, ⟨Ne.symm hp', Ne.symm bp⟩, Ne.symm bh⟩
  · have red : ∀ x, x ≠ a → ∀ z a1 a2 a3 a4 b1 b2 b3 b4, xup (xup (xup (xup (xup (xup (xup (xup (xup t9 a a1) a a2) a a3) a a4) b z) a b1) a b2) a b3) a b4 x = xup t9 b z x := fun x hx z a1 a2 a3 a4 b1 b2 b3 b4 => by
      rw [xup_n _ _ hx, xup_n _ _ hx, xup_n _ _ hx, xup_n _ _ hx]
      by_cases c : x = b
      · subst c
        rw [xup_s, xup_s]
      · rw [xup_n _ _ c, xup_n _ _ c, xup_n _ _ hx, xup_n _ _ hx, xup_n _ _ hx, xup_n _ _ hx]
    refine ⟨fun x x1 x2 x3 x4 x5 x6 => ?_, ?_, ?_, ⟨gf, ?_, g4⟩, ?_, ?_, ?_⟩
    · rw [red x x1, xup_n _ _ x6, f9 x x1 x5, f6 x x1 x4, f3 x x1 x2 x3]
    · rw [xup_s]
      rfl
    · rw [red m ma1, xup_n _ _ (Ne.symm bm), f9 m ma1 (Ne.symm hm'), f6 m ma1 (Ne.symm pm)]
      exact g2
    · rw [red ma mb1, xup_n _ _ (Ne.symm bma), f9 ma mb1 (Ne.symm hma'), f6 ma mb1 (Ne.symm pma)]
      exact g3
    · rw [red p pa, xup_n _ _ (Ne.symm bp), f9 p pa (Ne.symm hp')]
      exact k2
    · rw [red h ha', xup_n _ _ (Ne.symm bh)]
      exact l2
    · rw [red b ba, xup_s]
      rfl
end MKL
