/-! what is owned -/
def qO (h : HS) : Nat → Bool := fun c => decide (h 4 c = h 2 c)
theorem own_X {h : HS} {nc nb : Nat} (w : WF h nc nb) : f_X0_ownBits h = some (bs (qO h) nc) := by
  have h8 := w.nc8
  have L : ∀ (k i n : Nat), i + k = nc → k < n → L_X0_ownBits_4 h (fun x => some x) n (bs (qO h) i) (nI i) = some (bs (qO h) nc) := by
    intro k
    induction k with
    | zero =>
      intro i n hi hn
      cases n with
      | zero => omega
      | succ n =>
        have : i = nc := by omega
        subst this
        rw [L_X0_ownBits_4, w.c, if_pos (nI_le (Nat.le_refl _) (by omega))]
    | succ k ih =>
      intro i n hi hn
      cases n with
      | zero => omega
      | succ n =>
        rw [L_X0_ownBits_4, w.c, if_neg (nI_ge (by omega) (by omega)), nI_1, ← ih (i + 1) n (by omega) (by omega), bs, atv_nI _ (by omega) (by omega), atv_nI _ (by omega) (by omega)]
        by_cases q : h 4 i = h 2 i
        · rw [if_pos q, if_pos (show qO h i = true from decide_eq_true q)]
        · rw [if_neg q, if_neg (show ¬ qO h i = true from fun z => q (of_decide_eq_true z))]
  have x := L nc 0 fuel (by omega) (by unfold fuel; omega)
  rw [nI0, bs] at x
  unfold f_X0_ownBits
  simp only [jnE]
  exact x
/-- the cards that stand clean: the same loop in both -/
theorem clean_XM {h t : HS} {nc nb : Nat} (w : WF h nc nb) (r : rel h t) : ∃ v, f_X0_cleanBits h = some v ∧ f_X2_cleanOnes t = some v := by
  have h8 := w.nc8
  have r20 : t 20 = h 10 := r 20 rfl
  have r21 : t 21 = h 11 := r 21 rfl
  have r3 : t 3 = h 2 := r 3 rfl
  have L : ∀ (k i n : Nat) (a : Int32), i + k = nc → k < n → ∃ v, L_X0_cleanBits_11 h (fun x => some x) n a (nI i) = some v ∧ L_X2_cleanOnes_11 t (fun x => some x) n a (nI i) = some v := by
    intro k
    induction k with
    | zero =>
      intro i n a hi hn
      cases n with
      | zero => omega
      | succ n =>
        have : i = nc := by omega
        subst this
        refine ⟨a, ?_, ?_⟩
        · rw [L_X0_cleanBits_11, w.c, if_pos (nI_le (Nat.le_refl _) (by omega))]
        · rw [L_X2_cleanOnes_11, r20, w.c, if_pos (nI_le (Nat.le_refl _) (by omega))]
    | succ k ih =>
      intro i n a hi hn
      cases n with
      | zero => omega
      | succ n =>
        rw [L_X0_cleanBits_11, w.c, if_neg (nI_ge (by omega) (by omega)), nI_1, atv_nI _ (by omega) (by omega), L_X2_cleanOnes_11, r20, w.c, if_neg (nI_ge (by omega) (by omega)), nI_1, r3, rd_nI _ (by omega) (by omega), Option.bind_some]
        exact ih (i + 1) n _ (by omega) (by omega)
  obtain ⟨v, e1, e2⟩ := L nc 0 fuel (((1 : Int32) <<< ((h 11 0) &&& 31)) - (1 : Int32)) (by omega) (by unfold fuel; omega)
  rw [nI0] at e1 e2
  refine ⟨v, ?_, ?_⟩
  · unfold f_X0_cleanBits
    simp only [jnE]
    exact e1
  · unfold f_X2_cleanOnes
    simp only [jnE]
    rw [r21]
    exact e2
