/-! numbers asked for -/
theorem countW_M {h t : HS} {nc nb : Nat} (w : WF h nc nb) (r : rel h t) (j1 : Int32) : L_X2_count_94 j1 t (fun (j2_116 : Int32) => some j2_116) fuel 0 0 = some (sm (wo h) nc) := by
  have h8 := w.nc8
  have r20 : t 20 = h 10 := r 20 rfl
  have L : ∀ (k i n : Nat), i + k = nc → k < n → L_X2_count_94 j1 t (fun (j2_116 : Int32) => some j2_116) n (sm (wo h) i) (nI i) = some (sm (wo h) nc) := by
    intro k
    induction k with
    | zero =>
      intro i n hi hn
      cases n with
      | zero => omega
      | succ n =>
        have : i = nc := by omega
        subst this
        rw [L_X2_count_94, r20, w.c, if_pos (nI_le (Nat.le_refl _) (by omega))]
    | succ k ih =>
      intro i n hi hn
      cases n with
      | zero => omega
      | succ n =>
        rw [L_X2_count_94, r20, w.c, if_neg (nI_ge (by omega) (by omega)), worth_M w r (by omega), Option.bind_some, nI_1, ← ih (i + 1) n (by omega) (by omega), sm]
  have x := L nc 0 fuel (by omega) (by unfold fuel; omega)
  rw [nI0, sm] at x
  exact x
theorem count_XM {x n m k t : HS} (h : RR x n m k t) (v : Int32) : ∃ r, f_X1_count v x n m k = some r ∧ f_X2_count v t = some r := by
  obtain ⟨nc, nb, w, rl, wm, wk, h1, h2, h3, ⟨lc, l1, l2, l3, l4⟩, ⟨rc, q1, q2, q3, q4⟩, h6, h7⟩ := id h
  have r20 : t 20 = n 10 := rl 20 rfl
  have r21 : t 21 = n 11 := rl 21 rfl
  have r22 : t 22 = n 12 := rl 22 rfl
  have r10 : t 10 = n 9 := rl 10 rfl
  unfold f_X1_count f_X2_count
  simp only [jnE]
  rw [r20, r21, r22, pile_X w, pile_M w rl, allWorth_X w, believed_X w, countW_M w rl, w.b, allOf10_M w.nb6, r10, q2, q3, l2, l3]
  simp only [Option.bind_some]
  rcases isIn_or v (b := 11) (c := 16) with ⟨e0, q⟩ | ⟨e0, q, q2⟩
  · rw [e0, iteZ]
    by_cases z0 : v = 0
    · rw [if_pos z0, if_pos z0]; exact ⟨_, rfl, rfl⟩
    rw [if_neg z0, if_neg z0]
    by_cases z1 : v = 1
    · rw [if_pos z1, if_pos z1]; exact ⟨_, rfl, rfl⟩
    rw [if_neg z1, if_neg z1]
    by_cases z2 : v = 2
    · rw [if_pos z2, if_pos z2]; exact ⟨_, rfl, rfl⟩
    rw [if_neg z2, if_neg z2]
    by_cases z3 : v = 3
    · rw [if_pos z3, if_pos z3]; exact ⟨_, rfl, rfl⟩
    rw [if_neg z3, if_neg z3]
    by_cases z4 : v = 4
    · rw [if_pos z4, if_pos z4]; exact ⟨_, rfl, rfl⟩
    rw [if_neg z4, if_neg z4]
    by_cases z5 : v = 5
    · rw [if_pos z5, if_pos z5]; exact ⟨_, rfl, rfl⟩
    rw [if_neg z5, if_neg z5]
    by_cases z6 : v = 6
    · rw [if_pos z6, if_pos z6]; exact ⟨_, rfl, rfl⟩
    rw [if_neg z6, if_neg z6]
    by_cases z7 : v = 7
    · rw [if_pos z7, if_pos z7]; exact ⟨_, rfl, rfl⟩
    rw [if_neg z7, if_neg z7]
    refine ⟨_, ?_, rfl⟩
    by_cases y : v < 11
    · rw [if_pos y]
    · rw [if_neg y, if_pos (q.resolve_left y)]
  · rw [e0, iteN]
    have b1 : 11 ≤ v.toInt := by
      rw [Int32.lt_iff_toInt_lt, show ((11 : Int32)).toInt = 11 from rfl] at q; omega
    have b2 : v.toInt ≤ 16 := by
      rw [Int32.lt_iff_toInt_lt, show ((16 : Int32)).toInt = 16 from rfl] at q2; omega
    obtain ⟨a, ha, ea⟩ := inR_nI (x := v) (b := 16) ⟨by omega, b2⟩ (by omega)
    have a1 : 11 ≤ a := by
      rw [ea, nI_toInt (by omega)] at b1; omega
    have hne : ∀ j : Nat, j < 8 → ¬ v = nI j := fun j hj z => by
      rw [ea] at z
      have := (nI_eq (by omega) (by omega)).mp z
      omega
    rw [if_neg (show ¬ v = 0 from hne 0 (by omega)), if_neg (show ¬ v = 1 from hne 1 (by omega)), if_neg (show ¬ v = 2 from hne 2 (by omega)), if_neg (show ¬ v = 3 from hne 3 (by omega)), if_neg (show ¬ v = 4 from hne 4 (by omega)), if_neg (show ¬ v = 5 from hne 5 (by omega)), if_neg (show ¬ v = 6 from hne 6 (by omega)), if_neg (show ¬ v = 7 from hne 7 (by omega)), if_neg q, if_neg q2]
    have es : v - 10 = nI (a - 10) := by
      apply Int32.toInt_inj.mp
      rw [toInt_subR (by rw [show ((10 : Int32)).toInt = 10 from rfl]; omega) (by rw [show ((10 : Int32)).toInt = 10 from rfl]; omega), nI_toInt (by omega), ea, nI_toInt (by omega), show ((10 : Int32)).toInt = 10 from rfl]
      omega
    rw [es, atv_nI _ (by omega) (by omega), rd_nI _ (by omega) (by omega), Option.bind_some, h6]
    exact ⟨_, rfl, rfl⟩
