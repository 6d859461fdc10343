/-! what a row says of the worths -/
theorem judge_end {x n m k : HS} (K : Int32 → HS → Option (Int32 × HS)) {i : Nat} (hi : i < 2 ^ 31) (n' : Nat) (j : Int32) : L_X1_judge_5 n m k K (n' + 1) (nI i) j x = K (nI i) x := by
  rw [L_X1_judge_5]
  by_cases q : x 5 0 ≤ j
  · rw [if_pos q]
  · rw [if_neg q, if_neg (nI_m9 hi)]
theorem judge_loop {x n m k t : HS} {nc nb rc : Nat} (w : WF n nc nb) (rl : rel n t) (hrc : x 5 0 = nI rc) (h16 : rc ≤ 16) (hf : ∀ i, i < rc → x 1 i = t 18 i) : ∀ z i, i + z = rc → ∃ r, (∀ K n', z + 1 < n' → L_X1_judge_5 n m k K n' (-9) (nI i) x = K r x) ∧ ∀ n', z < n' → L_X2_judge_12 (fun (tt_47 : HS) => some ((-9 : Int32), tt_47)) n' (nI rc) (nI i) t = some (r, t)
  | 0, i, hi => by
    have : i = rc := by omega
    subst this
    refine ⟨-9, fun K n' hn => ?_, fun n' hn => ?_⟩
    · cases n' with
      | zero => omega
      | succ n' => rw [L_X1_judge_5, hrc, if_pos (nI_le (Nat.le_refl _) (by omega))]
    · cases n' with
      | zero => omega
      | succ n' => rw [L_X2_judge_12, if_pos (nI_le (Nat.le_refl _) (by omega))]
  | z + 1, i, hi => by
    have h8 := w.nc8
    have r20 : t 20 = n 10 := rl 20 rfl
    have xs : ∀ K n', L_X1_judge_5 n m k K (n' + 1) (-9) (nI i) x = if f_X0_hasCard (nI i) n = 0 then L_X1_judge_5 n m k K n' (nI i) (nI (i + 1)) x else if wo n i = x 1 i then L_X1_judge_5 n m k K n' (-9) (nI (i + 1)) x else L_X1_judge_5 n m k K n' (nI i) (nI (i + 1)) x := by
      intro K n'
      rw [L_X1_judge_5, hrc, if_neg (nI_ge (by omega) (by omega)), if_pos rfl, atv_nI _ (by omega) (by omega), nI_1]
      rfl
    by_cases q : i < nc
    · have hc : f_X0_hasCard (nI i) n = 1 := by rw [hasCard_nI w (by omega), if_pos q]
      have ms : ∀ n', L_X2_judge_12 (fun (tt_47 : HS) => some ((-9 : Int32), tt_47)) (n' + 1) (nI rc) (nI i) t = if wo n i = x 1 i then L_X2_judge_12 (fun (tt_47 : HS) => some ((-9 : Int32), tt_47)) n' (nI rc) (nI (i + 1)) t else some (nI i, t) := by
        intro n'
        rw [L_X2_judge_12, if_neg (nI_ge (by omega) (by omega)), r20, w.c, if_neg (nI_ge (by omega) (by omega)), worth_M w rl q, Option.bind_some, rd_nI _ (by omega) (by omega), Option.bind_some, ← hf i (by omega), nI_1]
      by_cases y : wo n i = x 1 i
      · obtain ⟨r, e1, e2⟩ := judge_loop (m := m) (k := k) w rl hrc h16 hf z (i + 1) (by omega)
        refine ⟨r, fun K n' hn => ?_, fun n' hn => ?_⟩
        · cases n' with
          | zero => omega
          | succ n' => rw [xs, hc, iteN, if_pos y]; exact e1 K n' (by omega)
        · cases n' with
          | zero => omega
          | succ n' => rw [ms, if_pos y]; exact e2 n' (by omega)
      · refine ⟨nI i, fun K n' hn => ?_, fun n' hn => ?_⟩
        · cases n' with
          | zero => omega
          | succ n' =>
            cases n' with
            | zero => omega
            | succ n' => rw [xs, hc, iteN, if_neg y]; exact judge_end K (by omega) n' _
        · cases n' with
          | zero => omega
          | succ n' => rw [ms, if_neg y]
    · have hc : f_X0_hasCard (nI i) n = 0 := by rw [hasCard_nI w (by omega), if_neg q]
      refine ⟨nI i, fun K n' hn => ?_, fun n' hn => ?_⟩
      · cases n' with
        | zero => omega
        | succ n' =>
          cases n' with
          | zero => omega
          | succ n' => rw [xs, hc, iteZ]; exact judge_end K (by omega) n' _
      · cases n' with
        | zero => omega
        | succ n' => rw [L_X2_judge_12, if_neg (nI_ge (by omega) (by omega)), r20, w.c, if_pos (nI_le (by omega) (by omega))]
theorem judge_XM {x n m k t : HS} (h : RR x n m k t) : ∃ r x' t', f_X1_judge x n m k = some (r, x') ∧ f_X2_judge t = some (r, t') ∧ RR x' n m k t' := by
  obtain ⟨nc, nb, w, rl, wm, wk, h1, h2, h3, h4, ⟨lc, l1, l2, l3, l4⟩, h6, h7⟩ := id h
  have rl2 : rel n (st t 30 (fun _ => 0)) := rl.same rfl
  obtain ⟨r, e1, e2⟩ := judge_loop (m := m) (k := k) w rl2 l2 l1 l4 lc 0 (by omega)
  refine ⟨r, st x 5 (fun _ => 0), st t 30 (fun _ => 0), ?_, ?_, nc, nb, w, rl2, wm, wk, h1, h2, h3, h4, ⟨0, by omega, rfl, rfl, fun i hi => absurd hi (Nat.not_lt_zero i)⟩, h6, h7⟩
  · have z := e1 (fun (j1_57 : Int32) (xx_57 : HS) => some (j1_57, st xx_57 5 (fun _ => (0 : Int32)))) fuel (by unfold fuel; omega)
    rw [nI0] at z
    unfold f_X1_judge
    simp only [jnE]
    rw [z]
  · have z := e2 fuel (by unfold fuel; omega)
    rw [nI0] at z
    unfold f_X2_judge
    simp only [jnE]
    rw [l3, z]
