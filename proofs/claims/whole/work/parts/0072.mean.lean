/-! the mean -/
theorem sm_nI {f : Nat → Int32} {b : Nat} (hb : b ≤ 1000) : ∀ i, i ≤ 100 → (∀ j, j < i → inR 0 b (f j)) → ∃ s, s ≤ b * i ∧ sm f i = nI s
  | 0, _, _ => ⟨0, by omega, rfl⟩
  | i + 1, hi, h => by
    obtain ⟨s, h1, e⟩ := sm_nI hb i (by omega) (fun j hj => h j (by omega))
    obtain ⟨a, h2, e2⟩ := inR_nI (h i (by omega)) (by omega)
    refine ⟨s + a, by rw [Nat.mul_succ]; omega, ?_⟩
    rw [sm, e, e2, nI_add]
theorem farX {x n m k t : HS} (h : RR x n m k t) (r : Int32) (j : Nat) (hj : j < 7) (hr : -r = nI j) : ∃ (v : Int64) (x' t' : HS), f_X1_refuseFar r x n m k = some (v, x') ∧ ((f_X2_lowestOf r t).bind fun v => some (v.1, v.2)) = some (v, t') ∧ RR x' n m k t' := by
  obtain ⟨v, x', t', a, b, c⟩ := refuseFar_XM h hj hr
  exact ⟨v, x', t', a, some2 b, c⟩
theorem part01 {v : Int32} (z1 : ¬ v < 0) (z2 : v ≤ 1) : v = 0 ∨ v = 1 := by
  rw [Int32.lt_iff_toInt_lt, Int32.toInt_zero] at z1
  rw [Int32.le_iff_toInt_le, show ((1 : Int32)).toInt = 1 from rfl] at z2
  obtain ⟨a, ha, e⟩ := inR_nI (x := v) (b := 1) ⟨by omega, by omega⟩ (by omega)
  rcases (show a = 0 ∨ a = 1 by omega) with q | q
  · left; rw [e, q]; rfl
  · right; rw [e, q]; rfl
theorem mean_XM {x n m k t : HS} (h : RR x n m k t) (v : Int32) : ∃ r x' t', f_X1_mean v x n m k = some (r, x') ∧ f_X2_mean v t = some (r, t') ∧ RR x' n m k t' := by
  obtain ⟨nc, nb, w, rl, wm, wk, hx⟩ := id h
  have h6 := w.nb6
  have r21 : t 21 = n 11 := rl 21 rfl
  have r9 : t 9 = n 8 := rl 9 rfl
  unfold f_X1_mean f_X2_mean
  rcases what01 v with ⟨z1, z3⟩ | ⟨z1, z2, z3⟩ | ⟨z1, z2, z3⟩
  · rw [if_pos z1, z3, if_pos rfl]
    obtain ⟨r, x', t', a, b', c⟩ := farX h (-2) 2 (by omega) (by decide)
    rw [a]
    exact ⟨_, x', t', rfl, b', c⟩
  · rw [if_neg z1, if_neg z2, z3, if_pos rfl]
    obtain ⟨r, x', t', a, b', c⟩ := farX h (-2) 2 (by omega) (by decide)
    rw [a]
    exact ⟨_, x', t', rfl, b', c⟩
  · have hp := part01 z1 z2
    obtain ⟨s, hs, es⟩ := sm_nI (b := 999) (by omega) nb (by omega) (fun j hj => w.pur (b := j) hj)
    have hs2 : s ≤ 5994 := by
      have : 999 * nb ≤ 999 * 6 := Nat.mul_le_mul_left _ h6
      omega
    rw [if_neg z1, if_pos z2, z3, if_neg (by decide), purses_X w, Option.bind_some, r21, w.b, allOf9_M h6, r9, Option.bind_some, es, eL_w (by omega), eL_w (by omega)]
    by_cases q : nb = 0
    · subst q
      rw [if_pos (show nI 0 = 0 from rfl)]
      have : f_X1_inLeastTerms (eL s) (eL 0) v = some v.toInt64 := by
        unfold f_X1_inLeastTerms
        rw [if_neg (show ¬ 0 < lg_cmp (eL 0) 0 by decide), ite_self]
      rw [this]
      exact ⟨_, _, _, rfl, rfl, h⟩
    · obtain ⟨u, e1, e2⟩ := least_XM (a := s) (b := nb) (by omega) (by omega) (by omega) hp
      rw [if_neg (nI_ne0 (by omega) (by omega)), e1, e2]
      exact ⟨_, _, _, rfl, rfl, h⟩
