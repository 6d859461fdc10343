/-! the richest -/
def rS (f : Nat → Int32) : Nat → Nat
  | 0 => 0
  | i + 1 => if f (i + 1) ≤ f (rS f i) then rS f i else i + 1
theorem rS_le (f : Nat → Int32) : ∀ i, rS f i ≤ i
  | 0 => Nat.le_refl _
  | i + 1 => by
    have := rS_le f i
    rw [rS]
    by_cases q : f (i + 1) ≤ f (rS f i)
    · rw [if_pos q]; omega
    · rw [if_neg q]; omega
def rA (f : Nat → Int32) (N : Nat) : Int32 := if N = 0 then -9 else nI (rS f (N - 1))
theorem rich_X {x n m k : HS} {j1 : Int32} {N : Nat} (f : Nat → Int32) (hN : N ≤ 8) (hf : ∀ i, i < N → f_X1_riches (nI i) j1 x n m k = f i) (K : Int32 → HS → Option (Int32 × HS)) : ∀ z i n', i + 1 + z = N → z < n' → L_X1_richest_48 j1 n m k K n' (nI N) (nI (rS f i)) (f (rS f i)) (nI (i + 1)) x = K (nI (rS f (N - 1))) x
  | 0, i, n' + 1, hi, _ => by
    have : N = i + 1 := by omega
    subst this
    rw [L_X1_richest_48, if_pos (nI_le (Nat.le_refl _) (by omega)), Nat.add_sub_cancel]
  | z + 1, i, n' + 1, hi, hn => by
    have ih := rich_X (m := m) (k := k) f hN hf K z (i + 1) n' (by omega) (by omega)
    rw [L_X1_richest_48, if_neg (nI_ge (by omega) (by omega)), hf (i + 1) (by omega), nI_1, ← ih, rS]
    by_cases q : f (i + 1) ≤ f (rS f i)
    · rw [if_pos q, if_pos q]
    · rw [if_neg q, if_neg q]
theorem rich_X0 {x n m k : HS} {j1 : Int32} {N : Nat} (f : Nat → Int32) (hN : N ≤ 8) (hf : ∀ i, i < N → f_X1_riches (nI i) j1 x n m k = f i) (h0 : ∀ i, i < N → 0 ≤ (f i).toInt) (K : Int32 → HS → Option (Int32 × HS)) : L_X1_richest_48 j1 n m k K fuel (nI N) (-9) (-1) 0 x = K (rA f N) x := by
  unfold rA
  rw [show fuel = 999 + 1 from rfl, ← nI0, L_X1_richest_48]
  by_cases q : N = 0
  · rw [if_pos q, if_pos (nI_le (by omega) (by omega))]
  · have c : ¬ f 0 ≤ -1 := by
      have := h0 0 (by omega)
      rw [Int32.le_iff_toInt_le, show ((-1 : Int32)).toInt = -1 from by decide]
      omega
    rw [if_neg q, if_neg (nI_ge (by omega) (by omega)), hf 0 (by omega), if_neg c, nI_1]
    exact rich_X (m := m) (k := k) f hN hf K (N - 1) 0 999 (by omega) (by omega)
theorem mostOf_9_M {t : HS} {N : Nat} (h21 : t 21 0 = nI N) (hN : N ≤ 6) (K : Int32 → Option Int32) : ∀ z i n', i + 1 + z = N → z < n' → L_X2_mostOf_9_5 t K n' (nI (rS (t 9) i)) (nI (i + 1)) = K (nI (rS (t 9) (N - 1)))
  | 0, i, n' + 1, hi, _ => by
    have : N = i + 1 := by omega
    subst this
    rw [L_X2_mostOf_9_5, h21, if_pos (nI_le (Nat.le_refl _) (by omega)), Nat.add_sub_cancel]
  | z + 1, i, n' + 1, hi, hn => by
    have hr := rS_le (t 9) i
    have ih := mostOf_9_M h21 hN K z (i + 1) n' (by omega) (by omega)
    rw [L_X2_mostOf_9_5, h21, if_neg (nI_ge (by omega) (by omega)), if_neg (nI_pos (by omega)), rd_nI _ (by omega) (by omega), Option.bind_some, rd_nI _ (by omega) (by omega), Option.bind_some, nI_1, ← ih, rS]
    by_cases q : (t 9) (i + 1) ≤ (t 9) (rS (t 9) i)
    · rw [if_pos q, if_pos q]
    · rw [if_neg q, if_neg q]
theorem mostOf_9_M0 {t : HS} {N : Nat} (h21 : t 21 0 = nI N) (hN : N ≤ 6) : f_X2_mostOf_9 t = some (rA (t 9) N) := by
  unfold f_X2_mostOf_9 rA
  simp only [jnE]
  rw [show fuel = 999 + 1 from rfl, ← nI0, L_X2_mostOf_9_5, h21]
  by_cases q : N = 0
  · rw [if_pos q, if_pos (nI_le (by omega) (by omega))]
  · rw [if_neg q, if_neg (nI_ge (by omega) (by omega)), if_pos (show (-9 : Int32) < 0 by decide), nI_1]
    exact mostOf_9_M h21 hN _ (N - 1) 0 999 (by omega) (by omega)
theorem mostOf_10_M {t : HS} {N : Nat} (h21 : t 21 0 = nI N) (hN : N ≤ 6) (K : Int32 → Option Int32) : ∀ z i n', i + 1 + z = N → z < n' → L_X2_mostOf_10_5 t K n' (nI (rS (t 10) i)) (nI (i + 1)) = K (nI (rS (t 10) (N - 1)))
  | 0, i, n' + 1, hi, _ => by
    have : N = i + 1 := by omega
    subst this
    rw [L_X2_mostOf_10_5, h21, if_pos (nI_le (Nat.le_refl _) (by omega)), Nat.add_sub_cancel]
  | z + 1, i, n' + 1, hi, hn => by
    have hr := rS_le (t 10) i
    have ih := mostOf_10_M h21 hN K z (i + 1) n' (by omega) (by omega)
    rw [L_X2_mostOf_10_5, h21, if_neg (nI_ge (by omega) (by omega)), if_neg (nI_pos (by omega)), rd_nI _ (by omega) (by omega), Option.bind_some, rd_nI _ (by omega) (by omega), Option.bind_some, nI_1, ← ih, rS]
    by_cases q : (t 10) (i + 1) ≤ (t 10) (rS (t 10) i)
    · rw [if_pos q, if_pos q]
    · rw [if_neg q, if_neg q]
theorem mostOf_10_M0 {t : HS} {N : Nat} (h21 : t 21 0 = nI N) (hN : N ≤ 6) : f_X2_mostOf_10 t = some (rA (t 10) N) := by
  unfold f_X2_mostOf_10 rA
  simp only [jnE]
  rw [show fuel = 999 + 1 from rfl, ← nI0, L_X2_mostOf_10_5, h21]
  by_cases q : N = 0
  · rw [if_pos q, if_pos (nI_le (by omega) (by omega))]
  · rw [if_neg q, if_neg (nI_ge (by omega) (by omega)), if_pos (show (-9 : Int32) < 0 by decide), nI_1]
    exact mostOf_10_M h21 hN _ (N - 1) 0 999 (by omega) (by omega)
theorem dearest_M {t : HS} {N : Nat} (f : Nat → Int32) (h20 : t 20 0 = nI N) (hw : ∀ i, i < N → f_X2_worth (nI i) t = some (f i)) (hN : N ≤ 8) (K : Int32 → Option Int32) : ∀ z i n', i + 1 + z = N → z < n' → L_X2_dearest_5 t K n' (nI (rS f i)) (nI (i + 1)) = K (nI (rS f (N - 1)))
  | 0, i, n' + 1, hi, _ => by
    have : N = i + 1 := by omega
    subst this
    rw [L_X2_dearest_5, h20, if_pos (nI_le (Nat.le_refl _) (by omega)), Nat.add_sub_cancel]
  | z + 1, i, n' + 1, hi, hn => by
    have hr := rS_le f i
    have ih := dearest_M f h20 hw hN K z (i + 1) n' (by omega) (by omega)
    rw [L_X2_dearest_5, h20, if_neg (nI_ge (by omega) (by omega)), if_neg (nI_pos (by omega)), hw (i + 1) (by omega), Option.bind_some, hw (rS f i) (by omega), Option.bind_some, nI_1, ← ih, rS]
    by_cases q : f (i + 1) ≤ f (rS f i)
    · rw [if_pos q, if_pos q]
    · rw [if_neg q, if_neg q]
theorem dearest_M0 {t : HS} {N : Nat} (f : Nat → Int32) (h20 : t 20 0 = nI N) (hw : ∀ i, i < N → f_X2_worth (nI i) t = some (f i)) (hN : N ≤ 8) : f_X2_dearest t = some (rA f N) := by
  unfold f_X2_dearest rA
  simp only [jnE]
  rw [show fuel = 999 + 1 from rfl, ← nI0, L_X2_dearest_5, h20]
  by_cases q : N = 0
  · rw [if_pos q, if_pos (nI_le (by omega) (by omega))]
  · rw [if_neg q, if_neg (nI_ge (by omega) (by omega)), if_pos (show (-9 : Int32) < 0 by decide), nI_1]
    exact dearest_M f h20 hw hN _ (N - 1) 0 999 (by omega) (by omega)
theorem richest_XM {x n m k t : HS} (h : RR x n m k t) (v : Int32) : ∃ r x' t', f_X1_richest v x n m k = some (r, x') ∧ f_X2_richest v t = some (r, t') ∧ RR x' n m k t' := by
  obtain ⟨nc, nb, w, rl, wm, wk, hx⟩ := id h
  have h6 := w.nb6
  have h8 := w.nc8
  have r9 : t 9 = n 8 := rl 9 rfl
  have r10 : t 10 = n 9 := rl 10 rfl
  have r20 : t 20 = n 10 := rl 20 rfl
  have r21 : t 21 = n 11 := rl 21 rfl
  have rf : ∃ r' x' t', ((f_X1_refuse (-2) x n m k).bind fun v => some (v.1, v.2)) = some (r', x') ∧ ((f_X2_no (-2) t).bind fun v => some (v.1, v.2)) = some (r', t') ∧ RR x' n m k t' := by
    obtain ⟨x', t', a, b', c⟩ := refX h (-2) 2 (by omega) (by decide)
    exact ⟨_, x', t', by rw [a]; rfl, b', c⟩
  unfold f_X1_richest f_X2_richest
  simp only [jnE]
  by_cases z1 : v < 0
  · have e0 : f_X2_isIn v 0 2 = 0 := by unfold f_X2_isIn; rw [if_pos z1]
    rw [if_pos z1, e0, iteZ]; exact rf
  by_cases z2 : v ≤ 2
  · have e0 : f_X2_isIn v 0 2 = 1 := by unfold f_X2_isIn; rw [if_neg z1, if_neg (fun u => lt_nle u z2)]
    rw [if_neg z1, if_pos z2, e0, iteN, w.b, w.c]
    obtain ⟨a, ha, rfl⟩ := inR_nI (x := v) (b := 2) ⟨by rw [Int32.lt_iff_toInt_lt, show ((0 : Int32)).toInt = 0 from rfl] at z1; omega, Int32.le_iff_toInt_le.mp z2⟩ (by omega)
    rcases (show a = 0 ∨ a = 1 ∨ a = 2 by omega) with e | e | e
    · subst e
      rw [if_neg (show ¬ nI 0 = 2 by decide), if_pos (show nI 0 = 0 by decide), mostOf_9_M0 (by rw [r21, w.b]) h6, r9, Option.bind_some]
      rw [rich_X0 (n 8) (by omega) (fun i hi => by unfold f_X1_riches; rw [if_pos (show nI 0 = 0 by decide), atv_nI _ (by omega) (by omega)]) (fun i hi => (w.pur hi).1)]
      exact ⟨_, _, _, rfl, rfl, h⟩
    · subst e
      rw [if_neg (show ¬ nI 1 = 2 by decide), if_neg (show ¬ nI 1 = 0 by decide), if_pos (show nI 1 = 1 by decide), mostOf_10_M0 (by rw [r21, w.b]) h6, r10, Option.bind_some]
      rw [rich_X0 (n 9) (by omega) (fun i hi => by unfold f_X1_riches; rw [if_neg (show ¬ nI 1 = 0 by decide), if_pos (show nI 1 = 1 by decide), atv_nI _ (by omega) (by omega)]) (fun i hi => (w.bel hi).1)]
      exact ⟨_, _, _, rfl, rfl, h⟩
    · subst e
      rw [if_pos (show nI 2 = 2 by decide), if_neg (show ¬ nI 2 = 0 by decide), if_neg (show ¬ nI 2 = 1 by decide), dearest_M0 (wo n) (by rw [r20, w.c]) (fun i hi => worth_M w rl hi) h8, Option.bind_some]
      rw [rich_X0 (wo n) h8 (fun i hi => by unfold f_X1_riches; rw [if_neg (show ¬ nI 2 = 0 by decide), if_neg (show ¬ nI 2 = 1 by decide)]; rfl) (fun i hi => (wo_in w hi).1)]
      exact ⟨_, _, _, rfl, rfl, h⟩
  · have e0 : f_X2_isIn v 0 2 = 0 := by unfold f_X2_isIn; rw [if_neg z1, if_pos (nle_lt z2)]
    rw [if_neg z1, if_neg z2, e0, iteZ]; exact rf
