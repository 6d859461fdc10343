theorem paid_XM {x n m k t : HS} (h : RR x n m k t) {nc nb i : Nat} (w : WF n nc nb) (rl : rel n t) (hi : i < nb) : ∃ (d : Int32) (g' t' : HS), WF g' nc nb ∧ f_X0_goOn 1 1 (st n 8 (upd (n 8) i 0)) = some (d, g') ∧ f_X2_paidWithout (nI i) t = some (d, t') ∧ rel n t' ∧ ∀ m', (∃ a b, WF m' a b) → RR x n m' k t' := by
  have h6 := w.nb6
  obtain ⟨t1, a1, a2, a3, -, a4⟩ := ask h w rl
  have wg : WF (st n 8 (upd (n 8) i 0)) nc nb := w.put8 hi ⟨by decide, by decide⟩
  obtain ⟨d, g', w1, -, g1, g2⟩ := goOn1_XM wg
  have r9 : t1 9 = n 8 := a2 9 rfl
  have r1 : rel (st n 8 (upd (n 8) i 0)) (st t1 9 (upd (t1 9) i 0)) := by rw [r9]; exact a2.w8 _
  obtain ⟨f, f1, f2, f3⟩ := zero16 (nI i) (fun (tt_32 : HS) => (f_X2_goesMonth (0 : Int32) tt_32).bind fun v4 => (f_X2_allOf_16 (v4 21 0) v4).bind fun v5 => (rd 6 (v4 16) (nI i)).bind fun v6 => (f_X2_forgets v4).bind fun v7 => some ((v5 - v6), v7)) 6 0 fuel (st t1 9 (upd (t1 9) i 0)) (by omega) (by unfold fuel; omega)
  obtain ⟨t2, b1, b2, b3, b4, b5⟩ := g2 (st (st t1 9 (upd (t1 9) i 0)) 16 f) (r1.same rfl) a3
  obtain ⟨t3, c1, c2, c3, c4⟩ := a4 g' t2 nc nb w1 b2 (((fr.rf.put (k := 9) rfl).put16).tr b3)
  have z2 : ∀ b, st n 8 (upd (n 8) i 0) 8 b = 0 → b < 6 → t2 16 b = 0 := fun b hb hb6 => by
    rw [b5 b hb, st_eq]; exact f1 b (by omega) hb6
  have p0 : ps f = 0 := by
    unfold ps
    rw [f1 0 (by omega) (by omega), f1 1 (by omega) (by omega), f1 2 (by omega) (by omega), f1 3 (by omega) (by omega), f1 4 (by omega) (by omega), f1 5 (by omega) (by omega)]
    decide
  have e16 : ps (t2 16) = d := by rw [b4, st_eq, p0, Int32.zero_add]
  have s16 : sm (t2 16) nb = d := by
    rw [← e16]
    exact sm_ps h6 (fun j hj hj6 => z2 j (by rw [st_eq, upd_ne (by omega)]; exact w.zb (k := 8) (by omega) (by omega) j hj) hj6)
  have r21 : t2 21 0 = nI nb := by rw [show t2 21 = g' 11 from b2 21 rfl, w1.b]
  refine ⟨d, g', t3, w1, g1, ?_, c2, c4⟩
  unfold f_X2_paidWithout
  rw [a1, Option.bind_some, wr_nI _ _ (by omega) (by omega), Option.bind_some]
  simp only [jnE]
  refine Eq.trans f3 ?_
  rw [b1, Option.bind_some, r21, allOf16_M h6, Option.bind_some, rd_nI _ (by omega) (by omega), Option.bind_some, c1, Option.bind_some, s16, z2 i (by rw [st_eq, upd_eq]) (by omega), Int32.sub_zero]
theorem stay_loop {x n k : HS} {nc nb : Nat} (j1 : Int32) (w : WF n nc nb) : ∀ (z i : Nat) (m t : HS) (best most : Int32), RR x n m k t → rel n t → (best = -9 ∨ ∃ b, b < 6 ∧ best = nI b) → i + z = nb → ∃ (r r2 : Int32) (m' t' : HS), RR x n m' k t' ∧ (∀ K n', z < n' → L_X1_stay_25 j1 n k K n' best most (nI i) x m = K r r2 x m') ∧ ∀ K n', z < n' → L_X2_stay_25 j1 K n' best most (nI i) t = K r r2 t'
  | 0, i, m, t, best, most, h, rl, hb, hi => by
    have : i = nb := by omega
    subst this
    have h6 := w.nb6
    have r21 : t 21 = n 11 := rl 21 rfl
    refine ⟨best, most, m, t, h, fun K n' hn => ?_, fun K n' hn => ?_⟩
    · cases n' with
      | zero => omega
      | succ n' => rw [L_X1_stay_25, w.b, if_pos (nI_le (Nat.le_refl _) (by omega))]
    · cases n' with
      | zero => omega
      | succ n' => rw [L_X2_stay_25, r21, w.b, if_pos (nI_le (Nat.le_refl _) (by omega))]
  | z + 1, i, m, t, best, most, h, rl, hb, hi => by
    have h6 := w.nb6
    have r21 : t 21 = n 11 := rl 21 rfl
    have hin : i < nb := by omega
    obtain ⟨-, -, -, -, ⟨ma, mb, wm⟩, wk, hx⟩ := id h
    obtain ⟨d, g', t', wg', g1, g2, g3, g4⟩ := paid_XM h w rl hin
    have R := g4 g' ⟨nc, nb, wg'⟩
    have xs : ∀ K n', L_X1_stay_25 j1 n k K (n' + 1) best most (nI i) x m = if best = (-9 : Int32) then L_X1_stay_25 j1 n k K n' (nI i) d (nI (i + 1)) x g' else if most ≤ d then L_X1_stay_25 j1 n k K n' best most (nI (i + 1)) x g' else L_X1_stay_25 j1 n k K n' (nI i) d (nI (i + 1)) x g' := by
      intro K n'
      rw [L_X1_stay_25, w.b, if_neg (nI_ge (by omega) (by omega)), become_X wm w, Option.bind_some]
      simp only [jnE]
      rw [ptv_nI _ _ (by omega) (by omega), g1, Option.bind_some, nI_1]
    have ms : ∀ K n', L_X2_stay_25 j1 K (n' + 1) best most (nI i) t = if best < 0 then L_X2_stay_25 j1 K n' (nI i) d (nI (i + 1)) t' else if d < most then L_X2_stay_25 j1 K n' (nI i) d (nI (i + 1)) t' else L_X2_stay_25 j1 K n' best most (nI (i + 1)) t' := by
      intro K n'
      rw [L_X2_stay_25, r21, w.b, if_neg (nI_ge (by omega) (by omega)), g2, Option.bind_some, nI_1]
    rcases hb with hb | ⟨b, hb6, hb⟩
    · obtain ⟨r, r2, m', t'', e1, e2, e3⟩ := stay_loop j1 w z (i + 1) g' t' (nI i) d R g3 (Or.inr ⟨i, by omega, rfl⟩) (by omega)
      refine ⟨r, r2, m', t'', e1, fun K n' hn => ?_, fun K n' hn => ?_⟩
      · cases n' with
        | zero => omega
        | succ n' => rw [xs, if_pos hb]; exact e2 K n' (by omega)
      · cases n' with
        | zero => omega
        | succ n' => rw [ms, if_pos (by rw [hb]; decide)]; exact e3 K n' (by omega)
    · have c1 : ¬ best = -9 := by rw [hb]; exact nI_m9 (by omega)
      have c2 : ¬ best < 0 := by rw [hb]; exact nI_pos (by omega)
      by_cases q : most ≤ d
      · obtain ⟨r, r2, m', t'', e1, e2, e3⟩ := stay_loop j1 w z (i + 1) g' t' best most R g3 (Or.inr ⟨b, hb6, hb⟩) (by omega)
        refine ⟨r, r2, m', t'', e1, fun K n' hn => ?_, fun K n' hn => ?_⟩
        · cases n' with
          | zero => omega
          | succ n' => rw [xs, if_neg c1, if_pos q]; exact e2 K n' (by omega)
        · cases n' with
          | zero => omega
          | succ n' => rw [ms, if_neg c2, if_neg (fun u => lt_nle u q)]; exact e3 K n' (by omega)
      · obtain ⟨r, r2, m', t'', e1, e2, e3⟩ := stay_loop j1 w z (i + 1) g' t' (nI i) d R g3 (Or.inr ⟨i, by omega, rfl⟩) (by omega)
        refine ⟨r, r2, m', t'', e1, fun K n' hn => ?_, fun K n' hn => ?_⟩
        · cases n' with
          | zero => omega
          | succ n' => rw [xs, if_neg c1, if_neg q]; exact e2 K n' (by omega)
        · cases n' with
          | zero => omega
          | succ n' => rw [ms, if_neg c2, if_pos (nle_lt q)]; exact e3 K n' (by omega)
theorem stay_XM {x n m k t : HS} (h : RR x n m k t) (v : Int32) : ∃ r x' m' t', f_X1_stay v x n m k = some (r, x', m') ∧ f_X2_stay v t = some (r, t') ∧ RR x' n m' k t' := by
  obtain ⟨nc, nb, w, rl, wm, wk, hx⟩ := id h
  have h6 := w.nb6
  unfold f_X1_stay f_X2_stay
  simp only [jnE]
  rcases what01 v with ⟨q1, q2⟩ | ⟨q1, q2, q3⟩ | ⟨q1, q2, q3⟩
  · rw [if_pos q1, q2, if_pos rfl]
    exact refM h (-2) 2 (by omega) (by decide)
  · rw [if_neg q1, if_neg q2, q3, if_pos rfl]
    exact refM h (-2) 2 (by omega) (by decide)
  · rw [if_neg q1, if_pos q2, q3, if_neg (by decide)]
    obtain ⟨r, r2, m', t', e1, e2, e3⟩ := stay_loop v w nb 0 m t (-9) (-9) h rl (Or.inl rfl) (by omega)
    by_cases z : v = 0
    · refine ⟨r, x, m', t', Eq.trans (e2 _ fuel (by unfold fuel; omega)) ?_, Eq.trans (e3 _ fuel (by unfold fuel; omega)) ?_, e1⟩
      · rw [if_pos z]
      · rw [if_pos z]
    · refine ⟨r2, x, m', t', Eq.trans (e2 _ fuel (by unfold fuel; omega)) ?_, Eq.trans (e3 _ fuel (by unfold fuel; omega)) ?_, e1⟩
      · rw [if_neg z]
      · rw [if_neg z]
