/-! the plain calls -/
theorem N10 : ¬ (1 : Int32) = 0 := by decide
theorem iteN {α : Type} (a b : α) : (if (1 : Int32) = 0 then a else b) = b := if_neg N10
theorem iteZ {α : Type} (a b : α) : (if (0 : Int32) = 0 then a else b) = a := if_pos rfl
theorem some2 {α β : Type} {o : Option (α × β)} {a : α} {b : β} (h : o = some (a, b)) : (o.bind fun v => some (v.1, v.2)) = some (a, b) := by rw [h]; rfl
theorem letter_XM {x n m k t : HS} (h : RR x n m k t) (c : Int32) : ∃ r x' t', f_X1_letter c x n m k = some (r, x') ∧ f_X2_letter c t = some (r, t') ∧ RR x' n m k t' := by
  obtain ⟨nc, nb, w, rl, wm, wk, h1, h2, h3, ⟨lc, l1, l2, l3, l4⟩, h5, h6, h7⟩ := id h
  have ref : ∀ r j, j < 7 → -r = nI j → ∃ x' t', ((f_X1_refuse r x n m k).bind fun v => some (v.1, v.2)) = some (r, x') ∧ ((f_X2_no r t).bind fun v => some (v.1, v.2)) = some (r, t') ∧ RR x' n m k t' := fun r j hj hr => by
    obtain ⟨x', t', a, b, c⟩ := refuse_XM h hj hr
    exact ⟨x', t', some2 a, some2 b, c⟩
  unfold f_X1_letter f_X2_letter
  simp only [jnE]
  by_cases q : 0 ≤ c
  · rw [if_pos q]
    by_cases q2 : 255 < c
    · have e : f_X2_bound c 0 255 = -6 := by unfold f_X2_bound; rw [if_pos q, if_neg (lt_nle q2)]
      rw [if_pos q2, e, if_neg (by decide), if_neg (by decide)]
      obtain ⟨x', t', a⟩ := ref (-6) 6 (by omega) (by decide)
      exact ⟨_, x', t', a⟩
    · have q3 : c ≤ 255 := by
        rw [Int32.le_iff_toInt_le]; rw [Int32.lt_iff_toInt_lt] at q2; omega
      have e : f_X2_bound c 0 255 = 0 := by unfold f_X2_bound; rw [if_pos q, if_pos q3]
      rw [if_neg q2, e, if_pos rfl, if_pos rfl, l2, l3]
      by_cases z : lc = 96
      · subst z
        rw [if_neg (show ¬ nI 96 < (96 : Int32) by decide), if_pos (show nI 96 = (96 : Int32) by decide), if_neg (by decide)]
        obtain ⟨x', t', a⟩ := ref (-6) 6 (by omega) (by decide)
        exact ⟨_, x', t', a⟩
      · rw [if_pos (show nI lc < (96 : Int32) from nI_lt (b := 96) (by omega) (by omega)), if_neg (show ¬ nI lc = (96 : Int32) from fun y => z ((nI_eq (b := 96) (by omega) (by omega)).mp y)), ptv_nI _ _ (by omega) (by omega), wr_nI _ _ (by omega) (by omega), Option.bind_some]
        rw [show (st x 0 (upd (x 0) lc c)) 4 0 = x 4 0 from rfl, l2, show (st t 11 (upd (t 11) lc c)) 23 0 = t 23 0 from rfl, l3, nI_1]
        refine ⟨_, _, _, rfl, rfl, nc, nb, w, (rl.same rfl).same rfl, wm, wk, h1, h2, h3, ⟨lc + 1, by omega, rfl, rfl, fun i hi => ?_⟩, h5, h6, h7⟩
        show upd (x 0) lc c i = upd (t 11) lc c i ∧ inR 0 255 (upd (t 11) lc c i)
        by_cases y : i = lc
        · rw [y, upd_eq, upd_eq]
          refine ⟨rfl, ?_⟩
          rw [Int32.le_iff_toInt_le] at q q3
          exact ⟨q, q3⟩
        · rw [upd_ne y, upd_ne y]
          exact l4 i (by omega)
  · rw [if_neg q]
    have e : f_X2_bound c 0 255 = -4 := by unfold f_X2_bound; rw [if_neg q]
    rw [e, if_neg (by decide), if_neg (by decide)]
    obtain ⟨x', t', a⟩ := ref (-4) 4 (by omega) (by decide)
    exact ⟨_, x', t', a⟩
theorem refX {x n m k t : HS} (h : RR x n m k t) (r : Int32) (j : Nat) (hj : j < 7) (hr : -r = nI j) : ∃ x' t', f_X1_refuse r x n m k = some (r, x') ∧ ((f_X2_no r t).bind fun v => some (v.1, v.2)) = some (r, t') ∧ RR x' n m k t' := by
  obtain ⟨x', t', a, b, c⟩ := refuse_XM h hj hr
  exact ⟨x', t', a, some2 b, c⟩
theorem row_XM {x n m k t : HS} (h : RR x n m k t) (c : Int32) : ∃ r x' t', f_X1_row c x n m k = some (r, x') ∧ f_X2_row c t = some (r, t') ∧ RR x' n m k t' := by
  obtain ⟨nc, nb, w, rl, wm, wk, h1, h2, h3, h4, ⟨lc, l1, l2, l3, l4⟩, h6, h7⟩ := id h
  have ref : ∀ r j, j < 7 → -r = nI j → ∃ x' t', ((f_X1_refuse r x n m k).bind fun v => some (v.1, v.2)) = some (r, x') ∧ ((f_X2_no r t).bind fun v => some (v.1, v.2)) = some (r, t') ∧ RR x' n m k t' := fun r j hj hr => by
    obtain ⟨x', t', a, b, c⟩ := refuse_XM h hj hr
    exact ⟨x', t', some2 a, some2 b, c⟩
  unfold f_X1_row f_X2_row
  simp only [jnE]
  by_cases q : 0 ≤ c
  · rw [if_pos q]
    by_cases q2 : 99 < c
    · have e : f_X2_bound c 0 99 = -6 := by unfold f_X2_bound; rw [if_pos q, if_neg (lt_nle q2)]
      rw [if_pos q2, e, if_neg (by decide), if_neg (by decide)]
      obtain ⟨x', t', a⟩ := ref (-6) 6 (by omega) (by decide)
      exact ⟨_, x', t', a⟩
    · have q3 : c ≤ 99 := by
        rw [Int32.le_iff_toInt_le]; rw [Int32.lt_iff_toInt_lt] at q2; omega
      have e : f_X2_bound c 0 99 = 0 := by unfold f_X2_bound; rw [if_pos q, if_pos q3]
      rw [if_neg q2, e, if_pos rfl, if_pos rfl, l2, l3]
      by_cases z : lc = 16
      · subst z
        rw [if_neg (show ¬ nI 16 < (16 : Int32) by decide), if_pos (show nI 16 = (16 : Int32) by decide), if_neg (by decide)]
        obtain ⟨x', t', a⟩ := ref (-6) 6 (by omega) (by decide)
        exact ⟨_, x', t', a⟩
      · rw [if_pos (show nI lc < (16 : Int32) from nI_lt (b := 16) (by omega) (by omega)), if_neg (show ¬ nI lc = (16 : Int32) from fun y => z ((nI_eq (b := 16) (by omega) (by omega)).mp y)), ptv_nI _ _ (by omega) (by omega), wr_nI _ _ (by omega) (by omega), Option.bind_some]
        rw [show (st x 1 (upd (x 1) lc c)) 5 0 = x 5 0 from rfl, l2, show (st t 18 (upd (t 18) lc c)) 30 0 = t 30 0 from rfl, l3, nI_1]
        refine ⟨_, _, _, rfl, rfl, nc, nb, w, (rl.same rfl).same rfl, wm, wk, h1, h2, h3, h4, ⟨lc + 1, by omega, rfl, rfl, fun i hi => ?_⟩, h6, h7⟩
        show upd (x 1) lc c i = upd (t 18) lc c i
        by_cases y : i = lc
        · rw [y, upd_eq, upd_eq]
        · rw [upd_ne y, upd_ne y]
          exact l4 i (by omega)
  · rw [if_neg q]
    have e : f_X2_bound c 0 99 = -4 := by unfold f_X2_bound; rw [if_neg q]
    rw [e, if_neg (by decide), if_neg (by decide)]
    obtain ⟨x', t', a⟩ := ref (-4) 4 (by omega) (by decide)
    exact ⟨_, x', t', a⟩
theorem clear_XM {x n m k t : HS} (h : RR x n m k t) : ∃ r x' t', f_X1_clear x n m k = some (r, x') ∧ f_X2_clear t = some (r, t') ∧ RR x' n m k t' := by
  obtain ⟨nc, nb, w, rl, wm, wk, h1, h2, h3, h4, ⟨lc, l1, l2, l3, l4⟩, h6, h7⟩ := id h
  refine ⟨nI lc, st x 5 (fun _ => 0), st t 30 (fun _ => 0), ?_, ?_, nc, nb, w, rl.same rfl, wm, wk, h1, h2, h3, h4, ⟨0, by omega, rfl, rfl, fun i hi => absurd hi (Nat.not_lt_zero i)⟩, h6, h7⟩
  · unfold f_X1_clear; simp only [jnE]; rw [l2]
  · unfold f_X2_clear; simp only [jnE]; rw [l3]
/-- the holder, as told -/
theorem holderOf_M {h t : HS} {nc nb c : Nat} (w : WF h nc nb) (r : rel h t) (hc : c < nc) : f_X2_holderOf (nI c) t = some (h 4 c) := by
  have h8 := w.nc8
  have h6 := w.nb6
  have r5 : t 5 = mh h := r 5 rfl
  unfold f_X2_holderOf
  rw [r5, rd_nI _ (by omega) (by omega), Option.bind_some, w.mh_in hc]
  rcases w.hol hc with e | ⟨b, hb, e⟩
  · rw [e, if_pos hm_pile]
  · rw [e, hm_held (by omega), if_neg (nI_ne0 (by omega) (by omega)), Option.bind_some, nI_pred]
theorem areTold_M {h t : HS} {nc nb : Nat} (w : WF h nc nb) (r : rel h t) (b c : Int32) : f_X2_areTold b c t = if f_X0_hasBidder b h = 0 then 0 else if f_X0_hasCard c h = 0 then 0 else 1 := by
  unfold f_X2_areTold
  rw [isBidder_eq r, isCard_eq r]
theorem pays_XM {x n m k t : HS} (h : RR x n m k t) (b v : Int32) : ∃ r x' n' t', f_X1_pays b v x n m k = some (r, x', n') ∧ f_X2_pays b v t = some (r, t') ∧ RR x' n' m k t' := by
  obtain ⟨nc, nb, w, rl, wm, wk, hx⟩ := id h
  have h6 := w.nb6
  unfold f_X1_pays f_X2_pays
  rw [isBidder_eq rl]
  rcases hasBidder_or w b with ⟨j, hj, rfl, e⟩ | e
  · rw [e, if_neg N10, if_neg N10, beyond_eq]
    by_cases q : f_X2_bound v 0 999 = 0
    · obtain ⟨a, ha, rfl⟩ := bound_in (c := 999) (by omega) q
      have r9 : t 9 = n 8 := rl 9 rfl
      rw [if_pos q, if_pos q, atv_nI _ (by omega) (by omega), ptv_nI _ _ (by omega) (by omega), r9, rd_nI _ (by omega) (by omega), Option.bind_some, wr_nI _ _ (by omega) (by omega), Option.bind_some]
      exact ⟨_, _, _, _, rfl, rfl, nc, nb, w.put8 hj (nI_inR (b := 999) ha (by omega)), rl.w8 _, wm, wk, hx⟩
    · obtain ⟨j', hj', er⟩ := bound_ne q
      rw [if_neg q, if_neg q]
      obtain ⟨x', t', a, b', c⟩ := refX h _ j' hj' er
      rw [a, Option.bind_some]
      exact ⟨_, x', n, t', rfl, b', c⟩
  · rw [if_pos e, if_pos e]
    obtain ⟨x', t', a, b', c⟩ := refX h (-1) 1 (by omega) (by decide)
    rw [a, Option.bind_some]
    exact ⟨_, x', n, t', rfl, b', c⟩
theorem returns_XM {x n m k t : HS} (h : RR x n m k t) (c : Int32) : ∃ r x' n' t', f_X1_returns c x n m k = some (r, x', n') ∧ f_X2_returns c t = some (r, t') ∧ RR x' n' m k t' := by
  obtain ⟨nc, nb, w, rl, wm, wk, hx⟩ := id h
  have h8 := w.nc8
  have r5 : t 5 = mh n := rl 5 rfl
  unfold f_X1_returns f_X2_returns
  rw [isCard_eq rl]
  rcases hasCard_or w c with ⟨j, hj, rfl, e⟩ | e
  · rw [e, if_neg N10, if_neg N10, rd_nI _ (by omega) (by omega), Option.bind_some]
    by_cases q : n 4 j = -9
    · rw [if_neg (fun z => (m9_pile w hj).mp z q), r5, if_pos ((mh0 w hj).mpr q)]
      obtain ⟨x', t', a, b', c⟩ := refX h (-3) 3 (by omega) (by decide)
      rw [a, Option.bind_some]
      exact ⟨_, x', n, t', rfl, b', c⟩
    · rw [if_pos ((m9_pile w hj).mpr q)]
      have ne : ¬ t 5 j = 0 := by rw [r5]; exact fun z => q ((mh0 w hj).mp z)
      rw [if_neg ne, holderOf_M w rl hj, Option.bind_some, atv_nI _ (by omega) (by omega), ptv_nI _ _ (by omega) (by omega), wr_nI _ _ (by omega) (by omega), Option.bind_some]
      exact ⟨_, _, _, _, rfl, rfl, nc, nb, w.put4 hj (Or.inl rfl), rl.w4 w hj (-9), wm, wk, hx⟩
  · rw [if_pos e, if_pos e]
    obtain ⟨x', t', a, b', c⟩ := refX h (-1) 1 (by omega) (by decide)
    rw [a, Option.bind_some]
    exact ⟨_, x', n, t', rfl, b', c⟩
theorem gives_XM {x n m k t : HS} (h : RR x n m k t) (c b : Int32) : ∃ r x' n' t', f_X1_gives c b x n m k = some (r, x', n') ∧ f_X2_gives c b t = some (r, t') ∧ RR x' n' m k t' := by
  obtain ⟨nc, nb, w, rl, wm, wk, hx⟩ := id h
  have h8 := w.nc8
  have h6 := w.nb6
  unfold f_X1_gives f_X2_gives
  rw [areTold_M w rl]
  have rf : ∃ r x' n' t', ((f_X1_refuse (-1) x n m k).bind fun v => some (v.1, v.2, n)) = some (r, x', n') ∧ ((f_X2_no (-1) t).bind fun v => some (v.1, v.2)) = some (r, t') ∧ RR x' n' m k t' := by
    obtain ⟨x', t', a, b', c⟩ := refX h (-1) 1 (by omega) (by decide)
    exact ⟨_, x', n, t', by rw [a]; rfl, b', c⟩
  rcases hasCard_or w c with ⟨j, hj, rfl, e⟩ | e
  · rcases hasBidder_or w b with ⟨i, hi, rfl, e2⟩ | e2
    · rw [e, e2]
      simp only [iteN]
      rw [holderOf_M w rl hj, Option.bind_some, atv_nI _ (by omega) (by omega), ptv_nI _ _ (by omega) (by omega), wr_nI _ _ (by omega) (by omega), Option.bind_some]
      have ehm : nI i + 1 = hm (nI i) := by rw [hm_held (by omega), nI_1]
      rw [ehm]
      exact ⟨_, _, _, _, rfl, rfl, nc, nb, w.put4 hj (Or.inr ⟨i, hi, rfl⟩), rl.w4 w hj (nI i), wm, wk, hx⟩
    · rw [e, e2]
      simp only [iteN, iteZ]
      exact rf
  · rw [e, if_pos rfl]
    by_cases z : f_X0_hasBidder b n = 0
    · rw [if_pos z, if_pos rfl]; exact rf
    · rw [if_neg z, if_pos rfl, if_pos rfl]; exact rf
theorem sells_XM {x n m k t : HS} (h : RR x n m k t) (c : Int32) : ∃ r x' n' t', f_X1_sells c x n m k = some (r, x', n') ∧ f_X2_sells c t = some (r, t') ∧ RR x' n' m k t' := by
  obtain ⟨nc, nb, w, rl, wm, wk, hx⟩ := id h
  have h8 := w.nc8
  have r5 : t 5 = mh n := rl 5 rfl
  unfold f_X1_sells f_X2_sells
  rw [isCard_eq rl]
  rcases hasCard_or w c with ⟨j, hj, rfl, e⟩ | e
  · rw [e, if_neg N10, if_neg N10, rd_nI _ (by omega) (by omega), Option.bind_some]
    by_cases q : n 4 j = -9
    · rw [if_neg (fun z => (m9_pile w hj).mp z q), r5, if_pos ((mh0 w hj).mpr q)]
      rcases auction_XM w hj with ⟨e1, -, e3⟩ | ⟨b, p, hb, hp1, hp9, hpu, -, e1, w', e3⟩
      · rw [e1, e3 t rl hx.a29, Option.bind_some, Option.bind_some, atv_nI _ (by omega) (by omega)]
        exact ⟨_, _, _, _, rfl, by show some ((-9 : Int32), t) = some (n 4 j, t); rw [q], nc, nb, w, rl, wm, wk, hx⟩
      · obtain ⟨t', s1, s2, s3, -⟩ := e3 t rl hx.a29
        rw [e1, s1, Option.bind_some, Option.bind_some, atv_nI _ (by omega) (by omega)]
        refine ⟨_, _, _, t', rfl, ?_, nc, nb, w', s2, wm, wk, hx.g0 (G0.of_fr s3)⟩
        show some (nI b, t') = some (upd (n 4) j (nI b) j, t')
        rw [upd_eq]
    · rw [if_pos ((m9_pile w hj).mpr q)]
      have ne : ¬ t 5 j = 0 := by rw [r5]; exact fun z => q ((mh0 w hj).mp z)
      rw [if_neg ne]
      obtain ⟨x', t', a, b', c⟩ := refX h (-3) 3 (by omega) (by decide)
      rw [a, Option.bind_some]
      exact ⟨_, x', n, t', rfl, b', c⟩
  · rw [if_pos e, if_pos e]
    obtain ⟨x', t', a, b', c⟩ := refX h (-1) 1 (by omega) (by decide)
    rw [a, Option.bind_some]
    exact ⟨_, x', n, t', rfl, b', c⟩
theorem isIn_or (a : Int32) {b c : Int32} : (f_X2_isIn a b c = 0 ∧ (a < b ∨ c < a)) ∨ (f_X2_isIn a b c = 1 ∧ ¬ a < b ∧ ¬ c < a) := by
  unfold f_X2_isIn
  by_cases q : a < b
  · rw [if_pos q]; exact Or.inl ⟨rfl, Or.inl q⟩
  · rw [if_neg q]
    by_cases z : c < a
    · rw [if_pos z]; exact Or.inl ⟨rfl, Or.inr z⟩
    · rw [if_neg z]; exact Or.inr ⟨rfl, q, z⟩
theorem turn_XM {x n m k t : HS} (h : RR x n m k t) (b v f : Int32) : ∃ r x' n' t', f_X1_turn b v f x n m k = some (r, x', n') ∧ f_X2_turn b v f t = some (r, t') ∧ RR x' n' m k t' := by
  obtain ⟨nc, nb, w, rl, wm, wk, hx⟩ := id h
  have h6 := w.nb6
  have rf : ∀ r j, j < 7 → -r = nI j → ∃ r' x' n' t', ((f_X1_refuse r x n m k).bind fun v => some (v.1, v.2, n)) = some (r', x', n') ∧ ((f_X2_no r t).bind fun v => some (v.1, v.2)) = some (r', t') ∧ RR x' n' m k t' := fun r j hj hr => by
    obtain ⟨x', t', a, b', c⟩ := refX h r j hj hr
    exact ⟨_, x', n, t', by rw [a]; rfl, b', c⟩
  unfold f_X1_turn f_X2_turn
  rw [isBidder_eq rl]
  rcases hasBidder_or w b with ⟨j, hj, rfl, e⟩ | e
  · rw [e, if_neg N10, if_neg N10, beyond_eq]
    rcases isIn_or v (b := 0) (c := 5) with ⟨e0, q⟩ | ⟨e0, q, q2⟩
    · rw [e0, if_pos rfl]
      by_cases q1 : v < 0
      · rw [if_pos q1]; exact rf (-2) 2 (by omega) (by decide)
      · have q5 : ¬ v < 6 := by
          rcases q with q | q
          · exact absurd q q1
          · rw [Int32.lt_iff_toInt_lt] at q ⊢
            rw [show ((5 : Int32)).toInt = 5 from rfl] at q
            rw [show ((6 : Int32)).toInt = 6 from rfl]
            omega
        rw [if_neg q1, if_neg q5]; exact rf (-2) 2 (by omega) (by decide)
    · have q5 : v < 6 := by
        rw [Int32.lt_iff_toInt_lt] at q2 ⊢
        rw [show ((5 : Int32)).toInt = 5 from rfl] at q2
        rw [show ((6 : Int32)).toInt = 6 from rfl]
        omega
      rw [e0, if_neg q, if_pos q5, iteN]
      by_cases z : f_X2_bound f 0 9 = 0
      · obtain ⟨a, ha, rfl⟩ := bound_in (c := 9) (by omega) z
        have r7 : t 7 = n 6 := rl 7 rfl
        have r8 : t 8 = n 7 := rl 8 rfl
        rw [if_pos z, if_pos z]
        simp only [jnE]
        rw [atv_nI _ (by omega) (by omega), atv_nI _ (by omega) (by omega), ptv_nI _ _ (by omega) (by omega), ptv_nI _ _ (by omega) (by omega), r7, rd_nI _ (by omega) (by omega), Option.bind_some, r8, rd_nI _ (by omega) (by omega), Option.bind_some, wr_nI _ _ (by omega) (by omega), Option.bind_some, show (st t 7 (upd (n 6) j v)) 8 = n 7 from r8, wr_nI _ _ (by omega) (by omega), Option.bind_some]
        refine ⟨_, _, _, _, rfl, rfl, nc, nb, ?_, (rl.w6 (upd (n 6) j v)).w7 (upd (n 7) j (nI a)), wm, wk, hx⟩
        have w1 : WF (st n 6 (upd (n 6) j v)) nc nb := w.set6 (upd_zero hj (w.zb (by omega) (by omega)))
        exact w1.set7 (upd_all (P := inR 0 9) (fun i hi => w.bfig hi) (nI_inR (b := 9) ha (by omega))) (upd_zero hj (w.zb (k := 7) (by omega) (by omega)))
      · obtain ⟨j', hj', er⟩ := bound_ne z
        rw [if_neg z, if_neg z]
        exact rf _ j' hj' er
  · rw [if_pos e, if_pos e]
    exact rf (-1) 1 (by omega) (by decide)
theorem bids_XM {x n m k t : HS} (h : RR x n m k t) (b c : Int32) : ∃ r x' t', f_X1_bids b c x n m k = some (r, x') ∧ f_X2_bids b c t = some (r, t') ∧ RR x' n m k t' := by
  obtain ⟨nc, nb, w, rl, wm, wk, hx⟩ := id h
  have h8 := w.nc8
  have h6 := w.nb6
  unfold f_X1_bids f_X2_bids
  rw [areTold_M w rl]
  have rf : ∃ r x' t', ((f_X1_refuse (-1) x n m k).bind fun v => some (v.1, v.2)) = some (r, x') ∧ ((f_X2_no (-1) t).bind fun v => some (v.1, v.2)) = some (r, t') ∧ RR x' n m k t' := by
    obtain ⟨x', t', a, b', c⟩ := refX h (-1) 1 (by omega) (by decide)
    exact ⟨_, x', t', by rw [a]; rfl, b', c⟩
  rcases hasBidder_or w b with ⟨i, hi, rfl, e2⟩ | e2
  · rcases hasCard_or w c with ⟨j, hj, rfl, e⟩ | e
    · rw [e, e2]
      simp only [iteN]
      rw [bid_M w rl hj hi, Option.bind_some]
      exact ⟨_, _, _, rfl, rfl, h⟩
    · rw [e, e2]
      simp only [iteN, iteZ]
      exact rf
  · rw [e2]
    simp only [iteN, iteZ]
    exact rf
