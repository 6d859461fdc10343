/-! what would be in some months -/
theorem then_all {x n m k t : HS} (h : RR x n m k t) {a : Nat} (ha : a ≤ 60) : ∃ (nc nb : Nat) (d : Int32) (h' t1 t2 t3 : HS), WF n nc nb ∧ rel n t ∧ f_X0_become m n = some n ∧ f_X0_goOn (nI a) 1 n = some (d, h') ∧ WF h' nc nb ∧ f_X2_thinks t = some t1 ∧ f_X2_goes (nI a) t1 = some t2 ∧ rel h' t2 ∧ f_X2_forgets t2 = some t3 ∧ RR x n h' k t3 := by
  obtain ⟨nc, nb, w, rl, ⟨ma, mb, wm⟩, wk, hx⟩ := id h
  obtain ⟨t1, a1, a2, a3, a4⟩ := thinks_M w rl
  obtain ⟨d, h', w', -, g1, g2⟩ := goOn_XM w ha
  obtain ⟨t2, b1, b2, b3, -⟩ := g2 t1 a2 (by rw [a3.a29]; exact hx.a29)
  obtain ⟨t3, c1, c2, c3⟩ := a4 h' t2 nc nb w' b2 b3
  exact ⟨nc, nb, d, h', t1, t2, t3, w, rl, become_X wm w, g1, w', a1, b1, b2, c1, nc, nb, w, c2, ⟨nc, nb, w'⟩, wk, hx.g0 c3.g0⟩
theorem refM {x n m k t : HS} (h : RR x n m k t) (r : Int32) (j : Nat) (hj : j < 7) (hr : -r = nI j) : ∃ r' x' m' t', ((f_X1_refuse r x n m k).bind fun v => some (v.1, v.2, m)) = some (r', x', m') ∧ ((f_X2_no r t).bind fun v => some (v.1, v.2)) = some (r', t') ∧ RR x' n m' k t' := by
  obtain ⟨x', t', a, b', c⟩ := refX h r j hj hr
  exact ⟨_, x', m, t', by rw [a]; rfl, b', c⟩
theorem cardThen_XM {x n m k t : HS} (h : RR x n m k t) (c v : Int32) : ∃ r x' m' t', f_X1_cardThen c v x n m k = some (r, x', m') ∧ f_X2_cardThen c v t = some (r, t') ∧ RR x' n m' k t' := by
  obtain ⟨nc, nb, w, rl, -, -, -⟩ := id h
  unfold f_X1_cardThen f_X2_cardThen
  rw [isCard_eq rl]
  rcases hasCard_or w c with ⟨j, hj, rfl, e⟩ | e
  · rw [e, if_neg N10, if_neg N10, beyond_eq]
    by_cases q : f_X2_bound v 0 60 = 0
    · obtain ⟨a, ha, rfl⟩ := bound_in (c := 60) (by omega) q
      obtain ⟨nc', nb', d, h', t1, t2, t3, w2, -, e1, e2, e3, e4, e5, e6, e7, e8⟩ := then_all h ha
      have hcc : nc' = nc := (nI_eq (by have := w2.nc8; omega) (by have := w.nc8; omega)).mp (by rw [← w2.c 0, ← w.c 0])
      subst hcc
      have h8 := w.nc8
      rw [if_pos q, if_pos q, e1, Option.bind_some, e2, Option.bind_some, e4, Option.bind_some, e5, Option.bind_some, holderOf_M e3 e6 hj, Option.bind_some, e7, Option.bind_some, atv_nI _ (by omega) (by omega)]
      exact ⟨_, _, _, _, rfl, rfl, e8⟩
    · obtain ⟨j', hj', er⟩ := bound_ne q
      rw [if_neg q, if_neg q]
      exact refM h _ j' hj' er
  · rw [if_pos e, if_pos e]
    exact refM h (-1) 1 (by omega) (by decide)
theorem pileThen_XM {x n m k t : HS} (h : RR x n m k t) (v : Int32) : ∃ r x' m' t', f_X1_pileThen v x n m k = some (r, x', m') ∧ f_X2_pileThen v t = some (r, t') ∧ RR x' n m' k t' := by
  unfold f_X1_pileThen f_X2_pileThen
  rw [beyond_eq]
  by_cases q : f_X2_bound v 0 60 = 0
  · obtain ⟨a, ha, rfl⟩ := bound_in (c := 60) (by omega) q
    obtain ⟨nc', nb', d, h', t1, t2, t3, w2, -, e1, e2, e3, e4, e5, e6, e7, e8⟩ := then_all h ha
    rw [if_pos q, if_pos q, e1, Option.bind_some, e2, Option.bind_some, e4, Option.bind_some, e5, Option.bind_some, pile_X e3, pile_M e3 e6, Option.bind_some, Option.bind_some, e7, Option.bind_some]
    exact ⟨_, _, _, _, rfl, rfl, e8⟩
  · obtain ⟨j', hj', er⟩ := bound_ne q
    rw [if_neg q, if_neg q]
    exact refM h _ j' hj' er
/-- 'what' 0 or 1, as either side tests it -/
theorem what01 (v : Int32) : (v < 0 ∧ f_X2_isIn v 0 1 = 0) ∨ (¬ v < 0 ∧ ¬ v ≤ 1 ∧ f_X2_isIn v 0 1 = 0) ∨ (¬ v < 0 ∧ v ≤ 1 ∧ f_X2_isIn v 0 1 = 1) := by
  unfold f_X2_isIn
  by_cases q : v < 0
  · left; exact ⟨q, by rw [if_pos q]⟩
  · right
    by_cases q2 : v ≤ 1
    · right; exact ⟨q, q2, by rw [if_neg q, if_neg (fun y => lt_nle y q2)]⟩
    · left; exact ⟨q, q2, by rw [if_neg q, if_pos (nle_lt q2)]⟩
theorem bidderThen_XM {x n m k t : HS} (h : RR x n m k t) (b v f : Int32) : ∃ r x' m' t', f_X1_bidderThen b v f x n m k = some (r, x', m') ∧ f_X2_bidderThen b v f t = some (r, t') ∧ RR x' n m' k t' := by
  obtain ⟨nc, nb, w, rl, -, -, -⟩ := id h
  have h6 := w.nb6
  unfold f_X1_bidderThen f_X2_bidderThen
  simp only [jnE]
  rw [isBidder_eq rl]
  rcases hasBidder_or w b with ⟨j, hj, rfl, e⟩ | e
  · rw [e, if_neg N10, if_neg N10, beyond_eq]
    by_cases q : f_X2_bound v 0 60 = 0
    · rw [if_pos q, if_pos q]
      rcases what01 f with ⟨z1, z3⟩ | ⟨z1, z2, z3⟩ | ⟨z1, z2, z3⟩
      · rw [if_pos z1, z3, if_pos rfl, if_neg (by decide)]
        exact refM h (-2) 2 (by omega) (by decide)
      · rw [if_neg z1, if_neg z2, z3, if_pos rfl, if_neg (by decide)]
        exact refM h (-2) 2 (by omega) (by decide)
      · rw [if_neg z1, if_pos z2, z3, if_neg (by decide), if_pos q]
        obtain ⟨a, ha, rfl⟩ := bound_in (c := 60) (by omega) q
        obtain ⟨nc', nb', d, h', t1, t2, t3, w2, -, e1, e2, e3, e4, e5, e6, e7, e8⟩ := then_all h ha
        have r9 : t2 9 = h' 8 := e6 9 rfl
        have r10 : t2 10 = h' 9 := e6 10 rfl
        rw [e1, Option.bind_some, e2, Option.bind_some, e4, Option.bind_some, e5, Option.bind_some, r9, r10, e7, rd_nI _ (by omega) (by omega), rd_nI _ (by omega) (by omega), atv_nI _ (by omega) (by omega), atv_nI _ (by omega) (by omega)]
        simp only [Option.bind_some]
        by_cases y : f = 0
        · rw [if_pos y, if_pos y]; exact ⟨_, _, _, _, rfl, rfl, e8⟩
        · rw [if_neg y, if_neg y]; exact ⟨_, _, _, _, rfl, rfl, e8⟩
    · obtain ⟨j', hj', er⟩ := bound_ne q
      rw [if_neg q, if_neg q, if_neg q]
      exact refM h _ j' hj' er
  · rw [if_pos e, if_pos e, if_neg (by decide)]
    exact refM h (-1) 1 (by omega) (by decide)

theorem sold_loop {x n k : HS} {nc nb : Nat} {c : Nat} (hc : c < nc) : ∀ (z i : Nat) (h : HS), WF h nc nb → i + z = 61 → ∃ (r : Int32) (h' : HS), WF h' nc nb ∧ (∀ n', z < n' → L_X1_sold_30 (nI c) n k (fun (xx_65 : HS) (xm_65 : HS) => some ((-9 : Int32), xx_65, xm_65)) n' (nI i) x h = some (r, x, h')) ∧ ∀ t, rel h t → t 29 0 = 0 → ∃ g t', WF g nc nb ∧ rel g t' ∧ fr t t' ∧ ∀ (K : Int32 → HS → Option (Int32 × HS)) (n' : Nat), z + 1 < n' → L_X2_sold_23 (nI c) K n' (-9) (nI i) t = K r t'
  | 0, i, h, w, hi => by
    have : i = 61 := by omega
    subst this
    refine ⟨-9, h, w, fun n' hn => ?_, fun t r ha => ⟨h, t, w, r, fr.rf, fun K n' hn => ?_⟩⟩
    · cases n' with
      | zero => omega
      | succ n' => rw [L_X1_sold_30, if_pos (by decide)]
    · cases n' with
      | zero => omega
      | succ n' => rw [L_X2_sold_23, if_pos (by decide)]
  | z + 1, i, h, w, hi => by
    have h8 := w.nc8
    have h6 := w.nb6
    have c60 : ¬ (60 : Int32) < nI i := nI_nlt (a := 60) (b := i) (by omega) (by omega)
    obtain ⟨d, h1, w1, -, g1, g2⟩ := goOn1_XM w
    by_cases q : ¬ h 4 c = -9
    · refine ⟨nI i, h, w, fun n' hn => ?_, fun t r ha => ?_⟩
      · cases n' with
        | zero => omega
        | succ n' => rw [L_X1_sold_30, if_neg c60, if_pos ((m9_pile w hc).mpr q)]
      · obtain ⟨t1, b1, b2, b3, -⟩ := g2 t r ha
        refine ⟨h1, t1, w1, b2, b3, fun K n' hn => ?_⟩
        cases n' with
        | zero => omega
        | succ n' =>
          rw [L_X2_sold_23, if_neg c60, if_neg (by decide), show t 5 = mh h from r 5 rfl, rd_nI _ (by omega) (by omega), Option.bind_some, if_neg (fun y => q ((mh0 w hc).mp y)), b1, Option.bind_some, nI_1]
          cases n' with
          | zero => omega
          | succ n' =>
            rw [L_X2_sold_23, if_pos (nI_pos' (by omega)), ite_self]
    · obtain ⟨r0, h2, w2, X, M⟩ := sold_loop (x := x) (n := n) (k := k) hc z (i + 1) h1 w1 (by omega)
      refine ⟨r0, h2, w2, fun n' hn => ?_, fun t r ha => ?_⟩
      · cases n' with
        | zero => omega
        | succ n' =>
          rw [L_X1_sold_30, if_neg c60, if_neg (fun y => q ((m9_pile w hc).mp y)), g1, Option.bind_some, nI_1]
          exact X n' (by omega)
      · obtain ⟨t1, b1, b2, b3, -⟩ := g2 t r ha
        obtain ⟨g, t', M1, M2, M3, M4⟩ := M t1 b2 (by rw [b3 29 rfl (by decide)]; exact ha)
        refine ⟨g, t', M1, M2, b3.tr M3, fun K n' hn => ?_⟩
        cases n' with
        | zero => omega
        | succ n' =>
          rw [L_X2_sold_23, if_neg c60, if_neg (by decide), show t 5 = mh h from r 5 rfl, rd_nI _ (by omega) (by omega), Option.bind_some, if_pos ((mh0 w hc).mpr (Decidable.not_not.mp q)), b1, Option.bind_some, nI_1]
          exact M4 K n' (by omega)

theorem ruined_loop {x n k : HS} {nc nb : Nat} {b : Nat} (hb : b < nb) : ∀ (z i : Nat) (h : HS), WF h nc nb → i + z = 61 → ∃ (r : Int32) (h' : HS), WF h' nc nb ∧ (∀ n', z < n' → L_X1_ruined_30 (nI b) n k (fun (xx_68 : HS) (xm_68 : HS) => some ((-9 : Int32), xx_68, xm_68)) n' (nI i) x h = some (r, x, h')) ∧ ∀ t, rel h t → t 29 0 = 0 → ∃ g t', WF g nc nb ∧ rel g t' ∧ fr t t' ∧ ∀ (K : Int32 → HS → Option (Int32 × HS)) (n' : Nat), z + 1 < n' → L_X2_ruined_23 (nI b) K n' (-9) (nI i) t = K r t'
  | 0, i, h, w, hi => by
    have : i = 61 := by omega
    subst this
    refine ⟨-9, h, w, fun n' hn => ?_, fun t r ha => ⟨h, t, w, r, fr.rf, fun K n' hn => ?_⟩⟩
    · cases n' with
      | zero => omega
      | succ n' => rw [L_X1_ruined_30, if_pos (by decide)]
    · cases n' with
      | zero => omega
      | succ n' => rw [L_X2_ruined_23, if_pos (by decide)]
  | z + 1, i, h, w, hi => by
    have h8 := w.nc8
    have h6 := w.nb6
    have c60 : ¬ (60 : Int32) < nI i := nI_nlt (a := 60) (b := i) (by omega) (by omega)
    obtain ⟨d, h1, w1, -, g1, g2⟩ := goOn1_XM w
    by_cases q : h 9 b = 0
    · refine ⟨nI i, h, w, fun n' hn => ?_, fun t r ha => ?_⟩
      · cases n' with
        | zero => omega
        | succ n' => rw [L_X1_ruined_30, if_neg c60, atv_nI _ (by omega) (by omega), if_pos q]
      · obtain ⟨t1, b1, b2, b3, -⟩ := g2 t r ha
        refine ⟨h1, t1, w1, b2, b3, fun K n' hn => ?_⟩
        cases n' with
        | zero => omega
        | succ n' =>
          rw [L_X2_ruined_23, if_neg c60, if_neg (by decide), show t 10 = h 9 from r 10 rfl, rd_nI _ (by omega) (by omega), Option.bind_some, if_pos q, b1, Option.bind_some, nI_1]
          cases n' with
          | zero => omega
          | succ n' =>
            rw [L_X2_ruined_23, if_pos (nI_pos' (by omega)), ite_self]
    · obtain ⟨r0, h2, w2, X, M⟩ := ruined_loop (x := x) (n := n) (k := k) hb z (i + 1) h1 w1 (by omega)
      refine ⟨r0, h2, w2, fun n' hn => ?_, fun t r ha => ?_⟩
      · cases n' with
        | zero => omega
        | succ n' =>
          rw [L_X1_ruined_30, if_neg c60, atv_nI _ (by omega) (by omega), if_neg q, g1, Option.bind_some, nI_1]
          exact X n' (by omega)
      · obtain ⟨t1, b1, b2, b3, -⟩ := g2 t r ha
        obtain ⟨g, t', M1, M2, M3, M4⟩ := M t1 b2 (by rw [b3 29 rfl (by decide)]; exact ha)
        refine ⟨g, t', M1, M2, b3.tr M3, fun K n' hn => ?_⟩
        cases n' with
        | zero => omega
        | succ n' =>
          rw [L_X2_ruined_23, if_neg c60, if_neg (by decide), show t 10 = h 9 from r 10 rfl, rd_nI _ (by omega) (by omega), Option.bind_some, if_neg q, b1, Option.bind_some, nI_1]
          exact M4 K n' (by omega)

theorem out_loop {x n k : HS} {nc nb : Nat} : ∀ (z i : Nat) (h : HS), WF h nc nb → i + z = 61 → ∃ (r : Int32) (h' : HS), WF h' nc nb ∧ (∀ n', z < n' → L_X1_out_13 x n k (fun (xm_47 : HS) => some ((-9 : Int32), xm_47)) n' (nI i)  h = some (r, h')) ∧ ∀ t, rel h t → t 29 0 = 0 → ∃ g t', WF g nc nb ∧ rel g t' ∧ fr t t' ∧ ∀ (K : Int32 → HS → Option (Int32 × HS)) (n' : Nat), z + 1 < n' → L_X2_out_9 K n' (-9) (nI i) t = K r t'
  | 0, i, h, w, hi => by
    have : i = 61 := by omega
    subst this
    refine ⟨-9, h, w, fun n' hn => ?_, fun t r ha => ⟨h, t, w, r, fr.rf, fun K n' hn => ?_⟩⟩
    · cases n' with
      | zero => omega
      | succ n' => rw [L_X1_out_13, if_pos (by decide)]
    · cases n' with
      | zero => omega
      | succ n' => rw [L_X2_out_9, if_pos (by decide)]
  | z + 1, i, h, w, hi => by
    have h8 := w.nc8
    have h6 := w.nb6
    have c60 : ¬ (60 : Int32) < nI i := nI_nlt (a := 60) (b := i) (by omega) (by omega)
    obtain ⟨d, h1, w1, -, g1, g2⟩ := goOn1_XM w
    by_cases q : bs (qP h) nc = 0
    · refine ⟨nI i, h, w, fun n' hn => ?_, fun t r ha => ?_⟩
      · cases n' with
        | zero => omega
        | succ n' => rw [L_X1_out_13, if_neg c60, pile_X w, Option.bind_some, if_pos q]
      · obtain ⟨t1, b1, b2, b3, -⟩ := g2 t r ha
        refine ⟨h1, t1, w1, b2, b3, fun K n' hn => ?_⟩
        cases n' with
        | zero => omega
        | succ n' =>
          rw [L_X2_out_9, if_neg c60, if_neg (by decide), pile_M w r, Option.bind_some, if_pos q, b1, Option.bind_some, nI_1]
          cases n' with
          | zero => omega
          | succ n' =>
            rw [L_X2_out_9, if_pos (nI_pos' (by omega)), ite_self]
    · obtain ⟨r0, h2, w2, X, M⟩ := out_loop (x := x) (n := n) (k := k) z (i + 1) h1 w1 (by omega)
      refine ⟨r0, h2, w2, fun n' hn => ?_, fun t r ha => ?_⟩
      · cases n' with
        | zero => omega
        | succ n' =>
          rw [L_X1_out_13, if_neg c60, pile_X w, Option.bind_some, if_neg q, g1, Option.bind_some, nI_1]
          exact X n' (by omega)
      · obtain ⟨t1, b1, b2, b3, -⟩ := g2 t r ha
        obtain ⟨g, t', M1, M2, M3, M4⟩ := M t1 b2 (by rw [b3 29 rfl (by decide)]; exact ha)
        refine ⟨g, t', M1, M2, b3.tr M3, fun K n' hn => ?_⟩
        cases n' with
        | zero => omega
        | succ n' =>
          rw [L_X2_out_9, if_neg c60, if_neg (by decide), pile_M w r, Option.bind_some, if_neg q, b1, Option.bind_some, nI_1]
          exact M4 K n' (by omega)

theorem sold_XM {x n m k t : HS} (h : RR x n m k t) (c : Int32) : ∃ r x' m' t', f_X1_sold c x n m k = some (r, x', m') ∧ f_X2_sold c t = some (r, t') ∧ RR x' n m' k t' := by
  obtain ⟨nc, nb, w, rl, ⟨ma, mb, wm⟩, wk, hx⟩ := id h
  unfold f_X1_sold f_X2_sold
  simp only [jnE]
  rw [isCard_eq rl]
  rcases hasCard_or w c with ⟨j, hj, rfl, e⟩ | e
  · rw [e, if_neg N10, if_neg N10]
    obtain ⟨t1, a1, a2, a3, a4⟩ := thinks_M w rl
    obtain ⟨r, h', w', X, M⟩ := sold_loop (x := x) (n := n) (k := k) hj 61 0 n w (by omega)
    obtain ⟨g, t2, wg, rg, fg, M1⟩ := M t1 a2 (by rw [a3.a29]; exact hx.a29)
    obtain ⟨t3, c1, c2, c3⟩ := a4 g t2 nc nb wg rg fg
    rw [become_X wm w, Option.bind_some, a1, Option.bind_some]
    refine ⟨r, x, h', t3, X fuel (by unfold fuel; omega), ?_, nc, nb, w, c2, ⟨nc, nb, w'⟩, wk, hx.g0 c3.g0⟩
    refine Eq.trans (M1 _ fuel (by unfold fuel; omega)) ?_
    rw [c1]; rfl
  · rw [if_pos e, if_pos e]
    exact refM h (-1) 1 (by omega) (by decide)
theorem ruined_XM {x n m k t : HS} (h : RR x n m k t) (c : Int32) : ∃ r x' m' t', f_X1_ruined c x n m k = some (r, x', m') ∧ f_X2_ruined c t = some (r, t') ∧ RR x' n m' k t' := by
  obtain ⟨nc, nb, w, rl, ⟨ma, mb, wm⟩, wk, hx⟩ := id h
  unfold f_X1_ruined f_X2_ruined
  simp only [jnE]
  rw [isBidder_eq rl]
  rcases hasBidder_or w c with ⟨j, hj, rfl, e⟩ | e
  · rw [e, if_neg N10, if_neg N10]
    obtain ⟨t1, a1, a2, a3, a4⟩ := thinks_M w rl
    obtain ⟨r, h', w', X, M⟩ := ruined_loop (x := x) (n := n) (k := k) hj 61 0 n w (by omega)
    obtain ⟨g, t2, wg, rg, fg, M1⟩ := M t1 a2 (by rw [a3.a29]; exact hx.a29)
    obtain ⟨t3, c1, c2, c3⟩ := a4 g t2 nc nb wg rg fg
    rw [become_X wm w, Option.bind_some, a1, Option.bind_some]
    refine ⟨r, x, h', t3, X fuel (by unfold fuel; omega), ?_, nc, nb, w, c2, ⟨nc, nb, w'⟩, wk, hx.g0 c3.g0⟩
    refine Eq.trans (M1 _ fuel (by unfold fuel; omega)) ?_
    rw [c1]; rfl
  · rw [if_pos e, if_pos e]
    exact refM h (-1) 1 (by omega) (by decide)
theorem out_XM {x n m k t : HS} (h : RR x n m k t) : ∃ r m' t', f_X1_out x n m k = some (r, m') ∧ f_X2_out t = some (r, t') ∧ RR x n m' k t' := by
  obtain ⟨nc, nb, w, rl, ⟨ma, mb, wm⟩, wk, hx⟩ := id h
  unfold f_X1_out f_X2_out
  simp only [jnE]
  obtain ⟨t1, a1, a2, a3, a4⟩ := thinks_M w rl
  obtain ⟨r, h', w', X, M⟩ := out_loop (x := x) (n := n) (k := k) 61 0 n w (by omega)
  obtain ⟨g, t2, wg, rg, fg, M1⟩ := M t1 a2 (by rw [a3.a29]; exact hx.a29)
  obtain ⟨t3, c1, c2, c3⟩ := a4 g t2 nc nb wg rg fg
  rw [become_X wm w, Option.bind_some, a1, Option.bind_some]
  refine ⟨r, h', t3, X fuel (by unfold fuel; omega), ?_, nc, nb, w, c2, ⟨nc, nb, w'⟩, wk, hx.g0 c3.g0⟩
  refine Eq.trans (M1 _ fuel (by unfold fuel; omega)) ?_
  rw [c1]; rfl
theorem gets_XM {x n m k t : HS} (h : RR x n m k t) (c v : Int32) : ∃ r x' t', f_X1_gets c v x n m k = some (r, x') ∧ f_X2_gets c v t = some (r, t') ∧ RR x' n m k t' := by
  obtain ⟨nc, nb, w, rl, wm, wk, hx⟩ := id h
  have h6 := w.nb6
  have rf : ∀ r j, j < 7 → -r = nI j → ∃ r' x' t', ((f_X1_refuse r x n m k).bind fun v => some (v.1, v.2)) = some (r', x') ∧ ((f_X2_no r t).bind fun v => some (v.1, v.2)) = some (r', t') ∧ RR x' n m k t' := fun r j hj hr => by
    obtain ⟨x', t', a, b', c⟩ := refX h r j hj hr
    exact ⟨_, x', t', by rw [a]; rfl, b', c⟩
  unfold f_X1_gets f_X2_gets
  rw [isCard_eq rl]
  rcases hasCard_or w c with ⟨j, hj, rfl, e⟩ | e
  · rw [e, if_neg N10, if_neg N10]
    rcases what01 v with ⟨z1, z3⟩ | ⟨z1, z2, z3⟩ | ⟨z1, z2, z3⟩
    · rw [if_pos z1, z3, if_pos rfl]
      exact rf (-2) 2 (by omega) (by decide)
    · rw [if_neg z1, if_neg z2, z3, if_pos rfl]
      exact rf (-2) 2 (by omega) (by decide)
    · rw [if_neg z1, if_pos z2, z3, if_neg (by decide), getter_M w rl hj, hx.a29, Option.bind_some]
      rcases win_or w 0 j with ⟨e1, e2, -⟩ | ⟨b, p, hb, e1, hp1, hp9, hpu, epr, -, eD⟩
      · rw [e2, e1, Option.bind_some, if_neg (show ¬ (0 : Int32) ≤ -9 by decide), if_neg (show ¬ (0 : Int32) ≤ -9 by decide), ite_self]
        exact ⟨_, _, _, rfl, rfl, h⟩
      · obtain ⟨d1, d2⟩ := deal_div (b := b) (p := p) (by omega) hp9
        rw [d1] at d2
        rw [eD, e1, Option.bind_some, if_pos (nI_pos' (by omega)), d1, d2, if_pos (nI_pos' (by omega)), price_M w rl hj hb, hx.a29, epr, Option.bind_some]
        by_cases y : v = 0
        · rw [if_pos y, if_pos y]; exact ⟨_, _, _, rfl, rfl, h⟩
        · rw [if_neg y, if_neg y]; exact ⟨_, _, _, rfl, rfl, h⟩
  · rw [if_pos e, if_pos e]
    exact rf (-1) 1 (by omega) (by decide)
