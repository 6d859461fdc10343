/-! cards, bidders, places, months -/
theorem rivals_X {h : HS} {nc nb c : Nat} (w : WF h nc nb) (hc : c < nc) : ∃ v, f_X0_rivals (nI c) h = some v ∧ ∀ t, rel h t → f_X2_rivals (nI c) t = some v := by
  have h6 := w.nb6
  have L : ∀ (k i n : Nat) (a : Int32), i + k = nb → k < n → ∃ v, L_X0_rivals_11 (nI c) h (fun x => some x) n (wo h c) a (nI i) = some v ∧ ∀ t, rel h t → ∀ n', k < n' → L_X2_rivals_4 (nI c) t (fun x => some x) n' a (nI i) = some v := by
    intro k
    induction k with
    | zero =>
      intro i n a hi hn
      have : i = nb := by omega
      subst this
      refine ⟨a, ?_, fun t r n' hn' => ?_⟩
      · cases n with
        | zero => omega
        | succ n => rw [L_X0_rivals_11, w.b, if_pos (nI_le (Nat.le_refl _) (by omega))]
      · cases n' with
        | zero => omega
        | succ n' =>
          have r21 : t 21 = h 11 := r 21 rfl
          rw [L_X2_rivals_4, r21, w.b, if_pos (nI_le (Nat.le_refl _) (by omega))]
    | succ k ih =>
      intro i n a hi hn
      cases n with
      | zero => omega
      | succ n =>
        have q12 : (bd h c i < 1) ↔ bd h c i ≤ 0 := by
          rw [Int32.lt_iff_toInt_lt, Int32.le_iff_toInt_le, show ((1 : Int32)).toInt = 1 from rfl, show ((0 : Int32)).toInt = 0 from rfl]
          omega
        have eb : f_X0_most (nI i) (nI c) (wo h c) h = bd h c i := rfl
        by_cases q : bd h c i < 1
        · obtain ⟨v, e1, e2⟩ := ih (i + 1) n a (by omega) (by omega)
          refine ⟨v, ?_, fun t r n' hn' => ?_⟩
          · rw [L_X0_rivals_11, w.b, if_neg (nI_ge (by omega) (by omega)), eb, if_pos q, nI_1]; exact e1
          · cases n' with
            | zero => omega
            | succ n' =>
              have r21 : t 21 = h 11 := r 21 rfl
              rw [L_X2_rivals_4, r21, w.b, if_neg (nI_ge (by omega) (by omega)), bid_M w r hc (by omega), Option.bind_some, if_pos (q12.mp q), Int32.add_zero, nI_1]
              exact e2 t r n' (by omega)
        · obtain ⟨v, e1, e2⟩ := ih (i + 1) n (a + 1) (by omega) (by omega)
          refine ⟨v, ?_, fun t r n' hn' => ?_⟩
          · rw [L_X0_rivals_11, w.b, if_neg (nI_ge (by omega) (by omega)), eb, if_neg q, nI_1]; exact e1
          · cases n' with
            | zero => omega
            | succ n' =>
              have r21 : t 21 = h 11 := r 21 rfl
              rw [L_X2_rivals_4, r21, w.b, if_neg (nI_ge (by omega) (by omega)), bid_M w r hc (by omega), Option.bind_some, if_neg (fun z => q (q12.mpr z)), nI_1]
              exact e2 t r n' (by omega)
  obtain ⟨v, e1, e2⟩ := L nb 0 fuel 0 (by omega) (by unfold fuel; omega)
  refine ⟨v, ?_, fun t r => ?_⟩
  · rw [nI0] at e1
    unfold f_X0_rivals
    simp only [jnE]
    exact e1
  · have x := e2 t r fuel (by unfold fuel; omega)
    rw [nI0] at x
    unfold f_X2_rivals
    simp only [jnE]
    exact x
theorem card_XM {x n m k t : HS} (h : RR x n m k t) (c v : Int32) : ∃ r x' t', f_X1_card c v x n m k = some (r, x') ∧ f_X2_card c v t = some (r, t') ∧ RR x' n m k t' := by
  obtain ⟨nc, nb, w, rl, wm, wk, hx⟩ := id h
  have h8 := w.nc8
  have rf : ∀ r j, j < 7 → -r = nI j → ∃ r' x' t', ((f_X1_refuse r x n m k).bind fun v => some (v.1, v.2)) = some (r', x') ∧ ((f_X2_no r t).bind fun v => some (v.1, v.2)) = some (r', t') ∧ RR x' n m k t' := fun r j hj hr => by
    obtain ⟨x', t', a, b', c⟩ := refX h r j hj hr
    exact ⟨_, x', t', by rw [a]; rfl, b', c⟩
  unfold f_X1_card f_X2_card
  rw [isCard_eq rl]
  rcases hasCard_or w c with ⟨j, hj, rfl, e⟩ | e
  · have r1 : t 1 = n 0 := rl 1 rfl
    have r2 : t 2 = n 1 := rl 2 rfl
    have r3 : t 3 = n 2 := rl 3 rfl
    have r4 : t 4 = n 3 := rl 4 rfl
    have a8 : ∀ f, atv 8 f (nI j) = f j := fun f => atv_nI f (by omega) (by omega)
    have x8 : ∀ f, rd 8 f (nI j) = some (f j) := fun f => rd_nI f (by omega) (by omega)
    obtain ⟨p, -, -, p1, p2⟩ := placeOf_XM w hj
    obtain ⟨q, q1, q2⟩ := rivals_X w hj
    rw [e, if_neg N10, if_neg N10, r1, r2, r3, r4, a8, a8, a8, a8, a8, x8, x8, x8, x8, holderOf_M w rl hj, worth_M w rl hj, p1, p2 t rl, q1, q2 t rl]
    simp only [Option.bind_some]
    by_cases z0 : v = 0
    · rw [if_pos z0, if_pos z0]; exact ⟨_, _, _, rfl, rfl, h⟩
    rw [if_neg z0, if_neg z0]
    by_cases z1 : v = 1
    · rw [if_pos z1, if_pos z1]; exact ⟨_, _, _, rfl, rfl, h⟩
    rw [if_neg z1, if_neg z1]
    by_cases z2 : v = 2
    · rw [if_pos z2, if_pos z2]; exact ⟨_, _, _, rfl, rfl, h⟩
    rw [if_neg z2, if_neg z2]
    by_cases z3 : v = 3
    · rw [if_pos z3, if_pos z3]; exact ⟨_, _, _, rfl, rfl, h⟩
    rw [if_neg z3, if_neg z3]
    by_cases z4 : v = 4
    · rw [if_pos z4, if_pos z4]; exact ⟨_, _, _, rfl, rfl, h⟩
    rw [if_neg z4, if_neg z4]
    by_cases z5 : v = 5
    · rw [if_pos z5, if_pos z5]; exact ⟨_, _, _, rfl, rfl, h⟩
    rw [if_neg z5, if_neg z5]
    by_cases z6 : v = 6
    · rw [if_pos z6, if_pos z6]; exact ⟨_, _, _, rfl, rfl, h⟩
    rw [if_neg z6, if_neg z6]
    by_cases z7 : v = 7
    · rw [if_pos z7, if_pos z7]; exact ⟨_, _, _, rfl, rfl, h⟩
    rw [if_neg z7, if_neg z7]
    exact rf (-2) 2 (by omega) (by decide)
  · rw [if_pos e, if_pos e]
    exact rf (-1) 1 (by omega) (by decide)
theorem bidder_XM {x n m k t : HS} (h : RR x n m k t) (b v : Int32) : ∃ r x' t', f_X1_bidder b v x n m k = some (r, x') ∧ f_X2_bidder b v t = some (r, t') ∧ RR x' n m k t' := by
  obtain ⟨nc, nb, w, rl, wm, wk, hx⟩ := id h
  have h6 := w.nb6
  have rf : ∀ r j, j < 7 → -r = nI j → ∃ r' x' t', ((f_X1_refuse r x n m k).bind fun v => some (v.1, v.2)) = some (r', x') ∧ ((f_X2_no r t).bind fun v => some (v.1, v.2)) = some (r', t') ∧ RR x' n m k t' := fun r j hj hr => by
    obtain ⟨x', t', a, b', c⟩ := refX h r j hj hr
    exact ⟨_, x', t', by rw [a]; rfl, b', c⟩
  unfold f_X1_bidder f_X2_bidder
  rw [isBidder_eq rl]
  rcases hasBidder_or w b with ⟨j, hj, rfl, e⟩ | e
  · have r7 : t 7 = n 6 := rl 7 rfl
    have r8 : t 8 = n 7 := rl 8 rfl
    have r9 : t 9 = n 8 := rl 9 rfl
    have r10 : t 10 = n 9 := rl 10 rfl
    have a6 : ∀ f, atv 6 f (nI j) = f j := fun f => atv_nI f (by omega) (by omega)
    have x6 : ∀ f, rd 6 f (nI j) = some (f j) := fun f => rd_nI f (by omega) (by omega)
    rw [e, if_neg N10, if_neg N10, r7, r8, r9, r10, a6, a6, a6, a6, x6, x6, x6, x6, held_X w, held_M w rl (by omega)]
    simp only [Option.bind_some]
    by_cases z0 : v = 0
    · rw [if_pos z0, if_pos z0]; exact ⟨_, _, _, rfl, rfl, h⟩
    rw [if_neg z0, if_neg z0]
    by_cases z1 : v = 1
    · rw [if_pos z1, if_pos z1]; exact ⟨_, _, _, rfl, rfl, h⟩
    rw [if_neg z1, if_neg z1]
    by_cases z2 : v = 2
    · rw [if_pos z2, if_pos z2]; exact ⟨_, _, _, rfl, rfl, h⟩
    rw [if_neg z2, if_neg z2]
    by_cases z3 : v = 3
    · rw [if_pos z3, if_pos z3]; exact ⟨_, _, _, rfl, rfl, h⟩
    rw [if_neg z3, if_neg z3]
    by_cases z4 : v = 4
    · rw [if_pos z4, if_pos z4]; exact ⟨_, _, _, rfl, rfl, h⟩
    rw [if_neg z4, if_neg z4]
    exact rf (-2) 2 (by omega) (by decide)
  · rw [if_pos e, if_pos e]
    exact rf (-1) 1 (by omega) (by decide)
/-- two change places -/
def swS (h : HS) (p q : Nat) (a b : Int32) : HS := st h 5 (upd (upd (h 5) q a) p b)
theorem sw_WF {h : HS} {nc nb p q a b : Nat} (w : WF h nc nb) (hp : p < nc) (hq : q < nc) (hpq : p ≠ q) (ep : h 5 p = nI a) (eq : h 5 q = nI b) : WF (swS h p q (nI a) (nI b)) nc nb := by
  have v : ∀ i, upd (upd (h 5) q (nI a)) p (nI b) i = if i = p then nI b else if i = q then nI a else h 5 i := fun i => rfl
  have o : ∀ i, i < nc → ∃ z, z < nc ∧ upd (upd (h 5) q (nI a)) p (nI b) i = nI z := by
    intro i hi
    rw [v]
    by_cases e1 : i = p
    · rw [if_pos e1, ← eq]; exact w.ord hq
    · rw [if_neg e1]
      by_cases e2 : i = q
      · rw [if_pos e2, ← ep]; exact w.ord hp
      · rw [if_neg e2]; exact w.ord hi
  refine ⟨w.1, fun c hc => ⟨(w.2.1 c hc).1, (w.2.1 c hc).2.1, (w.2.1 c hc).2.2.1, (w.2.1 c hc).2.2.2.1, o c hc⟩, ?_, w.2.2.2.1, ?_, ?_, ?_⟩
  · intro i j hi hj e
    have e : upd (upd (h 5) q (nI a)) p (nI b) i = upd (upd (h 5) q (nI a)) p (nI b) j := e
    -- places through the exchange
    have s : ∀ i, i < nc → upd (upd (h 5) q (nI a)) p (nI b) i = h 5 (if i = p then q else if i = q then p else i) := by
      intro i _
      rw [v]
      by_cases e1 : i = p
      · rw [if_pos e1, if_pos e1, eq]
      · rw [if_neg e1, if_neg e1]
        by_cases e2 : i = q
        · rw [if_pos e2, if_pos e2, ep]
        · rw [if_neg e2, if_neg e2]
    rw [s i hi, s j hj] at e
    have := w.inj (by split; exact hq; split; exact hp; exact hi) (by split; exact hq; split; exact hp; exact hj) e
    split at this <;> split at this <;> (try split at this) <;> (try split at this) <;> omega
  · intro k hk i hi
    by_cases z : k = 5
    · subst z
      show upd (upd (h 5) q (nI a)) p (nI b) i = 0
      rw [v, if_neg (by omega), if_neg (by omega)]
      exact w.z (by omega) i hi
    · unfold swS; rw [st_ne z]; exact w.z hk i hi
  · intro k h6 hk i hi
    unfold swS; rw [st_ne (by omega)]; exact w.zb h6 hk i hi
  · intro k hk
    unfold swS; rw [st_ne (by omega)]; exact w.2.2.2.2.2.2 k hk
theorem change_XM {h : HS} {nc nb a b : Nat} (w : WF h nc nb) (ha : a < nc) (hb : b < nc) (hab : a ≠ b) : ∃ h', WF h' nc nb ∧ f_X0_changePlaces (nI a) (nI b) h = some (1, h') ∧ (∀ k, k ≠ 5 → h' k = h k) ∧ ∀ t, rel h t → ∃ t', f_X2_changesPlaces (nI a) (nI b) t = some t' ∧ rel h' t' ∧ fr t t' := by
  have h8 := w.nc8
  obtain ⟨p, hp, ep, p1, p2⟩ := placeOf_XM w ha
  obtain ⟨q, hq, eq, q1, q2⟩ := placeOf_XM w hb
  have hpq : p ≠ q := fun e => hab ((nI_eq (by omega) (by omega)).mp (by rw [← ep, ← eq, e]))
  refine ⟨swS h p q (nI a) (nI b), sw_WF w hp hq hpq ep eq, ?_, fun k hk => st_ne hk, fun t r => ?_⟩
  · unfold f_X0_changePlaces
    rw [hasCard_nI w (by omega), if_pos ha, if_neg (by decide), hasCard_nI w (by omega), if_pos hb, if_neg (by decide), if_neg (fun z => hab ((nI_eq (by omega) (by omega)).mp z)), p1, q1]
    simp only [Option.bind_some, jnE]
    rw [ptv_nI _ _ (by omega) (by omega), st_eq, ptv_nI _ _ (by omega) (by omega), st_st]
    rfl
  · have r6 : t 6 = h 5 := r 6 rfl
    refine ⟨st t 6 (upd (upd (h 5) p (nI b)) q (nI a)), ?_, ?_, fr.rf.put rfl⟩
    · unfold f_X2_changesPlaces
      rw [p2 t r, q2 t r]
      simp only [Option.bind_some, jnE]
      rw [r6, wr_nI _ _ (by omega) (by omega), Option.bind_some, st_eq, wr_nI _ _ (by omega) (by omega), Option.bind_some, st_st]
    · have e : upd (upd (h 5) p (nI b)) q (nI a) = upd (upd (h 5) q (nI a)) p (nI b) := by
        funext i
        unfold upd
        by_cases e1 : i = p
        · rw [if_neg (by omega), if_pos e1, if_pos e1]
        · by_cases e2 : i = q
          · rw [if_pos e2, if_neg e1, if_pos e2]
          · rw [if_neg e2, if_neg e1, if_neg e1, if_neg e2]
      rw [e]
      exact r.w5 _
theorem swaps_XM {x n m k t : HS} (h : RR x n m k t) (a b : Int32) : ∃ r x' n' t', f_X1_swaps a b x n m k = some (r, x', n') ∧ f_X2_swaps a b t = some (r, t') ∧ RR x' n' m k t' := by
  obtain ⟨nc, nb, w, rl, wm, wk, hx⟩ := id h
  have h8 := w.nc8
  have rf : ∃ r x' n' t', ((f_X1_refuse (-1) x n m k).bind fun v => some (v.1, v.2, n)) = some (r, x', n') ∧ ((f_X2_no (-1) t).bind fun v => some (v.1, v.2)) = some (r, t') ∧ RR x' n' m k t' := by
    obtain ⟨x', t', a, b', c⟩ := refX h (-1) 1 (by omega) (by decide)
    exact ⟨_, x', n, t', by rw [a]; rfl, b', c⟩
  have no : f_X0_changePlaces a b n = some (0, n) → ∃ r x' n' t', ((f_X0_changePlaces a b n).bind fun v1 => if v1.1 = 0 then (f_X1_refuse (-1 : Int32) x v1.2 m k).bind fun v4 => some (v4.1, v4.2, v1.2) else (f_X0_placeOf a v1.2).bind fun v3 => some (v3, x, v1.2)) = some (r, x', n') ∧ ((f_X2_no (-1) t).bind fun v => some (v.1, v.2)) = some (r, t') ∧ RR x' n' m k t' := fun e => by
    rw [e, Option.bind_some, if_pos rfl]
    exact rf
  unfold f_X1_swaps f_X2_swaps
  rw [isCard_eq rl, isCard_eq rl]
  rcases hasCard_or w a with ⟨i, hi, rfl, e⟩ | e
  · rw [if_neg (by rw [e]; decide)]
    rcases hasCard_or w b with ⟨j, hj, rfl, e2⟩ | e2
    · rw [if_neg (by rw [e2]; decide)]
      by_cases q : i = j
      · subst q
        rw [if_pos rfl]
        exact no (by unfold f_X0_changePlaces; rw [e, if_neg N10, if_neg N10, if_pos rfl])
      · rw [if_neg (fun z => q ((nI_eq (by omega) (by omega)).mp z))]
        obtain ⟨h', w', c1, -, c2⟩ := change_XM w hi hj q
        obtain ⟨t', d1, d2, d3⟩ := c2 t rl
        obtain ⟨p, -, -, p1, p2⟩ := placeOf_XM w' hi
        rw [c1, d1]
        simp only [Option.bind_some, iteN]
        rw [p1, p2 t' d2]
        simp only [Option.bind_some]
        exact ⟨_, _, _, _, rfl, rfl, nc, nb, w', d2, wm, wk, hx.g0 (G0.of_fr d3)⟩
    · rw [if_pos e2]
      exact no (by unfold f_X0_changePlaces; rw [e, iteN, if_pos e2])
  · rw [if_pos e]
    exact no (by unfold f_X0_changePlaces; rw [if_pos e])

theorem months_XM {x n m k t : HS} (h : RR x n m k t) (v : Int32) : ∃ r x' n' t', f_X1_months v x n m k = some (r, x', n') ∧ f_X2_months v t = some (r, t') ∧ RR x' n' m k t' := by
  obtain ⟨nc, nb, w, rl, wm, wk, hx⟩ := id h
  have h8 := w.nc8
  have r22 : t 22 = n 12 := rl 22 rfl
  have rf : ∀ r j, j < 7 → -r = nI j → ∃ r' x' n' t', ((f_X1_refuse r x n m k).bind fun v => some (v.1, v.2, n)) = some (r', x', n') ∧ ((f_X2_no r t).bind fun v => some (v.1, v.2)) = some (r', t') ∧ RR x' n' m k t' := fun r j hj hr => by
    obtain ⟨x', t', a, b', c⟩ := refX h r j hj hr
    exact ⟨_, x', n, t', by rw [a]; rfl, b', c⟩
  unfold f_X1_months f_X2_months
  simp only [jnE]
  rw [r22]
  have le1 : (1 ≤ v) ↔ ¬ v < 1 := ⟨fun q => fun z => lt_nle z q, fun q => by rw [Int32.le_iff_toInt_le]; rw [Int32.lt_iff_toInt_lt] at q; omega⟩
  have le60 : (v ≤ 60) ↔ ¬ 60 < v := ⟨fun q => fun z => lt_nle z q, fun q => by rw [Int32.le_iff_toInt_le]; rw [Int32.lt_iff_toInt_lt] at q; omega⟩
  have le999 : (n 12 0 + v ≤ 999) ↔ ¬ 999 < n 12 0 + v := ⟨fun q => fun z => lt_nle z q, fun q => by rw [Int32.le_iff_toInt_le]; rw [Int32.lt_iff_toInt_lt] at q; omega⟩
  by_cases q : 1 ≤ v
  · rw [if_pos q]
    by_cases q2 : v ≤ 60
    · have e : f_X2_bound v 1 60 = 0 := by unfold f_X2_bound; rw [if_pos q, if_pos q2]
      rw [e]
      by_cases q3 : n 12 0 + v ≤ 999
      · have ht : f_X0_hasTimeFor v n = 1 := by
          unfold f_X0_hasTimeFor
          rw [if_neg (le1.mp q), if_neg (le60.mp q2), if_neg (le999.mp q3)]
        rw [ht, iteN, if_pos q3]
        simp only [iteZ]
        obtain ⟨a, ha, rfl⟩ := inR_nI (x := v) (b := 60) ⟨by have := Int32.le_iff_toInt_le.mp q; rw [show ((1 : Int32)).toInt = 1 from rfl] at this; omega, Int32.le_iff_toInt_le.mp q2⟩ (by omega)
        obtain ⟨d, h', w', -, g1, g2⟩ := goOn_XM w ha
        obtain ⟨t', g3, g4, g5, -⟩ := g2 t rl hx.a29
        have r20 : t' 20 = h' 10 := g4 20 rfl
        rw [g1, g3, Option.bind_some, Option.bind_some, heldCount_X w', pile_M w' g4]
        simp only [Option.bind_some]
        rw [bits_bs _ w'.nc8, Option.bind_some, r20]
        exact ⟨_, _, _, _, rfl, rfl, nc, nb, w', g4, wm, wk, hx.g0 (G0.of_fr g5)⟩
      · have ht : f_X0_hasTimeFor v n = 0 := by
          unfold f_X0_hasTimeFor
          rw [if_neg (le1.mp q), if_neg (le60.mp q2), if_pos (nle_lt q3)]
        rw [ht, iteZ, iteZ, if_neg q3, if_neg (show ¬ (-6 : Int32) = 0 by decide)]
        exact rf (-6) 6 (by omega) (by decide)
    · have e : f_X2_bound v 1 60 = -6 := by unfold f_X2_bound; rw [if_pos q, if_neg q2]
      have ht : f_X0_hasTimeFor v n = 0 := by
        unfold f_X0_hasTimeFor
        rw [if_neg (le1.mp q), if_pos (nle_lt q2)]
      rw [ht, iteZ, e, if_neg (show ¬ (-6 : Int32) = 0 by decide), if_neg (show ¬ (-6 : Int32) = 0 by decide)]
      exact rf (-6) 6 (by omega) (by decide)
  · have e : f_X2_bound v 1 60 = -4 := by unfold f_X2_bound; rw [if_neg q]
    rw [if_neg q, e, if_neg (show ¬ (-4 : Int32) = 0 by decide), if_neg (show ¬ (-4 : Int32) = 0 by decide)]
    exact rf (-4) 4 (by omega) (by decide)
