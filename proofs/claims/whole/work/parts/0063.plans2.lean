/-! a card given, purses put together -/
theorem back4 {n : HS} {c : Nat} {v : Int32} : st (st n 4 (upd (n 4) c v)) 4 (upd ((st n 4 (upd (n 4) c v)) 4) c (n 4 c)) = n := by
  rw [st_st, st_eq]
  refine st_same ?_
  funext i
  unfold upd
  by_cases q : i = c
  · rw [if_pos q, q]
  · rw [if_neg q, if_neg q]
theorem give_loop {x n k : HS} {nc nb a : Nat} (ha : a ≤ 60) (w : WF n nc nb) : ∀ (z i : Nat) (m t : HS) (most best : Int32), RR x n m k t → rel n t → i + z = nc → ∃ (r : Int32) (m' t' : HS), RR x n m' k t' ∧ (∀ n', z < n' → L_X1_give_54 (nI a) n k (fun (j3_169 : Int32) (xx_169 : HS) (xm_169 : HS) => some (j3_169, xx_169, xm_169)) n' most best (nI i) x m = some (r, x, m')) ∧ ∀ n', z < n' → L_X2_give_31 (nI a) (fun (j3_121 : Int32) (tt_121 : HS) => some (j3_121, tt_121)) n' best most (nI i) t = some (r, t')
  | 0, i, m, t, most, best, h, rl, hi => by
    have : i = nc := by omega
    subst this
    have h8 := w.nc8
    have r20 : t 20 = n 10 := rl 20 rfl
    refine ⟨best, m, t, h, fun n' hn => ?_, fun n' hn => ?_⟩
    · cases n' with
      | zero => omega
      | succ n' => rw [L_X1_give_54, w.c, if_pos (nI_le (Nat.le_refl _) (by omega))]
    · cases n' with
      | zero => omega
      | succ n' => rw [L_X2_give_31, r20, w.c, if_pos (nI_le (Nat.le_refl _) (by omega))]
  | z + 1, i, m, t, most, best, h, rl, hi => by
    have h8 := w.nc8
    have h6 := w.nb6
    have r20 : t 20 = n 10 := rl 20 rfl
    have r5 : t 5 = mh n := rl 5 rfl
    have r3 : t 3 = n 2 := rl 3 rfl
    have hic : i < nc := by omega
    obtain ⟨-, -, -, -, ⟨ma, mb, wm⟩, wk, hx⟩ := id h
    have skip : (f_X0_inPile (nI i) n = 0 ∨ f_X0_hasBidder (n 2 i) n = 0) → ∃ (r : Int32) (m' t' : HS), RR x n m' k t' ∧ (∀ n', z + 1 < n' → L_X1_give_54 (nI a) n k (fun (j3_169 : Int32) (xx_169 : HS) (xm_169 : HS) => some (j3_169, xx_169, xm_169)) n' most best (nI i) x m = some (r, x, m')) ∧ ∀ n', z + 1 < n' → L_X2_give_31 (nI a) (fun (j3_121 : Int32) (tt_121 : HS) => some (j3_121, tt_121)) n' best most (nI i) t = some (r, t') := by
      intro hs
      obtain ⟨r, m', t', e1, e2, e3⟩ := give_loop ha w z (i + 1) m t most best h rl (by omega)
      refine ⟨r, m', t', e1, fun n' hn => ?_, fun n' hn => ?_⟩
      · cases n' with
        | zero => omega
        | succ n' =>
          rw [L_X1_give_54, w.c, if_neg (nI_ge (by omega) (by omega)), nI_1, atv_nI _ (by omega) (by omega)]
          by_cases q : f_X0_inPile (nI i) n = 0
          · rw [if_pos q]; exact e2 n' (by omega)
          · rw [if_neg q, if_pos (hs.resolve_left q)]; exact e2 n' (by omega)
      · cases n' with
        | zero => omega
        | succ n' =>
          rw [L_X2_give_31, r20, w.c, if_neg (nI_ge (by omega) (by omega)), nI_1, r5, rd_nI _ (by omega) (by omega), Option.bind_some]
          by_cases q : f_X0_inPile (nI i) n = 0
          · rw [if_neg (fun u => (m9_pile w hic).mp q ((mh0 w hic).mp u))]; exact e3 n' (by omega)
          · have q9 : n 4 i = -9 := Decidable.not_not.mp (fun u => q ((m9_pile w hic).mpr u))
            rw [if_pos ((mh0 w hic).mpr q9), r3, rd_nI _ (by omega) (by omega), Option.bind_some, isBidder_eq rl, if_pos (hs.resolve_left q)]; exact e3 n' (by omega)
    by_cases q : n 4 i = -9
    · rcases hasBidder_or w (n 2 i) with ⟨tl, htl, etl, e1⟩ | e1
      · have w1 : WF (st n 4 (upd (n 4) i (nI tl))) nc nb := w.put4 hic (Or.inr ⟨tl, htl, rfl⟩)
        obtain ⟨d, g', wg', m1, m2, m3⟩ := allBel_XM w1 ha
        have r1 : rel (st n 4 (upd (n 4) i (nI tl))) (st t 5 (upd (t 5) i (hm (nI tl)))) := rl.w4 w hic (nI tl)
        obtain ⟨t3, c1, c2, c3⟩ := m3 _ r1 hx.a29
        have r4 := c2.w4 w1 hic (-9)
        rw [show (-9 : Int32) = n 4 i from q.symm, back4, q, hm_pile] at r4
        have R4 : RR x n g' k (st t3 5 (upd (t3 5) i 0)) := ⟨nc, nb, w, r4, ⟨nc, nb, wg'⟩, wk, hx.g0 (((G0.of_fr ((fr.rf (t := t)).put (k := 5) rfl)).tr c3.g0).tr (G0.of_fr (fr.rf.put (k := 5) rfl)))⟩
        have ehm : nI tl + 1 = hm (nI tl) := by rw [hm_held (by omega), nI_1]
        have xs : ∀ n', L_X1_give_54 (nI a) n k (fun (j3_169 : Int32) (xx_169 : HS) (xm_169 : HS) => some (j3_169, xx_169, xm_169)) (n' + 1) most best (nI i) x m = if sm (g' 9) nb ≤ most then L_X1_give_54 (nI a) n k (fun (j3_169 : Int32) (xx_169 : HS) (xm_169 : HS) => some (j3_169, xx_169, xm_169)) n' most best (nI (i + 1)) x g' else L_X1_give_54 (nI a) n k (fun (j3_169 : Int32) (xx_169 : HS) (xm_169 : HS) => some (j3_169, xx_169, xm_169)) n' (sm (g' 9) nb) (nI i) (nI (i + 1)) x g' := by
          intro n'
          rw [L_X1_give_54, w.c, if_neg (nI_ge (by omega) (by omega)), if_neg (fun y => (m9_pile w hic).mp y q), atv_nI _ (by omega) (by omega), if_neg (by rw [e1]; decide), become_X wm w, Option.bind_some]
          simp only [jnE]
          rw [ptv_nI _ _ (by omega) (by omega), etl, m1, Option.bind_some, m2, Option.bind_some, nI_1]
        have ms : ∀ n', L_X2_give_31 (nI a) (fun (j3_121 : Int32) (tt_121 : HS) => some (j3_121, tt_121)) (n' + 1) best most (nI i) t = if most < sm (g' 9) nb then L_X2_give_31 (nI a) (fun (j3_121 : Int32) (tt_121 : HS) => some (j3_121, tt_121)) n' (nI i) (sm (g' 9) nb) (nI (i + 1)) (st t3 5 (upd (t3 5) i 0)) else L_X2_give_31 (nI a) (fun (j3_121 : Int32) (tt_121 : HS) => some (j3_121, tt_121)) n' best most (nI (i + 1)) (st t3 5 (upd (t3 5) i 0)) := by
          intro n'
          rw [L_X2_give_31, r20, w.c, if_neg (nI_ge (by omega) (by omega)), nI_1]
          rw [show rd 8 (t 5) (nI i) = some 0 by rw [rd_nI _ (by omega) (by omega), r5, (mh0 w hic).mpr q], Option.bind_some, if_pos rfl, r3, rd_nI _ (by omega) (by omega), Option.bind_some, isBidder_eq rl, if_neg (by rw [e1]; decide), Option.bind_some, wr_nI _ _ (by omega) (by omega), Option.bind_some]
          simp only [jnE]
          rw [etl, ehm, c1, Option.bind_some, wr_nI _ _ (by omega) (by omega), Option.bind_some]
        by_cases y : sm (g' 9) nb ≤ most
        · obtain ⟨r, m', t', e1, e2, e3⟩ := give_loop ha w z (i + 1) g' _ most best R4 r4 (by omega)
          refine ⟨r, m', t', e1, fun n' hn => ?_, fun n' hn => ?_⟩
          · cases n' with
            | zero => omega
            | succ n' => rw [xs, if_pos y]; exact e2 n' (by omega)
          · cases n' with
            | zero => omega
            | succ n' => rw [ms, if_neg (fun u => lt_nle u y)]; exact e3 n' (by omega)
        · obtain ⟨r, m', t', e1, e2, e3⟩ := give_loop ha w z (i + 1) g' _ (sm (g' 9) nb) (nI i) R4 r4 (by omega)
          refine ⟨r, m', t', e1, fun n' hn => ?_, fun n' hn => ?_⟩
          · cases n' with
            | zero => omega
            | succ n' => rw [xs, if_neg y]; exact e2 n' (by omega)
          · cases n' with
            | zero => omega
            | succ n' => rw [ms, if_pos (nle_lt y)]; exact e3 n' (by omega)
      · exact skip (Or.inr e1)
    · exact skip (Or.inl ((m9_pile w hic).mpr q))
theorem give_XM {x n m k t : HS} (h : RR x n m k t) (v : Int32) : ∃ r x' m' t', f_X1_give v x n m k = some (r, x', m') ∧ f_X2_give v t = some (r, t') ∧ RR x' n m' k t' := by
  obtain ⟨nc, nb, w, rl, ⟨ma, mb, wm⟩, wk, hx⟩ := id h
  unfold f_X1_give f_X2_give
  simp only [jnE]
  rw [beyond_eq]
  by_cases q : f_X2_bound v 0 20 = 0
  · obtain ⟨a, ha, rfl⟩ := bound_in (c := 20) (by omega) q
    obtain ⟨d, g', wg', m1, m2, m3⟩ := allBel_XM w (a := a) (by omega)
    obtain ⟨t1, c1, c2, c3⟩ := m3 t rl hx.a29
    rw [if_pos q, if_pos q, become_X wm w, Option.bind_some, m1, Option.bind_some, m2, Option.bind_some, c1, Option.bind_some]
    obtain ⟨r, m', t', e1, e2, e3⟩ := give_loop (a := a) (by omega) w nc 0 g' t1 (sm (g' 9) nb) (-9) ⟨nc, nb, w, c2, ⟨nc, nb, wg'⟩, wk, hx.g0 c3.g0⟩ c2 (by omega)
    have h8 := w.nc8
    exact ⟨r, x, m', t', e2 fuel (by unfold fuel; omega), e3 fuel (by unfold fuel; omega), e1⟩
  · obtain ⟨j', hj', er⟩ := bound_ne q
    rw [if_neg q, if_neg q]
    exact refM h _ j' hj' er
def poS (n : HS) (i b : Nat) : HS := st n 8 (upd (upd (n 8) b (mn 999 (n 8 b + n 8 i))) i 0)
theorem pool_loop {x n k : HS} {nc nb a b : Nat} (ha : a ≤ 60) (hb : b < nb) (w : WF n nc nb) : ∀ (z i : Nat) (m t : HS) (most best : Int32), RR x n m k t → rel n t → i + z = nb → ∃ (r : Int32) (m' t' : HS), RR x n m' k t' ∧ (∀ n', z < n' → L_X1_pool_73 (nI b) (nI a) n k (fun (j4_154 : Int32) (xx_154 : HS) (xm_154 : HS) => some (j4_154, xx_154, xm_154)) n' most best (nI i) x m = some (r, x, m')) ∧ ∀ n', z < n' → L_X2_pool_53 (nI b) (nI a) (fun (j4_154 : Int32) (tt_154 : HS) => some (j4_154, tt_154)) n' best most (n 8 b) (nI i) t = some (r, t')
  | 0, i, m, t, most, best, h, rl, hi => by
    have : i = nb := by omega
    subst this
    have h6 := w.nb6
    have r21 : t 21 = n 11 := rl 21 rfl
    refine ⟨best, m, t, h, fun n' hn => ?_, fun n' hn => ?_⟩
    · cases n' with
      | zero => omega
      | succ n' => rw [L_X1_pool_73, w.b, if_pos (nI_le (Nat.le_refl _) (by omega))]
    · cases n' with
      | zero => omega
      | succ n' => rw [L_X2_pool_53, r21, w.b, if_pos (nI_le (Nat.le_refl _) (by omega))]
  | z + 1, i, m, t, most, best, h, rl, hi => by
    have h8 := w.nc8
    have h6 := w.nb6
    have r21 : t 21 = n 11 := rl 21 rfl
    have r9 : t 9 = n 8 := rl 9 rfl
    have hib : i < nb := by omega
    obtain ⟨-, -, -, -, ⟨ma, mb, wm⟩, wk, hx⟩ := id h
    by_cases q : i = b
    · obtain ⟨r, m', t', e1, e2, e3⟩ := pool_loop ha hb w z (i + 1) m t most best h rl (by omega)
      refine ⟨r, m', t', e1, fun n' hn => ?_, fun n' hn => ?_⟩
      · cases n' with
        | zero => omega
        | succ n' =>
          rw [L_X1_pool_73, w.b, if_neg (nI_ge (by omega) (by omega)), if_pos (by rw [q]), nI_1]
          exact e2 n' (by omega)
      · cases n' with
        | zero => omega
        | succ n' =>
          rw [L_X2_pool_53, r21, w.b, if_neg (nI_ge (by omega) (by omega)), if_pos (by rw [q]), nI_1]
          exact e3 n' (by omega)
    · have qI : ¬ nI i = nI b := fun u => q ((nI_eq (by omega) (by omega)).mp u)
      have pi := w.pur hib
      have pb := w.pur hb
      have sp : 0 ≤ (n 8 b + n 8 i).toInt := by
        unfold inR at pi pb
        rw [toInt_addR (by omega) (by omega)]; omega
      have w1 : WF (poS n i b) nc nb := w.set8 (upd_all (P := inR 0 999) (upd_all (P := inR 0 999) (fun j hj => w.pur hj) (mn_in (m := 999) sp (by omega))) ⟨by decide, by decide⟩) (upd_zero hib (upd_zero hb (w.zb (by omega) (by omega))))
      obtain ⟨d, g', wg', m1, m2, m3⟩ := many_XM w1 ha (b := b) (by omega)
      have r1 : rel (poS n i b) (st t 9 (upd (upd (n 8) b (mn 999 (n 8 b + n 8 i))) i 0)) := rl.w8 _
      obtain ⟨t3, c1, c2, c3⟩ := m3 _ r1 hx.a29
      have r93 : t3 9 = upd (upd (n 8) b (mn 999 (n 8 b + n 8 i))) i 0 := c2 9 rfl
      have r4 := c2.w8 (upd (upd (t3 9) b (n 8 b)) i (n 8 i))
      have eb : st (poS n i b) 8 (upd (upd (t3 9) b (n 8 b)) i (n 8 i)) = n := by
        unfold poS
        rw [st_st]
        refine st_same ?_
        rw [r93]
        funext j
        unfold upd
        by_cases e1 : j = i
        · rw [if_pos e1, e1]
        · by_cases e2 : j = b
          · rw [if_neg e1, if_pos e2, e2]
          · rw [if_neg e1, if_neg e2, if_neg e1, if_neg e2]
      rw [eb] at r4
      have R4 : RR x n g' k (st t3 9 (upd (upd (t3 9) b (n 8 b)) i (n 8 i))) := ⟨nc, nb, w, r4, ⟨nc, nb, wg'⟩, wk, hx.g0 (((G0.of_fr ((fr.rf (t := t)).put (k := 9) rfl)).tr c3.g0).tr (G0.of_fr (fr.rf.put (k := 9) rfl)))⟩
      have xs : ∀ n', L_X1_pool_73 (nI b) (nI a) n k (fun (j4_154 : Int32) (xx_154 : HS) (xm_154 : HS) => some (j4_154, xx_154, xm_154)) (n' + 1) most best (nI i) x m = if hN g' nc (nI b) ≤ most then L_X1_pool_73 (nI b) (nI a) n k (fun (j4_154 : Int32) (xx_154 : HS) (xm_154 : HS) => some (j4_154, xx_154, xm_154)) n' most best (nI (i + 1)) x g' else L_X1_pool_73 (nI b) (nI a) n k (fun (j4_154 : Int32) (xx_154 : HS) (xm_154 : HS) => some (j4_154, xx_154, xm_154)) n' (hN g' nc (nI b)) (nI i) (nI (i + 1)) x g' := by
        intro n'
        have ep : f_X0_pourPurse (nI i) (nI b) n = some (poS n i b) := by
          unfold f_X0_pourPurse
          simp only [jnE]
          rw [atv_nI _ (by omega) (by omega), atv_nI _ (by omega) (by omega), ptv_nI _ _ (by omega) (by omega), st_eq, ptv_nI _ _ (by omega) (by omega), st_st]
          rfl
        rw [L_X1_pool_73, w.b, if_neg (nI_ge (by omega) (by omega)), if_neg qI, become_X wm w, Option.bind_some, ep, Option.bind_some, m1, Option.bind_some, m2, Option.bind_some, nI_1]
      have ms : ∀ n', L_X2_pool_53 (nI b) (nI a) (fun (j4_154 : Int32) (tt_154 : HS) => some (j4_154, tt_154)) (n' + 1) best most (n 8 b) (nI i) t = if most < hN g' nc (nI b) then L_X2_pool_53 (nI b) (nI a) (fun (j4_154 : Int32) (tt_154 : HS) => some (j4_154, tt_154)) n' (nI i) (hN g' nc (nI b)) (n 8 b) (nI (i + 1)) (st t3 9 (upd (upd (t3 9) b (n 8 b)) i (n 8 i))) else L_X2_pool_53 (nI b) (nI a) (fun (j4_154 : Int32) (tt_154 : HS) => some (j4_154, tt_154)) n' best most (n 8 b) (nI (i + 1)) (st t3 9 (upd (upd (t3 9) b (n 8 b)) i (n 8 i))) := by
        intro n'
        rw [L_X2_pool_53, r21, w.b, if_neg (nI_ge (by omega) (by omega)), if_neg qI, r9, rd_nI _ (by omega) (by omega), Option.bind_some, wr_nI _ _ (by omega) (by omega), Option.bind_some]
        simp only [jnE]
        rw [show (999 : Int32) = nI 999 from rfl, held_up sp (by omega), st_eq, wr_nI _ _ (by omega) (by omega), Option.bind_some, st_st]
        rw [show (nI 999) = (999 : Int32) from rfl, c1, Option.bind_some, wr_nI _ _ (by omega) (by omega), Option.bind_some, st_eq, wr_nI _ _ (by omega) (by omega), Option.bind_some, st_st, nI_1]
      by_cases y : hN g' nc (nI b) ≤ most
      · obtain ⟨r, m', t', e1, e2, e3⟩ := pool_loop ha hb w z (i + 1) g' _ most best R4 r4 (by omega)
        refine ⟨r, m', t', e1, fun n' hn => ?_, fun n' hn => ?_⟩
        · cases n' with
          | zero => omega
          | succ n' => rw [xs, if_pos y]; exact e2 n' (by omega)
        · cases n' with
          | zero => omega
          | succ n' => rw [ms, if_neg (fun u => lt_nle u y)]; exact e3 n' (by omega)
      · obtain ⟨r, m', t', e1, e2, e3⟩ := pool_loop ha hb w z (i + 1) g' _ (hN g' nc (nI b)) (nI i) R4 r4 (by omega)
        refine ⟨r, m', t', e1, fun n' hn => ?_, fun n' hn => ?_⟩
        · cases n' with
          | zero => omega
          | succ n' => rw [xs, if_neg y]; exact e2 n' (by omega)
        · cases n' with
          | zero => omega
          | succ n' => rw [ms, if_pos (nle_lt y)]; exact e3 n' (by omega)
theorem pool_XM {x n m k t : HS} (h : RR x n m k t) (b v : Int32) : ∃ r x' m' t', f_X1_pool b v x n m k = some (r, x', m') ∧ f_X2_pool b v t = some (r, t') ∧ RR x' n m' k t' := by
  obtain ⟨nc, nb, w, rl, ⟨ma, mb, wm⟩, wk, hx⟩ := id h
  have h6 := w.nb6
  unfold f_X1_pool f_X2_pool
  simp only [jnE]
  rw [isBidder_eq rl]
  rcases hasBidder_or w b with ⟨j, hj, rfl, e⟩ | e
  · rw [e, if_neg N10, if_neg N10, beyond_eq]
    by_cases q : f_X2_bound v 0 20 = 0
    · obtain ⟨a, ha, rfl⟩ := bound_in (c := 20) (by omega) q
      obtain ⟨d, g', wg', m1, m2, m3⟩ := many_XM w (a := a) (b := j) (by omega) (by omega)
      obtain ⟨t1, c1, c2, c3⟩ := m3 t rl hx.a29
      have r9 : t1 9 = n 8 := c2 9 rfl
      rw [if_pos q, if_pos q, become_X wm w, Option.bind_some, m1, Option.bind_some, m2, Option.bind_some, c1]
      simp only [Option.bind_some]
      rw [r9, rd_nI _ (by omega) (by omega), Option.bind_some]
      obtain ⟨r, m', t', e1, e2, e3⟩ := pool_loop (a := a) (by omega) hj w nb 0 g' t1 (hN g' nc (nI j)) (-9) ⟨nc, nb, w, c2, ⟨nc, nb, wg'⟩, wk, hx.g0 c3.g0⟩ c2 (by omega)
      exact ⟨r, x, m', t', e2 fuel (by unfold fuel; omega), e3 fuel (by unfold fuel; omega), e1⟩
    · obtain ⟨j', hj', er⟩ := bound_ne q
      rw [if_neg q, if_neg q]
      exact refM h _ j' hj' er
  · rw [if_pos e, if_pos e]
    exact refM h (-1) 1 (by omega) (by decide)
/-! who had better stay away -/
theorem sm_ps {f : Nat → Int32} {nb : Nat} (h6 : nb ≤ 6) (hz : ∀ i, nb ≤ i → i < 6 → f i = 0) : sm f nb = ps f := by
  unfold ps
  have z := hz
  rcases (show nb = 0 ∨ nb = 1 ∨ nb = 2 ∨ nb = 3 ∨ nb = 4 ∨ nb = 5 ∨ nb = 6 by omega) with e | e | e | e | e | e | e <;> subst e
  · rw [z 0 (by omega) (by omega), z 1 (by omega) (by omega), z 2 (by omega) (by omega), z 3 (by omega) (by omega), z 4 (by omega) (by omega), z 5 (by omega) (by omega)]; rfl
  · simp only [sm]; rw [z 1 (by omega) (by omega), z 2 (by omega) (by omega), z 3 (by omega) (by omega), z 4 (by omega) (by omega), z 5 (by omega) (by omega)]; simp
  · simp only [sm]; rw [z 2 (by omega) (by omega), z 3 (by omega) (by omega), z 4 (by omega) (by omega), z 5 (by omega) (by omega)]; simp
  · simp only [sm]; rw [z 3 (by omega) (by omega), z 4 (by omega) (by omega), z 5 (by omega) (by omega)]; simp
  · simp only [sm]; rw [z 4 (by omega) (by omega), z 5 (by omega) (by omega)]; simp
  · simp only [sm]; rw [z 5 (by omega) (by omega)]; simp
  · simp only [sm]; simp
theorem zero16 (j1 : Int32) (K : HS → Option (Int32 × HS)) : ∀ (z i n : Nat) (t : HS), i + z = 6 → z < n → ∃ f, (∀ j, i ≤ j → j < 6 → f j = 0) ∧ (∀ j, (j < i ∨ 6 ≤ j) → f j = t 16 j) ∧ L_X2_paidWithout_13 j1 K n (nI i) t = K (st t 16 f)
  | 0, i, n + 1, t, hi, _ => by
    have : i = 6 := by omega
    subst this
    refine ⟨t 16, fun j h1 h2 => by omega, fun _ _ => rfl, ?_⟩
    rw [L_X2_paidWithout_13, if_pos (by decide), st_same (h := t) (k := 16) rfl]
  | z + 1, i, n + 1, t, hi, hn => by
    obtain ⟨f, f1, f2, f3⟩ := zero16 j1 K z (i + 1) n (st t 16 (upd (t 16) i 0)) (by omega) (by omega)
    refine ⟨f, fun j h1 h2 => ?_, fun j hj => ?_, ?_⟩
    · by_cases q : j = i
      · rw [f2 j (by omega), st_eq, q, upd_eq]
      · exact f1 j (by omega) h2
    · rw [f2 j (by omega), st_eq, upd_ne (by omega)]
    · rw [L_X2_paidWithout_13, if_neg (show ¬ (6 : Int32) ≤ nI i from nI_ge (b := 6) (by omega) (by omega)), wr_nI _ _ (by omega) (by omega), Option.bind_some, nI_1]
      simp only [jnE]
      rw [f3, st_st]
