/-! what one had better do -/
theorem ask {x n m k t : HS} (h : RR x n m k t) {nc nb : Nat} (w : WF n nc nb) (rl : rel n t) : ∃ t1, f_X2_thinks t = some t1 ∧ rel n t1 ∧ t1 29 0 = 0 ∧ G1 t t1 ∧ ∀ (g t2 : HS) (a b : Nat), WF g a b → rel g t2 → fr t1 t2 → ∃ t3, f_X2_forgets t2 = some t3 ∧ rel n t3 ∧ G1 t t3 ∧ ∀ m', (∃ a b, WF m' a b) → RR x n m' k t3 := by
  obtain ⟨nc0, nb0, w0, -, -, wk, hx⟩ := id h
  obtain ⟨t1, a1, a2, a3, a4⟩ := thinks_M w rl
  refine ⟨t1, a1, a2, by rw [a3.a29]; exact hx.a29, a3, fun g t2 a b wg rg fg => ?_⟩
  obtain ⟨t3, c1, c2, c3⟩ := a4 g t2 a b wg rg fg
  exact ⟨t3, c1, c2, c3, fun m' wm' => ⟨nc, nb, w, c2, wm', wk, hx.g0 c3.g0⟩⟩
theorem beyond100 {i : Nat} (h : i < 100) : ¬ (99 : Int32) < nI i := nI_nlt (a := 99) (b := i) (by omega) (by omega)
theorem purse_loop {x n k : HS} {nc nb c b : Nat} (hc : c < nc) (hb : b < nb) (w : WF n nc nb) : ∀ (z i : Nat) (m t : HS), RR x n m k t → rel n t → i + z = 100 → ∃ (r : Int32) (m' t' : HS), RR x n m' k t' ∧ (∀ n', z < n' → L_X1_purseFor_48 (nI b) (nI c) n k (fun (xx_110 : HS) (xm_110 : HS) => some ((-9 : Int32), xx_110, xm_110)) n' (nI i) x m = some (r, x, m')) ∧ ∀ n', z < n' → L_X2_purseFor_42 (nI b) (nI c) (fun (tt_69 : HS) => some ((-9 : Int32), tt_69)) n' (nI i) t = some (r, t')
  | 0, i, m, t, h, rl, hi => by
    have : i = 100 := by omega
    subst this
    refine ⟨-9, m, t, h, fun n' hn => ?_, fun n' hn => ?_⟩
    · cases n' with
      | zero => omega
      | succ n' => rw [L_X1_purseFor_48, if_pos (by decide)]
    · cases n' with
      | zero => omega
      | succ n' => rw [L_X2_purseFor_42, if_pos (by decide)]
  | z + 1, i, m, t, h, rl, hi => by
    have h8 := w.nc8
    have h6 := w.nb6
    obtain ⟨-, -, -, -, ⟨ma, mb, wm⟩, -, -⟩ := id h
    obtain ⟨t1, a1, a2, a3, -, a4⟩ := ask h w rl
    have wg : WF (st n 8 (upd (n 8) b (nI i))) nc nb := w.put8 hb (nI_inR (b := 999) (by omega) (by omega))
    obtain ⟨d, h1, w1, -, g1, g2⟩ := goOn1_XM wg
    have r9 : t1 9 = n 8 := a2 9 rfl
    have r1 : rel (st n 8 (upd (n 8) b (nI i))) (st t1 9 (upd (t1 9) b (nI i))) := by rw [r9]; exact a2.w8 _
    obtain ⟨t2, b1, b2, b3, -⟩ := g2 _ r1 a3
    obtain ⟨t3, c1, c2, c3, c4⟩ := a4 h1 t2 nc nb w1 b2 ((fr.rf.put (k := 9) rfl).tr b3)
    have r5 : t2 5 = mh h1 := b2 5 rfl
    have his : f_X2_isHisBy (nI b) (nI c) (nI i) t = some (if h1 4 c = nI b then 1 else 0, t3) := by
      unfold f_X2_isHisBy
      rw [a1, Option.bind_some, wr_nI _ _ (by omega) (by omega), Option.bind_some]
      simp only [jnE]
      rw [b1, Option.bind_some, r5, rd_nI _ (by omega) (by omega), Option.bind_some, c1]
      by_cases q : h1 4 c = nI b
      · rw [if_pos ((mh_is w1 hc (by omega)).mpr q), if_pos q]; rfl
      · rw [if_neg (fun y => q ((mh_is w1 hc (by omega)).mp y)), if_neg q]; rfl
    have xs : ∀ n', L_X1_purseFor_48 (nI b) (nI c) n k (fun (xx_110 : HS) (xm_110 : HS) => some ((-9 : Int32), xx_110, xm_110)) (n' + 1) (nI i) x m = if h1 4 c = nI b then some (nI i, x, h1) else L_X1_purseFor_48 (nI b) (nI c) n k (fun (xx_110 : HS) (xm_110 : HS) => some ((-9 : Int32), xx_110, xm_110)) n' (nI (i + 1)) x h1 := by
      intro n'
      rw [L_X1_purseFor_48, if_neg (beyond100 (by omega)), become_X wm w, Option.bind_some]
      simp only [jnE]
      rw [ptv_nI _ _ (by omega) (by omega), g1, Option.bind_some, atv_nI _ (by omega) (by omega), nI_1]
    by_cases q : h1 4 c = nI b
    · refine ⟨nI i, h1, t3, c4 h1 ⟨nc, nb, w1⟩, fun n' hn => ?_, fun n' hn => ?_⟩
      · cases n' with
        | zero => omega
        | succ n' => rw [xs, if_pos q]
      · cases n' with
        | zero => omega
        | succ n' => rw [L_X2_purseFor_42, if_neg (beyond100 (by omega)), his, Option.bind_some, if_pos q, if_neg N10]
    · obtain ⟨r, m', t', e1, e2, e3⟩ := purse_loop hc hb w z (i + 1) h1 t3 (c4 h1 ⟨nc, nb, w1⟩) c2 (by omega)
      refine ⟨r, m', t', e1, fun n' hn => ?_, fun n' hn => ?_⟩
      · cases n' with
        | zero => omega
        | succ n' => rw [xs, if_neg q]; exact e2 n' (by omega)
      · cases n' with
        | zero => omega
        | succ n' => rw [L_X2_purseFor_42, if_neg (beyond100 (by omega)), his, Option.bind_some, if_neg q, if_pos rfl, nI_1]; exact e3 n' (by omega)
theorem purseFor_XM {x n m k t : HS} (h : RR x n m k t) (b c : Int32) : ∃ r x' m' t', f_X1_purseFor b c x n m k = some (r, x', m') ∧ f_X2_purseFor b c t = some (r, t') ∧ RR x' n m' k t' := by
  obtain ⟨nc, nb, w, rl, wm, wk, hx⟩ := id h
  have h8 := w.nc8
  have r5 : t 5 = mh n := rl 5 rfl
  unfold f_X1_purseFor f_X2_purseFor
  simp only [jnE]
  rw [areTold_M w rl]
  rcases hasBidder_or w b with ⟨i, hi, rfl, e2⟩ | e2
  · rcases hasCard_or w c with ⟨j, hj, rfl, e⟩ | e
    · rw [e, e2]
      simp only [iteN]
      rw [rd_nI _ (by omega) (by omega), Option.bind_some, r5]
      by_cases q : n 4 j = -9
      · rw [if_neg (fun z => (m9_pile w hj).mp z q), if_pos ((mh0 w hj).mpr q)]
        obtain ⟨r, m', t', e1, e2, e3⟩ := purse_loop hj hi w 100 0 m t h rl (by omega)
        exact ⟨r, x, m', t', e2 fuel (by unfold fuel; omega), e3 fuel (by unfold fuel; omega), e1⟩
      · rw [if_pos ((m9_pile w hj).mpr q), if_neg (fun z => q ((mh0 w hj).mp z))]
        exact refM h (-3) 3 (by omega) (by decide)
    · rw [e, e2]
      simp only [iteN, iteZ]
      exact refM h (-1) 1 (by omega) (by decide)
  · rw [e2]
    simp only [iteN, iteZ]
    exact refM h (-1) 1 (by omega) (by decide)
/-- how many one holds then: of any hall g beside -/
theorem many_XM {g : HS} {nc nb a b : Nat} (w : WF g nc nb) (ha : a ≤ 60) (hb : b < 2 ^ 30) : ∃ (d : Int32) (g' : HS), WF g' nc nb ∧ f_X0_goOn (nI a) 1 g = some (d, g') ∧ f_X0_heldBy (nI b) g' = some (hN g' nc (nI b)) ∧ ∀ t, rel g t → t 29 0 = 0 → ∃ t', f_X2_manyIn (nI b) (nI a) t = some (hN g' nc (nI b), t') ∧ rel g t' ∧ G1 t t' := by
  obtain ⟨d, g', w', -, g1, g2⟩ := goOn_XM w ha
  refine ⟨d, g', w', g1, heldBy_X w' _, fun t r h29 => ?_⟩
  obtain ⟨t1, a1, a2, a3, a4⟩ := thinks_M w r
  obtain ⟨t2, b1, b2, b3, -⟩ := g2 t1 a2 (by rw [a3.a29]; exact h29)
  obtain ⟨t3, c1, c2, c3⟩ := a4 g' t2 nc nb w' b2 b3
  refine ⟨t3, ?_, c2, c3⟩
  unfold f_X2_manyIn
  rw [a1, Option.bind_some, b1, Option.bind_some, held_M w' b2 hb, Option.bind_some, bits_bs _ w'.nc8, Option.bind_some, c1]
  rfl
theorem allBel_XM {g : HS} {nc nb a : Nat} (w : WF g nc nb) (ha : a ≤ 60) : ∃ (d : Int32) (g' : HS), WF g' nc nb ∧ f_X0_goOn (nI a) 1 g = some (d, g') ∧ f_X0_allBelieved g' = some (sm (g' 9) nb) ∧ ∀ t, rel g t → t 29 0 = 0 → ∃ t', f_X2_allBeliefIn (nI a) t = some (sm (g' 9) nb, t') ∧ rel g t' ∧ G1 t t' := by
  obtain ⟨d, g', w', -, g1, g2⟩ := goOn_XM w ha
  refine ⟨d, g', w', g1, believed_X w', fun t r h29 => ?_⟩
  obtain ⟨t1, a1, a2, a3, a4⟩ := thinks_M w r
  obtain ⟨t2, b1, b2, b3, -⟩ := g2 t1 a2 (by rw [a3.a29]; exact h29)
  obtain ⟨t3, c1, c2, c3⟩ := a4 g' t2 nc nb w' b2 b3
  have r21 : t2 21 = g' 11 := b2 21 rfl
  have r10 : t2 10 = g' 9 := b2 10 rfl
  refine ⟨t3, ?_, c2, c3⟩
  unfold f_X2_allBeliefIn
  rw [a1, Option.bind_some, b1, Option.bind_some, r21, w'.b, allOf10_M w'.nb6, r10, Option.bind_some, c1]
  rfl
/-! to the front -/
def tfI (o : Nat → Int32) (p i : Nat) : Nat → Int32 := fun j => if i < j ∧ j ≤ p then o (j - 1) else o j
theorem tfI_p (o : Nat → Int32) (p : Nat) : tfI o p p = o := by
  funext j; unfold tfI; rw [if_neg (by omega)]
theorem tfI_s (o : Nat → Int32) (p i : Nat) (h : i < p) : upd (tfI o p (i + 1)) (i + 1) (tfI o p (i + 1) i) = tfI o p i := by
  funext j
  unfold tfI upd
  by_cases q : j = i + 1
  · subst q
    rw [if_pos rfl, if_neg (by omega), if_pos (by omega)]; rfl
  · rw [if_neg q]
    show (if i + 1 < j ∧ j ≤ p then o (j - 1) else o j) = _
    by_cases z : i + 1 < j ∧ j ≤ p
    · rw [if_pos z, if_pos (by omega)]
    · rw [if_neg z, if_neg (by omega)]
theorem front_X {h : HS} (p : Nat) (hp : p < 8) (c : Int32) (K : HS → Option HS) : ∀ (i n : Nat), i ≤ p → i < n → L_X0_toFront_6 c K n (nI i) (st h 5 (tfI (h 5) p i)) = K (st h 5 (tfI (h 5) p 0))
  | 0, n + 1, _, _ => by rw [L_X0_toFront_6, if_pos (by decide)]
  | i + 1, n + 1, hi, hn => by
    have ih := front_X (h := h) p hp c K i n (by omega) (by omega)
    rw [L_X0_toFront_6, if_neg (nI_nle (by omega) (by omega)), nI_pred, pk_m1, st_eq, atv_nI _ (by omega) (by omega), ptv_nI _ _ (by omega) (by omega), tfI_s _ _ _ (by omega), st_st]
    exact ih
theorem front_M {h t : HS} (r6 : t 6 = h 5) (p : Nat) (hp : p < 8) (c : Int32) (K : HS → Option HS) : ∀ (i n : Nat), i ≤ p → i < n → L_X2_putsFirst_6 c K n (nI i) (st t 6 (tfI (h 5) p i)) = K (st t 6 (tfI (h 5) p 0))
  | 0, n + 1, _, _ => by rw [L_X2_putsFirst_6, if_pos (by decide)]
  | i + 1, n + 1, hi, hn => by
    have ih := front_M r6 p hp c K i n (by omega) (by omega)
    rw [L_X2_putsFirst_6, if_neg (nI_nle (by omega) (by omega)), nI_pred, pk_m1, st_eq, rd_nI _ (by omega) (by omega), Option.bind_some, wr_nI _ _ (by omega) (by omega), Option.bind_some, tfI_s _ _ _ (by omega), st_st]
    exact ih
theorem toFront_XM {h : HS} {nc nb c : Nat} (w : WF h nc nb) (hc : c < nc) : ∃ h', WF h' nc nb ∧ f_X0_toFront (nI c) h = some h' ∧ ∀ t, rel h t → ∃ t', f_X2_putsFirst (nI c) t = some t' ∧ rel h' t' ∧ fr t t' := by
  have h8 := w.nc8
  obtain ⟨p, hp, ep, p1, p2⟩ := placeOf_XM w hc
  refine ⟨st h 5 (upd (tfI (h 5) p 0) 0 (nI c)), ?_, ?_, fun t r => ?_⟩
  · -- places through the move
    have s : ∀ i, i < nc → upd (tfI (h 5) p 0) 0 (nI c) i = h 5 (if i = 0 then p else if i ≤ p then i - 1 else i) := by
      intro i _
      unfold upd tfI
      by_cases q : i = 0
      · rw [if_pos q, if_pos q, ep]
      · rw [if_neg q, if_neg q]
        by_cases z : i ≤ p
        · rw [if_pos (by omega), if_pos z]
        · rw [if_neg (by omega), if_neg z]
    have inn : ∀ i, i < nc → (if i = 0 then p else if i ≤ p then i - 1 else i) < nc := by
      intro i hi
      split
      · exact hp
      · split <;> omega
    refine ⟨w.1, fun i hi => ⟨(w.2.1 i hi).1, (w.2.1 i hi).2.1, (w.2.1 i hi).2.2.1, (w.2.1 i hi).2.2.2.1, ?_⟩, ?_, w.2.2.2.1, ?_, ?_, ?_⟩
    · show ∃ q, q < nc ∧ upd (tfI (h 5) p 0) 0 (nI c) i = nI q
      rw [s i hi]; exact w.ord (inn i hi)
    · intro i j hi hj e
      have e : upd (tfI (h 5) p 0) 0 (nI c) i = upd (tfI (h 5) p 0) 0 (nI c) j := e
      rw [s i hi, s j hj] at e
      have := w.inj (inn i hi) (inn j hj) e
      split at this <;> split at this <;> (try split at this) <;> (try split at this) <;> omega
    · intro k hk i hi
      by_cases z : k = 5
      · subst z
        show upd (tfI (h 5) p 0) 0 (nI c) i = 0
        unfold upd tfI
        rw [if_neg (by omega), if_neg (by omega)]
        exact w.z (by omega) i hi
      · rw [st_ne z]; exact w.z hk i hi
    · intro k h6 hk i hi
      rw [st_ne (by omega)]; exact w.zb h6 hk i hi
    · intro k hk
      rw [st_ne (by omega)]; exact w.2.2.2.2.2.2 k hk
  · unfold f_X0_toFront
    rw [p1, Option.bind_some]
    have x := front_X (h := h) p (by omega) (nI c) (fun (hh_34 : HS) => jn (st hh_34 5 (ptv 8 (hh_34 5) (0 : Int32) (nI c))) (fun (hh_v2 : HS) => some hh_v2)) p fuel (Nat.le_refl _) (by unfold fuel; omega)
    rw [tfI_p, st_same (h := h) (k := 5) rfl] at x
    refine Eq.trans x ?_
    simp only [jnE]
    rw [st_eq, show (0 : Int32) = nI 0 from rfl, ptv_nI _ _ (by omega) (by omega), st_st]
  · have r6 : t 6 = h 5 := r 6 rfl
    refine ⟨st t 6 (upd (tfI (h 5) p 0) 0 (nI c)), ?_, r.w5 _, fr.rf.put rfl⟩
    unfold f_X2_putsFirst
    rw [p2 t r, Option.bind_some]
    have x := front_M r6 p (by omega) (nI c) (fun (tt_30 : HS) => (wr 8 (tt_30 6) (0 : Int32) (nI c)).bind fun v2 => jn (st tt_30 6 v2) (fun (tt_v3 : HS) => some tt_v3)) p fuel (Nat.le_refl _) (by unfold fuel; omega)
    rw [tfI_p, st_same (h := t) (k := 6) r6] at x
    refine Eq.trans x ?_
    simp only [jnE]
    rw [st_eq, show (0 : Int32) = nI 0 from rfl, wr_nI _ _ (by omega) (by omega), Option.bind_some, st_st]
theorem first_loop {x n k : HS} {nc nb a b : Nat} (ha : a ≤ 60) (hb : b < nb) (w : WF n nc nb) : ∀ (z i : Nat) (m t : HS) (most best : Int32), RR x n m k t → rel n t → i + z = nc → ∃ (r : Int32) (m' t' : HS), RR x n m' k t' ∧ (∀ n', z < n' → L_X1_first_73 (nI b) (nI a) n k (fun (j4_159 : Int32) (xx_159 : HS) (xm_159 : HS) => some (j4_159, xx_159, xm_159)) n' most best (nI i) x m = some (r, x, m')) ∧ ∀ n', z < n' → L_X2_first_45 (nI b) (nI a) (fun (j4_113 : Int32) (tt_113 : HS) => some (j4_113, tt_113)) n' best most (nI i) t = some (r, t')
  | 0, i, m, t, most, best, h, rl, hi => by
    have : i = nc := by omega
    subst this
    have h8 := w.nc8
    have r20 : t 20 = n 10 := rl 20 rfl
    refine ⟨best, m, t, h, fun n' hn => ?_, fun n' hn => ?_⟩
    · cases n' with
      | zero => omega
      | succ n' => rw [L_X1_first_73, w.c, if_pos (nI_le (Nat.le_refl _) (by omega))]
    · cases n' with
      | zero => omega
      | succ n' => rw [L_X2_first_45, r20, w.c, if_pos (nI_le (Nat.le_refl _) (by omega))]
  | z + 1, i, m, t, most, best, h, rl, hi => by
    have h8 := w.nc8
    have h6 := w.nb6
    have r20 : t 20 = n 10 := rl 20 rfl
    have r5 : t 5 = mh n := rl 5 rfl
    have hic : i < nc := by omega
    obtain ⟨-, -, -, -, ⟨ma, mb, wm⟩, wk, hx⟩ := id h
    by_cases q : n 4 i = -9
    · obtain ⟨t1, a1, a2, a3, a4⟩ := changes_M w rl
      obtain ⟨g, wg, f1, f2⟩ := toFront_XM w hic
      obtain ⟨t2, b1, b2, b3⟩ := f2 t1 a2
      obtain ⟨d, g', wg', m1, m2, m3⟩ := many_XM wg ha (b := b) (by omega)
      obtain ⟨t3, c1, c2, c3⟩ := m3 t2 b2 (by rw [b3 29 rfl (by decide), a3.a29]; exact hx.a29)
      obtain ⟨t4, d1, d2, d3⟩ := a4 g t3 nc nb wg c2 ((G1.of_fr b3).tr c3)
      have R4 : RR x n g' k t4 := ⟨nc, nb, w, d2, ⟨nc, nb, wg'⟩, wk, hx.g0 d3⟩
      have xs : ∀ n', L_X1_first_73 (nI b) (nI a) n k (fun (j4_159 : Int32) (xx_159 : HS) (xm_159 : HS) => some (j4_159, xx_159, xm_159)) (n' + 1) most best (nI i) x m = if hN g' nc (nI b) ≤ most then L_X1_first_73 (nI b) (nI a) n k (fun (j4_159 : Int32) (xx_159 : HS) (xm_159 : HS) => some (j4_159, xx_159, xm_159)) n' most best (nI (i + 1)) x g' else L_X1_first_73 (nI b) (nI a) n k (fun (j4_159 : Int32) (xx_159 : HS) (xm_159 : HS) => some (j4_159, xx_159, xm_159)) n' (hN g' nc (nI b)) (nI i) (nI (i + 1)) x g' := by
        intro n'
        rw [L_X1_first_73, w.c, if_neg (nI_ge (by omega) (by omega)), if_neg (fun y => (m9_pile w hic).mp y q), become_X wm w, Option.bind_some, f1, Option.bind_some, m1, Option.bind_some, m2, Option.bind_some, nI_1]
      have ms : ∀ n', L_X2_first_45 (nI b) (nI a) (fun (j4_113 : Int32) (tt_113 : HS) => some (j4_113, tt_113)) (n' + 1) best most (nI i) t = if most < hN g' nc (nI b) then L_X2_first_45 (nI b) (nI a) (fun (j4_113 : Int32) (tt_113 : HS) => some (j4_113, tt_113)) n' (nI i) (hN g' nc (nI b)) (nI (i + 1)) t4 else L_X2_first_45 (nI b) (nI a) (fun (j4_113 : Int32) (tt_113 : HS) => some (j4_113, tt_113)) n' best most (nI (i + 1)) t4 := by
        intro n'
        rw [L_X2_first_45, r20, w.c, if_neg (nI_ge (by omega) (by omega)), r5, rd_nI _ (by omega) (by omega), Option.bind_some, if_pos ((mh0 w hic).mpr q), a1, Option.bind_some, b1, Option.bind_some, c1, Option.bind_some, d1, Option.bind_some, nI_1]
      by_cases y : hN g' nc (nI b) ≤ most
      · obtain ⟨r, m', t', e1, e2, e3⟩ := first_loop ha hb w z (i + 1) g' t4 most best R4 d2 (by omega)
        refine ⟨r, m', t', e1, fun n' hn => ?_, fun n' hn => ?_⟩
        · cases n' with
          | zero => omega
          | succ n' => rw [xs, if_pos y]; exact e2 n' (by omega)
        · cases n' with
          | zero => omega
          | succ n' => rw [ms, if_neg (fun u => lt_nle u y)]; exact e3 n' (by omega)
      · obtain ⟨r, m', t', e1, e2, e3⟩ := first_loop ha hb w z (i + 1) g' t4 (hN g' nc (nI b)) (nI i) R4 d2 (by omega)
        refine ⟨r, m', t', e1, fun n' hn => ?_, fun n' hn => ?_⟩
        · cases n' with
          | zero => omega
          | succ n' => rw [xs, if_neg y]; exact e2 n' (by omega)
        · cases n' with
          | zero => omega
          | succ n' => rw [ms, if_pos (nle_lt y)]; exact e3 n' (by omega)
    · obtain ⟨r, m', t', e1, e2, e3⟩ := first_loop ha hb w z (i + 1) m t most best h rl (by omega)
      refine ⟨r, m', t', e1, fun n' hn => ?_, fun n' hn => ?_⟩
      · cases n' with
        | zero => omega
        | succ n' =>
          rw [L_X1_first_73, w.c, if_neg (nI_ge (by omega) (by omega)), if_pos ((m9_pile w hic).mpr q), nI_1]
          exact e2 n' (by omega)
      · cases n' with
        | zero => omega
        | succ n' =>
          rw [L_X2_first_45, r20, w.c, if_neg (nI_ge (by omega) (by omega)), r5, rd_nI _ (by omega) (by omega), Option.bind_some, if_neg (fun u => q ((mh0 w hic).mp u)), nI_1]
          exact e3 n' (by omega)
theorem first_XM {x n m k t : HS} (h : RR x n m k t) (b v : Int32) : ∃ r x' m' t', f_X1_first b v x n m k = some (r, x', m') ∧ f_X2_first b v t = some (r, t') ∧ RR x' n m' k t' := by
  obtain ⟨nc, nb, w, rl, ⟨ma, mb, wm⟩, wk, hx⟩ := id h
  have h6 := w.nb6
  unfold f_X1_first f_X2_first
  simp only [jnE]
  rw [isBidder_eq rl]
  rcases hasBidder_or w b with ⟨j, hj, rfl, e⟩ | e
  · rw [e, if_neg N10, if_neg N10, beyond_eq]
    by_cases q : f_X2_bound v 0 20 = 0
    · obtain ⟨a, ha, rfl⟩ := bound_in (c := 20) (by omega) q
      obtain ⟨d, g', wg', m1, m2, m3⟩ := many_XM w (a := a) (b := j) (by omega) (by omega)
      obtain ⟨t1, c1, c2, c3⟩ := m3 t rl hx.a29
      rw [if_pos q, if_pos q, become_X wm w, Option.bind_some, m1, Option.bind_some, m2, Option.bind_some, c1, Option.bind_some]
      obtain ⟨r, m', t', e1, e2, e3⟩ := first_loop (a := a) (by omega) hj w nc 0 g' t1 (hN g' nc (nI j)) (-9) ⟨nc, nb, w, c2, ⟨nc, nb, wg'⟩, wk, hx.g0 c3.g0⟩ c2 (by omega)
      have h8 := w.nc8
      exact ⟨r, x, m', t', e2 fuel (by unfold fuel; omega), e3 fuel (by unfold fuel; omega), e1⟩
    · obtain ⟨j', hj', er⟩ := bound_ne q
      rw [if_neg q, if_neg q]
      exact refM h _ j' hj' er
  · rw [if_pos e, if_pos e]
    exact refM h (-1) 1 (by omega) (by decide)
