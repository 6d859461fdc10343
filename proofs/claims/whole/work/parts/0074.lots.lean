/-! lots: the seed of the check's draws (31) stands beside what its questions keep -/
def fr31 (t t' : HS) : Prop := ∀ k, core k = false → k ≠ 16 → k ≠ 31 → t' k = t k
theorem fr31.rf {t : HS} : fr31 t t := fun _ _ _ _ => rfl
theorem fr31.tr {t t' t'' : HS} (a : fr31 t t') (b : fr31 t' t'') : fr31 t t'' := fun k h1 h2 h3 => (b k h1 h2 h3).trans (a k h1 h2 h3)
theorem fr31.of {t t' : HS} (h : fr t t') : fr31 t t' := fun k h1 h2 _ => h k h1 h2
theorem fr31.put {t t' : HS} (h : fr31 t t') {k : Nat} {f : Nat → Int32} (hk : core k = true) : fr31 t (st t' k f) := fun j hj q q2 => by
  rw [st_ne (fun e => by rw [e, hk] at hj; cases hj)]
  exact h j hj q q2
theorem fr31.put31 {t t' : HS} (h : fr31 t t') {f : Nat → Int32} : fr31 t (st t' 31 f) := fun j hj q q2 => by
  rw [st_ne q2]
  exact h j hj q q2
def G31 (t t' : HS) : Prop := (∀ k, core k = false → k ≠ 15 → k ≠ 16 → k ≠ 27 → k ≠ 28 → k ≠ 31 → t' k = t k) ∧ ∀ j, j < 75 → t' 15 j = t 15 j
theorem RX.g31 {x k t t' : HS} (h : RX x k t) (g : G31 t t') : RX x k t' := by
  obtain ⟨h1, h2, h3, ⟨lc, l1, l2, l3, l4⟩, ⟨rc, r1, r2, r3, r4⟩, h6, h7⟩ := h
  have e : ∀ j, core j = false → j ≠ 15 → j ≠ 16 → j ≠ 27 → j ≠ 28 → j ≠ 31 → t' j = t j := g.1
  exact ⟨h1, by rw [e 26 rfl (by decide) (by decide) (by decide) (by decide) (by decide)]; exact h2, fun q => (h3 q).congr (fun j _ hj => g.2 j (by omega)), ⟨lc, l1, l2, by rw [e 23 rfl (by decide) (by decide) (by decide) (by decide) (by decide)]; exact l3, fun i hi => by rw [e 11 rfl (by decide) (by decide) (by decide) (by decide) (by decide)]; exact l4 i hi⟩, ⟨rc, r1, r2, by rw [e 30 rfl (by decide) (by decide) (by decide) (by decide) (by decide)]; exact r3, fun i hi => by rw [e 18 rfl (by decide) (by decide) (by decide) (by decide) (by decide)]; exact r4 i hi⟩, by rw [e 0 rfl (by decide) (by decide) (by decide) (by decide) (by decide)]; exact h6, by rw [e 29 rfl (by decide) (by decide) (by decide) (by decide) (by decide)]; exact h7⟩
theorem ask31 {x n m k t : HS} (h : RR x n m k t) {nc nb : Nat} (w : WF n nc nb) (rl : rel n t) : ∃ t1, f_X2_thinks t = some t1 ∧ rel n t1 ∧ t1 29 0 = 0 ∧ t1 31 = t 31 ∧ ∀ (g t2 : HS) (a b : Nat), WF g a b → rel g t2 → fr31 t1 t2 → ∃ t3, f_X2_forgets t2 = some t3 ∧ rel n t3 ∧ t3 31 = t2 31 ∧ ∀ m', (∃ a b, WF m' a b) → RR x n m' k t3 := by
  obtain ⟨nc0, nb0, w0, -, -, wk, hx⟩ := id h
  obtain ⟨t1, a1, a2, a3, a4, a5⟩ := keep_M (w := 2) w rl (by omega)
  refine ⟨t1, ?_, a2, by rw [a3 29 rfl (by decide) (by decide) (by decide)]; exact hx.a29, a3 31 rfl (by decide) (by decide) (by decide), fun g t2 a b wg rg fg => ?_⟩
  · unfold f_X2_thinks
    rw [show (2 : Int32) = nI 2 from rfl, a1]; rfl
  · obtain ⟨t3, b1, b2, b3⟩ := rest_M (w := 2) wg rg (by omega) w (by rw [fg 15 rfl (by decide) (by decide)]; exact a4)
    refine ⟨t3, ?_, b2, b3 31 rfl (by decide) (by decide), fun m' wm' => ⟨nc, nb, w, b2, wm', wk, hx.g31 ⟨fun k h1 h2 h3 h4 h5 h6 => ?_, fun j hj => ?_⟩⟩⟩
    · unfold f_X2_forgets
      rw [show (2 : Int32) = nI 2 from rfl, b1]; rfl
    · rw [b3 k h1 h4 h5, fg k h1 h3 h6, a3 k h1 h2 h4 h5]
    · rw [b3 15 rfl (by decide) (by decide), fg 15 rfl (by decide) (by decide)]
      exact a5 j (by omega)
/-! draws -/
def dz (z : Int32) : Int32 := z * (1664525 : Int32) + (1013904223 : Int32)
def dv (z : Int32) : Int32 := ((z &&& (2147483647 : Int32)) / (256 : Int32)) - ((z &&& (2147483647 : Int32)) / (256 : Int32)) / (100 : Int32) * (100 : Int32)
theorem mask_pos (z : Int32) : ¬ (z &&& (2147483647 : Int32)) < 0 := by
  intro q
  rw [Int32.lt_iff_toInt_lt, Int32.toInt_zero] at q
  have e : (z &&& (2147483647 : Int32)).toBitVec.msb = false := by
    rw [Int32.toBitVec_and, BitVec.msb_and, show ((2147483647 : Int32)).toBitVec.msb = false by decide, Bool.and_false]
  rw [BitVec.msb_eq_toInt] at e
  have := of_decide_eq_false e
  exact this q
theorem dv_in (z : Int32) : inR 0 99 (dv z) := by
  obtain ⟨j, hj, e⟩ := nI_of (mask_pos z)
  unfold dv
  rw [e, show (256 : Int32) = nI 256 from rfl, pk_div (by omega) (by omega) (by omega), show (100 : Int32) = nI 100 from rfl, pk_rem (by omega) (by omega) (by omega)]
  exact nI_inR (b := 99) (by omega) (by omega)
theorem draw_loop {nc nb : Nat} (j1 a1 a2 a3 : Int32) : ∀ (k i : Nat) (h : HS) (z : Int32), WF h nc nb → i + k = nb → ∃ (z' : Int32) (h' : HS), WF h' nc nb ∧ (∀ K n, k < n → L_X0_drawPurses_4 j1 K n z (nI i) h = K z' h') ∧
    ∀ t, rel h t → t 31 0 = z → ∃ t', rel h' t' ∧ t' 31 0 = z' ∧ fr31 t t' ∧ ∀ K n v j, k < n → L_X2_lots_63 a1 a2 a3 K n v j (nI i) t = K v j t'
  | 0, i, h, z, w, hi => by
    have : i = nb := by omega
    subst this
    have h6 := w.nb6
    have c0 : nI i ≤ nI i := nI_le (Nat.le_refl _) (by omega)
    refine ⟨z, h, w, fun K n hn => ?_, fun t r e => ⟨t, r, e, fr31.rf, fun K n v j hn => ?_⟩⟩
    · cases n with
      | zero => omega
      | succ n => rw [L_X0_drawPurses_4, w.b, if_pos c0]
    · cases n with
      | zero => omega
      | succ n => rw [L_X2_lots_63, show t 21 = h 11 from r 21 rfl, w.b, if_pos c0]
  | k + 1, i, h, z, w, hi => by
    have h6 := w.nb6
    have c0 : ¬ nI nb ≤ nI i := nI_ge (by omega) (by omega)
    have dd := dv_in (dz z)
    have w1 : WF (st h 8 (upd (h 8) i (dv (dz z)))) nc nb := w.put8 (by omega) ⟨dd.1, by have := dd.2; omega⟩
    obtain ⟨z', h', w', X, M⟩ := draw_loop j1 a1 a2 a3 k (i + 1) (st h 8 (upd (h 8) i (dv (dz z)))) (dz z) w1 (by omega)
    refine ⟨z', h', w', fun K n hn => ?_, fun t r e => ?_⟩
    · cases n with
      | zero => omega
      | succ n =>
        rw [L_X0_drawPurses_4, w.b, if_neg c0, ptv_nI _ _ (by omega) (by omega), nI_1]
        simp only [jnE]
        exact X K n (by omega)
    · have r1 : rel (st h 8 (upd (h 8) i (dv (dz z)))) (st (st t 31 (fun _ => dz z)) 9 (upd (t 9) i (dv (dz z)))) := by
        have r9 : t 9 = h 8 := r 9 rfl
        rw [r9]
        exact (r.same (k := 31) rfl).w8 _
      obtain ⟨t', m1, m2, m3, m4⟩ := M _ r1 rfl
      refine ⟨t', m1, m2, ((fr31.rf.put31).put rfl).tr m3, fun K n v j hn => ?_⟩
      cases n with
      | zero => omega
      | succ n =>
        have dr : f_X2_draw 100 t = some (dv (dz z), st t 31 (fun _ => dz z)) := by
          unfold f_X2_draw
          simp only [jnE]
          unfold nz
          rw [if_neg (show ¬ (100 : Int32) = 0 by decide), st_eq, e]
          rfl
        rw [L_X2_lots_63, show t 21 = h 11 from r 21 rfl, w.b, if_neg c0, dr, Option.bind_some, show (dv (dz z), st t 31 (fun _ => dz z)).2 9 = t 9 from rfl, wr_nI _ _ (by omega) (by omega), Option.bind_some, nI_1]
        simp only [jnE]
        exact m4 K n v j (by omega)
theorem lay_loop {nc nb : Nat} (a1 a2 a3 : Int32) : ∀ (k i : Nat) (h : HS), WF h nc nb → i + k = nc → ∃ (h' : HS), WF h' nc nb ∧ (∀ K n, k < n → L_X0_allToPile_2 K n (nI i) h = K h') ∧
    ∀ t, rel h t → ∃ t', rel h' t' ∧ fr t t' ∧ ∀ K n v j, k < n → L_X2_lots_94 a1 a2 a3 K n v j (nI i) t = K v j t'
  | 0, i, h, w, hi => by
    have : i = nc := by omega
    subst this
    have h8 := w.nc8
    have c0 : nI i ≤ nI i := nI_le (Nat.le_refl _) (by omega)
    refine ⟨h, w, fun K n hn => ?_, fun t r => ⟨t, r, fr.rf, fun K n v j hn => ?_⟩⟩
    · cases n with
      | zero => omega
      | succ n => rw [L_X0_allToPile_2, w.c, if_pos c0]
    · cases n with
      | zero => omega
      | succ n => rw [L_X2_lots_94, show t 20 = h 10 from r 20 rfl, w.c, if_pos c0]
  | k + 1, i, h, w, hi => by
    have h8 := w.nc8
    have c0 : ¬ nI nc ≤ nI i := nI_ge (by omega) (by omega)
    have w1 : WF (st h 4 (upd (h 4) i (-9))) nc nb := w.put4 (by omega) (Or.inl rfl)
    obtain ⟨h', w', X, M⟩ := lay_loop a1 a2 a3 k (i + 1) (st h 4 (upd (h 4) i (-9))) w1 (by omega)
    refine ⟨h', w', fun K n hn => ?_, fun t r => ?_⟩
    · cases n with
      | zero => omega
      | succ n =>
        rw [L_X0_allToPile_2, w.c, if_neg c0, ptv_nI _ _ (by omega) (by omega), nI_1]
        simp only [jnE]
        exact X K n (by omega)
    · obtain ⟨t', m1, m2, m3⟩ := M _ (r.w4 w (c := i) (by omega) (-9))
      refine ⟨t', m1, (fr.rf.put rfl).tr m2, fun K n v j hn => ?_⟩
      cases n with
      | zero => omega
      | succ n =>
        rw [L_X2_lots_94, show t 20 = h 10 from r 20 rfl, w.c, if_neg c0, wr_nI _ _ (by omega) (by omega), Option.bind_some, nI_1]
        simp only [jnE]
        exact m3 K n v j (by omega)
theorem lots_loop {x n k : HS} {nc nb N : Nat} (j2 j3 : Int32) (hN : N ≤ 20) (w : WF n nc nb) : ∀ (z i : Nat) (m t : HS) (s all : Int32), i + z = N → RR x n m k t → rel n t → t 31 0 = s → ∃ (all' : Int32) (m' t' : HS), RR x n m' k t' ∧
    (∀ K n', z < n' → L_X1_lots_46 (nI N) j2 j3 n k K n' s all (nI i) x m = K all' x m') ∧
    ∀ K n', z < n' → L_X2_lots_50 (nI N) j2 j3 K n' all (nI i) t = K all' t'
  | 0, i, m, t, s, all, hi, R, rl, e => by
    have : i = N := by omega
    subst this
    have c0 : nI i ≤ nI i := nI_le (Nat.le_refl _) (by omega)
    refine ⟨all, m, t, R, fun K n' hn => ?_, fun K n' hn => ?_⟩
    · cases n' with
      | zero => omega
      | succ n' => rw [L_X1_lots_46, if_pos c0]
    · cases n' with
      | zero => omega
      | succ n' => rw [L_X2_lots_50, if_pos c0]
  | z + 1, i, m, t, s, all, hi, R, rl, e => by
    have h8 := w.nc8
    have h6 := w.nb6
    have c0 : ¬ nI N ≤ nI i := nI_ge (by omega) (by omega)
    obtain ⟨-, -, -, -, ⟨ma, mb, wm⟩, -⟩ := id R
    obtain ⟨t1, a1, a2, a3, a4, a5⟩ := ask31 R w rl
    obtain ⟨z1, h1, w1, X1, M1⟩ := draw_loop s (nI N) j2 j3 nb 0 n s w (by omega)
    obtain ⟨t2, b1, b2, b3, b4⟩ := M1 t1 a2 (by rw [a4]; exact e)
    obtain ⟨h2, w2, X2, M2⟩ := lay_loop (nI N) j2 j3 nc 0 h1 w1 (by omega)
    obtain ⟨t3, c1, c2, c3⟩ := M2 t2 b1
    obtain ⟨d, h3, w3, -, g1, g2⟩ := goOn_XM w2 (n := 2) (by omega)
    have a29 : t3 29 0 = 0 := by rw [c2 29 rfl (by decide), b3 29 rfl (by decide) (by decide)]; exact a3
    obtain ⟨t4, d1, d2, d3, -⟩ := g2 t3 c1 a29
    obtain ⟨t5, e1, e2, e3, e4⟩ := a5 h3 t4 nc nb w3 d2 ((b3.tr (fr31.of c2)).tr (fr31.of d3))
    have s5 : t5 31 0 = z1 := by rw [e3, d3 31 rfl (by decide), c2 31 rfl (by decide)]; exact b2
    have r20 : t4 20 = h3 10 := d2 20 rfl
    have r21 : t4 21 = h3 11 := d2 21 rfl
    have r10 : t4 10 = h3 9 := d2 10 rfl
    have fx : f_X0_drawPurses s n = some (z1, h1) := by
      unfold f_X0_drawPurses
      simp only [jnE]
      exact X1 (fun (j2_45 : Int32) (hh_45 : HS) => some (j2_45, hh_45)) fuel (by unfold fuel; omega)
    have fp : f_X0_allToPile h1 = some h2 := by
      unfold f_X0_allToPile
      simp only [jnE]
      exact X2 (fun (hh_26 : HS) => some hh_26) fuel (by unfold fuel; omega)
    have g1' : f_X0_goOn 2 1 h2 = some (d, h3) := g1
    have d1' : f_X2_goes 2 t3 = some t4 := d1
    by_cases q : j3 = 0
    · obtain ⟨all', m', t', R', X, M⟩ := lots_loop (x := x) (k := k) j2 j3 hN w z (i + 1) h3 t5 z1 (all + pN h3 nc) (by omega) (e4 h3 ⟨nc, nb, w3⟩) e2 s5
      refine ⟨all', m', t', R', fun K n' hn => ?_, fun K n' hn => ?_⟩
      · cases n' with
        | zero => omega
        | succ n' =>
          rw [L_X1_lots_46, if_neg c0, become_X wm w, Option.bind_some, fx, Option.bind_some, fp, Option.bind_some, g1', Option.bind_some, if_pos q, heldCount_X w3, Option.bind_some, nI_1]
          exact X K n' (by omega)
      · cases n' with
        | zero => omega
        | succ n' =>
          rw [L_X2_lots_50, if_neg c0, a1, Option.bind_some]
          simp only [jnE]
          have y1 := b4 (fun (j5_91 : Int32) (j6_91 : Int32) (tt_91 : HS) => (L_X2_lots_94 (nI N) j2 j3 (fun (j5_117 : Int32) (j6_117 : Int32) (tt_117 : HS) => (f_X2_goes (2 : Int32) tt_117).bind fun v5 => if j3 = 0 then (f_X2_pile v5).bind fun v9 => (f_X2_bits v9).bind fun v10 => (f_X2_forgets v5).bind fun v11 => (L_X2_lots_50 (nI N) j2 j3 K n' (j5_117 + ((v5 20 0) - v10)) (j6_117 + (1 : Int32)) v11) else (f_X2_allOf_10 (v5 21 0) v5).bind fun v7 => (f_X2_forgets v5).bind fun v8 => (L_X2_lots_50 (nI N) j2 j3 K n' (j5_117 + v7) (j6_117 + (1 : Int32)) v8)) fuel j5_91 j6_91 (0 : Int32) tt_91)) fuel all (nI i) (by unfold fuel; omega)
          have y2 := c3 (fun (j5_117 : Int32) (j6_117 : Int32) (tt_117 : HS) => (f_X2_goes (2 : Int32) tt_117).bind fun v5 => if j3 = 0 then (f_X2_pile v5).bind fun v9 => (f_X2_bits v9).bind fun v10 => (f_X2_forgets v5).bind fun v11 => (L_X2_lots_50 (nI N) j2 j3 K n' (j5_117 + ((v5 20 0) - v10)) (j6_117 + (1 : Int32)) v11) else (f_X2_allOf_10 (v5 21 0) v5).bind fun v7 => (f_X2_forgets v5).bind fun v8 => (L_X2_lots_50 (nI N) j2 j3 K n' (j5_117 + v7) (j6_117 + (1 : Int32)) v8)) fuel all (nI i) (by unfold fuel; omega)
          rw [nI0] at y1 y2
          rw [y1, y2, d1', Option.bind_some, if_pos q, pile_M w3 d2, Option.bind_some, bits_bs _ w3.nc8, Option.bind_some, e1, Option.bind_some, r20, nI_1]
          exact M K n' (by omega)
    · obtain ⟨all', m', t', R', X, M⟩ := lots_loop (x := x) (k := k) j2 j3 hN w z (i + 1) h3 t5 z1 (all + sm (h3 9) nb) (by omega) (e4 h3 ⟨nc, nb, w3⟩) e2 s5
      refine ⟨all', m', t', R', fun K n' hn => ?_, fun K n' hn => ?_⟩
      · cases n' with
        | zero => omega
        | succ n' =>
          rw [L_X1_lots_46, if_neg c0, become_X wm w, Option.bind_some, fx, Option.bind_some, fp, Option.bind_some, g1', Option.bind_some, if_neg q, believed_X w3, Option.bind_some, nI_1]
          exact X K n' (by omega)
      · cases n' with
        | zero => omega
        | succ n' =>
          rw [L_X2_lots_50, if_neg c0, a1, Option.bind_some]
          simp only [jnE]
          have y1 := b4 (fun (j5_91 : Int32) (j6_91 : Int32) (tt_91 : HS) => (L_X2_lots_94 (nI N) j2 j3 (fun (j5_117 : Int32) (j6_117 : Int32) (tt_117 : HS) => (f_X2_goes (2 : Int32) tt_117).bind fun v5 => if j3 = 0 then (f_X2_pile v5).bind fun v9 => (f_X2_bits v9).bind fun v10 => (f_X2_forgets v5).bind fun v11 => (L_X2_lots_50 (nI N) j2 j3 K n' (j5_117 + ((v5 20 0) - v10)) (j6_117 + (1 : Int32)) v11) else (f_X2_allOf_10 (v5 21 0) v5).bind fun v7 => (f_X2_forgets v5).bind fun v8 => (L_X2_lots_50 (nI N) j2 j3 K n' (j5_117 + v7) (j6_117 + (1 : Int32)) v8)) fuel j5_91 j6_91 (0 : Int32) tt_91)) fuel all (nI i) (by unfold fuel; omega)
          have y2 := c3 (fun (j5_117 : Int32) (j6_117 : Int32) (tt_117 : HS) => (f_X2_goes (2 : Int32) tt_117).bind fun v5 => if j3 = 0 then (f_X2_pile v5).bind fun v9 => (f_X2_bits v9).bind fun v10 => (f_X2_forgets v5).bind fun v11 => (L_X2_lots_50 (nI N) j2 j3 K n' (j5_117 + ((v5 20 0) - v10)) (j6_117 + (1 : Int32)) v11) else (f_X2_allOf_10 (v5 21 0) v5).bind fun v7 => (f_X2_forgets v5).bind fun v8 => (L_X2_lots_50 (nI N) j2 j3 K n' (j5_117 + v7) (j6_117 + (1 : Int32)) v8)) fuel all (nI i) (by unfold fuel; omega)
          rw [nI0] at y1 y2
          rw [y1, y2, d1', Option.bind_some, if_neg q, r21, w3.b, allOf10_M w3.nb6, Option.bind_some, e1, Option.bind_some, r10, nI_1]
          exact M K n' (by omega)
theorem lots_XM {x n m k t : HS} (h : RR x n m k t) (v z f : Int32) : ∃ r x' m' t', f_X1_lots v z f x n m k = some (r, x', m') ∧ f_X2_lots v z f t = some (r, t') ∧ RR x' n m' k t' := by
  obtain ⟨nc, nb, w, rl, wm, wk, hx⟩ := id h
  unfold f_X1_lots f_X2_lots
  simp only [jnE]
  rw [beyond_eq]
  by_cases q : f_X2_bound v 1 20 = 0
  · rw [if_pos q, if_pos q]
    rcases what01 f with ⟨z1, z3⟩ | ⟨z1, z2, z3⟩ | ⟨z1, z2, z3⟩
    · rw [if_pos z1, z3, if_pos rfl, if_neg (by decide)]
      exact refM h (-2) 2 (by omega) (by decide)
    · rw [if_neg z1, if_neg z2, z3, if_pos rfl, if_neg (by decide)]
      exact refM h (-2) 2 (by omega) (by decide)
    · rw [if_neg z1, if_pos z2, z3, if_neg (by decide), if_pos q]
      obtain ⟨N, hN, rfl⟩ : ∃ N : Nat, N ≤ 20 ∧ v = nI N := by
        rcases bound_or v 1 20 with ⟨-, q1, q2⟩ | y | y
        · rw [Int32.le_iff_toInt_le] at q1 q2
          rw [show ((1 : Int32)).toInt = 1 from rfl] at q1
          rw [show ((20 : Int32)).toInt = 20 from rfl] at q2
          exact inR_nI (b := 20) ⟨by omega, by omega⟩ (by omega)
        · rw [y] at q; exact absurd q (by decide)
        · rw [y] at q; exact absurd q (by decide)
      have R1 : RR x n m k (st t 31 (fun _ => z)) := ⟨nc, nb, w, rl.same rfl, wm, wk, hx.g31 ⟨fun k _ _ _ _ _ h6 => st_ne h6, fun j _ => rfl⟩⟩
      obtain ⟨all', m', t', R', X, M⟩ := lots_loop z f hN w N 0 m _ z 0 (by omega) R1 (rl.same rfl) rfl
      have xx := X (fun (j5_124 : Int32) (xx_124 : HS) (xm_124 : HS) => some (j5_124, xx_124, xm_124)) fuel (by unfold fuel; omega)
      have mm := M (fun (j5_168 : Int32) (tt_168 : HS) => some (j5_168, tt_168)) fuel (by unfold fuel; omega)
      rw [nI0] at xx mm
      rw [xx, mm]
      exact ⟨_, _, _, _, rfl, rfl, R'⟩
  · obtain ⟨j', hj', er⟩ := bound_ne q
    rw [if_neg q, if_neg q, if_neg q]
    exact refM h _ j' hj' er
