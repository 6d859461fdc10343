/-! what a row tells -/
theorem nb_ok {β : Type} {y : Int32} {r : Option β} (h : y = 0 ∨ y = 1) : nb y r = r := by
  unfold nb
  rw [if_pos h]
def tel (h : HS) (f : Nat → Int32) : Nat → Nat → Int32
  | 0, _ => 1
  | z + 1, i => if h 4 i = -9 then (if f i = 9 then tel h f z (i + 1) else 0) else if f i = h 4 i then tel h f z (i + 1) else 0
theorem tel_01 (h : HS) (f : Nat → Int32) : ∀ z i, tel h f z i = 0 ∨ tel h f z i = 1
  | 0, _ => Or.inr rfl
  | z + 1, i => by
    rw [tel]
    have := tel_01 h f z (i + 1)
    repeat' split
    all_goals first | exact this | exact Or.inl rfl
theorem tel_X {x n m k : HS} {nc nb rc : Nat} (w : WF m nc nb) (hrc : x 5 0 = nI rc) (h16 : rc ≤ 16) (hle : rc ≤ nc) : ∀ z i n', i + z = rc → z < n' → L_X1_rowTellsHolders_2 x n m k (some 1) n' (nI i) = some (tel m (x 1) z i)
  | 0, i, n' + 1, hi, _ => by
    have : i = rc := by omega
    subst this
    rw [L_X1_rowTellsHolders_2, hrc, if_pos (nI_le (Nat.le_refl _) (by omega)), tel]
  | z + 1, i, n' + 1, hi, hn => by
    have h8 := w.nc8
    have ih := tel_X (n := n) (k := k) w hrc h16 hle z (i + 1) n' (by omega) (by omega)
    have hic : i < nc := by omega
    rw [L_X1_rowTellsHolders_2, hrc, if_neg (nI_ge (by omega) (by omega)), inPile_nI w hic, hasCard_nI w (by omega), if_pos hic, if_neg (show ¬ (1 : Int32) = 0 by decide), if_neg (show ¬ (1 : Int32) = 0 by decide), atv_nI _ (by omega) (by omega), atv_nI _ (by omega) (by omega), nI_1, ih, tel]
    by_cases q : m 4 i = -9
    · rw [if_pos q, if_pos q, if_neg (by decide)]
      by_cases y : x 1 i = 9
      · rw [if_pos y, if_pos y]
      · rw [if_neg y, if_neg y]
    · rw [if_neg q, if_neg q, if_pos rfl]
      by_cases y : x 1 i = m 4 i
      · rw [if_pos y, if_pos y]
      · rw [if_neg y, if_neg y]
theorem tel_0 {x n m k : HS} {nc nb rc : Nat} (w : WF m nc nb) (hrc : x 5 0 = nI rc) (h16 : rc ≤ 16) (hle : nc < rc) : ∀ z i n', i + z = nc → z < n' → L_X1_rowTellsHolders_2 x n m k (some 1) n' (nI i) = some 0
  | 0, i, n' + 1, hi, _ => by
    have : i = nc := by omega
    subst this
    have e : f_X0_hasCard (nI i) m = 0 := by rw [hasCard_nI w (by omega), if_neg (Nat.lt_irrefl _)]
    have e2 : f_X0_inPile (nI i) m = 0 := by unfold f_X0_inPile; rw [if_pos e]
    rw [L_X1_rowTellsHolders_2, hrc, if_neg (nI_ge (by omega) (by omega)), if_pos e2, if_pos e]
  | z + 1, i, n' + 1, hi, hn => by
    have h8 := w.nc8
    have ih := tel_0 (n := n) (k := k) w hrc h16 hle z (i + 1) n' (by omega) (by omega)
    rw [L_X1_rowTellsHolders_2, hrc, if_neg (nI_ge (by omega) (by omega)), nI_1, ih]
    repeat' split
    all_goals rfl
theorem so_end (K : Int32 → HS → Option (Int32 × HS)) (n' : Nat) (j : Int32) (t : HS) : L_X2_isSo_28 K (n' + 1) 0 j t = K 0 t := by
  rw [L_X2_isSo_28]
  split
  · rfl
  · rw [if_pos rfl]
theorem so_M {g t : HS} {nc nb rc : Nat} {f : Nat → Int32} (w : WF g nc nb) (r : rel g t) (hrc : t 30 0 = nI rc) (h16 : rc ≤ 16) (hle : rc ≤ nc) (hf : ∀ i, i < rc → f i = t 18 i) (K : Int32 → HS → Option (Int32 × HS)) : ∀ z i n', i + z = rc → z < n' → L_X2_isSo_28 K n' 1 (nI i) t = K (tel g f z i) t
  | 0, i, n' + 1, hi, _ => by
    have : i = rc := by omega
    subst this
    rw [L_X2_isSo_28, hrc, if_pos (nI_le (Nat.le_refl _) (by omega)), tel]
  | z + 1, i, n' + 2, hi, hn => by
    have h8 := w.nc8
    have h6 := w.nb6
    have ih := so_M w r hrc h16 hle hf K z (i + 1) (n' + 1) (by omega) (by omega)
    have hic : i < nc := by omega
    have r5 : t 5 = mh g := r 5 rfl
    rw [L_X2_isSo_28, hrc, if_neg (nI_ge (by omega) (by omega)), if_neg (show ¬ (1 : Int32) = 0 by decide), rd_nI _ (by omega) (by omega), Option.bind_some, rd_nI _ (by omega) (by omega), Option.bind_some, Option.bind_some, nI_1, ih, so_end, r5, w.mh_in hic, ← hf i (by omega), tel]
    rcases w.hol hic with e | ⟨b, hb, e⟩
    · rw [e, if_pos hm_pile, if_pos rfl]
      split <;> rfl
    · have ne : ¬ g 4 i = -9 := by rw [e]; exact nI_m9 (by omega)
      rw [if_neg ne, e, hm_held (by omega), if_neg (nI_ne0 (by omega) (by omega)), nI_pred]
      split <;> rfl
/-- is it so -/
theorem isSo_XM {x h m k t : HS} (R : RR x h m k t) {nc nb : Nat} (w : WF h nc nb) (rl : rel h t) : ∃ (d v : Int32) (g' t' : HS), WF g' nc nb ∧ f_X0_goOn 1 1 h = some (d, g') ∧ (∀ n, f_X1_rowTellsHolders x n g' k = some v) ∧ f_X2_isSo t = some (v, t') ∧ rel h t' ∧ ∀ m', (∃ a b, WF m' a b) → RR x h m' k t' := by
  have h8 := w.nc8
  obtain ⟨-, -, -, -, -, -, -, -, -, -, ⟨rc, r1, r2, r3, r4⟩, -, -⟩ := id R
  obtain ⟨t1, a1, a2, a3, aG, a4⟩ := ask R w rl
  obtain ⟨d, g', w1, -, g1, g2⟩ := goOn1_XM w
  obtain ⟨t2, b1, b2, b3, -, -⟩ := g2 t1 a2 a3
  obtain ⟨t3, c1, c2, c3, c4⟩ := a4 g' t2 nc nb w1 b2 b3
  have e30 : t2 30 0 = nI rc := by rw [b3 30 rfl (by decide), aG.1 30 rfl (by decide) (by decide) (by decide) (by decide)]; exact r3
  have e18 : ∀ i, i < rc → x 1 i = t2 18 i := fun i hi => by rw [b3 18 rfl (by decide), aG.1 18 rfl (by decide) (by decide) (by decide) (by decide)]; exact r4 i hi
  have e20 : t2 20 0 = nI nc := by rw [show t2 20 = g' 10 from b2 20 rfl, w1.c]
  by_cases q : rc ≤ nc
  · refine ⟨d, tel g' (x 1) rc 0, g', t3, w1, g1, fun n => tel_X w1 r2 r1 q rc 0 fuel (by omega) (by unfold fuel; omega), ?_, c2, c4⟩
    unfold f_X2_isSo
    rw [a1, Option.bind_some, b1, Option.bind_some, e20, e30, if_neg (nI_nlt (by omega) (by omega))]
    simp only [jnE]
    refine Eq.trans (so_M w1 b2 e30 r1 q e18 _ rc 0 fuel (by omega) (by unfold fuel; omega)) ?_
    rw [c1, Option.bind_some]
    exact nb_ok (tel_01 _ _ _ _)
  · refine ⟨d, 0, g', t3, w1, g1, fun n => tel_0 w1 r2 r1 (by omega) nc 0 fuel (by omega) (by unfold fuel; omega), ?_, c2, c4⟩
    unfold f_X2_isSo
    rw [a1, Option.bind_some, b1, Option.bind_some, e20, e30, if_pos (nI_lt (by omega) (by omega))]
    simp only [jnE]
    refine Eq.trans (so_end _ 999 0 t2) ?_
    rw [c1, Option.bind_some]
    exact nb_ok (Or.inl rfl)
theorem upd_upd (f : Nat → Int32) (k : Nat) (a b : Int32) : upd (upd f k a) k b = upd f k b := by
  funext j
  unfold upd
  by_cases e : j = k
  · rw [if_pos e, if_pos e]
  · rw [if_neg e, if_neg e, if_neg e]
theorem set_WF2 {n : HS} {nc nb c : Nat} (w : WF n nc nb) (hc : c < nc) {u : Int32} (hu : inR 0 5 u) : WF (st n 2 (upd (n 2) c u)) nc nb := w.set2 (upd_all (P := inR 0 5) (fun i hi => w.tel hi) hu) (upd_zero hc (w.z (k := 2) (by omega)))
theorem told_loop2 {x n k : HS} {nc nb c : Nat} (v0 : Int32) (hc : c < nc) (w : WF n nc nb) : ∀ (z i : Nat) (m t : HS) (u acc : Int32), RR x (st n 2 (upd (n 2) c u)) m k t → rel (st n 2 (upd (n 2) c u)) t → i + z = 6 → ∃ (u' r : Int32) (m' t' : HS), RR x (st n 2 (upd (n 2) c u')) m' k t' ∧ rel (st n 2 (upd (n 2) c u')) t' ∧ (∀ K n', z < n' → L_X1_whoTold_38 (nI c) 0 n k K n' acc (nI i) x m = K r x m') ∧ ∀ K n', z < n' → L_X2_bitsFor_3_10 (nI c) K n' v0 acc (nI i) t = K v0 r t'
  | 0, i, m, t, u, acc, R, rl, hi => by
    have : i = 6 := by omega
    subst this
    refine ⟨u, acc, m, t, R, rl, fun K n' hn => ?_, fun K n' hn => ?_⟩
    · cases n' with
      | zero => omega
      | succ n' => rw [L_X1_whoTold_38, if_pos (by decide)]
    · cases n' with
      | zero => omega
      | succ n' => rw [L_X2_bitsFor_3_10, if_pos (by decide)]
  | z + 1, i, m, t, u, acc, R, rl, hi => by
    have h8 := w.nc8
    obtain ⟨-, -, -, -, ⟨ma, mb, wm⟩, wk, hx⟩ := id R
    have w1 : WF (st n 2 (upd (n 2) c (nI i))) nc nb := set_WF2 w hc (nI_inR (b := 5) (by omega) (by omega))
    have rA : t 3 = upd (n 2) c u := rl 3 rfl
    have r1 := rl.w2 (upd (n 2) c (nI i))
    rw [st_st] at r1
    have R1 : RR x (st n 2 (upd (n 2) c (nI i))) m k (st t 3 (upd (n 2) c (nI i))) := ⟨nc, nb, w1, r1, ⟨ma, mb, wm⟩, wk, hx.g0 (G0.of_fr (fr.rf.put (k := 3) rfl))⟩
    obtain ⟨d, v, g', t', wg', g1, g2, g3, g4, g5⟩ := isSo_XM R1 w1 r1
    have R2 := g5 g' ⟨nc, nb, wg'⟩
    have e6 : ¬ (6 : Int32) ≤ nI i := nI_ge (b := 6) (by omega) (by omega)
    have xs : ∀ K n', L_X1_whoTold_38 (nI c) 0 n k K (n' + 1) acc (nI i) x m = if v = 0 then L_X1_whoTold_38 (nI c) 0 n k K n' acc (nI (i + 1)) x g' else L_X1_whoTold_38 (nI c) 0 n k K n' (acc ||| ((1 : Int32) <<< (nI i &&& 31))) (nI (i + 1)) x g' := by
      intro K n'
      rw [L_X1_whoTold_38, if_neg e6, become_X wm w, Option.bind_some, if_pos rfl]
      simp only [jnE]
      rw [ptv_nI _ _ (by omega) (by omega), g1, Option.bind_some, g2, Option.bind_some, nI_1]
    have ms : ∀ K n', L_X2_bitsFor_3_10 (nI c) K (n' + 1) v0 acc (nI i) t = if v = 0 then L_X2_bitsFor_3_10 (nI c) K n' v0 (acc ||| 0) (nI (i + 1)) t' else L_X2_bitsFor_3_10 (nI c) K n' v0 (acc ||| ((1 : Int32) <<< (nI i &&& 31))) (nI (i + 1)) t' := by
      intro K n'
      rw [L_X2_bitsFor_3_10, if_neg e6, wr_nI _ _ (by omega) (by omega), Option.bind_some, rA, upd_upd]
      simp only [jnE]
      rw [g3, Option.bind_some, nI_1]
    by_cases q : v = 0
    · obtain ⟨u', r, m', t'', e1, e0, e2, e3⟩ := told_loop2 v0 hc w z (i + 1) g' t' (nI i) acc R2 g4 (by omega)
      refine ⟨u', r, m', t'', e1, e0, fun K n' hn => ?_, fun K n' hn => ?_⟩
      · cases n' with
        | zero => omega
        | succ n' => rw [xs, if_pos q]; exact e2 K n' (by omega)
      · cases n' with
        | zero => omega
        | succ n' => rw [ms, if_pos q, Int32.or_zero]; exact e3 K n' (by omega)
    · obtain ⟨u', r, m', t'', e1, e0, e2, e3⟩ := told_loop2 v0 hc w z (i + 1) g' t' (nI i) (acc ||| ((1 : Int32) <<< (nI i &&& 31))) R2 g4 (by omega)
      refine ⟨u', r, m', t'', e1, e0, fun K n' hn => ?_, fun K n' hn => ?_⟩
      · cases n' with
        | zero => omega
        | succ n' => rw [xs, if_neg q]; exact e2 K n' (by omega)
      · cases n' with
        | zero => omega
        | succ n' => rw [ms, if_neg q]; exact e3 K n' (by omega)
theorem told2_XM {x n m k t : HS} {nc nb c : Nat} (R : RR x n m k t) (w : WF n nc nb) (rl : rel n t) (hc : c < nc) : ∃ r m' t', L_X1_whoTold_38 (nI c) 0 n k (fun (j3_113 : Int32) (xx_113 : HS) (xm_113 : HS) => some (j3_113, xx_113, xm_113)) fuel 0 0 x m = some (r, x, m') ∧ f_X2_bitsFor_3 (nI c) t = some (r, t') ∧ RR x n m' k t' := by
  have h8 := w.nc8
  have rA : t 3 = n 2 := rl 3 rfl
  have e0 : st n 2 (upd (n 2) c (n 2 c)) = n := st_same (upd_same rfl).symm
  obtain ⟨u', r, m', t', e1, e2, e3, e4⟩ := told_loop2 (x := x) (k := k) (n 2 c) hc w 6 0 m t (n 2 c) 0 (by rw [e0]; exact R) (by rw [e0]; exact rl) (by omega)
  obtain ⟨-, -, -, -, wm, wk, hx⟩ := id e1
  have r1 := e2.w2 (upd (n 2) c (n 2 c))
  rw [st_st, e0] at r1
  have rB : t' 3 = upd (n 2) c u' := e2 3 rfl
  refine ⟨r, m', st t' 3 (upd (n 2) c (n 2 c)), e3 _ fuel (by unfold fuel; omega), ?_, nc, nb, w, r1, wm, wk, hx.g0 (G0.of_fr (fr.rf.put (k := 3) rfl))⟩
  unfold f_X2_bitsFor_3
  rw [rA, rd_nI _ (by omega) (by omega), Option.bind_some]
  simp only [jnE]
  refine Eq.trans (e4 _ fuel (by unfold fuel; omega)) ?_
  rw [wr_nI _ _ (by omega) (by omega), Option.bind_some, rB, upd_upd]
theorem set_WF0 {n : HS} {nc nb c : Nat} (w : WF n nc nb) (hc : c < nc) {u : Int32} (hu : inR 0 5 u) : WF (st n 0 (upd (n 0) c u)) nc nb := w.set0 (upd_zero hc (w.z (k := 0) (by omega)))
theorem told_loop0 {x n k : HS} {nc nb c : Nat} (v0 : Int32) (hc : c < nc) (w : WF n nc nb) : ∀ (z i : Nat) (m t : HS) (u acc : Int32), RR x (st n 0 (upd (n 0) c u)) m k t → rel (st n 0 (upd (n 0) c u)) t → i + z = 6 → ∃ (u' r : Int32) (m' t' : HS), RR x (st n 0 (upd (n 0) c u')) m' k t' ∧ rel (st n 0 (upd (n 0) c u')) t' ∧ (∀ K n', z < n' → L_X1_whoTold_38 (nI c) 1 n k K n' acc (nI i) x m = K r x m') ∧ ∀ K n', z < n' → L_X2_bitsFor_1_10 (nI c) K n' v0 acc (nI i) t = K v0 r t'
  | 0, i, m, t, u, acc, R, rl, hi => by
    have : i = 6 := by omega
    subst this
    refine ⟨u, acc, m, t, R, rl, fun K n' hn => ?_, fun K n' hn => ?_⟩
    · cases n' with
      | zero => omega
      | succ n' => rw [L_X1_whoTold_38, if_pos (by decide)]
    · cases n' with
      | zero => omega
      | succ n' => rw [L_X2_bitsFor_1_10, if_pos (by decide)]
  | z + 1, i, m, t, u, acc, R, rl, hi => by
    have h8 := w.nc8
    obtain ⟨-, -, -, -, ⟨ma, mb, wm⟩, wk, hx⟩ := id R
    have w1 : WF (st n 0 (upd (n 0) c (nI i))) nc nb := set_WF0 w hc (nI_inR (b := 5) (by omega) (by omega))
    have rA : t 1 = upd (n 0) c u := rl 1 rfl
    have r1 := rl.w0 (upd (n 0) c (nI i))
    rw [st_st] at r1
    have R1 : RR x (st n 0 (upd (n 0) c (nI i))) m k (st t 1 (upd (n 0) c (nI i))) := ⟨nc, nb, w1, r1, ⟨ma, mb, wm⟩, wk, hx.g0 (G0.of_fr (fr.rf.put (k := 1) rfl))⟩
    obtain ⟨d, v, g', t', wg', g1, g2, g3, g4, g5⟩ := isSo_XM R1 w1 r1
    have R2 := g5 g' ⟨nc, nb, wg'⟩
    have e6 : ¬ (6 : Int32) ≤ nI i := nI_ge (b := 6) (by omega) (by omega)
    have xs : ∀ K n', L_X1_whoTold_38 (nI c) 1 n k K (n' + 1) acc (nI i) x m = if v = 0 then L_X1_whoTold_38 (nI c) 1 n k K n' acc (nI (i + 1)) x g' else L_X1_whoTold_38 (nI c) 1 n k K n' (acc ||| ((1 : Int32) <<< (nI i &&& 31))) (nI (i + 1)) x g' := by
      intro K n'
      rw [L_X1_whoTold_38, if_neg e6, become_X wm w, Option.bind_some, if_neg (by decide)]
      simp only [jnE]
      rw [ptv_nI _ _ (by omega) (by omega), g1, Option.bind_some, g2, Option.bind_some, nI_1]
    have ms : ∀ K n', L_X2_bitsFor_1_10 (nI c) K (n' + 1) v0 acc (nI i) t = if v = 0 then L_X2_bitsFor_1_10 (nI c) K n' v0 (acc ||| 0) (nI (i + 1)) t' else L_X2_bitsFor_1_10 (nI c) K n' v0 (acc ||| ((1 : Int32) <<< (nI i &&& 31))) (nI (i + 1)) t' := by
      intro K n'
      rw [L_X2_bitsFor_1_10, if_neg e6, wr_nI _ _ (by omega) (by omega), Option.bind_some, rA, upd_upd]
      simp only [jnE]
      rw [g3, Option.bind_some, nI_1]
    by_cases q : v = 0
    · obtain ⟨u', r, m', t'', e1, e0, e2, e3⟩ := told_loop0 v0 hc w z (i + 1) g' t' (nI i) acc R2 g4 (by omega)
      refine ⟨u', r, m', t'', e1, e0, fun K n' hn => ?_, fun K n' hn => ?_⟩
      · cases n' with
        | zero => omega
        | succ n' => rw [xs, if_pos q]; exact e2 K n' (by omega)
      · cases n' with
        | zero => omega
        | succ n' => rw [ms, if_pos q, Int32.or_zero]; exact e3 K n' (by omega)
    · obtain ⟨u', r, m', t'', e1, e0, e2, e3⟩ := told_loop0 v0 hc w z (i + 1) g' t' (nI i) (acc ||| ((1 : Int32) <<< (nI i &&& 31))) R2 g4 (by omega)
      refine ⟨u', r, m', t'', e1, e0, fun K n' hn => ?_, fun K n' hn => ?_⟩
      · cases n' with
        | zero => omega
        | succ n' => rw [xs, if_neg q]; exact e2 K n' (by omega)
      · cases n' with
        | zero => omega
        | succ n' => rw [ms, if_neg q]; exact e3 K n' (by omega)
theorem told0_XM {x n m k t : HS} {nc nb c : Nat} (R : RR x n m k t) (w : WF n nc nb) (rl : rel n t) (hc : c < nc) : ∃ r m' t', L_X1_whoTold_38 (nI c) 1 n k (fun (j3_113 : Int32) (xx_113 : HS) (xm_113 : HS) => some (j3_113, xx_113, xm_113)) fuel 0 0 x m = some (r, x, m') ∧ f_X2_bitsFor_1 (nI c) t = some (r, t') ∧ RR x n m' k t' := by
  have h8 := w.nc8
  have rA : t 1 = n 0 := rl 1 rfl
  have e0 : st n 0 (upd (n 0) c (n 0 c)) = n := st_same (upd_same rfl).symm
  obtain ⟨u', r, m', t', e1, e2, e3, e4⟩ := told_loop0 (x := x) (k := k) (n 0 c) hc w 6 0 m t (n 0 c) 0 (by rw [e0]; exact R) (by rw [e0]; exact rl) (by omega)
  obtain ⟨-, -, -, -, wm, wk, hx⟩ := id e1
  have r1 := e2.w0 (upd (n 0) c (n 0 c))
  rw [st_st, e0] at r1
  have rB : t' 1 = upd (n 0) c u' := e2 1 rfl
  refine ⟨r, m', st t' 1 (upd (n 0) c (n 0 c)), e3 _ fuel (by unfold fuel; omega), ?_, nc, nb, w, r1, wm, wk, hx.g0 (G0.of_fr (fr.rf.put (k := 1) rfl))⟩
  unfold f_X2_bitsFor_1
  rw [rA, rd_nI _ (by omega) (by omega), Option.bind_some]
  simp only [jnE]
  refine Eq.trans (e4 _ fuel (by unfold fuel; omega)) ?_
  rw [wr_nI _ _ (by omega) (by omega), Option.bind_some, rB, upd_upd]
theorem whoTold_XM {x n m k t : HS} (h : RR x n m k t) (c v : Int32) : ∃ r x' m' t', f_X1_whoTold c v x n m k = some (r, x', m') ∧ f_X2_whoTold c v t = some (r, t') ∧ RR x' n m' k t' := by
  obtain ⟨nc, nb, w, rl, wm, wk, hx⟩ := id h
  unfold f_X1_whoTold f_X2_whoTold
  simp only [jnE]
  rw [isCard_eq rl]
  rcases hasCard_or w c with ⟨j, hj, rfl, e⟩ | e
  · rw [e, if_neg N10, if_neg N10]
    rcases what01 v with ⟨q1, q2⟩ | ⟨q1, q2, q3⟩ | ⟨q1, q2, q3⟩
    · rw [if_pos q1, q2, if_pos rfl]
      exact refM h (-2) 2 (by omega) (by decide)
    · rw [if_neg q1, if_neg q2, q3, if_pos rfl]
      exact refM h (-2) 2 (by omega) (by decide)
    · rw [if_neg q1, if_pos q2, q3, if_neg (by decide)]
      by_cases z : v = 0
      · subst z
        obtain ⟨r, m', t', e1, e2, e3⟩ := told2_XM h w rl hj
        rw [if_pos rfl, e2, Option.bind_some]
        exact ⟨r, x, m', t', e1, rfl, e3⟩
      · have z1 : v = 1 := by
          apply Int32.toInt_inj.mp
          rw [Int32.lt_iff_toInt_lt] at q1
          rw [Int32.le_iff_toInt_le] at q2
          have z2 : ¬ v.toInt = 0 := fun u => z (Int32.toInt_inj.mp u)
          rw [show ((0 : Int32)).toInt = 0 from rfl] at q1
          rw [show ((1 : Int32)).toInt = 1 from rfl] at q2 ⊢
          omega
        subst z1
        obtain ⟨r, m', t', e1, e2, e3⟩ := told0_XM h w rl hj
        rw [if_neg (by decide), e2, Option.bind_some]
        exact ⟨r, x, m', t', e1, rfl, e3⟩
  · rw [if_pos e, if_pos e]
    exact refM h (-1) 1 (by omega) (by decide)
