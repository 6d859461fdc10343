/-! stuttering -/
theorem bit_one (i : Nat) : ((1 : Int32)).toBitVec.getLsbD i = decide (i = 0) := by
  rw [show ((1 : Int32)).toBitVec = 1#32 by decide, BitVec.getLsbD_one]
  simp
theorem and1 (y : Int32) : y &&& 1 = 0 ∨ y &&& 1 = 1 := by
  cases e : y.toBitVec.getLsbD 0
  · left
    apply bit_ext
    intro i hi
    rw [bit_and, bit_one, bit_0]
    by_cases q : i = 0
    · rw [q, e]; rfl
    · rw [decide_eq_false q, Bool.and_false]
  · right
    apply bit_ext
    intro i hi
    rw [bit_and, bit_one]
    by_cases q : i = 0
    · rw [q, e]; rfl
    · rw [decide_eq_false q, Bool.and_false]
theorem goStut_s {x n k : HS} {nc nb c N T : Nat} {wy : Int32} (K : Int64 → HS → Option (Int64 × HS)) {hX : HS} (wX : WF hX nc nb) (hc : c < nc) {wt i n' : Nat} (hi : i < N) (hN : N ≤ 7) {s : Int32} (hs : (((wy >>> (nI i &&& 31)) &&& (1 : Int32)) = 0 ∧ s = 1) ∨ (((wy >>> (nI i &&& 31)) &&& (1 : Int32)) = 1 ∧ s = 0)) {d : Int32} {h1 : HS} (g : hX 4 c = -9 → f_X0_goOn 1 s hX = some (d, h1)) : L_X1_goStuttering_17 (nI c) (nI N) (nI (T + 1)) wy x n k K (n' + 1) (eL wt) (nI i) hX = L_X1_goStuttering_17 (nI c) (nI N) (nI (T + 1)) wy x n k K n' (if s = 1 then eL wt * (nI T).toInt64 else eL wt) (nI (i + 1)) (if hX 4 c = -9 then h1 else hX) := by
  rw [L_X1_goStuttering_17, if_neg (nI_ge hi (by omega))]
  simp only [jnE]
  rw [nI_1]
  have ep : nI (T + 1) - 1 = nI T := nI_pred T
  rcases hs with ⟨q, rfl⟩ | ⟨q, rfl⟩
  · rw [if_pos q, if_pos rfl, ep]
    by_cases p : hX 4 c = -9
    · rw [if_neg (fun z => (m9_pile wX hc).mp z p), g p, Option.bind_some, if_pos p]
    · rw [if_pos ((m9_pile wX hc).mpr p), if_neg p]
  · rw [if_neg (by rw [q]; decide), if_neg (show ¬ (0 : Int32) = 1 by decide)]
    by_cases p : hX 4 c = -9
    · rw [if_neg (fun z => (m9_pile wX hc).mp z p), g p, Option.bind_some, if_pos p]
    · rw [if_pos ((m9_pile wX hc).mpr p), if_neg p]
theorem anyMonth {h : HS} {nc nb : Nat} (w : WF h nc nb) (sb : Bool) : ∃ (d : Int32) (h' : HS), WF h' nc nb ∧ mst h h' nc ∧ f_X0_goOn 1 (if sb = true then 1 else 0) h = some (d, h') ∧ ∀ t, rel h t → t 29 0 = 0 → ∃ t', f_X2_goesMonth (if sb = true then 0 else 1) t = some t' ∧ rel h' t' ∧ fr t t' := by
  cases sb with
  | true =>
    obtain ⟨d, h', w', m, g, M⟩ := goOn1_XM w
    refine ⟨d, h', w', m, g, fun t r ha => ?_⟩
    obtain ⟨t', a, b, c, -⟩ := M t r ha
    exact ⟨t', a, b, c⟩
  | false =>
    obtain ⟨h', w', m, -, g, M⟩ := still1_XM w
    exact ⟨0, h', w', m, g, M⟩
theorem stut_loop {x n k : HS} {nc nb c N T : Nat} (j1 j2 j5 wy : Int32) (hc : c < nc) (hN : N ≤ 7) (hT : T ≤ 19) : ∀ (z i wt : Nat) (hX hM t : HS), i + z = N → WF hX nc nb → WF hM nc nb → (hX 4 c = -9 → hX = hM) → (hX 4 c ≠ -9 → hM 4 c = hX 4 c) → rel hM t → t 29 0 = 0 → ∃ (hX' hM' t' : HS) (w' : Nat), WF hX' nc nb ∧ WF hM' nc nb ∧ hM' 4 c = hX' 4 c ∧ w' ≤ wt * 20 ^ z ∧ rel hM' t' ∧ fr t t' ∧
    (∀ K n', z < n' → L_X1_goStuttering_17 (nI c) (nI N) (nI (T + 1)) wy x n k K n' (eL wt) (nI i) hX = K (eL w') hX') ∧
    ∀ K n' up dn, z < n' → L_X2_stutter_126 j1 j2 (nI N) (nI (T + 1)) j5 K n' up dn wy (eL wt) (nI i) t = K up dn wy (eL w') t'
  | 0, i, wt, hX, hM, t, hi, wX, wM, e1, e2, r, ha => by
    have : i = N := by omega
    subst this
    have c0 : nI i ≤ nI i := nI_le (Nat.le_refl _) (by omega)
    refine ⟨hX, hM, t, wt, wX, wM, ?_, by omega, r, fr.rf, fun K n' hn => ?_, fun K n' up dn hn => ?_⟩
    · by_cases p : hX 4 c = -9
      · rw [e1 p]
      · exact e2 p
    · cases n' with
      | zero => omega
      | succ n' => rw [L_X1_goStuttering_17, if_pos c0]
    · cases n' with
      | zero => omega
      | succ n' => rw [L_X2_stutter_126, if_pos c0]
  | z + 1, i, wt, hX, hM, t, hi, wX, wM, e1, e2, r, ha => by
    have c0 : ¬ nI N ≤ nI i := nI_ge (by omega) (by omega)
    have hT1 : (nI T).toInt64 = eL T := eL_w (by omega)
    have ep : nI (T + 1) - 1 = nI T := nI_pred T
    have pw : 20 ^ (z + 1) = 20 ^ z * 20 := Nat.pow_succ 20 z
    obtain ⟨s, sb, hs, hh, hp⟩ : ∃ (s : Int32) (sb : Bool), ((((wy >>> (nI i &&& 31)) &&& (1 : Int32)) = 0 ∧ s = 1) ∨ (((wy >>> (nI i &&& 31)) &&& (1 : Int32)) = 1 ∧ s = 0)) ∧ f_X2_has wy (nI i) = (if sb = true then 0 else 1) ∧ s = (if sb = true then 1 else 0) := by
      unfold f_X2_has
      rcases and1 (wy >>> (nI i &&& 31)) with q | q
      · exact ⟨1, true, Or.inl ⟨q, rfl⟩, by rw [q, if_neg (by decide)]; rfl, rfl⟩
      · exact ⟨0, false, Or.inr ⟨q, rfl⟩, by rw [q, if_pos rfl]; rfl, rfl⟩
    obtain ⟨d, hM1, w1, m1, gM, M1⟩ := anyMonth wM sb
    obtain ⟨t1, b1, b2, b3⟩ := M1 t r ha
    rw [← hp] at gM
    have w2 : WF (if hX 4 c = -9 then hM1 else hX) nc nb := by
      by_cases p : hX 4 c = -9
      · rw [if_pos p]; exact w1
      · rw [if_neg p]; exact wX
    have E1 : (if hX 4 c = -9 then hM1 else hX) 4 c = -9 → (if hX 4 c = -9 then hM1 else hX) = hM1 := fun y => by
      by_cases p : hX 4 c = -9
      · rw [if_pos p]
      · rw [if_neg p] at y; exact absurd y p
    have E2 : (if hX 4 c = -9 then hM1 else hX) 4 c ≠ -9 → hM1 4 c = (if hX 4 c = -9 then hM1 else hX) 4 c := fun y => by
      by_cases p : hX 4 c = -9
      · rw [if_pos p]
      · rw [if_neg p, ← e2 p]
        exact m1.2 c hc (by rw [e2 p]; exact p)
    have sx := fun (K : Int64 → HS → Option (Int64 × HS)) (n' : Nat) => goStut_s (x := x) (n := n) (k := k) (T := T) (wt := wt) (n' := n') K wX hc (i := i) (by omega) hN hs (d := d) (h1 := hM1) (fun p => by rw [e1 p]; exact gM)
    cases sb with
    | true =>
      rw [if_pos rfl] at hp hh
      subst hp
      obtain ⟨hX', hM', t', w', x1, x2, x3, x4, x5, x6, X, M⟩ := stut_loop (x := x) (n := n) (k := k) j1 j2 j5 wy hc hN hT z (i + 1) (wt * T) _ hM1 t1 (by omega) w2 w1 E1 E2 b2 (by rw [b3 29 rfl (by decide)]; exact ha)
      refine ⟨hX', hM', t', w', x1, x2, x3, ?_, x5, b3.tr x6, fun K n' hn => ?_, fun K n' up dn hn => ?_⟩
      · refine Nat.le_trans x4 ?_
        rw [pw, Nat.mul_assoc wt T, Nat.mul_comm T]
        exact Nat.mul_le_mul_left _ (Nat.mul_le_mul_left _ (by omega))
      · cases n' with
        | zero => omega
        | succ n' =>
          rw [sx K n', if_pos rfl, hT1, eL_mul]
          exact X K n' (by omega)
      · cases n' with
        | zero => omega
        | succ n' =>
          rw [if_pos rfl] at b1
          rw [L_X2_stutter_126, if_neg c0, hh, if_pos rfl, b1, Option.bind_some, ep, hT1, eL_mul, nI_1]
          exact M K n' up dn (by omega)
    | false =>
      rw [if_neg (by decide)] at hp hh
      subst hp
      obtain ⟨hX', hM', t', w', x1, x2, x3, x4, x5, x6, X, M⟩ := stut_loop (x := x) (n := n) (k := k) j1 j2 j5 wy hc hN hT z (i + 1) wt _ hM1 t1 (by omega) w2 w1 E1 E2 b2 (by rw [b3 29 rfl (by decide)]; exact ha)
      refine ⟨hX', hM', t', w', x1, x2, x3, ?_, x5, b3.tr x6, fun K n' hn => ?_, fun K n' up dn hn => ?_⟩
      · refine Nat.le_trans x4 (Nat.mul_le_mul_left _ ?_)
        rw [pw]
        omega
      · cases n' with
        | zero => omega
        | succ n' =>
          rw [sx K n', if_neg (by decide)]
          exact X K n' (by omega)
      · cases n' with
        | zero => omega
        | succ n' =>
          rw [if_neg (by decide)] at b1
          rw [L_X2_stutter_126, if_neg c0, hh, if_neg (by decide), b1, Option.bind_some, Int64.mul_one, nI_1]
          exact M K n' up dn (by omega)
theorem pow_X {n k : HS} {N tn : Nat} (j1 j2 j5 : Int32) (x m : HS) (ht : tn < 2 ^ 31) (hN : N ≤ 7) (K : Int64 → HS → HS → Option (Int64 × HS × HS)) : ∀ z i n', i + z = N → z < n' → L_X1_stutter_89 j1 j2 (nI N) (nI tn) j5 n k K n' (eL (tn ^ i)) (nI i) x m = K (eL (tn ^ N)) x m
  | 0, i, n' + 1, hi, _ => by
    have : i = N := by omega
    subst this
    rw [L_X1_stutter_89, if_pos (nI_le (Nat.le_refl _) (by omega))]
  | z + 1, i, n' + 1, hi, hn => by
    rw [L_X1_stutter_89, if_neg (nI_ge (by omega) (by omega)), eL_w ht, eL_mul, ← Nat.pow_succ, nI_1]
    exact pow_X j1 j2 j5 x m ht hN K z (i + 1) n' (by omega) (by omega)
theorem pow_M {N tn : Nat} (j1 j2 j5 : Int32) (t : HS) (up : Int64) (ht : tn < 2 ^ 31) (hN : N ≤ 7) (K : Int64 → Int64 → HS → Option (Int64 × HS)) : ∀ z i n', i + z = N → z < n' → L_X2_stutter_85 j1 j2 (nI N) (nI tn) j5 K n' up (eL (tn ^ i)) (nI i) t = K up (eL (tn ^ N)) t
  | 0, i, n' + 1, hi, _ => by
    have : i = N := by omega
    subst this
    rw [L_X2_stutter_85, if_pos (nI_le (Nat.le_refl _) (by omega))]
  | z + 1, i, n' + 1, hi, hn => by
    rw [L_X2_stutter_85, if_neg (nI_ge (by omega) (by omega)), eL_w ht, eL_mul, ← Nat.pow_succ, nI_1]
    exact pow_M j1 j2 j5 t up ht hN K z (i + 1) n' (by omega) (by omega)
theorem shl_pow : ∀ N, N < 8 → (1 : Int32) <<< (nI N &&& 31) = nI (2 ^ N) := by decide +kernel
theorem pow20 : (20 : Nat) ^ 7 = 1280000000 := rfl
theorem ways_loop {x n k : HS} {nc nb c b N T : Nat} (j5 : Int32) (hc : c < nc) (hb : b < nb) (hN : N ≤ 7) (hT : T ≤ 19) (w : WF n nc nb) : ∀ (z i ln : Nat) (m t : HS), i + z = 2 ^ N → RR x n m k t → rel n t → ln ≤ i * 1280000000 → ∃ (ln' : Nat) (m' t' : HS), ln' ≤ 2 ^ N * 1280000000 ∧ RR x n m' k t' ∧
    (∀ K n' al, z < n' → L_X1_stutter_115 (nI b) (nI c) (nI N) (nI (T + 1)) j5 n k K n' al (eL ln) (nI i) x m = K al (eL ln') x m') ∧
    ∀ K n' dn, z < n' → L_X2_stutter_108 (nI b) (nI c) (nI N) (nI (T + 1)) j5 K n' (eL ln) dn (nI i) t = K (eL ln') dn t'
  | 0, i, ln, m, t, hi, R, rl, hl => by
    have e2 : 2 ^ N ≤ 2 ^ 7 := Nat.pow_le_pow_right (by omega) hN
    have : i = 2 ^ N := by omega
    subst this
    refine ⟨ln, m, t, hl, R, fun K n' al hn => ?_, fun K n' dn hn => ?_⟩
    · cases n' with
      | zero => omega
      | succ n' => rw [L_X1_stutter_115, shl_pow N (by omega), if_pos (nI_le (Nat.le_refl _) (by omega))]
    · cases n' with
      | zero => omega
      | succ n' => rw [L_X2_stutter_108, shl_pow N (by omega), if_pos (nI_le (Nat.le_refl _) (by omega))]
  | z + 1, i, ln, m, t, hi, R, rl, hl => by
    have e2 : 2 ^ N ≤ 2 ^ 7 := Nat.pow_le_pow_right (by omega) hN
    have h8 := w.nc8
    have h6 := w.nb6
    have c0 : ¬ nI (2 ^ N) ≤ nI i := nI_ge (by omega) (by omega)
    obtain ⟨-, -, -, -, ⟨ma, mb, wm⟩, -⟩ := id R
    obtain ⟨t1, a1, a2, a3, a4, a5⟩ := ask R w rl
    obtain ⟨hX', hM', t2, w', x1, x2, x3, x4, x5, x6, X, M⟩ := stut_loop (x := x) (n := n) (k := k) (nI b) (nI c) j5 (nI i) hc hN hT N 0 1 n n t1 (by omega) w w (fun _ => rfl) (fun _ => rfl) a2 a3
    obtain ⟨t3, d1, d2, d3, d4⟩ := a5 hM' t2 nc nb x2 x5 x6
    have hw' : w' ≤ 1280000000 := by
      have : 20 ^ N ≤ 20 ^ 7 := Nat.pow_le_pow_right (by omega) hN
      rw [pow20] at this
      omega
    have gs : f_X1_goStuttering (nI c) (nI N) (nI (T + 1)) (nI i) x n m k = some (eL w', hX') := by
      unfold f_X1_goStuttering
      rw [become_X wm w, Option.bind_some]
      simp only [jnE]
      exact X (fun (j5_82 : Int64) (xm_82 : HS) => some (j5_82, xm_82)) fuel (by unfold fuel; omega)
    have x5' : t2 5 = mh hM' := x5 5 rfl
    have ih := mh_is x2 hc (b := b) (by omega)
    by_cases q : hX' 4 c = nI b
    · obtain ⟨ln', m', t', y1, y2, Y, Z⟩ := ways_loop (k := k) j5 hc hb hN hT w z (i + 1) (ln + w') hX' t3 (by omega) (d4 hX' ⟨nc, nb, x1⟩) d2 (by omega)
      refine ⟨ln', m', t', y1, y2, fun K n' al hn => ?_, fun K n' dn hn => ?_⟩
      · cases n' with
        | zero => omega
        | succ n' =>
          rw [L_X1_stutter_115, shl_pow N (by omega), if_neg c0, gs, Option.bind_some, atv_nI _ (by omega) (by omega), if_pos q, eL_add, nI_1]
          exact Y K n' al (by omega)
      · cases n' with
        | zero => omega
        | succ n' =>
          have mm := M (fun (j7_173 : Int64) (j9_173 : Int64) (j11_173 : Int32) (j12_173 : Int64) (tt_173 : HS) => (rd 8 (tt_173 5) (nI c)).bind fun v15 => if v15 = (nI b + (1 : Int32)) then (f_X2_forgets tt_173).bind fun v18 => (L_X2_stutter_108 (nI b) (nI c) (nI N) (nI (T + 1)) j5 K n' (j7_173 + j12_173) j9_173 (j11_173 + (1 : Int32)) v18) else (f_X2_forgets tt_173).bind fun v17 => (L_X2_stutter_108 (nI b) (nI c) (nI N) (nI (T + 1)) j5 K n' (j7_173 + (0 : Int64)) j9_173 (j11_173 + (1 : Int32)) v17)) fuel (eL ln) dn (by unfold fuel; omega)
          rw [eL_1, nI0] at mm
          rw [L_X2_stutter_108, shl_pow N (by omega), if_neg c0, a1, Option.bind_some]
          simp only [jnE]
          rw [mm, rd_nI _ (by omega) (by omega), Option.bind_some, x5', if_pos (ih.mpr (by rw [x3]; exact q)), d1, Option.bind_some, eL_add, nI_1]
          exact Z K n' dn (by omega)
    · obtain ⟨ln', m', t', y1, y2, Y, Z⟩ := ways_loop (k := k) j5 hc hb hN hT w z (i + 1) ln hX' t3 (by omega) (d4 hX' ⟨nc, nb, x1⟩) d2 (Nat.le_trans hl (Nat.mul_le_mul_right _ (Nat.le_succ i)))
      refine ⟨ln', m', t', y1, y2, fun K n' al hn => ?_, fun K n' dn hn => ?_⟩
      · cases n' with
        | zero => omega
        | succ n' =>
          rw [L_X1_stutter_115, shl_pow N (by omega), if_neg c0, gs, Option.bind_some, atv_nI _ (by omega) (by omega), if_neg q, nI_1]
          exact Y K n' al (by omega)
      · cases n' with
        | zero => omega
        | succ n' =>
          have mm := M (fun (j7_173 : Int64) (j9_173 : Int64) (j11_173 : Int32) (j12_173 : Int64) (tt_173 : HS) => (rd 8 (tt_173 5) (nI c)).bind fun v15 => if v15 = (nI b + (1 : Int32)) then (f_X2_forgets tt_173).bind fun v18 => (L_X2_stutter_108 (nI b) (nI c) (nI N) (nI (T + 1)) j5 K n' (j7_173 + j12_173) j9_173 (j11_173 + (1 : Int32)) v18) else (f_X2_forgets tt_173).bind fun v17 => (L_X2_stutter_108 (nI b) (nI c) (nI N) (nI (T + 1)) j5 K n' (j7_173 + (0 : Int64)) j9_173 (j11_173 + (1 : Int32)) v17)) fuel (eL ln) dn (by unfold fuel; omega)
          rw [eL_1, nI0] at mm
          rw [L_X2_stutter_108, shl_pow N (by omega), if_neg c0, a1, Option.bind_some]
          simp only [jnE]
          rw [mm, rd_nI _ (by omega) (by omega), Option.bind_some, x5', if_neg (fun y => q (by rw [← x3]; exact ih.mp y)), d1, Option.bind_some, Int64.add_zero, nI_1]
          exact Z K n' dn (by omega)
theorem stutter_XM {x n m k t : HS} (h : RR x n m k t) (b c v f p : Int32) : ∃ r x' m' t', f_X1_stutter b c v f p x n m k = some (r, x', m') ∧ f_X2_stutter b c v f p t = some (r, t') ∧ RR x' n m' k t' := by
  obtain ⟨nc, nb, w, rl, wm, wk, hx⟩ := id h
  have h8 := w.nc8
  have h6 := w.nb6
  have far : ∀ r j, j < 7 → -r = nI j → ∃ (r' : Int64) (x' m' t' : HS), ((f_X1_refuseFar r x n m k).bind fun v => some (v.1, v.2, m)) = some (r', x', m') ∧ ((f_X2_lowestOf r t).bind fun v => some (v.1, v.2)) = some (r', t') ∧ RR x' n m' k t' := fun r j hj hr => by
    obtain ⟨r', x', t', a, b', c⟩ := farX h r j hj hr
    exact ⟨r', x', m, t', by rw [a]; rfl, b', c⟩
  unfold f_X1_stutter f_X2_stutter
  rw [areTold_M w rl]
  rcases hasBidder_or w b with ⟨bn, hb, rfl, e⟩ | e
  · rcases hasCard_or w c with ⟨cn, hc, rfl, e'⟩ | e'
    · rw [e, e']
      simp only [iteN, jnE]
      by_cases q1 : v < 0
      · rw [if_pos q1, if_pos q1]
        exact far (-4) 4 (by omega) (by decide)
      rw [if_neg q1, if_neg q1]
      by_cases q2 : 2 ≤ f
      · rw [if_pos q2, if_pos q2]
        by_cases q3 : 7 < v
        · rw [if_pos q3, if_pos q3]
          exact far (-6) 6 (by omega) (by decide)
        rw [if_neg q3, if_neg q3]
        by_cases q4 : f ≤ 20
        · rw [if_pos q4, if_pos q4]
          rcases what01 p with ⟨z1, z3⟩ | ⟨z1, z2, z3⟩ | ⟨z1, z2, z3⟩
          · rw [if_pos z1, z3, if_pos rfl]
            exact far (-2) 2 (by omega) (by decide)
          · rw [if_neg z1, if_neg z2, z3, if_pos rfl]
            exact far (-2) 2 (by omega) (by decide)
          · rw [if_neg z1, if_pos z2, z3, iteN]
            have hp := part01 z1 z2
            obtain ⟨N, hN, rfl⟩ : ∃ N : Nat, N ≤ 7 ∧ v = nI N := by
              rw [Int32.lt_iff_toInt_lt] at q1 q3
              rw [Int32.toInt_zero] at q1
              rw [show ((7 : Int32)).toInt = 7 from rfl] at q3
              exact inR_nI (b := 7) ⟨by omega, by omega⟩ (by omega)
            obtain ⟨T, hT1, hT, rfl⟩ : ∃ T : Nat, 1 ≤ T ∧ T ≤ 19 ∧ f = nI (T + 1) := by
              rw [Int32.le_iff_toInt_le] at q2 q4
              rw [show ((2 : Int32)).toInt = 2 from rfl] at q2
              rw [show ((20 : Int32)).toInt = 20 from rfl] at q4
              obtain ⟨a, ha, e⟩ := inR_nI (x := f) (b := 20) ⟨by omega, by omega⟩ (by omega)
              rw [e, nI_toInt (by omega)] at q2
              exact ⟨a - 1, by omega, by omega, by rw [e]; congr 1; omega⟩
            have e2 : 2 ^ N ≤ 2 ^ 7 := Nat.pow_le_pow_right (by omega) hN
            obtain ⟨ln, m', t', y1, y2, Y, Z⟩ := ways_loop (k := k) p hc hb hN hT w (2 ^ N) 0 0 m t (by omega) h rl (by omega)
            have hd : (T + 1) ^ N ≤ 20 ^ 7 := Nat.le_trans (Nat.pow_le_pow_left (by omega) N) (Nat.pow_le_pow_right (by omega) hN)
            rw [pow20] at hd
            obtain ⟨u, l1, l2⟩ := least_XM (a := ln) (b := (T + 1) ^ N) (part := p) (by omega) (by omega) (Nat.pow_pos (by omega)) hp
            have px := pow_X (n := n) (k := k) (N := N) (tn := T + 1) (nI bn) (nI cn) p x m (by omega) hN (fun (j6_109 : Int64) (xx_109 : HS) (xm_109 : HS) => L_X1_stutter_115 (nI bn) (nI cn) (nI N) (nI (T + 1)) p n k (fun (j6_163 : Int64) (j8_163 : Int64) (xx_163 : HS) (xm_163 : HS) => (f_X1_inLeastTerms j8_163 j6_163 p).bind fun v13 => some (v13, xx_163, xm_163)) fuel j6_109 (0 : Int64) (0 : Int32) xx_109 xm_109) N 0 fuel (by omega) (by unfold fuel; omega)
            have pm := pow_M (N := N) (tn := T + 1) (nI bn) (nI cn) p t 0 (by omega) hN (fun (j7_105 : Int64) (j9_105 : Int64) (tt_105 : HS) => L_X2_stutter_108 (nI bn) (nI cn) (nI N) (nI (T + 1)) p (fun (j7_206 : Int64) (j9_206 : Int64) (tt_206 : HS) => (f_X2_partOf j7_206 j9_206 p).bind fun v12 => some (v12, tt_206)) fuel j7_105 j9_105 (0 : Int32) tt_105) N 0 fuel (by omega) (by unfold fuel; omega)
            have yx := Y (fun (j6_163 : Int64) (j8_163 : Int64) (xx_163 : HS) (xm_163 : HS) => (f_X1_inLeastTerms j8_163 j6_163 p).bind fun v13 => some (v13, xx_163, xm_163)) fuel (eL ((T + 1) ^ N)) (by unfold fuel; omega)
            have zm := Z (fun (j7_206 : Int64) (j9_206 : Int64) (tt_206 : HS) => (f_X2_partOf j7_206 j9_206 p).bind fun v12 => some (v12, tt_206)) fuel (eL ((T + 1) ^ N)) (by unfold fuel; omega)
            rw [Nat.pow_zero, eL_1, nI0] at px pm
            rw [eL_0, nI0] at yx zm
            rw [px, pm, yx, zm, l1, l2]
            exact ⟨_, _, _, _, rfl, rfl, y2⟩
        · rw [if_neg q4, if_neg q4]
          exact far (-6) 6 (by omega) (by decide)
      · rw [if_neg q2, if_neg q2]
        exact far (-4) 4 (by omega) (by decide)
    · rw [e, e']
      simp only [iteN, iteZ]
      exact far (-1) 1 (by omega) (by decide)
  · rw [e]
    simp only [iteZ]
    exact far (-1) 1 (by omega) (by decide)
