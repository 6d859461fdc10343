/-! what is owned, from both sides -/
theorem bit_ext {x y : Int32} (h : ∀ i, i < 32 → x.toBitVec.getLsbD i = y.toBitVec.getLsbD i) : x = y := by
  apply Int32.toBitVec_inj.mp
  apply BitVec.eq_of_getLsbD_eq
  intro i hi
  exact h i hi
theorem bit_m1 {i : Nat} (hi : i < 32) : ((-1 : Int32)).toBitVec.getLsbD i = true := by
  rw [show ((-1 : Int32)).toBitVec = BitVec.allOnes 32 by decide, BitVec.getLsbD_allOnes]
  exact decide_eq_true hi
theorem bit_and (x y : Int32) (i : Nat) : (x &&& y).toBitVec.getLsbD i = (x.toBitVec.getLsbD i && y.toBitVec.getLsbD i) := by
  rw [Int32.toBitVec_and, BitVec.getLsbD_and]
theorem bit_or (x y : Int32) (i : Nat) : (x ||| y).toBitVec.getLsbD i = (x.toBitVec.getLsbD i || y.toBitVec.getLsbD i) := by
  rw [Int32.toBitVec_or, BitVec.getLsbD_or]
theorem bit_xor (x y : Int32) (i : Nat) : (x ^^^ y).toBitVec.getLsbD i = (x.toBitVec.getLsbD i ^^ y.toBitVec.getLsbD i) := by
  rw [Int32.toBitVec_xor, BitVec.getLsbD_xor]
theorem bit_0 (i : Nat) : ((0 : Int32)).toBitVec.getLsbD i = false := by
  rw [show ((0 : Int32)).toBitVec = 0#32 by decide, BitVec.getLsbD_zero]
theorem bit_dis {A b : Int32} (h : A &&& b = 0) (i : Nat) : (A.toBitVec.getLsbD i && b.toBitVec.getLsbD i) = false := by
  rw [← bit_and, h, bit_0]
theorem bit_p {A P Q b : Int32} (h : A &&& b = 0) : ((A ||| b) &&& ((P ||| b) ^^^ -1)) &&& (Q ^^^ -1) = (A &&& (P ^^^ -1)) &&& (Q ^^^ -1) := by
  apply bit_ext
  intro i hi
  have d := bit_dis h i
  simp only [bit_and, bit_or, bit_xor, bit_m1 hi]
  revert d
  cases A.toBitVec.getLsbD i <;> cases b.toBitVec.getLsbD i <;> cases P.toBitVec.getLsbD i <;> cases Q.toBitVec.getLsbD i <;> decide
theorem bit_q {A P Q b : Int32} (h : A &&& b = 0) : ((A ||| b) &&& (P ^^^ -1)) &&& ((Q ||| b) ^^^ -1) = (A &&& (P ^^^ -1)) &&& (Q ^^^ -1) := by
  apply bit_ext
  intro i hi
  have d := bit_dis h i
  simp only [bit_and, bit_or, bit_xor, bit_m1 hi]
  revert d
  cases A.toBitVec.getLsbD i <;> cases b.toBitVec.getLsbD i <;> cases P.toBitVec.getLsbD i <;> cases Q.toBitVec.getLsbD i <;> decide
theorem bit_pq {A P Q b : Int32} (h : A &&& b = 0) : ((A ||| b) &&& ((P ||| b) ^^^ -1)) &&& ((Q ||| b) ^^^ -1) = (A &&& (P ^^^ -1)) &&& (Q ^^^ -1) := by
  apply bit_ext
  intro i hi
  have d := bit_dis h i
  simp only [bit_and, bit_or, bit_xor, bit_m1 hi]
  revert d
  cases A.toBitVec.getLsbD i <;> cases b.toBitVec.getLsbD i <;> cases P.toBitVec.getLsbD i <;> cases Q.toBitVec.getLsbD i <;> decide
theorem bit_n {A P Q b : Int32} (h : P &&& b = 0) (h2 : Q &&& b = 0) : ((A ||| b) &&& (P ^^^ -1)) &&& (Q ^^^ -1) = ((A &&& (P ^^^ -1)) &&& (Q ^^^ -1)) ||| b := by
  apply bit_ext
  intro i hi
  have d := bit_dis h i
  have d2 := bit_dis h2 i
  simp only [bit_and, bit_or, bit_xor, bit_m1 hi]
  revert d d2
  cases A.toBitVec.getLsbD i <;> cases b.toBitVec.getLsbD i <;> cases P.toBitVec.getLsbD i <;> cases Q.toBitVec.getLsbD i <;> decide
theorem dis_all : ∀ i, i < 8 → ∀ a, a < 2 ^ i → nI a &&& ((1 : Int32) <<< (nI i &&& 31)) = 0 := by decide +kernel
theorem dis_bs (p : Nat → Bool) {i : Nat} (hi : i < 8) : bs p i &&& ((1 : Int32) <<< (nI i &&& 31)) = 0 := by
  obtain ⟨j, hj, e⟩ := bs_rng p i (by omega)
  rw [e]
  exact dis_all i hi j hj
theorem bs_not (p q : Nat → Bool) : ∀ i, i ≤ 8 → (bs (fun _ => true) i &&& (bs p i ^^^ -1)) &&& (bs q i ^^^ -1) = bs (fun c => !p c && !q c) i
  | 0, _ => by
    show (0 &&& ((0 : Int32) ^^^ -1)) &&& ((0 : Int32) ^^^ -1) = 0
    decide
  | i + 1, hi => by
    have ih := bs_not p q i (by omega)
    have d := dis_bs (fun _ => true) (i := i) (by omega)
    have dp := dis_bs p (i := i) (by omega)
    have dq := dis_bs q (i := i) (by omega)
    rw [bs, if_pos rfl, bs, bs, bs, ← ih]
    cases ep : p i <;> cases eq : q i
    · rw [if_neg (by decide), if_neg (by decide), if_pos (by decide)]
      exact bit_n dp dq
    · rw [if_neg (by decide), if_pos rfl, if_neg (by decide)]
      exact bit_q d
    · rw [if_pos rfl, if_neg (by decide), if_neg (by decide)]
      exact bit_p d
    · rw [if_pos rfl, if_pos rfl, if_neg (by decide)]
      exact bit_pq d
theorem all_bs : ∀ i, i ≤ 8 → ((1 : Int32) <<< (nI i &&& 31)) - 1 = bs (fun _ => true) i := by decide +kernel
/-- the cards that their teller holds (1), or another (0) -/
theorem ownCards_M {h t : HS} {nc nb : Nat} (w : WF h nc nb) (r : rel h t) (own : Bool) : f_X2_ownCards (if own = true then 1 else 0) t = some (bs (fun c => if own = true then qO h c else (!qP h c && !qO h c)) nc) := by
  have h8 := w.nc8
  have h6 := w.nb6
  have r20 : t 20 = h 10 := r 20 rfl
  have r5 : t 5 = mh h := r 5 rfl
  have r3 : t 3 = h 2 := r 3 rfl
  have L : ∀ (k i n : Nat), i + k = nc → k < n → L_X2_ownCards_4 (if own = true then 1 else 0) t (fun x => some x) n (bs (fun c => if own = true then qO h c else (!qP h c && !qO h c)) i) (nI i) = some (bs (fun c => if own = true then qO h c else (!qP h c && !qO h c)) nc) := by
    intro k
    induction k with
    | zero =>
      intro i n hi hn
      cases n with
      | zero => omega
      | succ n =>
        have : i = nc := by omega
        subst this
        rw [L_X2_ownCards_4, r20, w.c, if_pos (nI_le (Nat.le_refl _) (by omega))]
    | succ k ih =>
      intro i n hi hn
      cases n with
      | zero => omega
      | succ n =>
        obtain ⟨u, hu, eu⟩ := inR_nI (b := 5) (w.tel (c := i) (by omega)) (by omega)
        have m := mh_is w (c := i) (b := u) (by omega) (by omega)
        rw [L_X2_ownCards_4, r20, w.c, if_neg (nI_ge (by omega) (by omega)), r5, rd_nI _ (by omega) (by omega), Option.bind_some, nI_1 i, ← ih (i + 1) n (by omega) (by omega), bs, Int32.or_zero, r3, rd_nI _ (by omega) (by omega), eu]
        simp only [Option.bind_some]
        by_cases q : h 4 i = -9
        · have e1 : qP h i = true := decide_eq_true q
          have e2 : qO h i = false := decide_eq_false (by rw [q, eu]; exact fun z => nI_m9 (by omega) z.symm)
          rw [if_pos ((mh0 w (by omega)).mpr q), e1, e2]
          cases own <;> rfl
        · have e1 : qP h i = false := decide_eq_false q
          rw [if_neg (fun z => q ((mh0 w (by omega)).mp z)), e1]
          by_cases y : h 4 i = nI u
          · have e2 : qO h i = true := decide_eq_true (by rw [y, eu])
            rw [if_pos (m.mpr y), e2]
            cases own <;> rfl
          · have e2 : qO h i = false := decide_eq_false (by rw [eu]; exact y)
            rw [if_neg (fun z => y (m.mp z)), e2]
            cases own <;> rfl
  have x := L nc 0 fuel (by omega) (by unfold fuel; omega)
  rw [nI0, bs] at x
  unfold f_X2_ownCards
  simp only [jnE]
  exact x
theorem owned_XM {x n m k t : HS} (h : RR x n m k t) (v : Int32) : ∃ r x' t', f_X1_owned v x n m k = some (r, x') ∧ f_X2_owned v t = some (r, t') ∧ RR x' n m k t' := by
  obtain ⟨nc, nb, w, rl, wm, wk, hx⟩ := id h
  have h8 := w.nc8
  have h6 := w.nb6
  have o1 := ownCards_M w rl true
  have o0 := ownCards_M w rl false
  rw [if_pos rfl] at o1
  rw [if_neg (by decide)] at o0
  unfold f_X1_owned f_X2_owned
  by_cases q0 : v = 0
  · rw [if_pos q0, if_pos q0, if_pos q0, own_X w, o1, Option.bind_some, Option.bind_some]
    exact ⟨_, _, _, rfl, rfl, h⟩
  rw [if_neg q0, if_neg q0]
  by_cases q1 : v = 1
  · have e : f_X0_allCardBits n = bs (fun _ => true) nc := by
      unfold f_X0_allCardBits
      rw [w.c]
      exact all_bs nc h8
    rw [if_pos q1, if_pos q1, if_neg q0, pile_X w, Option.bind_some, own_X w, Option.bind_some, o0, Option.bind_some, e, bs_not (qP n) (qO n) nc h8]
    exact ⟨_, _, _, rfl, rfl, h⟩
  rw [if_neg q1, if_neg q1]
  by_cases q2 : v = 2
  · obtain ⟨u, e1, e2⟩ := clean_XM w rl
    rw [if_pos q2, if_pos q2, e1, e2, Option.bind_some, Option.bind_some]
    exact ⟨_, _, _, rfl, rfl, h⟩
  rw [if_neg q2, if_neg q2]
  by_cases q3 : v = 3
  · have r21 : t 21 = n 11 := rl 21 rfl
    have r9 : t 9 = n 8 := rl 9 rfl
    rw [if_pos q3, if_pos q3, purses_X w, r21, w.b, allOf9_M h6, r9, Option.bind_some, Option.bind_some]
    exact ⟨_, _, _, rfl, rfl, h⟩
  rw [if_neg q3, if_neg q3]
  obtain ⟨x', t', a, b', c⟩ := refX h (-2) 2 (by omega) (by decide)
  rw [a]
  exact ⟨_, x', t', rfl, b', c⟩
/-! the image -/
theorem image_XM {x n m k t : HS} (h : RR x n m k t) : ∃ r x' k' t', f_X1_image x n m k = some (r, x', k') ∧ f_X2_image t = some (r, t') ∧ RR x' n m k' t' := by
  obtain ⟨nc, nb, w, rl, wm, ⟨ka, kb, wk⟩, h1, h2, h3, h4, h5, h6, h7⟩ := id h
  obtain ⟨t1, a1, a2, a3, a4, a5⟩ := keep_M (t := st t 26 (fun _ => (1 : Int32))) (w := 0) w (rl.same rfl) (by omega)
  have e : ∀ j, core j = false → j ≠ 15 → j ≠ 26 → j ≠ 27 → j ≠ 28 → t1 j = t j := fun j c n1 n2 n3 n4 => (a3 j c n1 n3 n4).trans (st_ne n2)
  refine ⟨n 12 0, st x 3 (fun _ => (1 : Int32)), n, t1, ?_, ?_, nc, nb, w, a2, wm, ⟨nc, nb, w⟩, Or.inr rfl, ?_, fun _ => a4, ?_, ?_, ?_, ?_⟩
  · unfold f_X1_image
    rw [become_X wk w, Option.bind_some]
    rfl
  · unfold f_X2_image
    simp only [jnE]
    rw [show f_X2_passesAll 0 1 (st t 26 (fun _ => (1 : Int32))) = some t1 from a1, Option.bind_some, show t1 22 = n 12 from a2 22 rfl]
  · rw [a3 26 rfl (by decide) (by decide) (by decide)]; rfl
  · obtain ⟨lc, l1, l2, l3, l4⟩ := h4
    exact ⟨lc, l1, l2, by rw [e 23 rfl (by decide) (by decide) (by decide) (by decide)]; exact l3, fun i hi => by rw [e 11 rfl (by decide) (by decide) (by decide) (by decide)]; exact l4 i hi⟩
  · obtain ⟨rc, l1, l2, l3, l4⟩ := h5
    exact ⟨rc, l1, l2, by rw [e 30 rfl (by decide) (by decide) (by decide) (by decide)]; exact l3, fun i hi => by rw [e 18 rfl (by decide) (by decide) (by decide) (by decide)]; exact l4 i hi⟩
  · rw [e 0 rfl (by decide) (by decide) (by decide) (by decide)]; exact h6
  · rw [e 29 rfl (by decide) (by decide) (by decide) (by decide)]; exact h7
theorem on_XM {x n m k t : HS} (h : RR x n m k t) : ∃ r x' n' t', f_X1_on x n m k = some (r, x', n') ∧ f_X2_on t = some (r, t') ∧ RR x' n' m k t' := by
  obtain ⟨nc, nb, w, rl, wm, ⟨ka, kb, wk⟩, h1, h2, h3, h4, h5, h6, h7⟩ := id h
  unfold f_X1_on f_X2_on
  rw [h2]
  rcases h1 with q | q
  · rw [if_pos q, if_pos q]
    obtain ⟨x', t', a, b', c⟩ := refX h (-3) 3 (by omega) (by decide)
    rw [a, Option.bind_some]
    exact ⟨_, x', n, t', rfl, b', c⟩
  · have s := h3 q
    obtain ⟨t1, a1, a2, a3⟩ := rest_M (w := 0) w rl (by omega) wk s
    have e : ∀ j, core j = false → j ≠ 27 → j ≠ 28 → t1 j = t j := a3
    rw [if_neg (by rw [q]; decide), if_neg (by rw [q]; decide), become_X w wk, Option.bind_some, show f_X2_passesAll 0 0 t = some t1 from a1, Option.bind_some, show t1 22 = k 12 from a2 22 rfl]
    refine ⟨_, x, k, t1, rfl, rfl, ka, kb, wk, a2, wm, ⟨ka, kb, wk⟩, Or.inr q, ?_, fun _ => ?_, ?_, ?_, ?_, ?_⟩
    · rw [e 26 rfl (by decide) (by decide)]; exact h2
    · rw [e 15 rfl (by decide) (by decide)]; exact s
    · obtain ⟨lc, l1, l2, l3, l4⟩ := h4
      exact ⟨lc, l1, l2, by rw [e 23 rfl (by decide) (by decide)]; exact l3, fun i hi => by rw [e 11 rfl (by decide) (by decide)]; exact l4 i hi⟩
    · obtain ⟨rc, l1, l2, l3, l4⟩ := h5
      exact ⟨rc, l1, l2, by rw [e 30 rfl (by decide) (by decide)]; exact l3, fun i hi => by rw [e 18 rfl (by decide) (by decide)]; exact l4 i hi⟩
    · rw [e 0 rfl (by decide) (by decide)]; exact h6
    · rw [e 29 rfl (by decide) (by decide)]; exact h7
