/-! bits and sums -/
def bs (p : Nat → Bool) : Nat → Int32
  | 0 => 0
  | i + 1 => if p i then bs p i ||| ((1 : Int32) <<< (nI i &&& 31)) else bs p i
theorem bs_or : ∀ i, i < 8 → ∀ a, a < 2 ^ i → nI a ||| ((1 : Int32) <<< (nI i &&& 31)) = nI (a + 2 ^ i) := by decide +kernel
theorem bs_rng (p : Nat → Bool) : ∀ i, i ≤ 8 → ∃ j, j < 2 ^ i ∧ bs p i = nI j
  | 0, _ => ⟨0, by decide, rfl⟩
  | i + 1, hi => by
    obtain ⟨j, hj, e⟩ := bs_rng p i (by omega)
    have h2 : 2 ^ (i + 1) = 2 ^ i + 2 ^ i := by rw [Nat.pow_succ]; omega
    rw [bs, e]
    by_cases q : p i = true
    · rw [if_pos q, bs_or i (by omega) j hj]
      exact ⟨j + 2 ^ i, by omega, rfl⟩
    · rw [if_neg q]
      exact ⟨j, by omega, rfl⟩
theorem bs_congr {p q : Nat → Bool} : ∀ i, (∀ j, j < i → p j = q j) → bs p i = bs q i
  | 0, _ => rfl
  | i + 1, h => by
    rw [bs, bs, bs_congr i (fun j hj => h j (by omega)), h i (by omega)]
theorem cnt_all : ∀ j, j < 256 → f_X2_bits (nI j) = some (f_J6_bitCount_0f7a4 (nI j)) := by decide +kernel
theorem bits_bs (p : Nat → Bool) {i : Nat} (hi : i ≤ 8) : f_X2_bits (bs p i) = some (f_J6_bitCount_0f7a4 (bs p i)) := by
  obtain ⟨j, hj, e⟩ := bs_rng p i hi
  rw [e]
  have : 2 ^ i ≤ 2 ^ 8 := Nat.pow_le_pow_right (by omega) hi
  exact cnt_all j (by omega)
def qP (h : HS) : Nat → Bool := fun c => decide (h 4 c = -9)
def qH (h : HS) (b : Int32) : Nat → Bool := fun c => decide (h 4 c = b)
theorem pile_X {h : HS} {nc nb : Nat} (w : WF h nc nb) : f_X0_pileBits h = some (bs (qP h) nc) := by
  have h8 := w.nc8
  have L : ∀ (k i n : Nat), i + k = nc → k < n → L_X0_pileBits_4 h (fun x => some x) n (bs (qP h) i) (nI i) = some (bs (qP h) nc) := by
    intro k
    induction k with
    | zero =>
      intro i n hi hn
      cases n with
      | zero => omega
      | succ n =>
        have : i = nc := by omega
        subst this
        rw [L_X0_pileBits_4, w.c, if_pos (nI_le (Nat.le_refl _) (by omega))]
    | succ k ih =>
      intro i n hi hn
      cases n with
      | zero => omega
      | succ n =>
        rw [L_X0_pileBits_4, w.c, if_neg (nI_ge (by omega) (by omega)), nI_1, ← ih (i + 1) n (by omega) (by omega), bs]
        by_cases q : h 4 i = -9
        · rw [if_neg (fun z => (m9_pile w (by omega)).mp z q), if_pos (show qP h i = true from decide_eq_true q)]
        · rw [if_pos ((m9_pile w (by omega)).mpr q), if_neg (show ¬ qP h i = true from fun z => q (of_decide_eq_true z))]
  have x := L nc 0 fuel (by omega) (by unfold fuel; omega)
  rw [nI0, bs] at x
  unfold f_X0_pileBits
  simp only [jnE]
  exact x
theorem pile_M {h t : HS} {nc nb : Nat} (w : WF h nc nb) (r : rel h t) : f_X2_pile t = some (bs (qP h) nc) := by
  have h8 := w.nc8
  have r20 : t 20 = h 10 := r 20 rfl
  have r5 : t 5 = mh h := r 5 rfl
  have L : ∀ (k i n : Nat), i + k = nc → k < n → L_X2_pile_4 t (fun x => some x) n (bs (qP h) i) (nI i) = some (bs (qP h) nc) := by
    intro k
    induction k with
    | zero =>
      intro i n hi hn
      cases n with
      | zero => omega
      | succ n =>
        have : i = nc := by omega
        subst this
        rw [L_X2_pile_4, r20, w.c, if_pos (nI_le (Nat.le_refl _) (by omega))]
    | succ k ih =>
      intro i n hi hn
      cases n with
      | zero => omega
      | succ n =>
        rw [L_X2_pile_4, r20, w.c, if_neg (nI_ge (by omega) (by omega)), r5, rd_nI _ (by omega) (by omega), Option.bind_some, nI_1, ← ih (i + 1) n (by omega) (by omega), bs, Int32.or_zero]
        by_cases q : h 4 i = -9
        · rw [if_pos ((mh0 w (by omega)).mpr q), if_pos (show qP h i = true from decide_eq_true q)]
        · rw [if_neg (fun z => q ((mh0 w (by omega)).mp z)), if_neg (show ¬ qP h i = true from fun z => q (of_decide_eq_true z))]
  have x := L nc 0 fuel (by omega) (by unfold fuel; omega)
  rw [nI0, bs] at x
  unfold f_X2_pile
  simp only [jnE]
  exact x
theorem mh_is {h : HS} {nc nb c b : Nat} (w : WF h nc nb) (hc : c < nc) (hb : b < 2 ^ 30) : (mh h c = nI b + 1) ↔ h 4 c = nI b := by
  have h6 := w.nb6
  rw [w.mh_in hc, nI_1]
  rcases w.hol hc with e | ⟨a, ha, e⟩
  · rw [e, hm_pile]
    refine ⟨fun q => ?_, fun q => absurd q.symm (nI_m9 (by omega))⟩
    exact absurd q.symm (nI_ne0 (by omega) (by omega))
  · rw [e, hm_held (by omega)]
    refine ⟨fun q => ?_, fun q => ?_⟩
    · have := (nI_eq (by omega) (by omega)).mp q
      rw [show a = b by omega]
    · have := (nI_eq (by omega) (by omega)).mp q
      rw [this]
theorem held_X {h : HS} {nc nb : Nat} (w : WF h nc nb) (b : Int32) : f_X0_heldBits b h = some (bs (qH h b) nc) := by
  have h8 := w.nc8
  have L : ∀ (k i n : Nat), i + k = nc → k < n → L_X0_heldBits_4 b h (fun x => some x) n (bs (qH h b) i) (nI i) = some (bs (qH h b) nc) := by
    intro k
    induction k with
    | zero =>
      intro i n hi hn
      cases n with
      | zero => omega
      | succ n =>
        have : i = nc := by omega
        subst this
        rw [L_X0_heldBits_4, w.c, if_pos (nI_le (Nat.le_refl _) (by omega))]
    | succ k ih =>
      intro i n hi hn
      cases n with
      | zero => omega
      | succ n =>
        rw [L_X0_heldBits_4, w.c, if_neg (nI_ge (by omega) (by omega)), nI_1, ← ih (i + 1) n (by omega) (by omega), bs, atv_nI _ (by omega) (by omega)]
        by_cases q : h 4 i = b
        · rw [if_pos q, if_pos (show qH h b i = true from decide_eq_true q)]
        · rw [if_neg q, if_neg (show ¬ qH h b i = true from fun z => q (of_decide_eq_true z))]
  have x := L nc 0 fuel (by omega) (by unfold fuel; omega)
  rw [nI0, bs] at x
  unfold f_X0_heldBits
  simp only [jnE]
  exact x
theorem held_M {h t : HS} {nc nb b : Nat} (w : WF h nc nb) (r : rel h t) (hb : b < 2 ^ 30) : f_X2_heldBy (nI b) t = some (bs (qH h (nI b)) nc) := by
  have h8 := w.nc8
  have r20 : t 20 = h 10 := r 20 rfl
  have r5 : t 5 = mh h := r 5 rfl
  have L : ∀ (k i n : Nat), i + k = nc → k < n → L_X2_heldBy_4 (nI b) t (fun x => some x) n (bs (qH h (nI b)) i) (nI i) = some (bs (qH h (nI b)) nc) := by
    intro k
    induction k with
    | zero =>
      intro i n hi hn
      cases n with
      | zero => omega
      | succ n =>
        have : i = nc := by omega
        subst this
        rw [L_X2_heldBy_4, r20, w.c, if_pos (nI_le (Nat.le_refl _) (by omega))]
    | succ k ih =>
      intro i n hi hn
      cases n with
      | zero => omega
      | succ n =>
        rw [L_X2_heldBy_4, r20, w.c, if_neg (nI_ge (by omega) (by omega)), r5, rd_nI _ (by omega) (by omega), Option.bind_some, nI_1 i, ← ih (i + 1) n (by omega) (by omega), bs, Int32.or_zero]
        by_cases q : h 4 i = nI b
        · rw [if_pos ((mh_is w (by omega) hb).mpr q), if_pos (show qH h (nI b) i = true from decide_eq_true q)]
        · rw [if_neg (fun z => q ((mh_is w (by omega) hb).mp z)), if_neg (show ¬ qH h (nI b) i = true from fun z => q (of_decide_eq_true z))]
  have x := L nc 0 fuel (by omega) (by unfold fuel; omega)
  rw [nI0, bs] at x
  unfold f_X2_heldBy
  simp only [jnE]
  exact x
/-- how many one holds -/
def hN (h : HS) (nc : Nat) (b : Int32) : Int32 := f_J6_bitCount_0f7a4 (bs (qH h b) nc)
def pN (h : HS) (nc : Nat) : Int32 := h 10 0 - f_J6_bitCount_0f7a4 (bs (qP h) nc)
theorem heldBy_X {h : HS} {nc nb : Nat} (w : WF h nc nb) (b : Int32) : f_X0_heldBy b h = some (hN h nc b) := by
  unfold f_X0_heldBy
  rw [held_X w b]; rfl
theorem heldCount_X {h : HS} {nc nb : Nat} (w : WF h nc nb) : f_X0_heldCount h = some (pN h nc) := by
  unfold f_X0_heldCount
  rw [pile_X w]; rfl
theorem heldN_M {h t : HS} {nc nb b : Nat} (w : WF h nc nb) (r : rel h t) (hb : b < 2 ^ 30) : (f_X2_heldBy (nI b) t).bind f_X2_bits = some (hN h nc (nI b)) := by
  rw [held_M w r hb, Option.bind_some]
  exact bits_bs _ w.nc8
/-- a sum over the bidders -/
def sm (f : Nat → Int32) : Nat → Int32
  | 0 => 0
  | i + 1 => sm f i + f i
theorem purses_X {h : HS} {nc nb : Nat} (w : WF h nc nb) : f_X0_allPurses h = some (sm (h 8) nb) := by
  have h6 := w.nb6
  have L : ∀ (k i n : Nat), i + k = nb → k < n → L_X0_allPurses_4 h (fun x => some x) n (sm (h 8) i) (nI i) = some (sm (h 8) nb) := by
    intro k
    induction k with
    | zero =>
      intro i n hi hn
      cases n with
      | zero => omega
      | succ n =>
        have : i = nb := by omega
        subst this
        rw [L_X0_allPurses_4, w.b, if_pos (nI_le (Nat.le_refl _) (by omega))]
    | succ k ih =>
      intro i n hi hn
      cases n with
      | zero => omega
      | succ n =>
        rw [L_X0_allPurses_4, w.b, if_neg (nI_ge (by omega) (by omega)), nI_1, ← ih (i + 1) n (by omega) (by omega), sm, atv_nI _ (by omega) (by omega)]
  have x := L nb 0 fuel (by omega) (by unfold fuel; omega)
  rw [nI0, sm] at x
  unfold f_X0_allPurses
  simp only [jnE]
  exact x
theorem believed_X {h : HS} {nc nb : Nat} (w : WF h nc nb) : f_X0_allBelieved h = some (sm (h 9) nb) := by
  have h6 := w.nb6
  have L : ∀ (k i n : Nat), i + k = nb → k < n → L_X0_allBelieved_4 h (fun x => some x) n (sm (h 9) i) (nI i) = some (sm (h 9) nb) := by
    intro k
    induction k with
    | zero =>
      intro i n hi hn
      cases n with
      | zero => omega
      | succ n =>
        have : i = nb := by omega
        subst this
        rw [L_X0_allBelieved_4, w.b, if_pos (nI_le (Nat.le_refl _) (by omega))]
    | succ k ih =>
      intro i n hi hn
      cases n with
      | zero => omega
      | succ n =>
        rw [L_X0_allBelieved_4, w.b, if_neg (nI_ge (by omega) (by omega)), nI_1, ← ih (i + 1) n (by omega) (by omega), sm, atv_nI _ (by omega) (by omega)]
  have x := L nb 0 fuel (by omega) (by unfold fuel; omega)
  rw [nI0, sm] at x
  unfold f_X0_allBelieved
  simp only [jnE]
  exact x
theorem allWorth_X {h : HS} {nc nb : Nat} (w : WF h nc nb) : f_X0_allWorth h = some (sm (wo h) nc) := by
  have h8 := w.nc8
  have L : ∀ (k i n : Nat), i + k = nc → k < n → L_X0_allWorth_4 h (fun x => some x) n (sm (wo h) i) (nI i) = some (sm (wo h) nc) := by
    intro k
    induction k with
    | zero =>
      intro i n hi hn
      cases n with
      | zero => omega
      | succ n =>
        have : i = nc := by omega
        subst this
        rw [L_X0_allWorth_4, w.c, if_pos (nI_le (Nat.le_refl _) (by omega))]
    | succ k ih =>
      intro i n hi hn
      cases n with
      | zero => omega
      | succ n =>
        rw [L_X0_allWorth_4, w.c, if_neg (nI_ge (by omega) (by omega)), nI_1, ← ih (i + 1) n (by omega) (by omega), sm]
        rfl
  have x := L nc 0 fuel (by omega) (by unfold fuel; omega)
  rw [nI0, sm] at x
  unfold f_X0_allWorth
  simp only [jnE]
  exact x
theorem allOf9_M {t : HS} {nb : Nat} (h6 : nb ≤ 6) : f_X2_allOf_9 (nI nb) t = some (sm (t 9) nb) := by
  have L : ∀ (k i n : Nat), i + k = nb → k < n → L_X2_allOf_9_5 (nI nb) t (fun x => some x) n (sm (t 9) i) (nI i) = some (sm (t 9) nb) := by
    intro k
    induction k with
    | zero =>
      intro i n hi hn
      cases n with
      | zero => omega
      | succ n =>
        have : i = nb := by omega
        subst this
        rw [L_X2_allOf_9_5, if_pos (nI_le (Nat.le_refl _) (by omega))]
    | succ k ih =>
      intro i n hi hn
      cases n with
      | zero => omega
      | succ n =>
        rw [L_X2_allOf_9_5, if_neg (nI_ge (by omega) (by omega)), rd_nI _ (by omega) (by omega), Option.bind_some, nI_1, ← ih (i + 1) n (by omega) (by omega), sm]
  have x := L nb 0 fuel (by omega) (by unfold fuel; omega)
  rw [nI0, sm] at x
  unfold f_X2_allOf_9
  simp only [jnE]
  exact x
theorem allOf10_M {t : HS} {nb : Nat} (h6 : nb ≤ 6) : f_X2_allOf_10 (nI nb) t = some (sm (t 10) nb) := by
  have L : ∀ (k i n : Nat), i + k = nb → k < n → L_X2_allOf_10_5 (nI nb) t (fun x => some x) n (sm (t 10) i) (nI i) = some (sm (t 10) nb) := by
    intro k
    induction k with
    | zero =>
      intro i n hi hn
      cases n with
      | zero => omega
      | succ n =>
        have : i = nb := by omega
        subst this
        rw [L_X2_allOf_10_5, if_pos (nI_le (Nat.le_refl _) (by omega))]
    | succ k ih =>
      intro i n hi hn
      cases n with
      | zero => omega
      | succ n =>
        rw [L_X2_allOf_10_5, if_neg (nI_ge (by omega) (by omega)), rd_nI _ (by omega) (by omega), Option.bind_some, nI_1, ← ih (i + 1) n (by omega) (by omega), sm]
  have x := L nb 0 fuel (by omega) (by unfold fuel; omega)
  rw [nI0, sm] at x
  unfold f_X2_allOf_10
  simp only [jnE]
  exact x
theorem allOf16_M {t : HS} {nb : Nat} (h6 : nb ≤ 6) : f_X2_allOf_16 (nI nb) t = some (sm (t 16) nb) := by
  have L : ∀ (k i n : Nat), i + k = nb → k < n → L_X2_allOf_16_5 (nI nb) t (fun x => some x) n (sm (t 16) i) (nI i) = some (sm (t 16) nb) := by
    intro k
    induction k with
    | zero =>
      intro i n hi hn
      cases n with
      | zero => omega
      | succ n =>
        have : i = nb := by omega
        subst this
        rw [L_X2_allOf_16_5, if_pos (nI_le (Nat.le_refl _) (by omega))]
    | succ k ih =>
      intro i n hi hn
      cases n with
      | zero => omega
      | succ n =>
        rw [L_X2_allOf_16_5, if_neg (nI_ge (by omega) (by omega)), rd_nI _ (by omega) (by omega), Option.bind_some, nI_1, ← ih (i + 1) n (by omega) (by omega), sm]
  have x := L nb 0 fuel (by omega) (by unfold fuel; omega)
  rw [nI0, sm] at x
  unfold f_X2_allOf_16
  simp only [jnE]
  exact x
