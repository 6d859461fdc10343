/-! PURE ROWS: numbers, rows of numbers, states -/
theorem jnE {α β : Sort _} (r : α) (f : α → β) : jn r f = f r := Eq.trans (Eq.refl (f r)) (Eq.refl (f r))
theorem nI0 : nI 0 = 0 := rfl
theorem rd_nI {n k : Nat} (f : Nat → Int32) (hk : k < n) (hn : n < 2 ^ 31) : rd n f (nI k) = some (f k) := by
  unfold rd
  rw [if_neg (nI_in hk hn), nI_clamp (by omega)]
theorem wr_nI {n k : Nat} (f : Nat → Int32) (v : Int32) (hk : k < n) (hn : n < 2 ^ 31) : wr n f (nI k) v = some (upd f k v) := by
  unfold wr
  rw [if_neg (nI_in hk hn), nI_clamp (by omega)]
theorem atv_nI {n k : Nat} (f : Nat → Int32) (hk : k < n) (hn : n < 2 ^ 31) : atv n f (nI k) = f k := by
  unfold atv
  rw [if_neg (nI_in hk hn), nI_clamp (by omega)]
theorem ptv_nI {n k : Nat} (f : Nat → Int32) (v : Int32) (hk : k < n) (hn : n < 2 ^ 31) : ptv n f (nI k) v = upd f k v := by
  unfold ptv
  rw [if_neg (nI_in hk hn), nI_clamp (by omega)]
theorem atv_out {n : Nat} (f : Nat → Int32) {k : Nat} (hk : n ≤ k) (h2 : k < 2 ^ 31) : atv n f (nI k) = 0 := by
  unfold atv
  rw [if_pos (Or.inr (by rw [nI_clamp h2]; exact hk))]
theorem st_eq (h : HS) (k : Nat) (f : Nat → Int32) : st h k f k = f := by
  unfold st
  rw [show Nat.beq k k = true from Nat.beq_refl k]; rfl
theorem st_ne {h : HS} {k j : Nat} {f : Nat → Int32} (hj : j ≠ k) : st h k f j = h j := by
  unfold st
  cases hb : Nat.beq j k with
  | false => rfl
  | true => exact absurd (Nat.eq_of_beq_eq_true hb) hj
theorem st_st (h : HS) (k : Nat) (f g : Nat → Int32) : st (st h k f) k g = st h k g := by
  funext j
  by_cases c : j = k
  · subst c; rw [st_eq, st_eq]
  · rw [st_ne c, st_ne c, st_ne c]
theorem st_same {h : HS} {k : Nat} {f : Nat → Int32} (e : h k = f) : st h k f = h := by
  funext j
  by_cases c : j = k
  · subst c; rw [st_eq, e]
  · rw [st_ne c]
theorem upd_same {f : Nat → Int32} {k : Nat} {v : Int32} (e : f k = v) : upd f k v = f := by
  funext j
  unfold upd
  by_cases c : j = k
  · rw [if_pos c, c, e]
  · rw [if_neg c]
theorem upd_eq (f : Nat → Int32) (k : Nat) (v : Int32) : upd f k v k = v := by
  unfold upd; rw [if_pos rfl]
theorem upd_ne {f : Nat → Int32} {k j : Nat} {v : Int32} (h : j ≠ k) : upd f k v j = f j := by
  unfold upd; rw [if_neg h]
/-- numbers in bounds -/
def inR (a b : Int) (x : Int32) : Prop := a ≤ x.toInt ∧ x.toInt ≤ b
theorem toInt_addR {x y : Int32} (h1 : -2147483648 ≤ x.toInt + y.toInt) (h2 : x.toInt + y.toInt ≤ 2147483647) : (x + y).toInt = x.toInt + y.toInt := by
  rw [Int32.toInt_add]
  exact Int.bmod_eq_of_le (by omega) (by omega)
theorem toInt_subR {x y : Int32} (h1 : -2147483648 ≤ x.toInt - y.toInt) (h2 : x.toInt - y.toInt ≤ 2147483647) : (x - y).toInt = x.toInt - y.toInt := by
  rw [Int32.toInt_sub]
  exact Int.bmod_eq_of_le (by omega) (by omega)
theorem toInt_mulR {x y : Int32} (h1 : -2147483648 ≤ x.toInt * y.toInt) (h2 : x.toInt * y.toInt ≤ 2147483647) : (x * y).toInt = x.toInt * y.toInt := by
  rw [Int32.toInt_mul]
  exact Int.bmod_eq_of_le (by omega) (by omega)
theorem inR_nI {x : Int32} {b : Nat} (h : inR 0 b x) (hb : b < 2 ^ 31) : ∃ k : Nat, k ≤ b ∧ x = nI k := by
  refine ⟨x.toInt.toNat, by have := h.2; have := h.1; omega, ?_⟩
  apply Int32.toInt_inj.mp
  rw [nI_toInt (by have := h.2; have := h.1; omega)]
  have := h.1
  omega
theorem nI_inR {k b : Nat} (h : k ≤ b) (hb : b < 2 ^ 31) : inR 0 b (nI k) := by
  unfold inR
  rw [nI_toInt (by omega)]
  omega
/-- a loop of class or check: 'for the places from i on' -/
theorem loop_up {σ : Type} (P : Nat → σ → Prop) (N : Nat) (step : ∀ i s, i < N → P i s → ∃ s', P (i + 1) s') : ∀ (k i : Nat) (s : σ), i + k = N → P i s → ∃ s', P N s'
  | 0, i, s, h, hp => by
    have : i = N := by omega
    subst this
    exact ⟨s, hp⟩
  | k + 1, i, s, h, hp => by
    obtain ⟨s', h'⟩ := step i s (by omega) hp
    exact loop_up P N step k (i + 1) s' (by omega) h'
/-! the hall, as the class has it -/
def hm (x : Int32) : Int32 := if x < 0 then 0 else x + 1
def mh (h : HS) : Nat → Int32 := fun i => if i < (h 10 0).toNatClampNeg then hm (h 4 i) else 0
/-- the check's core, of the class's hall -/
def mo (h : HS) : HS := fun k => match k with
  | 1 => h 0
  | 2 => h 1
  | 3 => h 2
  | 4 => h 3
  | 5 => mh h
  | 6 => h 5
  | 7 => h 6
  | 8 => h 7
  | 9 => h 8
  | 10 => h 9
  | 20 => h 10
  | 21 => h 11
  | 22 => h 12
  | _ => fun _ => 0
def core (k : Nat) : Bool := (Nat.ble 1 k && Nat.ble k 10) || (Nat.ble 20 k && Nat.ble k 22)
def rel (h t : HS) : Prop := ∀ k, core k = true → t k = mo h k
/-- what else stands in the check stays -/
def fr (t t' : HS) : Prop := ∀ k, core k = false → k ≠ 16 → t' k = t k
theorem fr.rf {t : HS} : fr t t := fun _ _ _ => rfl
theorem fr.tr {t t' t'' : HS} (h : fr t t') (h2 : fr t' t'') : fr t t'' := fun k a b => (h2 k a b).trans (h k a b)
/-- the bounds of a hall: nc cards, nb bidders -/
def WF (h : HS) (nc nb : Nat) : Prop :=
  (nc ≤ 8 ∧ nb ≤ 6 ∧ h 10 = (fun _ => nI nc) ∧ h 11 = (fun _ => nI nb) ∧ (∀ i, h 12 i = h 12 0)) ∧
  (∀ c, c < nc → inR 0 9 (h 1 c) ∧ inR 0 5 (h 2 c) ∧ inR 0 99 (h 3 c) ∧ (h 4 c = -9 ∨ ∃ b, b < nb ∧ h 4 c = nI b) ∧ ∃ p, p < nc ∧ h 5 c = nI p) ∧
  (∀ i j, i < nc → j < nc → h 5 i = h 5 j → i = j) ∧
  (∀ b, b < nb → inR 0 9 (h 7 b) ∧ inR 0 999 (h 8 b) ∧ inR 0 99 (h 9 b)) ∧
  (∀ k, k < 6 → ∀ i, nc ≤ i → h k i = 0) ∧ (∀ k, 6 ≤ k → k < 10 → ∀ i, nb ≤ i → h k i = 0) ∧ (∀ k, 13 ≤ k → h k = fun _ => 0)
section WFs
variable {h : HS} {nc nb : Nat}
theorem WF.nc8 (w : WF h nc nb) : nc ≤ 8 := w.1.1
theorem WF.nb6 (w : WF h nc nb) : nb ≤ 6 := w.1.2.1
theorem WF.c (w : WF h nc nb) (i : Nat) : h 10 i = nI nc := by rw [w.1.2.2.1]
theorem WF.b (w : WF h nc nb) (i : Nat) : h 11 i = nI nb := by rw [w.1.2.2.2.1]
theorem WF.fig (w : WF h nc nb) {c : Nat} (hc : c < nc) : inR 0 9 (h 1 c) := (w.2.1 c hc).1
theorem WF.tel (w : WF h nc nb) {c : Nat} (hc : c < nc) : inR 0 5 (h 2 c) := (w.2.1 c hc).2.1
theorem WF.age (w : WF h nc nb) {c : Nat} (hc : c < nc) : inR 0 99 (h 3 c) := (w.2.1 c hc).2.2.1
theorem WF.hol (w : WF h nc nb) {c : Nat} (hc : c < nc) : h 4 c = -9 ∨ ∃ b, b < nb ∧ h 4 c = nI b := (w.2.1 c hc).2.2.2.1
theorem WF.ord (w : WF h nc nb) {c : Nat} (hc : c < nc) : ∃ p, p < nc ∧ h 5 c = nI p := (w.2.1 c hc).2.2.2.2
theorem WF.inj (w : WF h nc nb) {i j : Nat} (hi : i < nc) (hj : j < nc) (e : h 5 i = h 5 j) : i = j := w.2.2.1 i j hi hj e
theorem WF.bfig (w : WF h nc nb) {b : Nat} (hb : b < nb) : inR 0 9 (h 7 b) := (w.2.2.2.1 b hb).1
theorem WF.pur (w : WF h nc nb) {b : Nat} (hb : b < nb) : inR 0 999 (h 8 b) := (w.2.2.2.1 b hb).2.1
theorem WF.bel (w : WF h nc nb) {b : Nat} (hb : b < nb) : inR 0 99 (h 9 b) := (w.2.2.2.1 b hb).2.2
theorem WF.mh_in (w : WF h nc nb) {c : Nat} (hc : c < nc) : mh h c = hm (h 4 c) := by
  unfold mh
  rw [w.c, nI_clamp (by have := w.nc8; omega), if_pos hc]
theorem WF.mh_out (w : WF h nc nb) {c : Nat} (hc : nc ≤ c) : mh h c = 0 := by
  unfold mh
  rw [w.c, nI_clamp (by have := w.nc8; omega), if_neg (by omega)]
theorem hm_pile : hm (-9) = 0 := by decide
theorem hm_held {b : Nat} (hb : b < 6) : hm (nI b) = nI (b + 1) := by
  unfold hm
  rw [if_neg (nI_pos (by omega)), nI_1]
end WFs
theorem hasCard_nI {h : HS} {nc nb c : Nat} (w : WF h nc nb) (hc : c < 2 ^ 31) : f_X0_hasCard (nI c) h = if c < nc then 1 else 0 := by
  unfold f_X0_hasCard
  rw [if_neg (nI_pos hc), w.c]
  have := w.nc8
  by_cases q : c < nc
  · rw [if_pos q, if_neg (nI_ge q (by omega))]
  · rw [if_neg q, if_pos (nI_le (by omega) hc)]
theorem hasBidder_nI {h : HS} {nc nb b : Nat} (w : WF h nc nb) (hb : b < 2 ^ 31) : f_X0_hasBidder (nI b) h = if b < nb then 1 else 0 := by
  unfold f_X0_hasBidder
  rw [if_neg (nI_pos hb), w.b]
  have := w.nb6
  by_cases q : b < nb
  · rw [if_pos q, if_neg (nI_ge q (by omega))]
  · rw [if_neg q, if_pos (nI_le (by omega) hb)]
/-- a number is a card's, or is none -/
theorem hasCard_or {h : HS} {nc nb : Nat} (w : WF h nc nb) (x : Int32) : (∃ c, c < nc ∧ x = nI c ∧ f_X0_hasCard x h = 1) ∨ f_X0_hasCard x h = 0 := by
  by_cases q : x < 0
  · right; unfold f_X0_hasCard; rw [if_pos q]
  · obtain ⟨j, hj, rfl⟩ := nI_of q
    rw [hasCard_nI w hj]
    by_cases c : j < nc
    · left; exact ⟨j, c, rfl, by rw [if_pos c]⟩
    · right; rw [if_neg c]
theorem hasBidder_or {h : HS} {nc nb : Nat} (w : WF h nc nb) (x : Int32) : (∃ b, b < nb ∧ x = nI b ∧ f_X0_hasBidder x h = 1) ∨ f_X0_hasBidder x h = 0 := by
  by_cases q : x < 0
  · right; unfold f_X0_hasBidder; rw [if_pos q]
  · obtain ⟨j, hj, rfl⟩ := nI_of q
    rw [hasBidder_nI w hj]
    by_cases c : j < nb
    · left; exact ⟨j, c, rfl, by rw [if_pos c]⟩
    · right; rw [if_neg c]
theorem isCard_eq {h t : HS} (r : rel h t) (x : Int32) : f_X2_isCard x t = f_X0_hasCard x h := by
  unfold f_X2_isCard f_X0_hasCard
  rw [r 20 rfl]
  rfl
theorem isBidder_eq {h t : HS} (r : rel h t) (x : Int32) : f_X2_isBidder x t = f_X0_hasBidder x h := by
  unfold f_X2_isBidder f_X0_hasBidder
  rw [r 21 rfl]
  rfl
theorem inPile_nI {h : HS} {nc nb c : Nat} (w : WF h nc nb) (hc : c < nc) : f_X0_inPile (nI c) h = if h 4 c = -9 then 1 else 0 := by
  unfold f_X0_inPile
  have := w.nc8
  rw [hasCard_nI w (by omega), if_pos hc, if_neg (by decide), atv_nI _ (by omega) (by omega)]
  rcases w.hol hc with e | ⟨b, hb, e⟩
  · rw [e, if_neg (by decide), if_pos rfl]
  · have := w.nb6
    rw [e, if_pos (nI_pos' (by omega)), if_neg]
    intro q
    have q2 := congrArg Int32.toInt q
    rw [nI_toInt (by omega)] at q2
    revert q2
    rw [show ((-9 : Int32)).toInt = -9 from by decide]
    omega
theorem mh0 {h : HS} {nc nb c : Nat} (w : WF h nc nb) (hc : c < nc) : (mh h c = 0) ↔ h 4 c = -9 := by
  rw [w.mh_in hc]
  rcases w.hol hc with e | ⟨b, hb, e⟩
  · rw [e]; exact ⟨fun _ => rfl, fun _ => hm_pile⟩
  · have := w.nb6
    rw [e, hm_held (by omega)]
    refine ⟨fun q => absurd q (nI_ne0 (by omega) (by omega)), fun q => ?_⟩
    have q2 := congrArg Int32.toInt q
    rw [nI_toInt (by omega)] at q2
    revert q2
    rw [show ((-9 : Int32)).toInt = -9 from by decide]
    omega
