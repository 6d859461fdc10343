/-! who gets a card, and for how much -/
def awb (aw : Int32) (b : Nat) : Prop := ((aw >>> (nI b &&& 31)) &&& (1 : Int32)) = (1 : Int32)
theorem awb_dec (aw : Int32) (b : Nat) : awb aw b ∨ ¬ awb aw b := Classical.em _
noncomputable def bw (h : HS) (aw : Int32) (c b : Nat) : Int32 := if ((aw >>> (nI b &&& 31)) &&& (1 : Int32)) = (1 : Int32) then 0 else bd h c b
def dS (g : Nat → Int32) : Nat → Int32 × Int32 × Int32
  | 0 => (0, 0, -9)
  | i + 1 => if g i ≤ (dS g i).1 then (if g i ≤ (dS g i).2.1 then dS g i else ((dS g i).1, g i, (dS g i).2.2)) else (g i, (dS g i).1, nI i)
def gS (g : Nat → Int32) : Nat → Int32
  | 0 => -9
  | i + 1 => if 0 ≤ gS g i then (if g i ≤ g (gS g i).toNatClampNeg then gS g i else nI i) else if g i ≤ 0 then gS g i else nI i
def pS (g : Nat → Int32) (b : Nat) : Nat → Int32
  | 0 => 0
  | j + 1 => if j = b then pS g b j else if g j ≤ pS g b j then pS g b j else g j
theorem le_tr {a b c : Int32} (h : a ≤ b) (h2 : b ≤ c) : a ≤ c := by
  rw [Int32.le_iff_toInt_le] at *; omega
theorem nle_lt {a b : Int32} (h : ¬ a ≤ b) : b < a := by
  rw [Int32.le_iff_toInt_le] at h; rw [Int32.lt_iff_toInt_lt]; omega
theorem lt_nle {a b : Int32} (h : b < a) : ¬ a ≤ b := by
  rw [Int32.lt_iff_toInt_lt] at h; rw [Int32.le_iff_toInt_le]; omega
theorem lt_le {a b : Int32} (h : a < b) : a ≤ b := by
  rw [Int32.lt_iff_toInt_lt] at h; rw [Int32.le_iff_toInt_le]; omega
theorem le_lt_tr {a b c : Int32} (h : a ≤ b) (h2 : b < c) : a < c := by
  rw [Int32.le_iff_toInt_le] at h; rw [Int32.lt_iff_toInt_lt] at *; omega
theorem nI_m9 {k : Nat} (hk : k < 2 ^ 31) : ¬ (nI k = -9) := by
  intro q
  have q2 := congrArg Int32.toInt q
  rw [nI_toInt hk] at q2
  rw [show ((-9 : Int32)).toInt = -9 from by decide] at q2
  omega
/-- what stands behind i bidders -/
theorem dS_inv (g : Nat → Int32) : ∀ i, i ≤ 100 → ((dS g i = (0, 0, -9) ∧ (∀ j, j < i → g j ≤ 0) ∧ ∀ b, i ≤ b → pS g b i = 0) ∨ ∃ w, w < i ∧ (dS g i).2.2 = nI w ∧ (dS g i).1 = g w ∧ 0 < g w ∧ (dS g i).2.1 = pS g w i ∧ 0 ≤ (dS g i).2.1 ∧ ∀ b, i ≤ b → pS g b i = g w) ∧ gS g i = (dS g i).2.2
  | 0, _ => ⟨Or.inl ⟨rfl, fun j h => absurd h (Nat.not_lt_zero j), fun _ _ => rfl⟩, rfl⟩
  | i + 1, hi => by
    obtain ⟨hI, hG⟩ := dS_inv g i (by omega)
    rcases hI with ⟨e, hl, hp⟩ | ⟨w, hw, e1, e2, e3, e4, e5, hp⟩
    · have hG9 : gS g i = -9 := by rw [hG, e]
      have hn : ¬ (0 : Int32) ≤ -9 := by decide
      by_cases q : g i ≤ 0
      · have eD : dS g (i + 1) = (0, 0, -9) := by
          rw [dS, e]; rw [if_pos q, if_pos q]
        refine ⟨Or.inl ⟨eD, fun j hj => ?_, fun b hb => ?_⟩, ?_⟩
        · rcases Nat.lt_succ_iff_lt_or_eq.mp hj with h | h
          · exact hl j h
          · rw [h]; exact q
        · rw [pS, if_neg (by omega), hp b (by omega), if_pos q]
        · rw [gS, hG9, if_neg hn, if_pos q, eD]
      · have eD : dS g (i + 1) = (g i, 0, nI i) := by
          rw [dS, e]; rw [if_neg q]
        refine ⟨Or.inr ⟨i, by omega, by rw [eD], by rw [eD], nle_lt q, ?_, by rw [eD]; exact (show (0 : Int32) ≤ 0 by decide), fun b hb => ?_⟩, ?_⟩
        · rw [eD, pS, if_pos rfl, hp i (Nat.le_refl i)]
        · rw [pS, if_neg (by omega), hp b (by omega), if_neg q]
        · rw [gS, hG9, if_neg hn, if_neg q, eD]
    · have hGw : gS g i = nI w := by rw [hG, e1]
      have h0 : (0 : Int32) ≤ nI w := nI_pos' (by omega)
      have hcl : (nI w).toNatClampNeg = w := nI_clamp (by omega)
      by_cases q : g i ≤ g w
      · have hGn : gS g (i + 1) = nI w := by rw [gS, hGw, if_pos h0, hcl, if_pos q]
        by_cases q2 : g i ≤ (dS g i).2.1
        · have eD : dS g (i + 1) = dS g i := by rw [dS, e2, if_pos q, if_pos q2]
          refine ⟨Or.inr ⟨w, by omega, by rw [eD, e1], by rw [eD, e2], e3, ?_, by rw [eD]; exact e5, fun b hb => ?_⟩, by rw [hGn, eD, e1]⟩
          · rw [eD, pS, if_neg (by omega), ← e4, if_pos q2]
          · rw [pS, if_neg (by omega), hp b (by omega), if_pos q]
        · have eD : dS g (i + 1) = (g w, g i, nI w) := by rw [dS, e2, if_pos q, if_neg q2, e1]
          refine ⟨Or.inr ⟨w, by omega, by rw [eD], by rw [eD], e3, ?_, by rw [eD]; exact lt_le (le_lt_tr e5 (nle_lt q2)), fun b hb => ?_⟩, by rw [hGn, eD]⟩
          · rw [eD, pS, if_neg (by omega), ← e4, if_neg q2]
          · rw [pS, if_neg (by omega), hp b (by omega), if_pos q]
      · have hGn : gS g (i + 1) = nI i := by rw [gS, hGw, if_pos h0, hcl, if_neg q]
        have eD : dS g (i + 1) = (g i, g w, nI i) := by rw [dS, e2, if_neg q]
        refine ⟨Or.inr ⟨i, by omega, by rw [eD], by rw [eD], le_lt_tr (lt_le e3) (nle_lt q), ?_, by rw [eD]; exact lt_le e3, fun b hb => ?_⟩, by rw [hGn, eD]⟩
        · rw [eD, pS, if_pos rfl, hp i (Nat.le_refl i)]
        · rw [pS, if_neg (by omega), hp b (by omega), if_neg q]
/-- the class's loop -/
theorem deal_loop {h : HS} {nc nb c : Nat} (w : WF h nc nb) (aw : Int32) (K : Int32 → Int32 → Int32 → Option Int32) : ∀ (k i n : Nat), i + k = nb → k < n → L_X0_deal_19 (nI c) aw h K n (wo h c) (dS (bw h aw c) i).1 (dS (bw h aw c) i).2.1 (dS (bw h aw c) i).2.2 (nI i) = K (dS (bw h aw c) nb).1 (dS (bw h aw c) nb).2.1 (dS (bw h aw c) nb).2.2
  | 0, i, n + 1, hi, _ => by
    have : i = nb := by omega
    subst this
    have h6 := w.nb6
    rw [L_X0_deal_19, w.b, if_pos (nI_le (Nat.le_refl _) (by omega))]
  | k + 1, i, n + 1, hi, hn => by
    have h6 := w.nb6
    rw [L_X0_deal_19, w.b, if_neg (nI_ge (by omega) (by omega)), nI_1]
    have ih := deal_loop (c := c) w aw K k (i + 1) n (by omega) (by omega)
    rw [← ih]
    have eb : bd h c i = f_X0_most (nI i) (nI c) (wo h c) h := rfl
    by_cases q : ((aw >>> (nI i &&& 31)) &&& (1 : Int32)) = (1 : Int32)
    · have eg : bw h aw c i = 0 := by unfold bw; rw [if_pos q]
      rw [if_pos q, dS, eg]
      by_cases e1 : 0 ≤ (dS (bw h aw c) i).1
      · rw [if_pos e1, if_pos e1]
        by_cases e2 : 0 ≤ (dS (bw h aw c) i).2.1
        · rw [if_pos e2, if_pos e2]
        · rw [if_neg e2, if_neg e2]
      · rw [if_neg e1, if_neg e1]
    · have eg : bw h aw c i = bd h c i := by unfold bw; rw [if_neg q]
      rw [if_neg q, dS, eg, eb]
      by_cases e1 : f_X0_most (nI i) (nI c) (wo h c) h ≤ (dS (bw h aw c) i).1
      · rw [if_pos e1, if_pos e1]
        by_cases e2 : f_X0_most (nI i) (nI c) (wo h c) h ≤ (dS (bw h aw c) i).2.1
        · rw [if_pos e2, if_pos e2]
        · rw [if_neg e2, if_neg e2]
      · rw [if_neg e1, if_neg e1]
/-- the deal, in one: nobody, or the winner w and the price -/
noncomputable def win (h : HS) (nb : Nat) (aw : Int32) (c : Nat) : Int32 := gS (bw h aw c) nb
noncomputable def prc (h : HS) (nb : Nat) (aw : Int32) (c b : Nat) : Int32 := if bw h aw c b ≤ pS (bw h aw c) b nb + 1 then bw h aw c b else pS (bw h aw c) b nb + 1
theorem bw_or (h : HS) (aw : Int32) (c b : Nat) : bw h aw c b = 0 ∨ bw h aw c b = bd h c b := by
  unfold bw
  by_cases q : ((aw >>> (nI b &&& 31)) &&& (1 : Int32)) = (1 : Int32)
  · rw [if_pos q]; exact Or.inl rfl
  · rw [if_neg q]; exact Or.inr rfl
theorem bw_le {h : HS} {nc nb c b : Nat} (w : WF h nc nb) (aw : Int32) (hb : b < nb) : (bw h aw c b).toInt ≤ 999 := by
  have h1 := bd_le (c := c) w hb
  have h2 := (w.pur hb).2
  rcases bw_or h aw c b with e | e
  · rw [e, show ((0 : Int32)).toInt = 0 from rfl]; omega
  · rw [e]; omega
theorem bw_pur {h : HS} {nc nb c b : Nat} (w : WF h nc nb) (aw : Int32) (hb : b < nb) : (bw h aw c b).toInt ≤ (h 8 b).toInt := by
  have h1 := bd_le (c := c) w hb
  have h2 := (w.pur hb).1
  rcases bw_or h aw c b with e | e
  · rw [e, show ((0 : Int32)).toInt = 0 from rfl]; exact h2
  · rw [e]; exact h1
/-- either nobody bids, or there is a winner with a price from 1 to 999, his purse's at most -/
theorem win_or {h : HS} {nc nb : Nat} (w : WF h nc nb) (aw : Int32) (c : Nat) : (win h nb aw c = -9 ∧ f_X0_deal (nI c) aw h = some (-9) ∧ ∀ b, b < nb → bw h aw c b ≤ 0) ∨ ∃ b p : Nat, b < nb ∧ win h nb aw c = nI b ∧ 1 ≤ p ∧ p ≤ 999 ∧ (p : Int) ≤ (h 8 b).toInt ∧ prc h nb aw c b = nI p ∧ 0 < bw h aw c b ∧ f_X0_deal (nI c) aw h = some (nI (1000 * b + p)) := by
  have h6 := w.nb6
  obtain ⟨hI, hG⟩ := dS_inv (bw h aw c) nb (by omega)
  have hL := deal_loop (c := c) w aw (fun (j4_91 : Int32) (j5_91 : Int32) (j6_91 : Int32) => if 0 ≤ j6_91 then some ((j6_91 * (1000 : Int32)) + (mn j4_91 (j5_91 + (1 : Int32)))) else some (-9 : Int32)) nb 0 fuel (by omega) (by unfold fuel; omega)
  have hD : f_X0_deal (nI c) aw h = (if 0 ≤ (dS (bw h aw c) nb).2.2 then some (((dS (bw h aw c) nb).2.2 * (1000 : Int32)) + (mn (dS (bw h aw c) nb).1 ((dS (bw h aw c) nb).2.1 + (1 : Int32)))) else some (-9 : Int32)) := by
    have e : f_X0_deal (nI c) aw h = L_X0_deal_19 (nI c) aw h (fun (j4_91 : Int32) (j5_91 : Int32) (j6_91 : Int32) => if 0 ≤ j6_91 then some ((j6_91 * (1000 : Int32)) + (mn j4_91 (j5_91 + (1 : Int32)))) else some (-9 : Int32)) fuel (wo h c) 0 0 (-9) 0 := by
      unfold f_X0_deal wo
      simp only [jnE]
    rw [e]
    have e2 : dS (bw h aw c) 0 = (0, 0, -9) := rfl
    rw [e2] at hL
    refine Eq.trans ?_ (hL.trans ?_)
    · exact congrArg (fun z => L_X0_deal_19 (nI c) aw h (fun (j4_91 : Int32) (j5_91 : Int32) (j6_91 : Int32) => if 0 ≤ j6_91 then some ((j6_91 * (1000 : Int32)) + (mn j4_91 (j5_91 + (1 : Int32)))) else some (-9 : Int32)) fuel (wo h c) 0 0 (-9) z) (show (0 : Int32) = nI 0 from rfl)
    · rfl
  rcases hI with ⟨e, hl, -⟩ | ⟨b, hb, e1, e2, e3, e4, e5, -⟩
  · left
    refine ⟨by unfold win; rw [hG, e], ?_, hl⟩
    rw [hD, e, if_neg (by decide)]
  · right
    have hle := bw_le (c := c) w aw hb
    have hpu := bw_pur (c := c) w aw hb
    rw [e4] at e5
    have hn1 : (pS (bw h aw c) b nb).toInt ≤ 999 ∨ 999 < (pS (bw h aw c) b nb).toInt := by omega
    have g0 : 0 ≤ (pS (bw h aw c) b nb).toInt := by
      have := Int32.le_iff_toInt_le.mp e5
      rw [show ((0 : Int32)).toInt = 0 from rfl] at this
      exact this
    have gp : 0 < (bw h aw c b).toInt := by
      have := Int32.lt_iff_toInt_lt.mp e3
      rw [show ((0 : Int32)).toInt = 0 from rfl] at this
      exact this
    -- the next most is one of the bids, so it is 999 at most
    have g9 : ∀ j, j ≤ nb → (pS (bw h aw c) b j).toInt ≤ 999 := by
      intro j
      induction j with
      | zero => intro _; exact (show ((0 : Int32)).toInt ≤ 999 by decide)
      | succ j ih =>
        intro hj
        rw [pS]
        repeat' split
        · exact ih (by omega)
        · exact ih (by omega)
        · exact bw_le (c := c) w aw (by omega)
    have g9' := g9 nb (Nat.le_refl _)
    have es : (pS (bw h aw c) b nb + 1).toInt = (pS (bw h aw c) b nb).toInt + 1 := by
      rw [toInt_addR (by rw [show ((1 : Int32)).toInt = 1 from rfl]; omega) (by rw [show ((1 : Int32)).toInt = 1 from rfl]; omega), show ((1 : Int32)).toInt = 1 from rfl]
    have hp : 1 ≤ (prc h nb aw c b).toInt ∧ (prc h nb aw c b).toInt ≤ 999 ∧ (prc h nb aw c b).toInt ≤ (h 8 b).toInt := by
      unfold prc
      split
      · omega
      next q =>
        rw [Int32.le_iff_toInt_le, es] at q
        rw [es]
        omega
    obtain ⟨p, hp9, ep⟩ := inR_nI (x := prc h nb aw c b) (b := 999) ⟨by omega, by omega⟩ (by omega)
    rw [ep, nI_toInt (by omega)] at hp
    refine ⟨b, p, hb, by unfold win; rw [hG, e1], by omega, by omega, by omega, ep, e3, ?_⟩
    have em : mn (bw h aw c b) (pS (bw h aw c) b nb + 1) = nI p := by
      rw [← ep]
      unfold mn prc
      by_cases q : bw h aw c b ≤ pS (bw h aw c) b nb + 1
      · rw [if_pos q, if_neg]
        rw [Int32.le_iff_toInt_le] at q
        rw [Int32.lt_iff_toInt_lt]
        omega
      · rw [if_neg q, if_pos (nle_lt q)]
    rw [hD, e1, if_pos (nI_pos' (by omega)), e2, e4, em, show (1000 : Int32) = nI 1000 from rfl, pk_mul, nI_add, Nat.mul_comm]
theorem deal_div {b p : Nat} (hb : b < 6) (hp : p ≤ 999) : nI (1000 * b + p) / (1000 : Int32) = nI b ∧ nI (1000 * b + p) - nI (1000 * b + p) / (1000 : Int32) * (1000 : Int32) = nI p := by
  rw [show (1000 : Int32) = nI 1000 from rfl, pk_rem (by omega) (by omega) (by omega), pk_div (by omega) (by omega) (by omega)]
  exact ⟨congrArg nI (by omega), congrArg nI (by omega)⟩
/-- the check: a bid -/
theorem bidNow_M {h t : HS} {nc nb c b : Nat} (w : WF h nc nb) (r : rel h t) (hc : c < nc) (hb : b < nb) : f_X2_bidNow (nI b) (nI c) t = some (bw h (t 29 0) c b) := by
  unfold f_X2_bidNow f_X2_has bw
  rw [bid_M w r hc hb]
  by_cases q : (((t 29 0) >>> (nI b &&& 31)) &&& (1 : Int32)) = (1 : Int32)
  · rw [if_pos q, if_pos q, if_neg (by decide)]
  · rw [if_neg q, if_neg q, if_pos rfl]; rfl
theorem getter_loop {h t : HS} {nc nb c : Nat} (w : WF h nc nb) (r : rel h t) (hc : c < nc) (K : Int32 → Option Int32) : ∀ (k i n : Nat), i + k = nb → k < n → L_X2_getter_5 (nI c) t K n (gS (bw h (t 29 0) c) i) (nI i) = K (gS (bw h (t 29 0) c) nb)
  | 0, i, n + 1, hi, _ => by
    have : i = nb := by omega
    subst this
    have h6 := w.nb6
    have r21 : t 21 = h 11 := r 21 rfl
    rw [L_X2_getter_5, r21, w.b, if_pos (nI_le (Nat.le_refl _) (by omega))]
  | k + 1, i, n + 1, hi, hn => by
    have h6 := w.nb6
    have r21 : t 21 = h 11 := r 21 rfl
    have ih := getter_loop w r hc K k (i + 1) n (by omega) (by omega)
    rw [L_X2_getter_5, r21, w.b, if_neg (nI_ge (by omega) (by omega)), bidNow_M w r hc (by omega), ← ih, Option.bind_some, nI_1]
    obtain ⟨hI, hG⟩ := dS_inv (bw h (t 29 0) c) i (by omega)
    have eg : gS (bw h (t 29 0) c) (i + 1) = if 0 ≤ gS (bw h (t 29 0) c) i then (if bw h (t 29 0) c i ≤ bw h (t 29 0) c (gS (bw h (t 29 0) c) i).toNatClampNeg then gS (bw h (t 29 0) c) i else nI i) else if bw h (t 29 0) c i ≤ 0 then gS (bw h (t 29 0) c) i else nI i := by rw [gS]
    rw [eg]
    rcases hI with ⟨e, -, -⟩ | ⟨b, hb, e1, -⟩
    · have e9 : gS (bw h (t 29 0) c) i = -9 := by rw [hG, e]
      rw [e9, if_neg (show ¬ (0 : Int32) ≤ -9 by decide), if_neg (show ¬ (0 : Int32) ≤ -9 by decide)]
      by_cases q : bw h (t 29 0) c i ≤ 0
      · rw [if_pos q, if_pos q]
      · rw [if_neg q, if_neg q]
    · have e9 : gS (bw h (t 29 0) c) i = nI b := by rw [hG, e1]
      rw [e9, if_pos (nI_pos' (by omega)), if_pos (nI_pos' (by omega)), nI_clamp (by omega), bidNow_M w r hc (by omega), Option.bind_some]
      by_cases q : bw h (t 29 0) c i ≤ bw h (t 29 0) c b
      · rw [if_pos q, if_pos q]
      · rw [if_neg q, if_neg q]
theorem getter_M {h t : HS} {nc nb c : Nat} (w : WF h nc nb) (r : rel h t) (hc : c < nc) : f_X2_getter (nI c) t = some (win h nb (t 29 0) c) := by
  have h6 := w.nb6
  unfold f_X2_getter
  simp only [jnE]
  have hl := getter_loop w r hc (fun x => some x) nb 0 fuel (by omega) (by unfold fuel; omega)
  refine Eq.trans hl ?_
  unfold win
  rfl
theorem price_loop {h t : HS} {nc nb c b : Nat} (w : WF h nc nb) (r : rel h t) (hc : c < nc) (hb : b < nb) (K : Int32 → Option Int32) : ∀ (k i n : Nat), i + k = nb → k < n → L_X2_priceFor_5 (nI b) (nI c) t K n (pS (bw h (t 29 0) c) b i) (nI i) = K (pS (bw h (t 29 0) c) b nb)
  | 0, i, n + 1, hi, _ => by
    have : i = nb := by omega
    subst this
    have h6 := w.nb6
    have r21 : t 21 = h 11 := r 21 rfl
    rw [L_X2_priceFor_5, r21, w.b, if_pos (nI_le (Nat.le_refl _) (by omega))]
  | k + 1, i, n + 1, hi, hn => by
    have h6 := w.nb6
    have r21 : t 21 = h 11 := r 21 rfl
    have ih := price_loop w r hc hb K k (i + 1) n (by omega) (by omega)
    rw [L_X2_priceFor_5, r21, w.b, if_neg (nI_ge (by omega) (by omega)), bidNow_M w r hc (by omega), ← ih, Option.bind_some, Option.bind_some, nI_1, pS]
    by_cases q : i = b
    · rw [if_pos q, if_pos (by rw [q])]
    · rw [if_neg q, if_neg (fun z => q ((nI_eq (by omega) (by omega)).mp z))]
      by_cases q2 : bw h (t 29 0) c i ≤ pS (bw h (t 29 0) c) b i
      · rw [if_pos q2, if_pos q2]
      · rw [if_neg q2, if_neg q2]
theorem price_M {h t : HS} {nc nb c b : Nat} (w : WF h nc nb) (r : rel h t) (hc : c < nc) (hb : b < nb) : f_X2_priceFor (nI b) (nI c) t = some (prc h nb (t 29 0) c b) := by
  have h6 := w.nb6
  have hl := price_loop w r hc hb (fun (j3_49 : Int32) => (f_X2_bidNow (nI b) (nI c) t).bind fun v1 => if v1 ≤ (j3_49 + (1 : Int32)) then (f_X2_bidNow (nI b) (nI c) t).bind fun v3 => some v3 else some (j3_49 + (1 : Int32))) nb 0 fuel (by omega) (by unfold fuel; omega)
  unfold f_X2_priceFor
  simp only [jnE]
  refine Eq.trans hl ?_
  rw [bidNow_M w r hc hb, Option.bind_some, Option.bind_some]
  unfold prc
  by_cases q2 : bw h (t 29 0) c b ≤ pS (bw h (t 29 0) c) b nb + 1
  · rw [if_pos q2, if_pos q2]
  · rw [if_neg q2, if_neg q2]
