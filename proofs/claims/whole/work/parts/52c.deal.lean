/-- the deal, in one: nobody, or the winner w and the price -/
noncomputable def win (h : HS) (nb : Nat) (aw : Int32) (c : Nat) : Int32 := gS (bw h aw c) nb
noncomputable def prc (h : HS) (nb : Nat) (aw : Int32) (c b : Nat) : Int32 := if bw h aw c b ≤ pS (bw h aw c) b nb + 1 then bw h aw c b else pS (bw h aw c) b nb + 1
theorem bw_or (h : HS) (aw : Int32) (c b : Nat) : bw h aw c b = 0 ∨ bw h aw c b = bd h c b := by
  unfold bw
  by_cases q : ((aw >>> (nI b &&& 31)) &&& (1 : Int32)) = (1 : Int32)
  · rw [if_pos q]; exact Or.inl rfl
  · rw [if_neg q]; exact Or.inr rfl
theorem bw_le {h : HS} {nc nb c b : Nat} (w : WF h nc nb) (aw : Int32) (hb : b < nb) : (bw h aw c b).toInt ≤ 999 := by
  have h1 := bd_le (c := c) w hb
  have h2 := (w.pur hb).2
  rcases bw_or h aw c b with e | e
  · rw [e, show ((0 : Int32)).toInt = 0 from rfl]; omega
  · rw [e]; omega
theorem bw_pur {h : HS} {nc nb c b : Nat} (w : WF h nc nb) (aw : Int32) (hb : b < nb) : (bw h aw c b).toInt ≤ (h 8 b).toInt := by
  have h1 := bd_le (c := c) w hb
  have h2 := (w.pur hb).1
  rcases bw_or h aw c b with e | e
  · rw [e, show ((0 : Int32)).toInt = 0 from rfl]; exact h2
  · rw [e]; exact h1
/-- either nobody bids, or there is a winner with a price from 1 to 999, his purse's at most -/
theorem win_or {h : HS} {nc nb : Nat} (w : WF h nc nb) (aw : Int32) (c : Nat) : (win h nb aw c = -9 ∧ f_X0_deal (nI c) aw h = some (-9) ∧ ∀ b, b < nb → bw h aw c b ≤ 0) ∨ ∃ b p : Nat, b < nb ∧ win h nb aw c = nI b ∧ 1 ≤ p ∧ p ≤ 999 ∧ (p : Int) ≤ (h 8 b).toInt ∧ prc h nb aw c b = nI p ∧ 0 < bw h aw c b ∧ f_X0_deal (nI c) aw h = some (nI (1000 * b + p)) := by
  have h6 := w.nb6
  obtain ⟨hI, hG⟩ := dS_inv (bw h aw c) nb (by omega)
  have hL := deal_loop (c := c) w aw (fun (j4_91 : Int32) (j5_91 : Int32) (j6_91 : Int32) => if 0 ≤ j6_91 then some ((j6_91 * (1000 : Int32)) + (mn j4_91 (j5_91 + (1 : Int32)))) else some (-9 : Int32)) nb 0 fuel (by omega) (by unfold fuel; omega)
  have hD : f_X0_deal (nI c) aw h = (if 0 ≤ (dS (bw h aw c) nb).2.2 then some (((dS (bw h aw c) nb).2.2 * (1000 : Int32)) + (mn (dS (bw h aw c) nb).1 ((dS (bw h aw c) nb).2.1 + (1 : Int32)))) else some (-9 : Int32)) := by
    have e : f_X0_deal (nI c) aw h = L_X0_deal_19 (nI c) aw h (fun (j4_91 : Int32) (j5_91 : Int32) (j6_91 : Int32) => if 0 ≤ j6_91 then some ((j6_91 * (1000 : Int32)) + (mn j4_91 (j5_91 + (1 : Int32)))) else some (-9 : Int32)) fuel (wo h c) 0 0 (-9) 0 := by
      unfold f_X0_deal wo
      simp only [jn]
    rw [e]
    have e2 : dS (bw h aw c) 0 = (0, 0, -9) := rfl
    rw [e2] at hL
    refine Eq.trans ?_ (hL.trans ?_)
    · exact congrArg (fun z => L_X0_deal_19 (nI c) aw h (fun (j4_91 : Int32) (j5_91 : Int32) (j6_91 : Int32) => if 0 ≤ j6_91 then some ((j6_91 * (1000 : Int32)) + (mn j4_91 (j5_91 + (1 : Int32)))) else some (-9 : Int32)) fuel (wo h c) 0 0 (-9) z) (show (0 : Int32) = nI 0 from rfl)
    · rfl
  rcases hI with ⟨e, hl, -⟩ | ⟨b, hb, e1, e2, e3, e4, e5, -⟩
  · left
    refine ⟨by unfold win; rw [hG, e], ?_, hl⟩
    rw [hD, e, if_neg (by decide)]
  · right
    have hle := bw_le (c := c) w aw hb
    have hpu := bw_pur (c := c) w aw hb
    rw [e4] at e5
    have hn1 : (pS (bw h aw c) b nb).toInt ≤ 999 ∨ 999 < (pS (bw h aw c) b nb).toInt := by omega
    have g0 : 0 ≤ (pS (bw h aw c) b nb).toInt := by
      have := Int32.le_iff_toInt_le.mp e5
      rw [show ((0 : Int32)).toInt = 0 from rfl] at this
      exact this
    have gp : 0 < (bw h aw c b).toInt := by
      have := Int32.lt_iff_toInt_lt.mp e3
      rw [show ((0 : Int32)).toInt = 0 from rfl] at this
      exact this
    -- the next most is one of the bids, so it is 999 at most
    have g9 : ∀ j, j ≤ nb → (pS (bw h aw c) b j).toInt ≤ 999 := by
      intro j
      induction j with
      | zero => intro _; exact (show ((0 : Int32)).toInt ≤ 999 by decide)
      | succ j ih =>
        intro hj
        rw [pS]
        repeat' split
        · exact ih (by omega)
        · exact ih (by omega)
        · exact bw_le (c := c) w aw (by omega)
    have g9' := g9 nb (Nat.le_refl _)
    have es : (pS (bw h aw c) b nb + 1).toInt = (pS (bw h aw c) b nb).toInt + 1 := by
      rw [toInt_addR (by rw [show ((1 : Int32)).toInt = 1 from rfl]; omega) (by rw [show ((1 : Int32)).toInt = 1 from rfl]; omega), show ((1 : Int32)).toInt = 1 from rfl]
    have hp : 1 ≤ (prc h nb aw c b).toInt ∧ (prc h nb aw c b).toInt ≤ 999 ∧ (prc h nb aw c b).toInt ≤ (h 8 b).toInt := by
      unfold prc
      split
      · omega
      next q =>
        rw [Int32.le_iff_toInt_le, es] at q
        rw [es]
        omega
    obtain ⟨p, hp9, ep⟩ := inR_nI (x := prc h nb aw c b) (b := 999) ⟨by omega, by omega⟩ (by omega)
    rw [ep, nI_toInt (by omega)] at hp
    refine ⟨b, p, hb, by unfold win; rw [hG, e1], by omega, by omega, by omega, ep, e3, ?_⟩
    have em : mn (bw h aw c b) (pS (bw h aw c) b nb + 1) = nI p := by
      rw [← ep]
      unfold mn prc
      by_cases q : bw h aw c b ≤ pS (bw h aw c) b nb + 1
      · rw [if_pos q, if_neg]
        rw [Int32.le_iff_toInt_le] at q
        rw [Int32.lt_iff_toInt_lt]
        omega
      · rw [if_neg q, if_pos (nle_lt q)]
    rw [hD, e1, if_pos (nI_pos' (by omega)), e2, e4, em, show (1000 : Int32) = nI 1000 from rfl, pk_mul, nI_add, Nat.mul_comm]
