/-- the class's loop -/
theorem deal_loop {h : HS} {nc nb c : Nat} (w : WF h nc nb) (aw : Int32) (K : Int32 → Int32 → Int32 → Option Int32) : ∀ (k i n : Nat), i + k = nb → k < n → L_X0_deal_19 (nI c) aw h K n (wo h c) (dS (bw h aw c) i).1 (dS (bw h aw c) i).2.1 (dS (bw h aw c) i).2.2 (nI i) = K (dS (bw h aw c) nb).1 (dS (bw h aw c) nb).2.1 (dS (bw h aw c) nb).2.2
  | 0, i, n + 1, hi, _ => by
    have : i = nb := by omega
    subst this
    have h6 := w.nb6
    rw [L_X0_deal_19, w.b, if_pos (nI_le (Nat.le_refl _) (by omega))]
  | k + 1, i, n + 1, hi, hn => by
    have h6 := w.nb6
    rw [L_X0_deal_19, w.b, if_neg (nI_ge (by omega) (by omega)), nI_1]
    have ih := deal_loop (c := c) w aw K k (i + 1) n (by omega) (by omega)
    rw [← ih]
    have eb : bd h c i = f_X0_most (nI i) (nI c) (wo h c) h := rfl
    by_cases q : ((aw >>> (nI i &&& 31)) &&& (1 : Int32)) = (1 : Int32)
    · have eg : bw h aw c i = 0 := by unfold bw; rw [if_pos q]
      rw [if_pos q, dS, eg]
      by_cases e1 : 0 ≤ (dS (bw h aw c) i).1
      · rw [if_pos e1, if_pos e1]
        by_cases e2 : 0 ≤ (dS (bw h aw c) i).2.1
        · rw [if_pos e2, if_pos e2]
        · rw [if_neg e2, if_neg e2]
      · rw [if_neg e1, if_neg e1]
    · have eg : bw h aw c i = bd h c i := by unfold bw; rw [if_neg q]
      rw [if_neg q, dS, eg, eb]
      by_cases e1 : f_X0_most (nI i) (nI c) (wo h c) h ≤ (dS (bw h aw c) i).1
      · rw [if_pos e1, if_pos e1]
        by_cases e2 : f_X0_most (nI i) (nI c) (wo h c) h ≤ (dS (bw h aw c) i).2.1
        · rw [if_pos e2, if_pos e2]
        · rw [if_neg e2, if_neg e2]
      · rw [if_neg e1, if_neg e1]
