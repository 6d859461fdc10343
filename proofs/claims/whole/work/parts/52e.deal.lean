theorem getter_loop {h t : HS} {nc nb c : Nat} (w : WF h nc nb) (r : rel h t) (hc : c < nc) (K : Int32 → Option Int32) : ∀ (k i n : Nat), i + k = nb → k < n → L_X2_getter_5 (nI c) t K n (gS (bw h (t 29 0) c) i) (nI i) = K (gS (bw h (t 29 0) c) nb)
  | 0, i, n + 1, hi, _ => by
    have : i = nb := by omega
    subst this
    have h6 := w.nb6
    have r21 : t 21 = h 11 := r 21 rfl
    rw [L_X2_getter_5, r21, w.b, if_pos (nI_le (Nat.le_refl _) (by omega))]
  | k + 1, i, n + 1, hi, hn => by
    have h6 := w.nb6
    have r21 : t 21 = h 11 := r 21 rfl
    have ih := getter_loop w r hc K k (i + 1) n (by omega) (by omega)
    rw [L_X2_getter_5, r21, w.b, if_neg (nI_ge (by omega) (by omega)), bidNow_M w r hc (by omega), ← ih, Option.bind_some, nI_1]
    obtain ⟨hI, hG⟩ := dS_inv (bw h (t 29 0) c) i (by omega)
    have eg : gS (bw h (t 29 0) c) (i + 1) = if 0 ≤ gS (bw h (t 29 0) c) i then (if bw h (t 29 0) c i ≤ bw h (t 29 0) c (gS (bw h (t 29 0) c) i).toNatClampNeg then gS (bw h (t 29 0) c) i else nI i) else if bw h (t 29 0) c i ≤ 0 then gS (bw h (t 29 0) c) i else nI i := by rw [gS]
    rw [eg]
    rcases hI with ⟨e, -, -⟩ | ⟨b, hb, e1, -⟩
    · have e9 : gS (bw h (t 29 0) c) i = -9 := by rw [hG, e]
      rw [e9, if_neg (show ¬ (0 : Int32) ≤ -9 by decide), if_neg (show ¬ (0 : Int32) ≤ -9 by decide)]
      by_cases q : bw h (t 29 0) c i ≤ 0
      · rw [if_pos q, if_pos q]
      · rw [if_neg q, if_neg q]
    · have e9 : gS (bw h (t 29 0) c) i = nI b := by rw [hG, e1]
      rw [e9, if_pos (nI_pos' (by omega)), if_pos (nI_pos' (by omega)), nI_clamp (by omega), bidNow_M w r hc (by omega), Option.bind_some]
      by_cases q : bw h (t 29 0) c i ≤ bw h (t 29 0) c b
      · rw [if_pos q, if_pos q]
      · rw [if_neg q, if_neg q]
theorem getter_M {h t : HS} {nc nb c : Nat} (w : WF h nc nb) (r : rel h t) (hc : c < nc) : f_X2_getter (nI c) t = some (win h nb (t 29 0) c) := by
  have h6 := w.nb6
  unfold f_X2_getter
  simp only [jn]
  have hl := getter_loop w r hc (fun x => some x) nb 0 fuel (by omega) (by unfold fuel; omega)
  refine Eq.trans hl ?_
  unfold win
  rfl
