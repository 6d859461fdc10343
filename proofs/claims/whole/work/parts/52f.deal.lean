theorem price_loop {h t : HS} {nc nb c b : Nat} (w : WF h nc nb) (r : rel h t) (hc : c < nc) (hb : b < nb) (K : Int32 → Option Int32) : ∀ (k i n : Nat), i + k = nb → k < n → L_X2_priceFor_5 (nI b) (nI c) t K n (pS (bw h (t 29 0) c) b i) (nI i) = K (pS (bw h (t 29 0) c) b nb)
  | 0, i, n + 1, hi, _ => by
    have : i = nb := by omega
    subst this
    have h6 := w.nb6
    have r21 : t 21 = h 11 := r 21 rfl
    rw [L_X2_priceFor_5, r21, w.b, if_pos (nI_le (Nat.le_refl _) (by omega))]
  | k + 1, i, n + 1, hi, hn => by
    have h6 := w.nb6
    have r21 : t 21 = h 11 := r 21 rfl
    have ih := price_loop w r hc hb K k (i + 1) n (by omega) (by omega)
    rw [L_X2_priceFor_5, r21, w.b, if_neg (nI_ge (by omega) (by omega)), bidNow_M w r hc (by omega), ← ih, Option.bind_some, Option.bind_some, nI_1, pS]
    by_cases q : i = b
    · rw [if_pos q, if_pos (by rw [q])]
    · rw [if_neg q, if_neg (fun z => q ((nI_eq (by omega) (by omega)).mp z))]
      by_cases q2 : bw h (t 29 0) c i ≤ pS (bw h (t 29 0) c) b i
      · rw [if_pos q2, if_pos q2]
      · rw [if_neg q2, if_neg q2]
theorem price_M {h t : HS} {nc nb c b : Nat} (w : WF h nc nb) (r : rel h t) (hc : c < nc) (hb : b < nb) : f_X2_priceFor (nI b) (nI c) t = some (prc h nb (t 29 0) c b) := by
  have h6 := w.nb6
  have hl := price_loop w r hc hb (fun (j3_49 : Int32) => (f_X2_bidNow (nI b) (nI c) t).bind fun v1 => if v1 ≤ (j3_49 + (1 : Int32)) then (f_X2_bidNow (nI b) (nI c) t).bind fun v3 => some v3 else some (j3_49 + (1 : Int32))) nb 0 fuel (by omega) (by unfold fuel; omega)
  unfold f_X2_priceFor
  simp only [jn]
  refine Eq.trans hl ?_
  rw [bidNow_M w r hc hb, Option.bind_some, Option.bind_some]
  unfold prc
  by_cases q2 : bw h (t 29 0) c b ≤ pS (bw h (t 29 0) c) b nb + 1
  · rw [if_pos q2, if_pos q2]
  · rw [if_neg q2, if_neg q2]
