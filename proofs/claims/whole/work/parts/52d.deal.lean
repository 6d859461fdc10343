theorem deal_div {b p : Nat} (hb : b < 6) (hp : p ≤ 999) : nI (1000 * b + p) / (1000 : Int32) = nI b ∧ nI (1000 * b + p) - nI (1000 * b + p) / (1000 : Int32) * (1000 : Int32) = nI p := by
  rw [show (1000 : Int32) = nI 1000 from rfl, pk_rem (by omega) (by omega) (by omega), pk_div (by omega) (by omega) (by omega)]
  exact ⟨congrArg nI (by omega), congrArg nI (by omega)⟩
/-- the check: a bid -/
theorem bidNow_M {h t : HS} {nc nb c b : Nat} (w : WF h nc nb) (r : rel h t) (hc : c < nc) (hb : b < nb) : f_X2_bidNow (nI b) (nI c) t = some (bw h (t 29 0) c b) := by
  unfold f_X2_bidNow f_X2_has bw
  rw [bid_M w r hc hb]
  by_cases q : (((t 29 0) >>> (nI b &&& 31)) &&& (1 : Int32)) = (1 : Int32)
  · rw [if_pos q, if_pos q, if_neg (by decide)]
  · rw [if_neg q, if_neg q, if_pos rfl]; rfl
