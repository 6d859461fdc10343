/-! worth, bids -/
def wo (h : HS) (c : Nat) : Int32 := f_X0_worth (nI c) h
def bd (h : HS) (c b : Nat) : Int32 := f_X0_most (nI b) (nI c) (wo h c) h
theorem quo3 {x : Int32} (h : inR 0 99 x) : inR 0 33 (x / 3) := by
  obtain ⟨k, hk, rfl⟩ := inR_nI (b := 99) h (by omega)
  rw [show (3 : Int32) = nI 3 from rfl, pk_div (by omega) (by omega) (by omega)]
  exact nI_inR (b := 33) (by omega) (by omega)
theorem quo2 {x : Int32} {b : Nat} (h : inR 0 b x) (hb : b < 2 ^ 30) : inR 0 (b / 2 : Nat) (x / 2) := by
  obtain ⟨k, hk, rfl⟩ := inR_nI (b := b) h (by omega)
  rw [show (2 : Int32) = nI 2 from rfl, pk_div (by omega) (by omega) (by omega)]
  exact nI_inR (by omega) (by omega)
theorem quo4 {x : Int32} {b : Nat} (h : inR 0 b x) (hb : b < 2 ^ 30) : inR 0 (b / 4 : Nat) (x / 4) := by
  obtain ⟨k, hk, rfl⟩ := inR_nI (b := b) h (by omega)
  rw [show (4 : Int32) = nI 4 from rfl, pk_div (by omega) (by omega) (by omega)]
  exact nI_inR (by omega) (by omega)
theorem mx0_le {a b : Int32} (ha : inR 0 1000 a) (hb : inR 0 1000 b) (h : a ≤ b) : mx 0 (a - b) = 0 := by
  unfold mx
  rw [if_neg]
  rw [Int32.lt_iff_toInt_lt, toInt_subR (by have := ha.1; have := hb.2; omega) (by have := ha.2; have := hb.1; omega), show ((0 : Int32)).toInt = 0 from rfl]
  have := Int32.le_iff_toInt_le.mp h
  omega
theorem mx0_gt {a b : Int32} (ha : inR 0 1000 a) (hb : inR 0 1000 b) (h : ¬ a ≤ b) : mx 0 (a - b) = a - b := by
  unfold mx
  rw [if_pos]
  rw [Int32.lt_iff_toInt_lt, toInt_subR (by have := ha.1; have := hb.2; omega) (by have := ha.2; have := hb.1; omega), show ((0 : Int32)).toInt = 0 from rfl]
  rw [Int32.le_iff_toInt_le] at h
  omega
theorem add3 {x : Int32} (h : inR 0 9 x) : inR 3 12 (x + 3) := by
  unfold inR at *
  rw [toInt_addR (by rw [show ((3 : Int32)).toInt = 3 from rfl]; omega) (by rw [show ((3 : Int32)).toInt = 3 from rfl]; omega), show ((3 : Int32)).toInt = 3 from rfl]
  omega
theorem inR.mono {a b c d : Int} {x : Int32} (h : inR a b x) (h1 : c ≤ a) (h2 : b ≤ d) : inR c d x := ⟨by have := h.1; omega, by have := h.2; omega⟩
/-- worth is from 0 to 48 -/
theorem wo_in {h : HS} {nc nb c : Nat} (w : WF h nc nb) (hc : c < nc) : inR 0 48 (wo h c) := by
  have h8 := w.nc8
  have e1 := add3 (w.fig hc)
  have e2 := quo3 (w.age hc)
  unfold wo f_X0_worth
  simp only [atv_nI _ (show c < 8 by omega) (show 8 < 2 ^ 31 by omega)]
  have e3 : inR 0 12 (mx 0 (h 1 c + 3 - h 3 c / 3)) := by
    by_cases q : h 1 c + 3 ≤ h 3 c / 3
    · rw [mx0_le (e1.mono (by omega) (by omega)) (e2.mono (by omega) (by omega)) q]; exact ⟨by decide, by decide⟩
    · rw [mx0_gt (e1.mono (by omega) (by omega)) (e2.mono (by omega) (by omega)) q]
      unfold inR at *
      rw [Int32.le_iff_toInt_le] at q
      rw [toInt_subR (by omega) (by omega)]
      omega
  have e4 : inR 0 48 (4 * (h 1 c + 3)) := by
    unfold inR at *
    rw [toInt_mulR (by rw [show ((4 : Int32)).toInt = 4 from rfl]; omega) (by rw [show ((4 : Int32)).toInt = 4 from rfl]; omega), show ((4 : Int32)).toInt = 4 from rfl]
    omega
  have e5 := quo2 (b := 12) (e1.mono (by omega) (Int.le_refl _)) (by omega)
  have e6 := quo2 (b := 12) e3 (by omega)
  repeat' split
  · exact e5.mono (by omega) (by omega)
  · exact e4
  · exact e3.mono (by omega) (by omega)
  · exact ⟨by decide, by decide⟩
  · exact e6.mono (by omega) (by omega)
  · exact e1.mono (by omega) (by omega)
/-- worth: the check's is the class's -/
theorem worth_M {h t : HS} {nc nb c : Nat} (w : WF h nc nb) (r : rel h t) (hc : c < nc) : f_X2_worth (nI c) t = some (wo h c) := by
  have h8 := w.nc8
  have e1 := add3 (w.fig hc)
  have e2 := quo3 (w.age hc)
  unfold wo f_X0_worth f_X2_worth
  have r1 : t 1 = h 0 := r 1 rfl
  have r2 : t 2 = h 1 := r 2 rfl
  have r4 : t 4 = h 3 := r 4 rfl
  simp only [atv_nI _ (show c < 8 by omega) (show 8 < 2 ^ 31 by omega), rd_nI _ (show c < 8 by omega) (show 8 < 2 ^ 31 by omega), Option.bind_some, r1, r2, r4]
  by_cases q : h 1 c + 3 ≤ h 3 c / 3
  · rw [if_pos q, mx0_le (e1.mono (by omega) (by omega)) (e2.mono (by omega) (by omega)) q]
    repeat' split
    all_goals rfl
  · rw [if_neg q, mx0_gt (e1.mono (by omega) (by omega)) (e2.mono (by omega) (by omega)) q]
    repeat' split
    all_goals rfl
theorem mx0_sub3 (x : Int32) (h : inR 0 1000 x) : mx 0 (x - 3) = if x ≤ 3 then 0 else x - 3 := by
  by_cases q : x ≤ 3
  · rw [if_pos q]; exact mx0_le h ⟨by decide, by decide⟩ q
  · rw [if_neg q]; exact mx0_gt h ⟨by decide, by decide⟩ q
/-- what one likes, ahead of his purse -/
theorem bid_M {h t : HS} {nc nb c b : Nat} (w : WF h nc nb) (r : rel h t) (hc : c < nc) (hb : b < nb) : f_X2_bidOf (nI b) (nI c) t = some (bd h c b) := by
  have h8 := w.nc8
  have h6 := w.nb6
  have r3 : t 3 = h 2 := r 3 rfl
  have r7 : t 7 = h 6 := r 7 rfl
  have r8 : t 8 = h 7 := r 8 rfl
  have r9 : t 9 = h 8 := r 9 rfl
  have r10 : t 10 = h 9 := r 10 rfl
  have hw := wo_in w hc
  have hf := w.bfig hb
  obtain ⟨tl, htl, etl⟩ := inR_nI (b := 5) (w.tel hc) (by omega)
  have eW := worth_M w r hc
  have hsum : inR 0 1000 (wo h c + h 7 b) := by
    unfold inR at *
    rw [toInt_addR (by omega) (by omega)]
    omega
  have hhalf := (quo2 (b := 48) hw (by omega)).mono (c := 0) (d := 1000) (by omega) (by omega)
  have ag : f_X2_isAgainst (nI b) (nI c) t = some (if h 2 c = nI b then 0 else if f_X0_hasBidder (h 2 c) h = 0 then 0 else if h 9 tl ≤ h 9 b then 0 else 1) := by
    unfold f_X2_isAgainst
    simp only [rd_nI _ (show c < 8 by omega) (show 8 < 2 ^ 31 by omega), rd_nI _ (show b < 6 by omega) (show 6 < 2 ^ 31 by omega), rd_nI _ (show tl < 6 by omega) (show 6 < 2 ^ 31 by omega), Option.bind_some, r3, r10, isBidder_eq r, etl]
    repeat' split
    all_goals rfl
  have main : (f_X2_likes (nI b) (nI c) t).bind (fun v => some (mn v (h 8 b))) = some (bd h c b) := by
    have eb : f_X2_worth (nI c) t = some (wo h c) := eW
    unfold f_X2_likes bd f_X0_most
    simp only [jnE]
    rw [r3, rd_nI (h 2) (show c < 8 by omega) (by omega), Option.bind_some, atv_nI (h 2) (show c < 8 by omega) (by omega), eb, ag, r7, r8, rd_nI (h 6) (show b < 6 by omega) (by omega), rd_nI (h 7) (show b < 6 by omega) (by omega), atv_nI (h 6) (show b < 6 by omega) (by omega), atv_nI (h 7) (show b < 6 by omega) (by omega), atv_nI (h 8) (show b < 6 by omega) (by omega), atv_nI (h 9) (show b < 6 by omega) (by omega)]
    simp only [Option.bind_some]
    by_cases q : h 2 c = nI b
    · rw [if_pos q, if_pos q, if_pos q, mx0_sub3 _ hsum]
      by_cases k1 : h 6 b = 1
      · rw [if_pos k1, if_pos k1]
        split <;> rfl
      · rw [if_neg k1, if_neg k1]
        by_cases k2 : h 6 b = 2
        · rw [if_pos k2, if_pos k2, if_pos rfl]; rfl
        · rw [if_neg k2, if_neg k2]
          by_cases k3 : h 6 b = 3
          · rw [if_pos k3, if_pos k3]; rfl
          · rw [if_neg k3, if_neg k3]
            by_cases k4 : h 6 b = 4
            · rw [if_pos k4, if_pos k4]; rfl
            · rw [if_neg k4, if_neg k4]
              by_cases k5 : h 6 b = 5
              · rw [if_pos k5, if_pos k5]; rfl
              · rw [if_neg k5, if_neg k5]; rfl
    · rw [if_neg q, if_neg q, if_neg q, mx0_sub3 _ hhalf]
      by_cases k1 : h 6 b = 1
      · rw [if_pos k1, if_pos k1]
        split <;> rfl
      · rw [if_neg k1, if_neg k1]
        by_cases k2 : h 6 b = 2
        · rw [if_pos k2, if_pos k2]
          by_cases e1 : f_X0_hasBidder (h 2 c) h = 0
          · rw [if_pos e1, if_pos e1, if_pos rfl]; rfl
          · rw [if_neg e1, if_neg e1, etl, atv_nI (h 9) (show tl < 6 by omega) (by omega)]
            by_cases e2 : h 9 tl ≤ h 9 b
            · rw [if_pos e2, if_pos e2, if_pos rfl]; rfl
            · rw [if_neg e2, if_neg e2, if_neg (by decide)]; rfl
        · rw [if_neg k2, if_neg k2]
          by_cases k3 : h 6 b = 3
          · rw [if_pos k3, if_pos k3]; rfl
          · rw [if_neg k3, if_neg k3]
            by_cases k4 : h 6 b = 4
            · rw [if_pos k4, if_pos k4]; rfl
            · rw [if_neg k4, if_neg k4]
              by_cases k5 : h 6 b = 5
              · rw [if_pos k5, if_pos k5]; rfl
              · rw [if_neg k5, if_neg k5]; rfl
  unfold f_X2_bidOf
  rw [← main]
  cases hl : f_X2_likes (nI b) (nI c) t with
  | none => rfl
  | some v =>
    simp only [rd_nI _ (show b < 6 by omega) (show 6 < 2 ^ 31 by omega), Option.bind_some, r9]
    unfold mn
    by_cases q : h 8 b ≤ v
    · rw [if_pos q]
      by_cases q2 : h 8 b < v
      · rw [if_pos q2]
      · rw [if_neg q2]
        have : v = h 8 b := by
          apply Int32.toInt_inj.mp
          rw [Int32.le_iff_toInt_le] at q
          rw [Int32.lt_iff_toInt_lt] at q2
          omega
        rw [this]
    · rw [if_neg q, if_neg]
      rw [Int32.le_iff_toInt_le] at q
      rw [Int32.lt_iff_toInt_lt]
      omega
theorem bd_le {h : HS} {nc nb c b : Nat} (w : WF h nc nb) (hb : b < nb) : (bd h c b).toInt ≤ (h 8 b).toInt := by
  have h6 := w.nb6
  have key : ∀ x y : Int32, (mn x y).toInt ≤ y.toInt := by
    intro x y
    unfold mn
    split
    · exact Int.le_refl _
    next q => rw [Int32.lt_iff_toInt_lt] at q; omega
  unfold bd f_X0_most
  simp only [atv_nI _ (show b < 6 by omega) (show 6 < 2 ^ 31 by omega), jnE]
  repeat' split
  all_goals exact key _ _
