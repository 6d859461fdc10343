/-! who gets a card, and for how much -/
def awb (aw : Int32) (b : Nat) : Prop := ((aw >>> (nI b &&& 31)) &&& (1 : Int32)) = (1 : Int32)
theorem awb_dec (aw : Int32) (b : Nat) : awb aw b ∨ ¬ awb aw b := Classical.em _
noncomputable def bw (h : HS) (aw : Int32) (c b : Nat) : Int32 := if ((aw >>> (nI b &&& 31)) &&& (1 : Int32)) = (1 : Int32) then 0 else bd h c b
def dS (g : Nat → Int32) : Nat → Int32 × Int32 × Int32
  | 0 => (0, 0, -9)
  | i + 1 => if g i ≤ (dS g i).1 then (if g i ≤ (dS g i).2.1 then dS g i else ((dS g i).1, g i, (dS g i).2.2)) else (g i, (dS g i).1, nI i)
def gS (g : Nat → Int32) : Nat → Int32
  | 0 => -9
  | i + 1 => if 0 ≤ gS g i then (if g i ≤ g (gS g i).toNatClampNeg then gS g i else nI i) else if g i ≤ 0 then gS g i else nI i
def pS (g : Nat → Int32) (b : Nat) : Nat → Int32
  | 0 => 0
  | j + 1 => if j = b then pS g b j else if g j ≤ pS g b j then pS g b j else g j
theorem le_tr {a b c : Int32} (h : a ≤ b) (h2 : b ≤ c) : a ≤ c := by
  rw [Int32.le_iff_toInt_le] at *; omega
theorem nle_lt {a b : Int32} (h : ¬ a ≤ b) : b < a := by
  rw [Int32.le_iff_toInt_le] at h; rw [Int32.lt_iff_toInt_lt]; omega
theorem lt_nle {a b : Int32} (h : b < a) : ¬ a ≤ b := by
  rw [Int32.lt_iff_toInt_lt] at h; rw [Int32.le_iff_toInt_le]; omega
theorem lt_le {a b : Int32} (h : a < b) : a ≤ b := by
  rw [Int32.lt_iff_toInt_lt] at h; rw [Int32.le_iff_toInt_le]; omega
theorem le_lt_tr {a b c : Int32} (h : a ≤ b) (h2 : b < c) : a < c := by
  rw [Int32.le_iff_toInt_le] at h; rw [Int32.lt_iff_toInt_lt] at *; omega
theorem nI_m9 {k : Nat} (hk : k < 2 ^ 31) : ¬ (nI k = -9) := by
  intro q
  have q2 := congrArg Int32.toInt q
  rw [nI_toInt hk] at q2
  rw [show ((-9 : Int32)).toInt = -9 from by decide] at q2
  omega
/-- what stands behind i bidders -/
theorem dS_inv (g : Nat → Int32) : ∀ i, i ≤ 100 → ((dS g i = (0, 0, -9) ∧ (∀ j, j < i → g j ≤ 0) ∧ ∀ b, i ≤ b → pS g b i = 0) ∨ ∃ w, w < i ∧ (dS g i).2.2 = nI w ∧ (dS g i).1 = g w ∧ 0 < g w ∧ (dS g i).2.1 = pS g w i ∧ 0 ≤ (dS g i).2.1 ∧ ∀ b, i ≤ b → pS g b i = g w) ∧ gS g i = (dS g i).2.2
  | 0, _ => ⟨Or.inl ⟨rfl, fun j h => absurd h (Nat.not_lt_zero j), fun _ _ => rfl⟩, rfl⟩
  | i + 1, hi => by
    obtain ⟨hI, hG⟩ := dS_inv g i (by omega)
    rcases hI with ⟨e, hl, hp⟩ | ⟨w, hw, e1, e2, e3, e4, e5, hp⟩
    · have hG9 : gS g i = -9 := by rw [hG, e]
      have hn : ¬ (0 : Int32) ≤ -9 := by decide
      by_cases q : g i ≤ 0
      · have eD : dS g (i + 1) = (0, 0, -9) := by
          rw [dS, e]; rw [if_pos q, if_pos q]
        refine ⟨Or.inl ⟨eD, fun j hj => ?_, fun b hb => ?_⟩, ?_⟩
        · rcases Nat.lt_succ_iff_lt_or_eq.mp hj with h | h
          · exact hl j h
          · rw [h]; exact q
        · rw [pS, if_neg (by omega), hp b (by omega), if_pos q]
        · rw [gS, hG9, if_neg hn, if_pos q, eD]
      · have eD : dS g (i + 1) = (g i, 0, nI i) := by
          rw [dS, e]; rw [if_neg q]
        refine ⟨Or.inr ⟨i, by omega, by rw [eD], by rw [eD], nle_lt q, ?_, by rw [eD]; exact (show (0 : Int32) ≤ 0 by decide), fun b hb => ?_⟩, ?_⟩
        · rw [eD, pS, if_pos rfl, hp i (Nat.le_refl i)]
        · rw [pS, if_neg (by omega), hp b (by omega), if_neg q]
        · rw [gS, hG9, if_neg hn, if_neg q, eD]
    · have hGw : gS g i = nI w := by rw [hG, e1]
      have h0 : (0 : Int32) ≤ nI w := nI_pos' (by omega)
      have hcl : (nI w).toNatClampNeg = w := nI_clamp (by omega)
      by_cases q : g i ≤ g w
      · have hGn : gS g (i + 1) = nI w := by rw [gS, hGw, if_pos h0, hcl, if_pos q]
        by_cases q2 : g i ≤ (dS g i).2.1
        · have eD : dS g (i + 1) = dS g i := by rw [dS, e2, if_pos q, if_pos q2]
          refine ⟨Or.inr ⟨w, by omega, by rw [eD, e1], by rw [eD, e2], e3, ?_, by rw [eD]; exact e5, fun b hb => ?_⟩, by rw [hGn, eD, e1]⟩
          · rw [eD, pS, if_neg (by omega), ← e4, if_pos q2]
          · rw [pS, if_neg (by omega), hp b (by omega), if_pos q]
        · have eD : dS g (i + 1) = (g w, g i, nI w) := by rw [dS, e2, if_pos q, if_neg q2, e1]
          refine ⟨Or.inr ⟨w, by omega, by rw [eD], by rw [eD], e3, ?_, by rw [eD]; exact lt_le (le_lt_tr e5 (nle_lt q2)), fun b hb => ?_⟩, by rw [hGn, eD]⟩
          · rw [eD, pS, if_neg (by omega), ← e4, if_neg q2]
          · rw [pS, if_neg (by omega), hp b (by omega), if_pos q]
      · have hGn : gS g (i + 1) = nI i := by rw [gS, hGw, if_pos h0, hcl, if_neg q]
        have eD : dS g (i + 1) = (g i, g w, nI i) := by rw [dS, e2, if_neg q]
        refine ⟨Or.inr ⟨i, by omega, by rw [eD], by rw [eD], le_lt_tr (lt_le e3) (nle_lt q), ?_, by rw [eD]; exact lt_le e3, fun b hb => ?_⟩, by rw [hGn, eD]⟩
        · rw [eD, pS, if_pos rfl, hp i (Nat.le_refl i)]
        · rw [pS, if_neg (by omega), hp b (by omega), if_neg q]
