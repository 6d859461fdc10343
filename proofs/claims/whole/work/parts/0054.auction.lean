/-! an auction -/
theorem wo_st {h : HS} {k : Nat} {f : Nat → Int32} (c : Nat) (h0 : k ≠ 0) (h1 : k ≠ 1) (h3 : k ≠ 3) : f_X0_worth (nI c) (st h k f) = wo h c := by
  unfold wo f_X0_worth
  rw [st_ne (Ne.symm h0), st_ne (Ne.symm h1), st_ne (Ne.symm h3)]
/-- what the believed are behind an auction -/
noncomputable def auB (h : HS) (nb c b : Nat) : Nat → Int32 :=
  if h 2 c = nI b then upd (h 9) b (mn 99 (h 9 b + 2)) else if (h 2 c).toNatClampNeg < nb then upd (h 9) (h 2 c).toNatClampNeg (mx 0 (h 9 (h 2 c).toNatClampNeg - wo h c / 4 - 1)) else h 9
noncomputable def auS (h : HS) (nb c b p : Nat) : HS := st (st (st h 4 (upd (h 4) c (nI b))) 8 (upd (h 8) b (h 8 b - nI p))) 9 (auB h nb c b)
theorem auction_XM {h : HS} {nc nb c : Nat} (w : WF h nc nb) (hc : c < nc) :
    (f_X0_auction (nI c) h = some (0, h) ∧ win h nb 0 c = -9 ∧ ∀ t, rel h t → t 29 0 = 0 → f_X2_sellsOne (nI c) t = some (-9, t)) ∨
    ∃ b p : Nat, b < nb ∧ 1 ≤ p ∧ p ≤ 999 ∧ (p : Int) ≤ (h 8 b).toInt ∧ win h nb 0 c = nI b ∧ f_X0_auction (nI c) h = some (nI p, auS h nb c b p) ∧ WF (auS h nb c b p) nc nb ∧
      ∀ t, rel h t → t 29 0 = 0 → ∃ t', f_X2_sellsOne (nI c) t = some (nI b, t') ∧ rel (auS h nb c b p) t' ∧ fr t t' ∧ t' 16 = upd (t 16) b (t 16 b + nI p) := by
  have h8 := w.nc8
  have h6 := w.nb6
  rcases win_or w 0 c with ⟨e1, e2, -⟩ | ⟨b, p, hb, e1, hp1, hp9, hpu, epr, -, eD⟩
  · left
    refine ⟨?_, e1, fun t r ha => ?_⟩
    · unfold f_X0_auction
      rw [e2, Option.bind_some, if_neg (by decide)]
    · unfold f_X2_sellsOne
      rw [getter_M w r hc, ha, e1, Option.bind_some, if_neg (by decide)]
  · right
    obtain ⟨tl, htl, etl⟩ := inR_nI (b := 5) (w.tel hc) (by omega)
    obtain ⟨d1, d2⟩ := deal_div (b := b) (p := p) (by omega) hp9
    have hW := wo_in w hc
    have hpin : inR 0 999 (h 8 b - nI p) := by
      have := w.pur hb
      unfold inR at *
      rw [toInt_subR (by rw [nI_toInt (by omega)]; omega) (by rw [nI_toInt (by omega)]; omega), nI_toInt (by omega)]
      omega
    have hb2 : 0 ≤ (h 9 b + 2).toInt := by
      have := w.bel hb
      unfold inR at *
      rw [toInt_addR (by rw [show ((2 : Int32)).toInt = 2 from rfl]; omega) (by rw [show ((2 : Int32)).toInt = 2 from rfl]; omega), show ((2 : Int32)).toInt = 2 from rfl]
      omega
    have q4 := quo4 (b := 48) hW (by omega)
    have e99 : (99 : Int32) = nI 99 := rfl
    have etn : (h 2 c).toNatClampNeg = tl := by rw [etl, nI_clamp (by omega)]
    have hbt : tl < nb → (h 9 tl - wo h c / 4 - 1).toInt ≤ 99 ∧ h 9 tl - (wo h c / 4 + 1) = h 9 tl - wo h c / 4 - 1 := by
      intro ht
      have hx := w.bel ht
      have o1 : ((1 : Int32)).toInt = 1 := rfl
      unfold inR at *
      have s1 : (h 9 tl - wo h c / 4).toInt = (h 9 tl).toInt - (wo h c / 4).toInt := toInt_subR (by omega) (by omega)
      have s2 : (h 9 tl - wo h c / 4 - 1).toInt = (h 9 tl).toInt - (wo h c / 4).toInt - 1 := by
        rw [toInt_subR (by omega) (by omega), s1, o1]
      have s3 : (wo h c / 4 + 1).toInt = (wo h c / 4).toInt + 1 := by
        rw [toInt_addR (by omega) (by omega), o1]
      refine ⟨by rw [s2]; omega, ?_⟩
      apply Int32.toInt_inj.mp
      rw [s2, toInt_subR (by omega) (by omega), s3]
      omega
    have hBin : ∀ i, i < nb → inR 0 99 (auB h nb c b i) := by
      unfold auB
      split
      · exact upd_all (P := inR 0 99) (fun i hi => w.bel hi) (by rw [e99]; exact mn_in (m := 99) hb2 (by omega))
      · split
        next q =>
          rw [etn] at q ⊢
          exact upd_all (P := inR 0 99) (fun i hi => w.bel hi) (mx_in (hbt q).1 (by omega))
        · exact fun i hi => w.bel hi
    have hBz : ∀ i, nb ≤ i → auB h nb c b i = 0 := by
      unfold auB
      split
      · exact upd_zero hb (w.zb (by omega) (by omega))
      · split
        next q => exact upd_zero q (w.zb (by omega) (by omega))
        · exact w.zb (by omega) (by omega)
    have w1 := w.put4 hc (v := nI b) (Or.inr ⟨b, hb, rfl⟩)
    have w2 : WF (st (st h 4 (upd (h 4) c (nI b))) 8 (upd (h 8) b (h 8 b - nI p))) nc nb := w1.put8 hb hpin
    have w3 : WF (auS h nb c b p) nc nb := w2.set9 hBin hBz
    have n0 : (0 : Int32) ≤ nI (1000 * b + p) := nI_pos' (by omega)
    refine ⟨b, p, hb, hp1, hp9, hpu, e1, ?_, w3, fun t r ha => ?_⟩
    · unfold f_X0_auction auS auB
      rw [eD, Option.bind_some, if_pos n0]
      have d3 := d2
      rw [d1] at d3
      have g8 : ∀ f, st h 4 f 8 = h 8 := fun f => rfl
      have g9 : ∀ f g, st (st h 4 f) 8 g 9 = h 9 := fun f g => rfl
      simp only [jnE, d1, d3, g8, g9, atv_nI _ (show c < 8 by omega) (show 8 < 2 ^ 31 by omega), atv_nI _ (show b < 6 by omega) (show 6 < 2 ^ 31 by omega), ptv_nI _ _ (show c < 8 by omega) (show 8 < 2 ^ 31 by omega), ptv_nI _ _ (show b < 6 by omega) (show 6 < 2 ^ 31 by omega), etn]
      by_cases q : h 2 c = nI b
      · rw [if_pos q, if_pos q, q]
        simp only [atv_nI _ (show b < 6 by omega) (show 6 < 2 ^ 31 by omega), ptv_nI _ _ (show b < 6 by omega) (show 6 < 2 ^ 31 by omega)]
      · rw [if_neg q, if_neg q, etl, hasBidder_nI w2 (by omega)]
        by_cases q2 : tl < nb
        · rw [if_pos q2, if_pos q2, if_neg (by decide)]
          simp only [atv_nI _ (show tl < 6 by omega) (show 6 < 2 ^ 31 by omega), ptv_nI _ _ (show tl < 6 by omega) (show 6 < 2 ^ 31 by omega)]
          rw [wo_st c (by decide) (by decide) (by decide)]
          have : wo (st h 4 (upd (h 4) c (nI b))) c = wo h c := wo_st c (by decide) (by decide) (by decide)
          rw [this]
        · rw [if_neg q2, if_neg q2, if_pos rfl]
          rw [st_same (h := st (st h 4 (upd (h 4) c (nI b))) 8 (upd (h 8) b (h 8 b - nI p))) (k := 9) (f := h 9) rfl]
    · have r3 : t 3 = h 2 := r 3 rfl
      have r9 : t 9 = h 8 := r 9 rfl
      have r10 : t 10 = h 9 := r 10 rfl
      have x8 : ∀ f, rd 8 f (nI c) = some (f c) := fun f => rd_nI f (by omega) (by omega)
      have x6 : ∀ f, rd 6 f (nI b) = some (f b) := fun f => rd_nI f (by omega) (by omega)
      have y8 : ∀ f v, wr 8 f (nI c) v = some (upd f c v) := fun f v => wr_nI f v (by omega) (by omega)
      have y6 : ∀ f v, wr 6 f (nI b) v = some (upd f b v) := fun f v => wr_nI f v (by omega) (by omega)
      have z6 : ∀ f, rd 6 f (nI tl) = some (f tl) := fun f => rd_nI f (by omega) (by omega)
      have u6 : ∀ f v, wr 6 f (nI tl) v = some (upd f tl v) := fun f v => wr_nI f v (by omega) (by omega)
      have ehm : nI b + 1 = hm (nI b) := by rw [hm_held (by omega), nI_1]
      -- the states on the way
      have r1 : rel (st h 4 (upd (h 4) c (nI b))) (st t 5 (upd (t 5) c (hm (nI b)))) := r.w4 w hc (nI b)
      have r2 := r1.w8 (upd (h 8) b (h 8 b - nI p))
      -- the check writes in another order
      have ord : st (st (st t 9 (upd (h 8) b (h 8 b - nI p))) 16 (upd (t 16) b (t 16 b + nI p))) 5 (upd (t 5) c (hm (nI b))) = st (st (st t 5 (upd (t 5) c (hm (nI b)))) 9 (upd (h 8) b (h 8 b - nI p))) 16 (upd (t 16) b (t 16 b + nI p)) := by
        funext j
        by_cases q5 : j = 5
        · subst q5; rfl
        · by_cases q9 : j = 9
          · subst q9; rfl
          · by_cases q16 : j = 16
            · subst q16; rfl
            · rw [st_ne q5, st_ne q16, st_ne q9, st_ne q16, st_ne q9, st_ne q5]
      have r4 : rel (st (st h 4 (upd (h 4) c (nI b))) 8 (upd (h 8) b (h 8 b - nI p))) (st (st (st t 9 (upd (h 8) b (h 8 b - nI p))) 16 (upd (t 16) b (t 16 b + nI p))) 5 (upd (t 5) c (hm (nI b)))) := by
        rw [ord]; exact r2.same rfl
      have f4 : fr t (st (st (st t 9 (upd (h 8) b (h 8 b - nI p))) 16 (upd (t 16) b (t 16 b + nI p))) 5 (upd (t 5) c (hm (nI b)))) := ((fr.rf.put rfl).put16).put rfl
      have ew : f_X2_worth (nI c) t = some (wo h c) := worth_M w r hc
      have run : f_X2_sellsOne (nI c) t = some (nI b, st (st (st (st t 9 (upd (h 8) b (h 8 b - nI p))) 16 (upd (t 16) b (t 16 b + nI p))) 5 (upd (t 5) c (hm (nI b)))) 10 (auB h nb c b)) := by
        unfold f_X2_sellsOne auB
        rw [getter_M w r hc, ha, e1, Option.bind_some, if_pos (nI_pos' (by omega)), price_M w r hc hb, ha, epr, Option.bind_some, ew, Option.bind_some]
        rw [r9, x6, Option.bind_some, y6, Option.bind_some]
        simp only [jnE]
        rw [show (st t 9 (upd (h 8) b (h 8 b - nI p))) 16 = t 16 from rfl, x6, Option.bind_some, y6, Option.bind_some]
        rw [show (st (st t 9 (upd (h 8) b (h 8 b - nI p))) 16 (upd (t 16) b (t 16 b + nI p))) 5 = t 5 from rfl, y8, Option.bind_some, ehm]
        rw [show (st (st (st t 9 (upd (h 8) b (h 8 b - nI p))) 16 (upd (t 16) b (t 16 b + nI p))) 5 (upd (t 5) c (hm (nI b)))) 3 = h 2 from r3, x8, Option.bind_some]
        rw [show (st (st (st t 9 (upd (h 8) b (h 8 b - nI p))) 16 (upd (t 16) b (t 16 b + nI p))) 5 (upd (t 5) c (hm (nI b)))) 10 = h 9 from r10]
        by_cases q : h 2 c = nI b
        · rw [if_pos q, if_pos q, x6, Option.bind_some, y6, Option.bind_some, e99, held_up (m := 99) hb2 (by omega)]
        · rw [if_neg q, if_neg q, Option.bind_some, isBidder_eq r4, etl, hasBidder_nI w2 (by omega), nI_clamp (by omega)]
          by_cases q2 : tl < nb
          · rw [if_pos q2, if_pos q2, if_neg (by decide), Option.bind_some, Option.bind_some, z6, Option.bind_some, u6, Option.bind_some, (hbt q2).2, held_dn (hbt q2).1]
          · rw [if_neg q2, if_neg q2, if_pos rfl]
            rw [st_same (h := st (st (st t 9 (upd (h 8) b (h 8 b - nI p))) 16 (upd (t 16) b (t 16 b + nI p))) 5 (upd (t 5) c (hm (nI b)))) (k := 10) (f := h 9) r10]
      exact ⟨_, run, r4.w9 (auB h nb c b), f4.put rfl, rfl⟩
