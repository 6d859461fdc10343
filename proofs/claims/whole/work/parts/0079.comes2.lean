/-! the telling of a hall: what a statement does, in both -/
theorem comes_XM {x n k h t : HS} {nc bn lc s q : Nat} {cs : List Int32} (w : WF h nc bn) (r : rel h t) (ha29 : t 29 0 = 0) (hlc : lc ≤ 96) (hr : ∀ j, j < lc → inR 0 255 (x 0 j)) (hs : s < lc) (hb : body7 (x 0 s) cs) (hk : chk (x 0) lc (cs ++ [59]) (s + 1) = none) (hq : q < 47) (h12 : t 12 q = x 0 s) (ht : told (x 0) (x 0 s) (s + 1) (3 * q) (t 14)) : ∃ (rr : Int32) (h' t' : HS) (nc' nb' : Nat), (rr = 0 ∨ rr = 1) ∧ WF h' nc' nb' ∧ rel h' t' ∧ fr t t' ∧ f_X1_comes (nI s) x n h k = some (rr, h') ∧ f_X2_comes (nI q) t = some (rr, t') := by
  have h8 := w.nc8
  have h6 := w.nb6
  have len := chk_len _ _ (by omega) hk
  rw [List.length_append] at len
  have get := chk_get _ _ hk
  have lcs : 1 ≤ cs.length := by
    rcases hb with ⟨-, e⟩ | ⟨-, e⟩ | ⟨-, e⟩ | ⟨-, e⟩ | ⟨-, e⟩ | ⟨-, e⟩ | ⟨-, e⟩ <;> rw [e] <;> decide
  have l3 : s + 3 ≤ lc := by
    rw [show [(59 : Int32)].length = 1 from rfl] at len
    omega
  have p1 : nI s + 1 = nI (s + 1) := nI_1 s
  have p2 : nI s + 2 = nI (s + 2) := nI_add s 2
  have p3 : nI s + 3 = nI (s + 3) := nI_add s 3
  have N1 : f_X1_number (nI (s + 1)) 1 x n h k = some (vl (x 0) 1 0 (s + 1)) := number_X (i := s + 1) (d := 1) (by omega) (by omega)
  have N2 : f_X1_number (nI (s + 2)) 1 x n h k = some (vl (x 0) 1 0 (s + 2)) := number_X (i := s + 2) (d := 1) (by omega) (by omega)
  have A0 : atv 96 (x 0) (nI s) = x 0 s := atv_nI _ (by omega) (by omega)
  have A1 : atv 96 (x 0) (nI (s + 1)) = x 0 (s + 1) := atv_nI _ (by omega) (by omega)
  have e3 : (3 : Int32) * nI q = nI (3 * q) := by
    rw [show (3 : Int32) = nI 3 from rfl]; exact (Int32.ofNat_mul 3 q).symm
  have R12 : rd 48 (t 12) (nI q) = some (x 0 s) := by rw [rd_nI _ (by omega) (by omega), h12]
  have R0 : rd 144 (t 14) (nI (3 * q)) = some (t 14 (3 * q)) := rd_nI _ (by omega) (by omega)
  have R1 : rd 144 (t 14) (nI (3 * q + 1)) = some (t 14 (3 * q + 1)) := rd_nI _ (by omega) (by omega)
  have one : ∀ i, f_X1_fits (x 0 i) 48 = 1 → ∃ g, g < 10 ∧ vl (x 0) 1 0 i = nI g := fun i y => by
    obtain ⟨g, h1, h2⟩ := vl_in (a := x 0) 1 0 i (fun u hu => by rw [show i + u = i by omega]; exact y)
    exact ⟨g, by omega, h2⟩
  unfold f_X1_comes f_X2_comes
  rw [p1, p2, p3, N1, Option.bind_some, N2, Option.bind_some, A0, A1, R12, Option.bind_some, e3]
  rcases hb with ⟨e, rfl⟩ | ⟨e, rfl⟩ | ⟨e, rfl⟩ | ⟨e, rfl⟩ | ⟨e, rfl⟩ | ⟨e, rfl⟩ | ⟨e, rfl⟩
  · have l4 : s + 1 + 4 ≤ lc := len
    obtain ⟨v, hv, ev⟩ := inR_nI (b := 255) (hr (s + 1) (by omega)) (by omega)
    obtain ⟨g1, hg1, eg1⟩ := one (s + 2) (get 1 (by decide)).2
    obtain ⟨g2, hg2, eg2⟩ := one (s + 3) (get 2 (by decide)).2
    have N3 : f_X1_number (nI (s + 3)) 1 x n h k = some (vl (x 0) 1 0 (s + 3)) := number_X (i := s + 3) (d := 1) (by omega) (by omega)
    obtain ⟨t0, t1, t2⟩ := ht.1 e
    have t1' : t 14 (3 * q + 1) = vl (x 0) 1 0 (s + 2) := t1
    have t2' : t 14 (3 * q + 2) = vl (x 0) 1 0 (s + 3) := t2
    have kk : sIdx 6 ((x 0 (s + 1)).toUInt32 % 65536).toInt32 = f_X2_cardKind (x 0 (s + 1)) := by rw [ev]; exact kindCX v (by omega)
    have aX := addCard_X w (f_X2_cardKind (x 0 (s + 1))) (nI g1) (nI g2)
    obtain ⟨m0, m1⟩ := addCard_M (p := 3 * q) w r (by omega)
    rw [t2', eg2] at m0 m1
    rw [t0, t1', eg1] at m1
    rw [if_neg (show ¬ x 0 s = (98 : Int32) by rw [e]; decide), if_pos e, if_neg (show ¬ x 0 s = (98 : Int32) by rw [e]; decide), if_pos e, N3, Option.bind_some, kk, eg1, eg2, aX]
    by_cases z : nc = 8
    · rw [if_pos z, m0 (Or.inr z)]
      exact ⟨0, h, t, nc, bn, Or.inl rfl, w, r, fr.rf, nbw rfl (Or.inl rfl), nbw rfl (Or.inl rfl)⟩
    · rw [if_neg z]
      by_cases y : g2 < 6
      · obtain ⟨t', y1, y2, y3⟩ := m1 (show ¬ (6 : Int32) ≤ nI g2 from nI_ge (b := 6) y (by omega)) z
        rw [if_pos (show nI g2 < (6 : Int32) from nI_lt (b := 6) y (by omega)), y1]
        exact ⟨1, _, t', nc + 1, bn, Or.inr rfl, adC_WF w (by omega) (nI_inR (b := 9) (by omega) (by omega)) (nI_inR (b := 5) (by omega) (by omega)), y2, y3, nbw rfl (Or.inr rfl), nbw rfl (Or.inr rfl)⟩
      · rw [if_neg (show ¬ nI g2 < (6 : Int32) from nI_nlt (b := 6) (by omega) (by omega)), m0 (Or.inl (show (6 : Int32) ≤ nI g2 from nI_le (a := 6) (by omega) (by omega)))]
        exact ⟨0, h, t, nc, bn, Or.inl rfl, w, r, fr.rf, nbw rfl (Or.inl rfl), nbw rfl (Or.inl rfl)⟩
  · have l4 : s + 1 + 6 ≤ lc := len
    obtain ⟨v, hv, ev⟩ := inR_nI (b := 255) (hr (s + 1) (by omega)) (by omega)
    obtain ⟨g1, hg1, eg1⟩ := one (s + 2) (get 1 (by decide)).2
    obtain ⟨g2, hg2, eg2⟩ := vl_in (a := x 0) 3 0 (s + 3) (fun u hu => by
      rcases (show u = 0 ∨ u = 1 ∨ u = 2 by omega) with y | y | y <;> subst y
      · exact (get 2 (by decide)).2
      · exact (get 3 (by decide)).2
      · exact (get 4 (by decide)).2)
    have eg2' : vl (x 0) 3 0 (s + 3) = nI g2 := eg2
    have N3 : f_X1_number (nI (s + 3)) 3 x n h k = some (vl (x 0) 3 0 (s + 3)) := number_X (i := s + 3) (d := 3) (by omega) (by omega)
    obtain ⟨t0, t1, t2⟩ := ht.2.1 e
    have t1' : t 14 (3 * q + 1) = vl (x 0) 1 0 (s + 2) := t1
    have t2' : t 14 (3 * q + 2) = vl (x 0) 3 0 (s + 3) := t2
    have kk : sIdx 7 ((x 0 (s + 1)).toUInt32 % 65536).toInt32 = f_X2_bidderKind (x 0 (s + 1)) := by rw [ev]; exact kindBX v (by omega)
    have aX := addBidder_X w (f_X2_bidderKind (x 0 (s + 1))) (nI g1) (nI g2)
    obtain ⟨m0, m1⟩ := addBidder_M (p := 3 * q) w r (by omega)
    rw [t0, t1', t2', eg1, eg2'] at m1
    rw [if_pos e, if_pos e, N3, Option.bind_some, kk, eg1, eg2', aX]
    by_cases z : bn = 6
    · rw [if_pos z, m0 z]
      exact ⟨0, h, t, nc, bn, Or.inl rfl, w, r, fr.rf, nbw rfl (Or.inl rfl), nbw rfl (Or.inl rfl)⟩
    · rw [if_neg z]
      obtain ⟨t', y1, y2, y3⟩ := m1 z
      rw [y1]
      exact ⟨1, _, t', nc, bn + 1, Or.inr rfl, adB_WF w (by omega) (nI_inR (b := 9) (by omega) (by omega)) (nI_inR (b := 999) (by omega) (by omega)), y2, y3, nbw rfl (Or.inr rfl), nbw rfl (Or.inr rfl)⟩
  · have l4 : s + 1 + 5 ≤ lc := len
    obtain ⟨g1, hg1, eg1⟩ := one (s + 1) (get 0 (by decide)).2
    obtain ⟨g2, hg2, eg2⟩ := vl_in (a := x 0) 3 0 (s + 2) (fun u hu => by
      rcases (show u = 0 ∨ u = 1 ∨ u = 2 by omega) with y | y | y <;> subst y
      · exact (get 1 (by decide)).2
      · exact (get 2 (by decide)).2
      · exact (get 3 (by decide)).2)
    have eg2' : vl (x 0) 3 0 (s + 2) = nI g2 := eg2
    have N3 : f_X1_number (nI (s + 2)) 3 x n h k = some (vl (x 0) 3 0 (s + 2)) := number_X (i := s + 2) (d := 3) (by omega) (by omega)
    obtain ⟨t0, t1⟩ := ht.2.2.1 e
    have t1' : t 14 (3 * q + 1) = vl (x 0) 3 0 (s + 2) := t1
    rw [if_neg (show ¬ x 0 s = (98 : Int32) by rw [e]; decide), if_neg (show ¬ x 0 s = (99 : Int32) by rw [e]; decide), if_neg (show ¬ x 0 s = (100 : Int32) by rw [e]; decide), if_neg (show ¬ x 0 s = (101 : Int32) by rw [e]; decide), if_neg (show ¬ x 0 s = (102 : Int32) by rw [e]; decide), if_neg (show ¬ x 0 s = (103 : Int32) by rw [e]; decide), if_neg (show ¬ x 0 s = (104 : Int32) by rw [e]; decide), if_neg (show ¬ x 0 s = (105 : Int32) by rw [e]; decide), if_neg (show ¬ x 0 s = (106 : Int32) by rw [e]; decide), if_neg (show ¬ x 0 s = (107 : Int32) by rw [e]; decide), if_neg (show ¬ x 0 s = (108 : Int32) by rw [e]; decide), if_neg (show ¬ x 0 s = (109 : Int32) by rw [e]; decide), if_neg (show ¬ x 0 s = (110 : Int32) by rw [e]; decide), if_neg (show ¬ x 0 s = (111 : Int32) by rw [e]; decide), if_pos e, if_neg (show ¬ x 0 s = (98 : Int32) by rw [e]; decide), if_neg (show ¬ x 0 s = (99 : Int32) by rw [e]; decide), if_neg (show ¬ x 0 s = (109 : Int32) by rw [e]; decide), if_pos e, N3, Option.bind_some, eg1, eg2', nI_1, R0, R1, t0, t1', eg1, eg2', Option.bind_some, isBidder_eq r]
    unfold f_X0_fillPurse
    rcases hasBidder_or w (nI g1) with ⟨b, hb, eb, eh⟩ | eh
    · rw [eh, if_neg N10, if_neg N10, eb, Option.bind_some, Option.bind_some, ptv_nI _ _ (by omega) (by omega), wr_nI _ _ (by omega) (by omega), Option.bind_some]
      simp only [jnE]
      rw [show t 9 = h 8 from r 9 rfl]
      exact ⟨1, _, _, nc, bn, Or.inr rfl, w.put8 hb (nI_inR (b := 999) (by omega) (by omega)), r.w8 _, fr.rf.put rfl, nbw rfl (Or.inr rfl), rfl⟩
    · rw [eh, if_pos rfl, if_pos rfl]
      exact ⟨0, h, t, nc, bn, Or.inl rfl, w, r, fr.rf, nbw rfl (Or.inl rfl), rfl⟩
  · have l4 : s + 1 + 3 ≤ lc := len
    obtain ⟨g1, hg1, eg1⟩ := one (s + 1) (get 0 (by decide)).2
    obtain ⟨g2, hg2, eg2⟩ := one (s + 2) (get 1 (by decide)).2
    obtain ⟨t0, t1⟩ := ht.2.2.2.1 (Or.inl e)
    have t1' : t 14 (3 * q + 1) = vl (x 0) 1 0 (s + 2) := t1
    rw [if_neg (show ¬ x 0 s = (98 : Int32) by rw [e]; decide), if_neg (show ¬ x 0 s = (99 : Int32) by rw [e]; decide), if_neg (show ¬ x 0 s = (100 : Int32) by rw [e]; decide), if_neg (show ¬ x 0 s = (101 : Int32) by rw [e]; decide), if_neg (show ¬ x 0 s = (102 : Int32) by rw [e]; decide), if_neg (show ¬ x 0 s = (103 : Int32) by rw [e]; decide), if_neg (show ¬ x 0 s = (104 : Int32) by rw [e]; decide), if_neg (show ¬ x 0 s = (105 : Int32) by rw [e]; decide), if_neg (show ¬ x 0 s = (106 : Int32) by rw [e]; decide), if_neg (show ¬ x 0 s = (107 : Int32) by rw [e]; decide), if_neg (show ¬ x 0 s = (108 : Int32) by rw [e]; decide), if_neg (show ¬ x 0 s = (109 : Int32) by rw [e]; decide), if_neg (show ¬ x 0 s = (110 : Int32) by rw [e]; decide), if_neg (show ¬ x 0 s = (111 : Int32) by rw [e]; decide), if_neg (show ¬ x 0 s = (112 : Int32) by rw [e]; decide), if_neg (show ¬ x 0 s = (113 : Int32) by rw [e]; decide), if_neg (show ¬ x 0 s = (114 : Int32) by rw [e]; decide), if_neg (show ¬ x 0 s = (115 : Int32) by rw [e]; decide), if_neg (show ¬ x 0 s = (116 : Int32) by rw [e]; decide), if_neg (show ¬ x 0 s = (117 : Int32) by rw [e]; decide), if_neg (show ¬ x 0 s = (118 : Int32) by rw [e]; decide), if_neg (show ¬ x 0 s = (119 : Int32) by rw [e]; decide), if_pos e, if_neg (show ¬ x 0 s = (98 : Int32) by rw [e]; decide), if_neg (show ¬ x 0 s = (99 : Int32) by rw [e]; decide), if_neg (show ¬ x 0 s = (109 : Int32) by rw [e]; decide), if_neg (show ¬ x 0 s = (112 : Int32) by rw [e]; decide), eg1, eg2, nI_1, Option.bind_some, R0, R1, t0, t1', eg1, eg2, Option.bind_some, Option.bind_some, e]
    have no : f_X0_changePlaces (nI g1) (nI g2) h = some (0, h) → f_X2_comesOf 120 (nI g1) (nI g2) t = some (0, t) → ∃ (rr : Int32) (h' t' : HS) (nc' nb' : Nat), (rr = 0 ∨ rr = 1) ∧ WF h' nc' nb' ∧ rel h' t' ∧ fr t t' ∧ ((f_X0_changePlaces (nI g1) (nI g2) h).bind fun v38 => nb v38.1 (some (v38.1, v38.2))) = some (rr, h') ∧ ((f_X2_comesOf 120 (nI g1) (nI g2) t).bind fun v19 => nb v19.1 (some (v19.1, v19.2))) = some (rr, t') := fun y1 y2 => by
      rw [y1, y2]
      exact ⟨0, h, t, nc, bn, Or.inl rfl, w, r, fr.rf, nbw rfl (Or.inl rfl), nbw rfl (Or.inl rfl)⟩
    by_cases c1 : g1 < nc
    · by_cases c2 : g2 < nc
      · by_cases c3 : g1 = g2
        · apply no
          · unfold f_X0_changePlaces
            rw [hasCard_nI w (by omega), if_pos c1, if_neg N10, hasCard_nI w (by omega), if_pos c2, if_neg N10, if_pos (congrArg nI c3)]
          · unfold f_X2_comesOf
            simp only [jnE, if_true]
            rw [isCard_eq r, hasCard_nI w (by omega), if_pos c1, if_neg N10, isCard_eq r, hasCard_nI w (by omega), if_pos c2, if_neg N10, if_pos (congrArg nI c3)]
        · obtain ⟨h', w', c4, -, c5⟩ := change_XM w c1 c2 c3
          obtain ⟨t', d1, d2, d3⟩ := c5 t r
          have m : f_X2_comesOf 120 (nI g1) (nI g2) t = some (1, t') := by
            unfold f_X2_comesOf
            simp only [jnE, if_true]
            rw [isCard_eq r, hasCard_nI w (by omega), if_pos c1, if_neg N10, isCard_eq r, hasCard_nI w (by omega), if_pos c2, if_neg N10, if_neg (fun y => c3 ((nI_eq (by omega) (by omega)).mp y)), if_neg (show ¬ (120 : Int32) = 103 by decide), d1]
            rfl
          rw [c4, m]
          exact ⟨1, h', t', nc, bn, Or.inr rfl, w', d2, d3, nbw rfl (Or.inr rfl), nbw rfl (Or.inr rfl)⟩
      · apply no
        · unfold f_X0_changePlaces
          rw [hasCard_nI w (by omega), if_pos c1, if_neg N10, hasCard_nI w (by omega), if_neg c2, if_pos rfl]
        · unfold f_X2_comesOf
          simp only [jnE, if_true]
          rw [isCard_eq r, hasCard_nI w (by omega), if_pos c1, if_neg N10, isCard_eq r, hasCard_nI w (by omega), if_neg c2, if_pos rfl]
    · apply no
      · unfold f_X0_changePlaces
        rw [hasCard_nI w (by omega), if_neg c1, if_pos rfl]
      · unfold f_X2_comesOf
        rw [isCard_eq r, hasCard_nI w (by omega), if_neg c1, if_pos rfl]
  · have l4 : s + 1 + 3 ≤ lc := len
    obtain ⟨g1, hg1, eg1⟩ := one (s + 1) (get 0 (by decide)).2
    obtain ⟨g2, hg2, eg2⟩ := one (s + 2) (get 1 (by decide)).2
    obtain ⟨t0, t1⟩ := ht.2.2.2.1 (Or.inr e)
    have t1' : t 14 (3 * q + 1) = vl (x 0) 1 0 (s + 2) := t1
    rw [if_neg (show ¬ x 0 s = (98 : Int32) by rw [e]; decide), if_neg (show ¬ x 0 s = (99 : Int32) by rw [e]; decide), if_neg (show ¬ x 0 s = (100 : Int32) by rw [e]; decide), if_neg (show ¬ x 0 s = (101 : Int32) by rw [e]; decide), if_neg (show ¬ x 0 s = (102 : Int32) by rw [e]; decide), if_pos e, if_neg (show ¬ x 0 s = (98 : Int32) by rw [e]; decide), if_neg (show ¬ x 0 s = (99 : Int32) by rw [e]; decide), if_neg (show ¬ x 0 s = (109 : Int32) by rw [e]; decide), if_neg (show ¬ x 0 s = (112 : Int32) by rw [e]; decide), eg1, eg2, nI_1, Option.bind_some, R0, R1, t0, t1', eg1, eg2, Option.bind_some, Option.bind_some, e]
    unfold f_X0_handTo f_X2_comesOf
    simp only [jnE, if_true]
    rw [isCard_eq r, isBidder_eq r, hasCard_nI w (by omega), hasBidder_nI w (by omega)]
    by_cases c1 : g1 < nc
    · rw [if_pos c1, if_neg N10, if_neg N10, if_neg (show ¬ (103 : Int32) = 120 by decide)]
      by_cases c2 : g2 < bn
      · have ehm : nI g2 + 1 = hm (nI g2) := by rw [hm_held (by omega), nI_1]
        rw [if_pos c2, if_neg N10, if_neg N10, if_neg (show ¬ (103 : Int32) = 120 by decide), ehm, ptv_nI _ _ (by omega) (by omega), wr_nI _ _ (by omega) (by omega), Option.bind_some]
        exact ⟨1, _, _, nc, bn, Or.inr rfl, w.put4 c1 (Or.inr ⟨g2, c2, rfl⟩), r.w4 w c1 (nI g2), fr.rf.put rfl, nbw rfl (Or.inr rfl), nbw rfl (Or.inr rfl)⟩
      · rw [if_neg c2, if_pos rfl, if_pos rfl]
        exact ⟨0, h, t, nc, bn, Or.inl rfl, w, r, fr.rf, nbw rfl (Or.inl rfl), nbw rfl (Or.inl rfl)⟩
    · rw [if_neg c1, if_pos rfl, if_pos rfl]
      exact ⟨0, h, t, nc, bn, Or.inl rfl, w, r, fr.rf, nbw rfl (Or.inl rfl), nbw rfl (Or.inl rfl)⟩
  · have l4 : s + 1 + 2 ≤ lc := len
    obtain ⟨g1, hg1, eg1⟩ := one (s + 1) (get 0 (by decide)).2
    have t0 := ht.2.2.2.2.1 e
    rw [if_neg (show ¬ x 0 s = (98 : Int32) by rw [e]; decide), if_neg (show ¬ x 0 s = (99 : Int32) by rw [e]; decide), if_neg (show ¬ x 0 s = (100 : Int32) by rw [e]; decide), if_neg (show ¬ x 0 s = (101 : Int32) by rw [e]; decide), if_neg (show ¬ x 0 s = (102 : Int32) by rw [e]; decide), if_neg (show ¬ x 0 s = (103 : Int32) by rw [e]; decide), if_neg (show ¬ x 0 s = (104 : Int32) by rw [e]; decide), if_neg (show ¬ x 0 s = (105 : Int32) by rw [e]; decide), if_neg (show ¬ x 0 s = (106 : Int32) by rw [e]; decide), if_neg (show ¬ x 0 s = (107 : Int32) by rw [e]; decide), if_neg (show ¬ x 0 s = (108 : Int32) by rw [e]; decide), if_neg (show ¬ x 0 s = (109 : Int32) by rw [e]; decide), if_neg (show ¬ x 0 s = (110 : Int32) by rw [e]; decide), if_neg (show ¬ x 0 s = (111 : Int32) by rw [e]; decide), if_neg (show ¬ x 0 s = (112 : Int32) by rw [e]; decide), if_neg (show ¬ x 0 s = (113 : Int32) by rw [e]; decide), if_pos e, if_neg (show ¬ x 0 s = (98 : Int32) by rw [e]; decide), if_neg (show ¬ x 0 s = (99 : Int32) by rw [e]; decide), if_neg (show ¬ x 0 s = (109 : Int32) by rw [e]; decide), if_neg (show ¬ x 0 s = (112 : Int32) by rw [e]; decide), eg1, nI_1, Option.bind_some, R0, R1, t0, eg1, Option.bind_some, Option.bind_some, e]
    unfold f_X0_layInPile f_X2_comesOf
    simp only [jnE]
    rw [isCard_eq r, hasCard_nI w (by omega)]
    by_cases c1 : g1 < nc
    · rw [if_pos c1, if_neg N10, if_neg N10, if_neg (show ¬ (114 : Int32) = 120 by decide), if_neg (show ¬ (114 : Int32) = 103 by decide), if_neg (show ¬ (114 : Int32) = 120 by decide), if_neg (show ¬ (114 : Int32) = 103 by decide), ptv_nI _ _ (by omega) (by omega), wr_nI _ _ (by omega) (by omega), Option.bind_some]
      exact ⟨1, _, _, nc, bn, Or.inr rfl, w.put4 c1 (Or.inl rfl), r.w4 w c1 (-9), fr.rf.put rfl, nbw rfl (Or.inr rfl), nbw rfl (Or.inr rfl)⟩
    · rw [if_neg c1, if_pos rfl, if_pos rfl]
      exact ⟨0, h, t, nc, bn, Or.inl rfl, w, r, fr.rf, nbw rfl (Or.inl rfl), nbw rfl (Or.inl rfl)⟩
  · have l4 : s + 1 + 3 ≤ lc := len
    obtain ⟨g1, hg1, eg1⟩ := vl_in (a := x 0) 2 0 (s + 1) (fun u hu => by
      rcases (show u = 0 ∨ u = 1 by omega) with y | y <;> subst y
      · exact (get 0 (by decide)).2
      · exact (get 1 (by decide)).2)
    have eg1' : vl (x 0) 2 0 (s + 1) = nI g1 := eg1
    have N3 : f_X1_number (nI (s + 1)) 2 x n h k = some (vl (x 0) 2 0 (s + 1)) := number_X (i := s + 1) (d := 2) (by omega) (by omega)
    have t0 := ht.2.2.2.2.2 e
    rw [if_neg (show ¬ x 0 s = (98 : Int32) by rw [e]; decide), if_neg (show ¬ x 0 s = (99 : Int32) by rw [e]; decide), if_neg (show ¬ x 0 s = (100 : Int32) by rw [e]; decide), if_neg (show ¬ x 0 s = (101 : Int32) by rw [e]; decide), if_neg (show ¬ x 0 s = (102 : Int32) by rw [e]; decide), if_neg (show ¬ x 0 s = (103 : Int32) by rw [e]; decide), if_neg (show ¬ x 0 s = (104 : Int32) by rw [e]; decide), if_neg (show ¬ x 0 s = (105 : Int32) by rw [e]; decide), if_neg (show ¬ x 0 s = (106 : Int32) by rw [e]; decide), if_neg (show ¬ x 0 s = (107 : Int32) by rw [e]; decide), if_neg (show ¬ x 0 s = (108 : Int32) by rw [e]; decide), if_pos e, if_neg (show ¬ x 0 s = (98 : Int32) by rw [e]; decide), if_neg (show ¬ x 0 s = (99 : Int32) by rw [e]; decide), if_pos e, N3, eg1', R0, t0, eg1']
    simp only [Option.bind_some]
    unfold f_X2_comesMonths
    rw [show t 22 = h 12 from r 22 rfl]
    by_cases c1 : 1 ≤ g1
    · by_cases c2 : g1 ≤ 60
      · have i1 : f_X2_isIn (nI g1) 1 60 = 1 := by
          unfold f_X2_isIn
          rw [if_neg (show ¬ nI g1 < (1 : Int32) from nI_nlt (b := 1) c1 (by omega)), if_neg (show ¬ (60 : Int32) < nI g1 from nI_nlt (a := 60) c2 (by omega))]
        rw [i1, if_neg N10]
        by_cases c3 : h 12 0 + nI g1 ≤ 999
        · have ht1 : f_X0_hasTimeFor (nI g1) h = 1 := by
            unfold f_X0_hasTimeFor
            rw [if_neg (show ¬ nI g1 < (1 : Int32) from nI_nlt (b := 1) c1 (by omega)), if_neg (show ¬ (60 : Int32) < nI g1 from nI_nlt (a := 60) c2 (by omega)), if_neg (fun y => lt_nle y c3)]
          obtain ⟨d, h', w', -, g, G⟩ := goOn_XM w c2
          obtain ⟨t', d1, d2, d3, -⟩ := G t r ha29
          rw [ht1, if_neg N10, g, Option.bind_some, if_pos c3, d1]
          exact ⟨1, h', t', nc, bn, Or.inr rfl, w', d2, d3, nb_ok (Or.inr rfl), nbw rfl (Or.inr rfl)⟩
        · have ht0 : f_X0_hasTimeFor (nI g1) h = 0 := by
            unfold f_X0_hasTimeFor
            rw [if_neg (show ¬ nI g1 < (1 : Int32) from nI_nlt (b := 1) c1 (by omega)), if_neg (show ¬ (60 : Int32) < nI g1 from nI_nlt (a := 60) c2 (by omega)), if_pos (nle_lt c3)]
          rw [ht0, if_pos rfl, if_neg c3]
          exact ⟨0, h, t, nc, bn, Or.inl rfl, w, r, fr.rf, nb_ok (Or.inl rfl), nbw rfl (Or.inl rfl)⟩
      · have i1 : f_X2_isIn (nI g1) 1 60 = 0 := by
          unfold f_X2_isIn
          rw [if_neg (show ¬ nI g1 < (1 : Int32) from nI_nlt (b := 1) c1 (by omega)), if_pos (show (60 : Int32) < nI g1 from nI_lt (a := 60) (by omega) (by omega))]
        have ht0 : f_X0_hasTimeFor (nI g1) h = 0 := by
          unfold f_X0_hasTimeFor
          rw [if_neg (show ¬ nI g1 < (1 : Int32) from nI_nlt (b := 1) c1 (by omega)), if_pos (show (60 : Int32) < nI g1 from nI_lt (a := 60) (by omega) (by omega))]
        rw [i1, if_pos rfl, ht0, if_pos rfl]
        exact ⟨0, h, t, nc, bn, Or.inl rfl, w, r, fr.rf, nb_ok (Or.inl rfl), nbw rfl (Or.inl rfl)⟩
    · have i1 : f_X2_isIn (nI g1) 1 60 = 0 := by
        unfold f_X2_isIn
        rw [if_pos (show nI g1 < (1 : Int32) from nI_lt (b := 1) (by omega) (by omega))]
      have ht0 : f_X0_hasTimeFor (nI g1) h = 0 := by
        unfold f_X0_hasTimeFor
        rw [if_pos (show nI g1 < (1 : Int32) from nI_lt (b := 1) (by omega) (by omega))]
      rw [i1, if_pos rfl, ht0, if_pos rfl]
      exact ⟨0, h, t, nc, bn, Or.inl rfl, w, r, fr.rf, nb_ok (Or.inl rfl), nbw rfl (Or.inl rfl)⟩
