/-! two who bid, or not -/
theorem gain_XM {h : HS} {nc nb c b : Nat} (w : WF h nc nb) (hc : c < nc) (hb : b < nb) (aw : Int32) : ∃ v, f_X0_gain (nI b) (nI c) aw h = some v ∧ ∀ t, rel h t → t 29 0 = aw → f_X2_endFor (nI b) (nI c) (win h nb aw c) t = some v := by
  have h8 := w.nc8
  have h6 := w.nb6
  unfold f_X0_gain f_X2_endFor
  rcases win_or w aw c with ⟨e1, e2, -⟩ | ⟨a, p, ha, e1, hp1, hp9, hpu, epr, -, eD⟩
  · refine ⟨0, ?_, fun t r e => ?_⟩
    · rw [e2, Option.bind_some, if_neg (by decide)]
    · rw [e1, if_neg (fun z => nI_m9 (by omega) z.symm), if_pos (by decide)]
  · obtain ⟨d1, d2⟩ := deal_div (b := a) (p := p) (by omega) hp9
    by_cases q : a = b
    · subst q
      refine ⟨wo h c - nI p, ?_, fun t r e => ?_⟩
      · rw [eD, Option.bind_some, if_pos (nI_pos' (by omega)), d2, d1, if_pos rfl]
        rfl
      · rw [e1, if_pos rfl, worth_M w r hc, Option.bind_some, price_M w r hc hb, e, epr, Option.bind_some]
    · have ne : ¬ nI a = nI b := fun z => q ((nI_eq (by omega) (by omega)).mp z)
      refine ⟨if h 2 c = nI b then -3 else 0, ?_, fun t r e => ?_⟩
      · rw [eD, Option.bind_some, if_pos (nI_pos' (by omega)), d2, d1, if_neg ne, atv_nI _ (by omega) (by omega)]
        by_cases z : h 2 c = nI b
        · rw [if_pos z, if_pos z]
        · rw [if_neg z, if_neg z]
      · have r3 : t 3 = h 2 := r 3 rfl
        rw [e1, if_neg ne, if_neg (nI_pos (by omega)), r3, rd_nI _ (by omega) (by omega), Option.bind_some]
        by_cases z : h 2 c = nI b
        · rw [if_pos z, if_pos z]
        · rw [if_neg z, if_neg z]
/-- who stays away, by the check's number of the pair -/
def awm (a b k : Nat) : Int32 := (((1 : Int32) - (nI k / (2 : Int32))) <<< (nI a &&& 31)) ||| (((1 : Int32) - (nI k - nI k / (2 : Int32) * (2 : Int32))) <<< (nI b &&& 31))
theorem awm_1 : ∀ a, a < 6 → ∀ b, b < 6 → ∀ o, o < 2 → ∀ p, p < 2 → (f_X1_away (nI a) (nI o)) ||| (f_X1_away (nI b) (nI p)) = awm a b (2 * o + p) := by decide +kernel
theorem awm_2 : ∀ a, a < 6 → ∀ b, b < 6 → a = b ∨ ∀ o, o < 2 → ∀ p, p < 2 → awm a b (2 * o + p) ^^^ ((1 : Int32) <<< (nI a &&& 31)) = awm a b (2 * (1 - o) + p) := by decide +kernel
theorem awm_3 : ∀ a, a < 6 → ∀ b, b < 6 → a = b ∨ ∀ o, o < 2 → ∀ p, p < 2 → awm a b (2 * o + p) ^^^ ((1 : Int32) <<< (nI b &&& 31)) = awm a b (2 * o + (1 - p)) := by decide +kernel
/-- one pair, tried by the class -/
theorem twoX_s {x n m k : HS} {a b c : Nat} (gA gB : Nat → Int32) (ha : a < 6) (hb : b < 6) (hab : ¬ a = b) (GA : ∀ j, j < 4 → f_X0_gain (nI a) (nI c) (awm a b j) n = some (gA j)) (GB : ∀ j, j < 4 → f_X0_gain (nI b) (nI c) (awm a b j) n = some (gB j)) (K : Int32 → HS → Option (Int32 × HS)) {o p : Nat} (ho : o < 2) (hp : p < 2) (n' : Nat) : L_X1_two_74 (nI a) (nI b) (nI c) n m k K (n' + 1) (nI o) (nI p) x = if gA (2 * o + p) < gA (2 * (1 - o) + p) ∨ gB (2 * o + p) < gB (2 * o + (1 - p)) then L_X1_two_74 (nI a) (nI b) (nI c) n m k K n' (nI o) (nI (p + 1)) x else some ((10 : Int32) * nI o + nI p, x) := by
  have e1 := awm_1 a ha b hb o ho p hp
  have e2 := (awm_2 a ha b hb).resolve_left hab o ho p hp
  have e3 := (awm_3 a ha b hb).resolve_left hab o ho p hp
  rw [L_X1_two_74, if_neg (show ¬ (1 : Int32) < nI p from nI_nlt (a := 1) (b := p) (by omega) (by omega)), e1, e2, e3, GA _ (by omega), Option.bind_some, GA _ (by omega), Option.bind_some]
  simp only [jnE]
  rw [nI_1, GB _ (by omega), Option.bind_some, GB _ (by omega), Option.bind_some]
  by_cases q : gA (2 * o + p) < gA (2 * (1 - o) + p)
  · rw [if_pos q, if_pos (Or.inl q)]
  · rw [if_neg q]
    by_cases z : gB (2 * o + p) < gB (2 * o + (1 - p))
    · rw [if_pos z, if_pos (Or.inr z)]
    · rw [if_neg z, if_neg (fun y => y.elim q z)]
/-- one pair, looked up by the check -/
theorem ends_s {h t : HS} {nc nb a b c : Nat} (gA gB : Nat → Int32) (w : WF h nc nb) (r : rel h t) (hc : c < nc) (GA : ∀ j, j < 4 → ∀ t, rel h t → t 29 0 = awm a b j → f_X2_endFor (nI a) (nI c) (win h nb (awm a b j) c) t = some (gA j)) (GB : ∀ j, j < 4 → ∀ t, rel h t → t 29 0 = awm a b j → f_X2_endFor (nI b) (nI c) (win h nb (awm a b j) c) t = some (gB j)) {j : Nat} (hj : j < 4) : ∃ t', rel h t' ∧ (∀ q, core q = false → q ≠ 17 → q ≠ 29 → t' q = t q) ∧ t' 17 = upd (upd (t 17) (2 * j) (gA j)) (2 * j + 1) (gB j) ∧ ∀ K n', L_X2_findEnds_3 (nI a) (nI b) (nI c) K (n' + 1) (nI j) t = L_X2_findEnds_3 (nI a) (nI b) (nI c) K n' (nI (j + 1)) t' := by
  have e2 : (2 : Int32) * nI j = nI (2 * j) := by
    rw [show (2 : Int32) = nI 2 from rfl]; exact (Int32.ofNat_mul 2 j).symm
  have r1 : rel h (st t 29 (fun _ => awm a b j)) := r.same rfl
  have r2 : rel h (st (st t 29 (fun _ => awm a b j)) 17 (upd (t 17) (2 * j) (gA j))) := r1.same rfl
  refine ⟨st (st (st t 29 (fun _ => awm a b j)) 17 (upd (t 17) (2 * j) (gA j))) 17 (upd (upd (t 17) (2 * j) (gA j)) (2 * j + 1) (gB j)), r2.same rfl, fun q _ h1 h2 => ?_, rfl, fun K n' => ?_⟩
  · rw [st_ne h1, st_ne h1, st_ne h2]
  · rw [L_X2_findEnds_3, if_neg (show ¬ (4 : Int32) ≤ nI j from nI_ge (b := 4) hj (by omega))]
    simp only [jnE]
    have g1 := getter_M w r1 hc
    rw [show (st t 29 (fun _ => awm a b j)) 29 0 = awm a b j from rfl] at g1
    have g1' : f_X2_getter (nI c) (st t 29 (fun _ => ((((1 : Int32) - (nI j / (2 : Int32))) <<< (nI a &&& 31)) ||| (((1 : Int32) - (nI j - nI j / (2 : Int32) * (2 : Int32))) <<< (nI b &&& 31))))) = some (win h nb (awm a b j) c) := g1
    have q1 := GA j hj _ r1 rfl
    have q1' : f_X2_endFor (nI a) (nI c) (win h nb (awm a b j) c) (st t 29 (fun _ => ((((1 : Int32) - (nI j / (2 : Int32))) <<< (nI a &&& 31)) ||| (((1 : Int32) - (nI j - nI j / (2 : Int32) * (2 : Int32))) <<< (nI b &&& 31))))) = some (gA j) := q1
    have q2 := GB j hj _ r2 rfl
    rw [g1', Option.bind_some, q1', Option.bind_some, e2, nI_1, nI_1, wr_nI _ _ (by omega) (by omega), Option.bind_some]
    have q2' : f_X2_endFor (nI b) (nI c) (win h nb (awm a b j) c) (st (st t 29 (fun _ => ((((1 : Int32) - (nI j / (2 : Int32))) <<< (nI a &&& 31)) ||| (((1 : Int32) - (nI j - nI j / (2 : Int32) * (2 : Int32))) <<< (nI b &&& 31))))) 17 (upd ((st t 29 (fun _ => ((((1 : Int32) - (nI j / (2 : Int32))) <<< (nI a &&& 31)) ||| (((1 : Int32) - (nI j - nI j / (2 : Int32) * (2 : Int32))) <<< (nI b &&& 31))))) 17) (2 * j) (gA j))) = some (gB j) := q2
    rw [q2', Option.bind_some, wr_nI _ _ (by omega) (by omega), Option.bind_some]
    rfl
/-- one pair, judged by the check -/
theorem twoM_s {t : HS} (j1 j2 j3 : Int32) (gA gB : Nat → Int32) (EA : ∀ j, j < 4 → t 17 (2 * j) = gA j) (EB : ∀ j, j < 4 → t 17 (2 * j + 1) = gB j) (K : HS → Option (Int32 × HS)) {j k2 k1 : Nat} (hj : j < 4) (h2 : k2 < 4) (h1 : k1 < 4) (e2 : nI j ^^^ (2 : Int32) = nI k2) (e1 : nI j ^^^ (1 : Int32) = nI k1) (n' : Nat) : L_X2_two_72 j1 j2 j3 K (n' + 1) (nI j) t = if gA j < gA k2 ∨ gB j < gB k1 then L_X2_two_72 j1 j2 j3 K n' (nI (j + 1)) t else some (((10 : Int32) * (nI j / (2 : Int32))) + (nI j - nI j / (2 : Int32) * (2 : Int32)), t) := by
  have m2 : ∀ j, (2 : Int32) * nI j = nI (2 * j) := fun j => by
    rw [show (2 : Int32) = nI 2 from rfl]; exact (Int32.ofNat_mul 2 j).symm
  rw [L_X2_two_72, if_neg (show ¬ (4 : Int32) ≤ nI j from nI_ge (b := 4) hj (by omega)), e2, e1, m2, m2, m2, nI_1, nI_1, nI_1, rd_nI _ (by omega) (by omega), rd_nI _ (by omega) (by omega), rd_nI _ (by omega) (by omega), rd_nI _ (by omega) (by omega), EA j hj, EA k2 h2, EB j hj, EB k1 h1]
  simp only [Option.bind_some]
  by_cases q : gA j < gA k2
  · rw [if_pos q, if_pos (Or.inl q)]
  · rw [if_neg q]
    by_cases z : gB j < gB k1
    · rw [if_pos z, if_pos (Or.inr z)]
    · rw [if_neg z, if_neg (fun y => y.elim q z)]
theorem two_XM {x n m k t : HS} (h : RR x n m k t) (a b c : Int32) : ∃ r x' t', f_X1_two a b c x n m k = some (r, x') ∧ f_X2_two a b c t = some (r, t') ∧ RR x' n m k t' := by
  obtain ⟨nc, nb, w, rl, wm, wk, hx⟩ := id h
  have h8 := w.nc8
  have h6 := w.nb6
  have rf : ∀ r j, j < 7 → -r = nI j → ∃ r' x' t', ((f_X1_refuse r x n m k).bind fun v => some (v.1, v.2)) = some (r', x') ∧ ((f_X2_no r t).bind fun v => some (v.1, v.2)) = some (r', t') ∧ RR x' n m k t' := fun r j hj hr => by
    obtain ⟨x', t', a, b', c⟩ := refX h r j hj hr
    exact ⟨_, x', t', by rw [a]; rfl, b', c⟩
  unfold f_X1_two f_X2_two
  simp only [jnE]
  rw [isBidder_eq rl, isBidder_eq rl, isCard_eq rl]
  rcases hasBidder_or w a with ⟨an, ha, rfl, e⟩ | e
  · rcases hasBidder_or w b with ⟨bn, hb, rfl, e'⟩ | e'
    · rw [e, e']
      simp only [iteN]
      by_cases hab : an = bn
      · rw [if_pos (congrArg nI hab), if_pos (congrArg nI hab)]
        exact rf (-1) 1 (by omega) (by decide)
      have hab' : ¬ nI an = nI bn := fun z => hab ((nI_eq (by omega) (by omega)).mp z)
      rw [if_neg hab', if_neg hab']
      rcases hasCard_or w c with ⟨cn, hc, rfl, e2⟩ | e2
      · have r5 : t 5 = mh n := rl 5 rfl
        rw [e2, if_neg N10, if_neg N10, r5, rd_nI _ (by omega) (by omega), Option.bind_some]
        by_cases p : n 4 cn = -9
        · rw [if_neg (fun z => (m9_pile w hc).mp z p), if_pos ((mh0 w hc).mpr p)]
          have GA := fun j => gain_XM w hc ha (awm an bn j)
          have GB := fun j => gain_XM w hc hb (awm an bn j)
          let gA : Nat → Int32 := fun j => Classical.choose (GA j)
          let gB : Nat → Int32 := fun j => Classical.choose (GB j)
          have A1 : ∀ j, j < 4 → f_X0_gain (nI an) (nI cn) (awm an bn j) n = some (gA j) := fun j _ => (Classical.choose_spec (GA j)).1
          have B1 : ∀ j, j < 4 → f_X0_gain (nI bn) (nI cn) (awm an bn j) n = some (gB j) := fun j _ => (Classical.choose_spec (GB j)).1
          have A2 : ∀ j, j < 4 → ∀ t, rel n t → t 29 0 = awm an bn j → f_X2_endFor (nI an) (nI cn) (win n nb (awm an bn j) cn) t = some (gA j) := fun j _ => (Classical.choose_spec (GA j)).2
          have B2 : ∀ j, j < 4 → ∀ t, rel n t → t 29 0 = awm an bn j → f_X2_endFor (nI bn) (nI cn) (win n nb (awm an bn j) cn) t = some (gB j) := fun j _ => (Classical.choose_spec (GB j)).2
          clear_value gA gB
          obtain ⟨t1, r1, o1, v1, s1⟩ := ends_s gA gB w rl hc A2 B2 (j := 0) (by omega)
          obtain ⟨t2, r2, o2, v2, s2⟩ := ends_s gA gB w r1 hc A2 B2 (j := 1) (by omega)
          obtain ⟨t3, r3, o3, v3, s3⟩ := ends_s gA gB w r2 hc A2 B2 (j := 2) (by omega)
          obtain ⟨t4, r4, o4, v4, s4⟩ := ends_s gA gB w r3 hc A2 B2 (j := 3) (by omega)
          have fe : f_X2_findEnds (nI an) (nI bn) (nI cn) t = some (st t4 29 (fun _ => 0)) := by
            unfold f_X2_findEnds
            simp only [jnE]
            rw [show fuel = 995 + 1 + 1 + 1 + 1 + 1 from rfl, ← nI0, s1, s2, s3, s4, L_X2_findEnds_3, if_pos (by decide)]
          have EA : ∀ j, j < 4 → (st t4 29 (fun _ => 0)) 17 (2 * j) = gA j := fun j hj => by
            show t4 17 (2 * j) = gA j
            rw [v4, v3, v2, v1]
            rcases (show j = 0 ∨ j = 1 ∨ j = 2 ∨ j = 3 by omega) with q | q | q | q <;> subst q <;> rfl
          have EB : ∀ j, j < 4 → (st t4 29 (fun _ => 0)) 17 (2 * j + 1) = gB j := fun j hj => by
            show t4 17 (2 * j + 1) = gB j
            rw [v4, v3, v2, v1]
            rcases (show j = 0 ∨ j = 1 ∨ j = 2 ∨ j = 3 by omega) with q | q | q | q <;> subst q <;> rfl
          have RRt : RR x n m k (st t4 29 (fun _ => 0)) := by
            have o : ∀ q, core q = false → q ≠ 17 → q ≠ 29 → (st t4 29 (fun _ => 0)) q = t q := fun q hq h1 h2 => by
              rw [st_ne h2, o4 q hq h1 h2, o3 q hq h1 h2, o2 q hq h1 h2, o1 q hq h1 h2]
            obtain ⟨h1, h2, h3, ⟨lc, l1, l2, l3, l4⟩, ⟨rc, k1, k2, k3, k4⟩, h6, h7⟩ := hx
            exact ⟨nc, nb, w, r4.same rfl, wm, wk, h1, by rw [o 26 rfl (by decide) (by decide)]; exact h2, by rw [o 15 rfl (by decide) (by decide)]; exact h3, ⟨lc, l1, l2, by rw [o 23 rfl (by decide) (by decide)]; exact l3, by rw [o 11 rfl (by decide) (by decide)]; exact l4⟩, ⟨rc, k1, k2, by rw [o 30 rfl (by decide) (by decide)]; exact k3, by rw [o 18 rfl (by decide) (by decide)]; exact k4⟩, by rw [o 0 rfl (by decide) (by decide)]; exact h6, rfl⟩
          have X := fun (K : Int32 → HS → Option (Int32 × HS)) (o p : Nat) (ho : o < 2) (hp : p < 2) (n' : Nat) => twoX_s (x := x) (m := m) (k := k) gA gB (by omega) (by omega) hab A1 B1 K ho hp n'
          have M := fun (K : HS → Option (Int32 × HS)) (j k2 k1 : Nat) (hj : j < 4) (h2 : k2 < 4) (h1 : k1 < 4) (e2 : nI j ^^^ (2 : Int32) = nI k2) (e1 : nI j ^^^ (1 : Int32) = nI k1) (n' : Nat) => twoM_s (t := st t4 29 (fun _ => 0)) (nI an) (nI bn) (nI cn) gA gB EA EB K hj h2 h1 e2 e1 n'
          have xe : ∀ (K : Int32 → HS → Option (Int32 × HS)) (o n' : Nat), L_X1_two_74 (nI an) (nI bn) (nI cn) n m k K (n' + 1) (nI o) (nI 2) x = K (nI o) x := fun K o n' => by rw [L_X1_two_74, if_pos (by decide)]
          have xo : ∀ (K : HS → Option (Int32 × HS)) (o n' : Nat), o < 2 → L_X1_two_65 (nI an) (nI bn) (nI cn) n m k K (n' + 1) (nI o) x = L_X1_two_74 (nI an) (nI bn) (nI cn) n m k (fun (j4_180 : Int32) (xx_180 : HS) => (L_X1_two_65 (nI an) (nI bn) (nI cn) n m k K n' (j4_180 + (1 : Int32)) xx_180)) fuel (nI o) 0 x := fun K o n' ho => by
            rw [L_X1_two_65, if_neg (show ¬ (1 : Int32) < nI o from nI_nlt (a := 1) (b := o) (by omega) (by omega))]
            simp only [jnE]
          rw [fe, Option.bind_some]
          generalize st t4 29 (fun _ => (0 : Int32)) = T at M RRt ⊢
          rw [show L_X1_two_65 (nI an) (nI bn) (nI cn) n m k (fun (xx_186 : HS) => some ((-9 : Int32), xx_186)) fuel 0 x = L_X1_two_65 (nI an) (nI bn) (nI cn) n m k (fun (xx_186 : HS) => some ((-9 : Int32), xx_186)) (997 + 1 + 1 + 1) (nI 0) x from rfl, xo _ 0 _ (by omega)]
          rw [← nI0, show fuel = 995 + 1 + 1 + 1 + 1 + 1 from rfl, X _ 0 0 (by omega) (by omega), M _ 0 2 1 (by omega) (by omega) (by omega) (by decide) (by decide)]
          by_cases q0 : gA 0 < gA 2 ∨ gB 0 < gB 1
          · rw [if_pos q0, if_pos q0, X _ 0 1 (by omega) (by omega), M _ 1 3 0 (by omega) (by omega) (by omega) (by decide) (by decide)]
            by_cases q1 : gA 1 < gA 3 ∨ gB 1 < gB 0
            · rw [if_pos q1, if_pos q1, xe, nI_1, xo _ 1 _ (by omega), ← nI0, show fuel = 995 + 1 + 1 + 1 + 1 + 1 from rfl, X _ 1 0 (by omega) (by omega), M _ 2 0 3 (by omega) (by omega) (by omega) (by decide) (by decide)]
              by_cases q2 : gA 2 < gA 0 ∨ gB 2 < gB 3
              · rw [if_pos q2, if_pos q2, X _ 1 1 (by omega) (by omega), M _ 3 1 2 (by omega) (by omega) (by omega) (by decide) (by decide)]
                by_cases q3 : gA 3 < gA 1 ∨ gB 3 < gB 2
                · rw [if_pos q3, if_pos q3, xe, nI_1, L_X1_two_65, if_pos (by decide), L_X2_two_72, if_pos (by decide)]
                  exact ⟨_, _, _, rfl, rfl, RRt⟩
                · rw [if_neg q3, if_neg q3]
                  exact ⟨_, _, _, rfl, rfl, RRt⟩
              · rw [if_neg q2, if_neg q2]
                exact ⟨_, _, _, rfl, rfl, RRt⟩
            · rw [if_neg q1, if_neg q1]
              exact ⟨_, _, _, rfl, rfl, RRt⟩
          · rw [if_neg q0, if_neg q0]
            exact ⟨_, _, _, rfl, rfl, RRt⟩
        · rw [if_pos ((m9_pile w hc).mpr p), if_neg (fun z => p ((mh0 w hc).mp z))]
          exact rf (-3) 3 (by omega) (by decide)
      · rw [if_pos e2, if_pos e2]
        exact rf (-1) 1 (by omega) (by decide)
    · rw [e, e']
      simp only [iteN, iteZ]
      exact rf (-1) 1 (by omega) (by decide)
  · rw [e]
    simp only [iteZ]
    exact rf (-1) 1 (by omega) (by decide)
