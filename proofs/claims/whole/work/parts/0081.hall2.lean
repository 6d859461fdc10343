/-! the telling of a hall: statement by statement -/
theorem body_59 {b : Int32} {cs : List Int32} (hb : body7 b cs) : ¬ b = 59 ∧ ∀ v, v < cs.length → f_X1_fits 59 (cs.getD v 0) = 0 := by
  rcases hb with ⟨rfl, rfl⟩ | ⟨rfl, rfl⟩ | ⟨rfl, rfl⟩ | ⟨rfl, rfl⟩ | ⟨rfl, rfl⟩ | ⟨rfl, rfl⟩ | ⟨rfl, rfl⟩ <;> exact ⟨by decide, by decide⟩
theorem getD_app {cs : List Int32} {v : Nat} (hv : v < cs.length) : (cs ++ [59]).getD v 0 = cs.getD v 0 := by
  rw [List.getD_eq_getElem?_getD, List.getD_eq_getElem?_getD, List.getElem?_append_left hv]
theorem getD_last (cs : List Int32) : (cs ++ [59]).getD cs.length 0 = 59 := by
  rw [List.getD_eq_getElem?_getD, List.getElem?_append_right (Nat.le_refl _), Nat.sub_self]
  rfl
/-- inside a statement no letter is a semicolon; its last is one -/
theorem semi {a : Nat → Int32} {lc q : Nat} (h : okS a lc q) : sS a q + 3 ≤ sS a (q + 1) ∧ sS a (q + 1) ≤ lc ∧ a (sS a (q + 1) - 1) = 59 ∧ ∀ u, sS a q ≤ u → u + 1 < sS a (q + 1) → ¬ a u = 59 := by
  obtain ⟨h1, ⟨cs, hb, e⟩, h3⟩ := h
  rw [e] at h3
  have bl := body_len hb
  have lcs : (cs ++ [59]).length = cs.length + 1 := by rw [List.length_append]; rfl
  have eS : sS a (q + 1) = sS a q + 1 + (cs.length + 1) := by rw [sS, e, lcs]
  have l := chk_len _ _ (by omega) h3
  rw [lcs] at l
  have g := chk_get _ _ h3
  obtain ⟨b1, b2⟩ := body_59 hb
  refine ⟨by omega, by omega, ?_, fun u hu1 hu2 => ?_⟩
  · have y := (g cs.length (by rw [lcs]; omega)).2
    rw [getD_last, fits59] at y
    rw [eS, show sS a q + 1 + (cs.length + 1) - 1 = sS a q + 1 + cs.length by omega]
    apply Decidable.byContradiction
    intro z
    rw [if_neg z] at y
    exact absurd y (by decide)
  · by_cases z : u = sS a q
    · rw [z]; exact b1
    · intro y
      have y2 := (g (u - (sS a q + 1)) (by rw [lcs]; omega)).2
      rw [show sS a q + 1 + (u - (sS a q + 1)) = u by omega, y, getD_app (by omega), b2 _ (by omega)] at y2
      exact absurd y2 (by decide)
/-- the class goes on to the next statement -/
theorem skip_X {x n m k : HS} {lc : Nat} (hlc : lc ≤ 96) (K : Int32 → HS → HS → HS → Option (Int32 × HS × HS × HS)) (j3 : Int32) : ∀ (z i n' : Nat), i + z ≤ lc → 1 ≤ i → (∀ u, i ≤ u → u < i + z → ¬ x 0 (u - 1) = 59) → z ≤ n' → L_X1_hall_42 k K n' (nI lc) j3 (nI i) x n m = L_X1_hall_42 k K (n' - z) (nI lc) j3 (nI (i + z)) x n m
  | 0, i, n', _, _, _, _ => rfl
  | z + 1, i, n', hi, h1, hu, hn => by
    cases n' with
    | zero => omega
    | succ n' =>
      have a : atv 96 (x 0) (nI i - 1) = x 0 (i - 1) := by
        obtain ⟨j, rfl⟩ : ∃ j, i = j + 1 := ⟨i - 1, by omega⟩
        rw [nI_pred, atv_nI _ (by omega) (by omega), Nat.add_sub_cancel]
      rw [L_X1_hall_42, if_neg (nI_ge (by omega) (by omega)), if_neg (nI_ne0 (by omega) (by omega)), a, if_neg (hu i (Nat.le_refl _) (by omega)), nI_1, skip_X hlc K j3 z (i + 1) n' (by omega) (by omega) (fun u h2 h3 => hu u (by omega) (by omega)) (by omega), show n' + 1 - (z + 1) = n' - z by omega, show i + 1 + z = i + (z + 1) by omega]
theorem come_run {x n k : HS} {lc Q nc0 nb0 : Nat} (hlc : lc ≤ 96) (hr : ∀ j, j < lc → inR 0 255 (x 0 j)) (hQ : Q ≤ 32) (eQ : sS (x 0) Q = lc) (hok : ∀ j, j < Q → okS (x 0) lc j) (w0 : WF n nc0 nb0) (K : Int32 → HS → HS → HS → Option (Int32 × HS × HS × HS)) (KM : HS → Option (Int32 × HS)) : ∀ (z q : Nat) (h t : HS) (nc nb : Nat), q + z = Q → WF h nc nb → rel h t → t 29 0 = 0 → t 25 0 = nI Q → tabS (x 0) Q t → sl (t 15) 1 (mo n) →
    (∃ (h' t' : HS) (nc' nb' : Nat), WF h' nc' nb' ∧ rel h' t' ∧ fr t t' ∧ (∀ n', lc - sS (x 0) q < n' → L_X1_hall_42 k K n' (nI lc) (nI q) (nI (sS (x 0) q)) x n h = K (nI Q) x n h') ∧ ∀ n', z < n' → L_X2_hall_86 KM n' (nI q) t = KM t') ∨
    ∃ (r : Int32) (h' t' : HS) (nc' nb' : Nat), WF h' nc' nb' ∧ rel n t' ∧ (∀ k, core k = false → k ≠ 16 → k ≠ 27 → k ≠ 28 → t' k = t k) ∧ (∀ n', lc - sS (x 0) q < n' → L_X1_hall_42 k K n' (nI lc) (nI q) (nI (sS (x 0) q)) x n h = some (r, x, n, h')) ∧ ∀ n', z < n' → L_X2_hall_86 KM n' (nI q) t = some (r, t')
  | 0, q, h, t, nc, nb, hq, w, r, ha, h25, tab, s => by
    have : q = Q := by omega
    subst this
    left
    refine ⟨h, t, nc, nb, w, r, fr.rf, fun n' hn => ?_, fun n' hn => ?_⟩
    · cases n' with
      | zero => omega
      | succ n' => rw [L_X1_hall_42, eQ, if_pos (nI_le (Nat.le_refl _) (by omega))]
    · cases n' with
      | zero => omega
      | succ n' => rw [L_X2_hall_86, h25, if_pos (nI_le (Nat.le_refl _) (by omega))]
  | z + 1, q, h, t, nc, nb, hq, w, r, ha, h25, tab, s => by
    obtain ⟨s1, s2, s3, s4⟩ := semi (hok q (by omega))
    obtain ⟨o1, ⟨cs, hb, e⟩, o3⟩ := hok q (by omega)
    obtain ⟨u1, u2, u3⟩ := tab q (by omega)
    rw [e] at o3
    obtain ⟨rr, h', t', nc', nb', r01, w', r', f', cx, cm⟩ := comes_XM (n := n) (k := k) w r ha hlc hr o1 hb o3 (by omega) u1 u3
    -- the class is at the head of a statement
    have hd : ∀ n', L_X1_hall_42 k K (n' + 1) (nI lc) (nI q) (nI (sS (x 0) q)) x n h = if rr = 0 then some (((-2000 : Int32) - nI (sS (x 0) q)), x, n, h') else L_X1_hall_42 k K n' (nI lc) (nI (q + 1)) (nI (sS (x 0) q + 1)) x n h' := fun n' => by
      rw [L_X1_hall_42, if_neg (nI_ge o1 (by omega))]
      by_cases y : q = 0
      · rw [y, show sS (x 0) 0 = 0 from rfl] at cx ⊢
        rw [if_pos (show nI 0 = 0 from rfl), cx, Option.bind_some, nI_1]
      · obtain ⟨p, hp⟩ : ∃ p, q = p + 1 := ⟨q - 1, by omega⟩
        obtain ⟨p1, p2, p3, -⟩ := semi (hok p (by omega))
        rw [← hp] at p1 p2 p3
        have a : atv 96 (x 0) (nI (sS (x 0) q) - 1) = 59 := by
          obtain ⟨j, hj⟩ : ∃ j, sS (x 0) q = j + 1 := ⟨sS (x 0) q - 1, by omega⟩
          rw [hj, Nat.add_sub_cancel] at p3
          rw [hj, nI_pred, atv_nI _ (by omega) (by omega), p3]
        rw [if_neg (nI_ne0 (by omega) (by omega)), a, if_pos rfl, cx, Option.bind_some, nI_1, nI_1]
    have md : ∀ n', L_X2_hall_86 KM (n' + 1) (nI q) t = if rr = 0 then (f_X2_passesAll (1 : Int32) (0 : Int32) t').bind fun v9 => (rd 48 (v9 13) (nI q)).bind fun v10 => some (((-2000 : Int32) - v10), v9) else L_X2_hall_86 KM n' (nI (q + 1)) t' := fun n' => by
      rw [L_X2_hall_86, h25, if_neg (nI_ge (by omega) (by omega)), cm, Option.bind_some, nI_1]
    rcases r01 with y | y
    · right
      subst y
      have s' : sl (t' 15) 1 (mo n) := by rw [f' 15 rfl (by decide)]; exact s
      obtain ⟨t2, b1, b2, b3⟩ := rest_M (w := 1) w' r' (by omega) w0 s'
      have t13 : t2 13 q = nI (sS (x 0) q) := by rw [b3 13 rfl (by decide) (by decide), f' 13 rfl (by decide)]; exact u2
      refine ⟨(-2000 : Int32) - nI (sS (x 0) q), h', t2, nc', nb', w', b2, fun k h1 h2 h3 h4 => (b3 k h1 h3 h4).trans (f' k h1 h2), fun n' hn => ?_, fun n' hn => ?_⟩
      · cases n' with
        | zero => omega
        | succ n' => rw [hd, if_pos rfl]
      · cases n' with
        | zero => omega
        | succ n' =>
          rw [md, if_pos rfl, show f_X2_passesAll 1 0 t' = some t2 from b1, Option.bind_some, rd_nI _ (by omega) (by omega), Option.bind_some, t13]
    · subst y
      have tab' : tabS (x 0) Q t' := fun j hj => by
        rw [f' 12 rfl (by decide), f' 13 rfl (by decide), f' 14 rfl (by decide)]
        exact tab j hj
      have sk : ∀ n', sS (x 0) (q + 1) - (sS (x 0) q + 1) ≤ n' → L_X1_hall_42 k K n' (nI lc) (nI (q + 1)) (nI (sS (x 0) q + 1)) x n h' = L_X1_hall_42 k K (n' - (sS (x 0) (q + 1) - (sS (x 0) q + 1))) (nI lc) (nI (q + 1)) (nI (sS (x 0) (q + 1))) x n h' := fun n' hn => by
        have := skip_X (x := x) (n := n) (m := h') (k := k) hlc K (nI (q + 1)) (sS (x 0) (q + 1) - (sS (x 0) q + 1)) (sS (x 0) q + 1) n' (by omega) (by omega) (fun u hu1 hu2 => s4 (u - 1) (by omega) (by omega)) hn
        rw [show sS (x 0) q + 1 + (sS (x 0) (q + 1) - (sS (x 0) q + 1)) = sS (x 0) (q + 1) by omega] at this
        exact this
      rcases come_run hlc hr hQ eQ hok w0 K KM z (q + 1) h' t' nc' nb' (by omega) w' r' (by rw [f' 29 rfl (by decide)]; exact ha) (by rw [f' 25 rfl (by decide)]; exact h25) tab' (by rw [f' 15 rfl (by decide)]; exact s) with ⟨h2, t2, a, b, c1, c2, c3, c4, c5⟩ | ⟨r2, h2, t2, a, b, c1, c2, c3, c4, c5⟩
      · left
        refine ⟨h2, t2, a, b, c1, c2, f'.tr c3, fun n' hn => ?_, fun n' hn => ?_⟩
        · cases n' with
          | zero => omega
          | succ n' =>
            rw [hd, if_neg N10, sk n' (by omega)]
            exact c4 _ (by omega)
        · cases n' with
          | zero => omega
          | succ n' =>
            rw [md, if_neg N10]
            exact c5 n' (by omega)
      · right
        refine ⟨r2, h2, t2, a, b, c1, c2, fun k h1 h2 h3 h4 => (c3 k h1 h2 h3 h4).trans (f' k h1 h2), fun n' hn => ?_, fun n' hn => ?_⟩
        · cases n' with
          | zero => omega
          | succ n' =>
            rw [hd, if_neg N10, sk n' (by omega)]
            exact c4 _ (by omega)
        · cases n' with
          | zero => omega
          | succ n' =>
            rw [md, if_neg N10]
            exact c5 n' (by omega)
theorem hall_XM {x n m k t : HS} (h : RR x n m k t) : ∃ r x' n' m' t', f_X1_hall x n m k = some (r, x', n', m') ∧ f_X2_hall t = some (r, t') ∧ RR x' n' m' k t' := by
  obtain ⟨nc, nb, w, rl, ⟨ma, mb, wm⟩, wk, h1, h2, h3, ⟨lc, l1, l2, l3, l4⟩, ⟨rc, k1, k2, k3, k4⟩, h6, h7⟩ := id h
  have hr : ∀ j, j < lc → inR 0 255 (x 0 j) := fun j hj => by rw [(l4 j hj).1]; exact (l4 j hj).2
  -- what stands beside the core and the tables, behind whatever comes
  have RXe : ∀ t' : HS, t' 26 = t 26 → (∀ j, j < 75 → t' 15 j = t 15 j) → t' 23 0 = 0 → t' 30 = t 30 → t' 18 = t 18 → t' 0 = t 0 → t' 29 = t 29 → RX (st x 4 (fun _ => (0 : Int32))) k t' := fun t' a1 a2 a3 a4 a5 a6 a7 => by
    refine ⟨h1, by rw [a1]; exact h2, fun q => (h3 q).congr (fun j _ hj => a2 j (by omega)), ⟨0, by omega, rfl, a3, fun i hi => absurd hi (Nat.not_lt_zero i)⟩, ⟨rc, k1, k2, by rw [a4]; exact k3, fun i hi => by rw [a5]; exact k4 i hi⟩, by rw [a6]; exact h6, by rw [a7]; exact h7⟩
  have x0 : (st x 4 (fun _ => (0 : Int32))) 0 = x 0 := rfl
  generalize hx1 : st x 4 (fun _ => (0 : Int32)) = x1 at *
  have go := told_run (x := x1) (n := n) (m := m) (k := k) (lc := lc) l1 (by rw [x0]; exact hr) lc 0 (st (st t 24 (fun _ => 0)) 25 (fun _ => 0)) 0 (by decide) (by omega) (fun j hj => absurd hj (Nat.not_lt_zero j)) (Nat.zero_le _) (Nat.zero_le _) l3 rfl rfl (fun j hj => by rw [x0]; exact (l4 j hj).1.symm) (fun j hj => absurd hj (Nat.not_lt_zero j))
  rw [show nI (sB 0).length = 0 from rfl, show sS (x1 0) 0 = 0 from rfl, nI0] at go
  have wl : ∀ v, L_X1_wrongLetter_8 (nI lc) x1 n m k (kW lc) fuel 0 0 0 = some v → f_X1_wrongLetter (nI lc) x1 n m k = some v := fun v y => by
    unfold f_X1_wrongLetter
    simp only [jnE]
    exact y
  have s0 : ∀ k', k' ≠ 24 → k' ≠ 25 → (st (st t 24 (fun _ => (0 : Int32))) 25 (fun _ => (0 : Int32))) k' = t k' := fun k' a b => by rw [st_ne b, st_ne a]
  unfold f_X1_hall f_X2_hall
  simp only [jnE]
  rw [hx1, l2]
  rcases go with ⟨Q, t1, q1, q2, q3, q4, q5, q6, q7, q8, q9⟩ | ⟨j, t1, j1, j2, j3, j4, j5⟩
  · -- all of it can be read
    have wv := wl _ (q8 fuel (by unfold fuel; omega))
    have m1 := q9 (fun (j1_60 : Int32) (tt_60 : HS) => if j1_60 = 0 then some (((-1000 : Int32) - ((st tt_60 23 (fun _ => (0 : Int32))) 24 0)), (st tt_60 23 (fun _ => (0 : Int32)))) else (f_X2_passesAll (1 : Int32) (1 : Int32) (st tt_60 23 (fun _ => (0 : Int32)))).bind fun v5 => (L_X2_hall_86 (fun (tt_128 : HS) => some ((tt_128 25 0), tt_128)) fuel (0 : Int32) v5)) fuel (by unfold fuel; omega)
    have o1 : ∀ k', k' ≠ 12 → k' ≠ 13 → k' ≠ 14 → k' ≠ 24 → k' ≠ 25 → t1 k' = t k' := fun k' a b c d e => (q7 k' a b c d e).trans (s0 k' d e)
    have rl1 : rel n (st t1 23 (fun _ => (0 : Int32))) := by
      have r1 : rel n t1 := fun k' hk' => by
        have ne : ∀ j, core j = false → k' ≠ j := fun j hj e => by rw [e, hj] at hk'; cases hk'
        rw [o1 k' (ne 12 rfl) (ne 13 rfl) (ne 14 rfl) (ne 24 rfl) (ne 25 rfl)]
        exact rl k' hk'
      exact r1.same rfl
    obtain ⟨t2, a1, a2, a3, a4, a5⟩ := keep_M (w := 1) w rl1 (by omega)
    have o2 : ∀ k', core k' = false → k' ≠ 15 → k' ≠ 27 → k' ≠ 28 → k' ≠ 23 → t2 k' = t1 k' := fun k' a b c d e => (a3 k' a b c d).trans (st_ne e)
    have tab2 : tabS (x1 0) Q t2 := fun j hj => by
      rw [o2 12 rfl (by decide) (by decide) (by decide) (by decide), o2 13 rfl (by decide) (by decide) (by decide) (by decide), o2 14 rfl (by decide) (by decide) (by decide) (by decide)]
      exact q5 j hj
    rw [wv, Option.bind_some, if_pos (show (-1 : Int32) < 0 by decide), become_X wm w, Option.bind_some, m1, if_neg N10, show f_X2_passesAll 1 1 (st t1 23 (fun _ => (0 : Int32))) = some t2 from a1, Option.bind_some]
    have cr := come_run (k := k) l1 (by rw [x0]; exact hr) q2 q3 q4 w (fun (j3_94 : Int32) (xx_94 : HS) (xn_94 : HS) (xm_94 : HS) => (f_X0_become xn_94 xm_94).bind fun v5 => some (j3_94, xx_94, v5, xm_94)) (fun (tt_128 : HS) => some ((tt_128 25 0), tt_128)) Q 0 n t2 nc nb (by omega) w a2 (by rw [o2 29 rfl (by decide) (by decide) (by decide) (by decide), o1 29 (by decide) (by decide) (by decide) (by decide) (by decide)]; exact h7) (by rw [o2 25 rfl (by decide) (by decide) (by decide) (by decide)]; exact q6) tab2 a4
    rw [show sS (x1 0) 0 = 0 from rfl, nI0] at cr
    have o3 : ∀ k', core k' = false → k' ≠ 12 → k' ≠ 13 → k' ≠ 14 → k' ≠ 15 → k' ≠ 23 → k' ≠ 24 → k' ≠ 25 → k' ≠ 27 → k' ≠ 28 → t2 k' = t k' := fun k' a b c d e f g i l o => (o2 k' a e l o f).trans (o1 k' b c d g i)
    have z23 : t2 23 0 = 0 := by rw [a3 23 rfl (by decide) (by decide) (by decide)]; rfl
    have z15 : ∀ j, j < 75 → t2 15 j = t 15 j := fun j hj => by
      rw [a5 j (by omega), st_ne (by decide), o1 15 (by decide) (by decide) (by decide) (by decide) (by decide)]
    rcases cr with ⟨h', t3, a, b, c1, c2, c3, c4, c5⟩ | ⟨r, h', t3, a, b, c1, c2, c3, c4, c5⟩
    · rw [c4 fuel (by unfold fuel; omega), c5 fuel (by unfold fuel; omega), become_X w c1, Option.bind_some]
      refine ⟨nI Q, x1, h', h', t3, rfl, ?_, a, b, c1, c2, ⟨a, b, c1⟩, wk, RXe t3 ?_ ?_ ?_ ?_ ?_ ?_ ?_⟩
      · rw [c3 25 rfl (by decide), o2 25 rfl (by decide) (by decide) (by decide) (by decide), q6]
      · rw [c3 26 rfl (by decide), o3 26 rfl (by decide) (by decide) (by decide) (by decide) (by decide) (by decide) (by decide) (by decide) (by decide)]
      · intro j hj; rw [c3 15 rfl (by decide)]; exact z15 j hj
      · rw [c3 23 rfl (by decide)]; exact z23
      · rw [c3 30 rfl (by decide), o3 30 rfl (by decide) (by decide) (by decide) (by decide) (by decide) (by decide) (by decide) (by decide) (by decide)]
      · rw [c3 18 rfl (by decide), o3 18 rfl (by decide) (by decide) (by decide) (by decide) (by decide) (by decide) (by decide) (by decide) (by decide)]
      · rw [c3 0 rfl (by decide), o3 0 rfl (by decide) (by decide) (by decide) (by decide) (by decide) (by decide) (by decide) (by decide) (by decide)]
      · rw [c3 29 rfl (by decide), o3 29 rfl (by decide) (by decide) (by decide) (by decide) (by decide) (by decide) (by decide) (by decide) (by decide)]
    · rw [c4 fuel (by unfold fuel; omega), c5 fuel (by unfold fuel; omega)]
      have o4 : ∀ k', core k' = false → k' ≠ 12 → k' ≠ 13 → k' ≠ 14 → k' ≠ 15 → k' ≠ 16 → k' ≠ 23 → k' ≠ 24 → k' ≠ 25 → k' ≠ 27 → k' ≠ 28 → t3 k' = t k' := fun k' a b c d e p f g i l o => (c3 k' a p l o).trans (o3 k' a b c d e f g i l o)
      refine ⟨r, x1, n, h', t3, rfl, rfl, nc, nb, w, c2, ⟨a, b, c1⟩, wk, RXe t3 ?_ ?_ ?_ ?_ ?_ ?_ ?_⟩
      · exact o4 26 rfl (by decide) (by decide) (by decide) (by decide) (by decide) (by decide) (by decide) (by decide) (by decide) (by decide)
      · intro j hj; rw [c3 15 rfl (by decide) (by decide) (by decide)]; exact z15 j hj
      · rw [c3 23 rfl (by decide) (by decide) (by decide)]; exact z23
      · exact o4 30 rfl (by decide) (by decide) (by decide) (by decide) (by decide) (by decide) (by decide) (by decide) (by decide) (by decide)
      · exact o4 18 rfl (by decide) (by decide) (by decide) (by decide) (by decide) (by decide) (by decide) (by decide) (by decide) (by decide)
      · exact o4 0 rfl (by decide) (by decide) (by decide) (by decide) (by decide) (by decide) (by decide) (by decide) (by decide) (by decide)
      · exact o4 29 rfl (by decide) (by decide) (by decide) (by decide) (by decide) (by decide) (by decide) (by decide) (by decide) (by decide)
  · -- a letter is wrong
    have wv := wl _ (j4 fuel (by unfold fuel; omega))
    have m1 := j5 (fun (j1_60 : Int32) (tt_60 : HS) => if j1_60 = 0 then some (((-1000 : Int32) - ((st tt_60 23 (fun _ => (0 : Int32))) 24 0)), (st tt_60 23 (fun _ => (0 : Int32)))) else (f_X2_passesAll (1 : Int32) (1 : Int32) (st tt_60 23 (fun _ => (0 : Int32)))).bind fun v5 => (L_X2_hall_86 (fun (tt_128 : HS) => some ((tt_128 25 0), tt_128)) fuel (0 : Int32) v5)) fuel (by unfold fuel; omega)
    have o1 : ∀ k', k' ≠ 12 → k' ≠ 13 → k' ≠ 14 → k' ≠ 24 → k' ≠ 25 → t1 k' = t k' := fun k' a b c d e => (j3 k' a b c d e).trans (s0 k' d e)
    rw [wv, Option.bind_some, if_neg (nI_pos (by omega)), m1, if_pos rfl, show (st t1 23 (fun _ => (0 : Int32))) 24 0 = nI j from j2]
    refine ⟨_, x1, n, m, st t1 23 (fun _ => (0 : Int32)), rfl, rfl, nc, nb, w, ?_, ⟨ma, mb, wm⟩, wk, RXe _ ?_ ?_ rfl ?_ ?_ ?_ ?_⟩
    · have r1 : rel n t1 := fun k' hk' => by
        have ne : ∀ j, core j = false → k' ≠ j := fun j hj e => by rw [e, hj] at hk'; cases hk'
        rw [o1 k' (ne 12 rfl) (ne 13 rfl) (ne 14 rfl) (ne 24 rfl) (ne 25 rfl)]
        exact rl k' hk'
      exact r1.same rfl
    · rw [st_ne (by decide)]; exact o1 26 (by decide) (by decide) (by decide) (by decide) (by decide)
    · intro j hj; rw [st_ne (by decide), o1 15 (by decide) (by decide) (by decide) (by decide) (by decide)]
    · rw [st_ne (by decide)]; exact o1 30 (by decide) (by decide) (by decide) (by decide) (by decide)
    · rw [st_ne (by decide)]; exact o1 18 (by decide) (by decide) (by decide) (by decide) (by decide)
    · rw [st_ne (by decide)]; exact o1 0 (by decide) (by decide) (by decide) (by decide) (by decide)
    · rw [st_ne (by decide)]; exact o1 29 (by decide) (by decide) (by decide) (by decide) (by decide)
