/-! the telling of a hall: what a statement does -/
theorem digit_of {v : Int32} (h : f_X1_fits v 48 = 1) : ∃ g, g ≤ 9 ∧ v = nI (48 + g) := by
  rw [fits48] at h
  rcases isIn_or v (b := 48) (c := 57) with ⟨e, -⟩ | ⟨-, q1, q2⟩
  · rw [e] at h; exact absurd h (by decide)
  · rw [Int32.lt_iff_toInt_lt] at q1 q2
    rw [show ((48 : Int32)).toInt = 48 from rfl] at q1
    rw [show ((57 : Int32)).toInt = 57 from rfl] at q2
    obtain ⟨a, ha, e⟩ := inR_nI (x := v) (b := 57) ⟨by omega, by omega⟩ (by omega)
    rw [e, nI_toInt (by omega)] at q1
    exact ⟨a - 48, by omega, by rw [e]; congr 1; omega⟩
theorem vl_in {a : Nat → Int32} : ∀ (d v i : Nat), (∀ u, u < d → f_X1_fits (a (i + u)) 48 = 1) → ∃ w, w < (v + 1) * 10 ^ d ∧ vl a d (nI v) i = nI w
  | 0, v, i, _ => ⟨v, by omega, rfl⟩
  | d + 1, v, i, h => by
    obtain ⟨g, hg, e⟩ := digit_of (h 0 (by omega))
    have e1 : (((10 : Int32) * nI v) + a i) - (48 : Int32) = nI (10 * v + g) := by
      rw [Nat.add_zero] at e
      rw [e, show (10 : Int32) * nI v = nI (10 * v) from (Int32.ofNat_mul 10 v).symm, nI_add]
      have : nI (10 * v + (48 + g)) = nI (10 * v + g) + 48 := by
        rw [show (48 : Int32) = nI 48 from rfl, nI_add]; congr 1; omega
      rw [this, Int32.add_sub_cancel]
    obtain ⟨w, h1, h2⟩ := vl_in d (10 * v + g) (i + 1) (fun u hu => by rw [show i + 1 + u = i + (u + 1) by omega]; exact h (u + 1) (by omega))
    refine ⟨w, ?_, by rw [vl, e1]; exact h2⟩
    have : (10 * v + g + 1) * 10 ^ d ≤ (v + 1) * 10 ^ (d + 1) := by
      rw [Nat.pow_succ, show (v + 1) * (10 ^ d * 10) = ((v + 1) * 10) * 10 ^ d by rw [Nat.mul_comm (10 ^ d), Nat.mul_assoc]]
      exact Nat.mul_le_mul_right _ (by omega)
    omega
theorem num_loop {x n m k : HS} {i d : Nat} (h96 : i + d ≤ 96) (K : Int32 → Option Int32) : ∀ (z j n' : Nat) (v : Int32), j + z = d → z < n' → L_X1_number_5 (nI i) (nI d) x n m k K n' v (nI j) = K (vl (x 0) z v (i + j))
  | 0, j, n' + 1, v, hj, _ => by
    have : j = d := by omega
    subst this
    rw [L_X1_number_5, if_pos (nI_le (Nat.le_refl _) (by omega))]
    rfl
  | z + 1, j, n' + 1, v, hj, hn => by
    rw [L_X1_number_5, if_neg (nI_ge (by omega) (by omega)), nI_add, atv_nI _ (by omega) (by omega), nI_1, vl, num_loop h96 K z (j + 1) n' _ (by omega) (by omega)]
    rfl
theorem number_X {x n m k : HS} {i d : Nat} (h96 : i + d ≤ 96) (hd : d ≤ 3) : f_X1_number (nI i) (nI d) x n m k = some (vl (x 0) d 0 i) := by
  have q := num_loop (x := x) (n := n) (m := m) (k := k) h96 (fun (j3_37 : Int32) => some j3_37) d 0 fuel 0 (by omega) (by unfold fuel; omega)
  rw [nI0] at q
  unfold f_X1_number
  simp only [jnE]
  exact q
theorem kindBX : ∀ j, j < 256 → sIdx 7 ((nI j).toUInt32 % 65536).toInt32 = f_X2_bidderKind (nI j) := by decide +kernel
theorem kindCX : ∀ j, j < 256 → sIdx 6 ((nI j).toUInt32 % 65536).toInt32 = f_X2_cardKind (nI j) := by decide +kernel
/-! a card more -/
def adC (h : HS) (nc : Nat) (kd fg tl : Int32) : HS := st (st (st (st (st (st (st h 0 (upd (h 0) nc kd)) 1 (upd (h 1) nc fg)) 2 (upd (h 2) nc tl)) 3 (upd (h 3) nc 0)) 4 (upd (h 4) nc (-9))) 5 (upd (h 5) nc (nI nc))) 10 (fun _ => nI nc + 1)
theorem adC_WF {h : HS} {nc nb : Nat} (w : WF h nc nb) (hc : nc < 8) {kd fg tl : Int32} (hf : inR 0 9 fg) (ht : inR 0 5 tl) : WF (adC h nc kd fg tl) (nc + 1) nb := by
  have h6 := w.nb6
  have e0 : (adC h nc kd fg tl) 0 = upd (h 0) nc kd := rfl
  have e1 : (adC h nc kd fg tl) 1 = upd (h 1) nc fg := rfl
  have e2 : (adC h nc kd fg tl) 2 = upd (h 2) nc tl := rfl
  have e3 : (adC h nc kd fg tl) 3 = upd (h 3) nc 0 := rfl
  have e4 : (adC h nc kd fg tl) 4 = upd (h 4) nc (-9) := rfl
  have e5 : (adC h nc kd fg tl) 5 = upd (h 5) nc (nI nc) := rfl
  have eo : ∀ k, 6 ≤ k → k ≠ 10 → (adC h nc kd fg tl) k = h k := fun k h1 h2 => by
    unfold adC
    rw [st_ne h2, st_ne (by omega), st_ne (by omega), st_ne (by omega), st_ne (by omega), st_ne (by omega), st_ne (by omega)]
  refine ⟨⟨by omega, h6, ?_, ?_, ?_⟩, fun c q => ?_, fun i j hi hj e => ?_, fun b hb => ?_, fun k hk i hi => ?_, fun k h1 h2 i hi => ?_, fun k hk => ?_⟩
  · show (fun _ => nI nc + 1) = _
    rw [nI_1]
  · rw [eo 11 (by omega) (by omega)]; exact w.1.2.2.2.1
  · rw [eo 12 (by omega) (by omega)]; exact w.1.2.2.2.2
  · rw [e1, e2, e3, e4, e5]
    by_cases z : c = nc
    · subst z
      rw [upd_eq, upd_eq, upd_eq, upd_eq, upd_eq]
      exact ⟨hf, ht, nI_inR (k := 0) (b := 99) (by omega) (by omega), Or.inl rfl, c, by omega, rfl⟩
    · rw [upd_ne z, upd_ne z, upd_ne z, upd_ne z, upd_ne z]
      obtain ⟨p, hp, ep⟩ := w.ord (c := c) (by omega)
      exact ⟨w.fig (by omega), w.tel (by omega), w.age (by omega), w.hol (by omega), p, by omega, ep⟩
  · rw [e5] at e
    by_cases zi : i = nc
    · by_cases zj : j = nc
      · omega
      · rw [zi, upd_eq, upd_ne zj] at e
        obtain ⟨p, hp, ep⟩ := w.ord (c := j) (by omega)
        rw [ep] at e
        have := (nI_eq (by omega) (by omega)).mp e
        omega
    · by_cases zj : j = nc
      · rw [zj, upd_eq, upd_ne zi] at e
        obtain ⟨p, hp, ep⟩ := w.ord (c := i) (by omega)
        rw [ep] at e
        have := (nI_eq (by omega) (by omega)).mp e
        omega
      · rw [upd_ne zi, upd_ne zj] at e
        exact w.inj (by omega) (by omega) e
  · rw [eo 7 (by omega) (by omega), eo 8 (by omega) (by omega), eo 9 (by omega) (by omega)]
    exact ⟨w.bfig hb, w.pur hb, w.bel hb⟩
  · have z : ¬ i = nc := by omega
    rcases (show k = 0 ∨ k = 1 ∨ k = 2 ∨ k = 3 ∨ k = 4 ∨ k = 5 by omega) with q | q | q | q | q | q <;> subst q
    · rw [e0, upd_ne z]; exact w.z (by omega) i (by omega)
    · rw [e1, upd_ne z]; exact w.z (by omega) i (by omega)
    · rw [e2, upd_ne z]; exact w.z (by omega) i (by omega)
    · rw [e3, upd_ne z]; exact w.z (by omega) i (by omega)
    · rw [e4, upd_ne z]; exact w.z (by omega) i (by omega)
    · rw [e5, upd_ne z]; exact w.z (by omega) i (by omega)
  · rw [eo k h1 (by omega)]
    exact w.zb h1 h2 i hi
  · rw [eo k (by omega) (by omega)]
    exact w.2.2.2.2.2.2 k hk
theorem addCard_X {h : HS} {nc nb : Nat} (w : WF h nc nb) (kd fg tl : Int32) : f_X0_addCard kd fg tl h = if nc = 8 then some (0, h) else if tl < 6 then some (1, adC h nc kd fg tl) else some (0, h) := by
  have h8 := w.nc8
  have e : ∀ (hc : nc < 8) f v, ptv 8 f (nI nc) v = upd f nc v := fun hc f v => ptv_nI f v hc (by omega)
  unfold f_X0_addCard
  simp only [jnE]
  rw [w.c]
  by_cases q : nc = 8
  · rw [if_pos q, if_pos (by rw [q]; decide)]
  · rw [if_neg q, if_neg (show ¬ (8 : Int32) ≤ nI nc from nI_ge (b := 8) (by omega) (by omega))]
    by_cases z : tl < 6
    · rw [if_pos z, if_pos z]
      show some ((1 : Int32), st (st (st (st (st (st (st h 0 (ptv 8 (h 0) (nI nc) kd)) 1 (ptv 8 (h 1) (h 10 0) fg)) 2 (ptv 8 (h 2) (h 10 0) tl)) 3 (ptv 8 (h 3) (h 10 0) 0)) 4 (ptv 8 (h 4) (h 10 0) (-9))) 5 (ptv 8 (h 5) (h 10 0) (h 10 0))) 10 (fun _ => h 10 0 + 1)) = _
      rw [w.c, e (by omega), e (by omega), e (by omega), e (by omega), e (by omega), e (by omega)]
      rfl
    · rw [if_neg z, if_neg z]
theorem adC_10 (h : HS) (nc : Nat) (kd fg tl : Int32) : (adC h nc kd fg tl) 10 = fun _ => nI nc + 1 := rfl
theorem adC_4 (h : HS) (nc : Nat) (kd fg tl : Int32) : (adC h nc kd fg tl) 4 = upd (h 4) nc (-9) := rfl
theorem adC_mh {h : HS} {nc nb : Nat} (w : WF h nc nb) (hc : nc < 8) (kd fg tl : Int32) : mh (adC h nc kd fg tl) = upd (mh h) nc 0 := by
  funext i
  unfold mh
  rw [adC_10, adC_4, nI_1, nI_clamp (by omega)]
  by_cases z : i = nc
  · rw [z, upd_eq, if_pos (by omega), upd_eq]; exact hm_pile
  · rw [upd_ne z, upd_ne z, w.c, nI_clamp (by omega)]
    by_cases y : i < nc
    · rw [if_pos (by omega), if_pos y]
    · rw [if_neg (by omega), if_neg y]
theorem adC_0 (h : HS) (nc : Nat) (kd fg tl : Int32) : (adC h nc kd fg tl) 0 = upd (h 0) nc kd := rfl
theorem adC_1 (h : HS) (nc : Nat) (kd fg tl : Int32) : (adC h nc kd fg tl) 1 = upd (h 1) nc fg := rfl
theorem adC_2 (h : HS) (nc : Nat) (kd fg tl : Int32) : (adC h nc kd fg tl) 2 = upd (h 2) nc tl := rfl
theorem adC_3 (h : HS) (nc : Nat) (kd fg tl : Int32) : (adC h nc kd fg tl) 3 = upd (h 3) nc 0 := rfl
theorem adC_5 (h : HS) (nc : Nat) (kd fg tl : Int32) : (adC h nc kd fg tl) 5 = upd (h 5) nc (nI nc) := rfl
theorem adC_o (h : HS) (nc : Nat) (kd fg tl : Int32) {k : Nat} (h1 : 6 ≤ k) (h2 : k ≠ 10) : (adC h nc kd fg tl) k = h k := by
  unfold adC
  rw [st_ne h2, st_ne (by omega), st_ne (by omega), st_ne (by omega), st_ne (by omega), st_ne (by omega), st_ne (by omega)]
theorem adC_rel {h t t' : HS} {nc nb : Nat} (w : WF h nc nb) (r : rel h t) (hc : nc < 8) {kd fg tl : Int32} (e1 : t' 1 = upd (t 1) nc kd) (e2 : t' 2 = upd (t 2) nc fg) (e3 : t' 3 = upd (t 3) nc tl) (e4 : t' 4 = upd (t 4) nc 0) (e5 : t' 5 = upd (t 5) nc 0) (e6 : t' 6 = upd (t 6) nc (nI nc)) (e20 : t' 20 = fun _ => nI nc + 1) (eo : ∀ k, 7 ≤ k → k ≠ 20 → t' k = t k) : rel (adC h nc kd fg tl) t' := by
  intro j hj
  rcases core_cases hj with q | q | q | q | q | q | q | q | q | q | q | q | q <;> subst q
  · rw [e1, show t 1 = h 0 from r 1 rfl]; exact (adC_0 h nc kd fg tl).symm
  · rw [e2, show t 2 = h 1 from r 2 rfl]; exact (adC_1 h nc kd fg tl).symm
  · rw [e3, show t 3 = h 2 from r 3 rfl]; exact (adC_2 h nc kd fg tl).symm
  · rw [e4, show t 4 = h 3 from r 4 rfl]; exact (adC_3 h nc kd fg tl).symm
  · rw [e5, show t 5 = mh h from r 5 rfl]; exact (adC_mh w hc kd fg tl).symm
  · rw [e6, show t 6 = h 5 from r 6 rfl]; exact (adC_5 h nc kd fg tl).symm
  · rw [eo 7 (by omega) (by omega), show t 7 = h 6 from r 7 rfl]; exact (adC_o h nc kd fg tl (k := 6) (by omega) (by omega)).symm
  · rw [eo 8 (by omega) (by omega), show t 8 = h 7 from r 8 rfl]; exact (adC_o h nc kd fg tl (k := 7) (by omega) (by omega)).symm
  · rw [eo 9 (by omega) (by omega), show t 9 = h 8 from r 9 rfl]; exact (adC_o h nc kd fg tl (k := 8) (by omega) (by omega)).symm
  · rw [eo 10 (by omega) (by omega), show t 10 = h 9 from r 10 rfl]; exact (adC_o h nc kd fg tl (k := 9) (by omega) (by omega)).symm
  · rw [e20]; exact (adC_10 h nc kd fg tl).symm
  · rw [eo 21 (by omega) (by omega), show t 21 = h 11 from r 21 rfl]; exact (adC_o h nc kd fg tl (k := 11) (by omega) (by omega)).symm
  · rw [eo 22 (by omega) (by omega), show t 22 = h 12 from r 22 rfl]; exact (adC_o h nc kd fg tl (k := 12) (by omega) (by omega)).symm
theorem addCard_M {h t : HS} {nc nb p : Nat} (w : WF h nc nb) (r : rel h t) (hp : p + 2 < 144) : (6 ≤ t 14 (p + 2) ∨ nc = 8 → f_X2_comesCard (nI p) t = some (0, t)) ∧ (¬ 6 ≤ t 14 (p + 2) → ¬ nc = 8 → ∃ t', f_X2_comesCard (nI p) t = some (1, t') ∧ rel (adC h nc (t 14 p) (t 14 (p + 1)) (t 14 (p + 2))) t' ∧ fr t t') := by
  have h8 := w.nc8
  have r20 : t 20 0 = nI nc := by rw [r 20 rfl]; exact w.c 0
  have e2 : nI p + 2 = nI (p + 2) := nI_add p 2
  have E2 : rd 144 (t 14) (nI p + 2) = some (t 14 (p + 2)) := by rw [e2, rd_nI _ (by omega) (by omega)]
  have E1 : rd 144 (t 14) (nI p + 1) = some (t 14 (p + 1)) := by rw [nI_1, rd_nI _ (by omega) (by omega)]
  have E0 : rd 144 (t 14) (nI p) = some (t 14 p) := rd_nI _ (by omega) (by omega)
  unfold f_X2_comesCard
  simp only [jnE]
  rw [E2, Option.bind_some, r20]
  refine ⟨fun q => ?_, fun q1 q2 => ?_⟩
  · by_cases z : 6 ≤ t 14 (p + 2)
    · rw [if_pos z]
    · rw [if_neg z, if_pos]
      rw [q.resolve_left z]; rfl
  · have W : ∀ f v, wr 8 f (nI nc) v = some (upd f nc v) := fun f v => wr_nI f v (by omega) (by omega)
    rw [if_neg q1, if_neg (show ¬ nI nc = (8 : Int32) from fun y => q2 ((nI_eq (b := 8) (by omega) (by omega)).mp y)), E0, Option.bind_some, W, Option.bind_some]
    obtain ⟨T1, hT1⟩ : ∃ T : HS, st t 1 (upd (t 1) nc (t 14 p)) = T := ⟨_, rfl⟩
    have o1 : ∀ j, j ≠ 1 → T1 j = t j := fun j hj => by rw [← hT1]; exact st_ne hj
    have v1 : T1 1 = (upd (t 1) nc (t 14 p)) := by rw [← hT1]; exact st_eq _ _ _
    rw [hT1, o1 14 (by decide), E1, Option.bind_some, o1 2 (by decide), o1 20 (by decide), r20, W, Option.bind_some]
    obtain ⟨T2, hT2⟩ : ∃ T : HS, st T1 2 (upd (t 2) nc (t 14 (p + 1))) = T := ⟨_, rfl⟩
    have o2 : ∀ j, j ≠ 2 → T2 j = T1 j := fun j hj => by rw [← hT2]; exact st_ne hj
    have v2 : T2 2 = (upd (t 2) nc (t 14 (p + 1))) := by rw [← hT2]; exact st_eq _ _ _
    rw [hT2, o2 14 (by decide), o1 14 (by decide), E2, Option.bind_some, o2 3 (by decide), o1 3 (by decide), o2 20 (by decide), o1 20 (by decide), r20, W, Option.bind_some]
    obtain ⟨T3, hT3⟩ : ∃ T : HS, st T2 3 (upd (t 3) nc (t 14 (p + 2))) = T := ⟨_, rfl⟩
    have o3 : ∀ j, j ≠ 3 → T3 j = T2 j := fun j hj => by rw [← hT3]; exact st_ne hj
    have v3 : T3 3 = (upd (t 3) nc (t 14 (p + 2))) := by rw [← hT3]; exact st_eq _ _ _
    rw [hT3, o3 4 (by decide), o2 4 (by decide), o1 4 (by decide), o3 20 (by decide), o2 20 (by decide), o1 20 (by decide), r20, W, Option.bind_some]
    obtain ⟨T4, hT4⟩ : ∃ T : HS, st T3 4 (upd (t 4) nc 0) = T := ⟨_, rfl⟩
    have o4 : ∀ j, j ≠ 4 → T4 j = T3 j := fun j hj => by rw [← hT4]; exact st_ne hj
    have v4 : T4 4 = (upd (t 4) nc 0) := by rw [← hT4]; exact st_eq _ _ _
    rw [hT4, o4 5 (by decide), o3 5 (by decide), o2 5 (by decide), o1 5 (by decide), o4 20 (by decide), o3 20 (by decide), o2 20 (by decide), o1 20 (by decide), r20, W, Option.bind_some]
    obtain ⟨T5, hT5⟩ : ∃ T : HS, st T4 5 (upd (t 5) nc 0) = T := ⟨_, rfl⟩
    have o5 : ∀ j, j ≠ 5 → T5 j = T4 j := fun j hj => by rw [← hT5]; exact st_ne hj
    have v5 : T5 5 = (upd (t 5) nc 0) := by rw [← hT5]; exact st_eq _ _ _
    rw [hT5, o5 6 (by decide), o4 6 (by decide), o3 6 (by decide), o2 6 (by decide), o1 6 (by decide), o5 20 (by decide), o4 20 (by decide), o3 20 (by decide), o2 20 (by decide), o1 20 (by decide), r20, W, Option.bind_some]
    obtain ⟨T6, hT6⟩ : ∃ T : HS, st T5 6 (upd (t 6) nc (nI nc)) = T := ⟨_, rfl⟩
    have o6 : ∀ j, j ≠ 6 → T6 j = T5 j := fun j hj => by rw [← hT6]; exact st_ne hj
    have v6 : T6 6 = (upd (t 6) nc (nI nc)) := by rw [← hT6]; exact st_eq _ _ _
    rw [hT6, o6 20 (by decide), o5 20 (by decide), o4 20 (by decide), o3 20 (by decide), o2 20 (by decide), o1 20 (by decide), r20]
    refine ⟨st T6 20 (fun _ => nI nc + 1), rfl, adC_rel w r (by omega) (by rw [st_ne (by decide), o6 1 (by decide), o5 1 (by decide), o4 1 (by decide), o3 1 (by decide), o2 1 (by decide), v1]) (by rw [st_ne (by decide), o6 2 (by decide), o5 2 (by decide), o4 2 (by decide), o3 2 (by decide), v2]) (by rw [st_ne (by decide), o6 3 (by decide), o5 3 (by decide), o4 3 (by decide), v3]) (by rw [st_ne (by decide), o6 4 (by decide), o5 4 (by decide), v4]) (by rw [st_ne (by decide), o6 5 (by decide), v5]) (by rw [st_ne (by decide), v6]) (st_eq _ _ _) (fun k hk hk2 => ?_), fun j hj q => ?_⟩
    · rw [st_ne (show k ≠ 20 by omega), o6 k (by omega), o5 k (by omega), o4 k (by omega), o3 k (by omega), o2 k (by omega), o1 k (by omega)]
    · have n : ∀ c, core c = true → j ≠ c := fun c hc e => by rw [e, hc] at hj; cases hj
      rw [st_ne (n 20 rfl), o6 j (n 6 rfl), o5 j (n 5 rfl), o4 j (n 4 rfl), o3 j (n 3 rfl), o2 j (n 2 rfl), o1 j (n 1 rfl)]
/-! a bidder more -/
def adB (h : HS) (nb : Nat) (kd fg mo : Int32) : HS := st (st (st (st (st h 6 (upd (h 6) nb kd)) 7 (upd (h 7) nb fg)) 8 (upd (h 8) nb mo)) 9 (upd (h 9) nb 50)) 11 (fun _ => nI nb + 1)
theorem adB_WF {h : HS} {nc nb : Nat} (w : WF h nc nb) (hb : nb < 6) {kd fg mo : Int32} (hf : inR 0 9 fg) (hm : inR 0 999 mo) : WF (adB h nb kd fg mo) nc (nb + 1) := by
  have h8 := w.nc8
  have e6 : (adB h nb kd fg mo) 6 = upd (h 6) nb kd := rfl
  have e7 : (adB h nb kd fg mo) 7 = upd (h 7) nb fg := rfl
  have e8 : (adB h nb kd fg mo) 8 = upd (h 8) nb mo := rfl
  have e9 : (adB h nb kd fg mo) 9 = upd (h 9) nb 50 := rfl
  have eo : ∀ k, (k < 6 ∨ 10 ≤ k) → k ≠ 11 → (adB h nb kd fg mo) k = h k := fun k h1 h2 => by
    unfold adB
    rw [st_ne h2, st_ne (by omega), st_ne (by omega), st_ne (by omega), st_ne (by omega)]
  refine ⟨⟨h8, by omega, ?_, ?_, ?_⟩, fun c q => ?_, fun i j hi hj e => ?_, fun b q => ?_, fun k hk i hi => ?_, fun k h1 h2 i hi => ?_, fun k hk => ?_⟩
  · rw [eo 10 (by omega) (by omega)]; exact w.1.2.2.1
  · show (fun _ => nI nb + 1) = _
    rw [nI_1]
  · rw [eo 12 (by omega) (by omega)]; exact w.1.2.2.2.2
  · rw [eo 1 (by omega) (by omega), eo 2 (by omega) (by omega), eo 3 (by omega) (by omega), eo 4 (by omega) (by omega), eo 5 (by omega) (by omega)]
    refine ⟨w.fig q, w.tel q, w.age q, ?_, w.ord q⟩
    rcases w.hol q with e | ⟨b, hb', e⟩
    · exact Or.inl e
    · exact Or.inr ⟨b, by omega, e⟩
  · rw [eo 5 (by omega) (by omega)] at e
    exact w.inj hi hj e
  · rw [e7, e8, e9]
    by_cases z : b = nb
    · subst z
      rw [upd_eq, upd_eq, upd_eq]
      exact ⟨hf, hm, nI_inR (k := 50) (b := 99) (by omega) (by omega)⟩
    · rw [upd_ne z, upd_ne z, upd_ne z]
      exact ⟨w.bfig (by omega), w.pur (by omega), w.bel (by omega)⟩
  · rw [eo k (by omega) (by omega)]
    exact w.z hk i hi
  · have z : ¬ i = nb := by omega
    rcases (show k = 6 ∨ k = 7 ∨ k = 8 ∨ k = 9 by omega) with q | q | q | q <;> subst q
    · rw [e6, upd_ne z]; exact w.zb (by omega) (by omega) i (by omega)
    · rw [e7, upd_ne z]; exact w.zb (by omega) (by omega) i (by omega)
    · rw [e8, upd_ne z]; exact w.zb (by omega) (by omega) i (by omega)
    · rw [e9, upd_ne z]; exact w.zb (by omega) (by omega) i (by omega)
  · rw [eo k (by omega) (by omega)]
    exact w.2.2.2.2.2.2 k hk
theorem addBidder_X {h : HS} {nc nb : Nat} (w : WF h nc nb) (kd fg mo : Int32) : f_X0_addBidder kd fg mo h = if nb = 6 then some (0, h) else some (1, adB h nb kd fg mo) := by
  have h6 := w.nb6
  have e : ∀ (hc : nb < 6) f v, ptv 6 f (nI nb) v = upd f nb v := fun hc f v => ptv_nI f v hc (by omega)
  unfold f_X0_addBidder
  simp only [jnE]
  rw [w.b]
  by_cases q : nb = 6
  · rw [if_pos q, if_neg (by rw [q]; decide)]
  · rw [if_neg q, if_pos (show nI nb < (6 : Int32) from nI_lt (b := 6) (by omega) (by omega))]
    show some ((1 : Int32), st (st (st (st (st h 6 (ptv 6 (h 6) (nI nb) kd)) 7 (ptv 6 (h 7) (h 11 0) fg)) 8 (ptv 6 (h 8) (h 11 0) mo)) 9 (ptv 6 (h 9) (h 11 0) 50)) 11 (fun _ => h 11 0 + 1)) = _
    rw [w.b, e (by omega), e (by omega), e (by omega), e (by omega)]
    rfl
theorem addBidder_M {h t : HS} {nc nb p : Nat} (w : WF h nc nb) (r : rel h t) (hp : p + 2 < 144) : (nb = 6 → f_X2_comesBidder (nI p) t = some (0, t)) ∧ (¬ nb = 6 → ∃ t', f_X2_comesBidder (nI p) t = some (1, t') ∧ rel (adB h nb (t 14 p) (t 14 (p + 1)) (t 14 (p + 2))) t' ∧ fr t t') := by
  have h6 := w.nb6
  have r21 : t 21 0 = nI nb := by rw [r 21 rfl]; exact w.b 0
  have e2 : nI p + 2 = nI (p + 2) := nI_add p 2
  have E2 : rd 144 (t 14) (nI p + 2) = some (t 14 (p + 2)) := by rw [e2, rd_nI _ (by omega) (by omega)]
  have E1 : rd 144 (t 14) (nI p + 1) = some (t 14 (p + 1)) := by rw [nI_1, rd_nI _ (by omega) (by omega)]
  have E0 : rd 144 (t 14) (nI p) = some (t 14 p) := rd_nI _ (by omega) (by omega)
  unfold f_X2_comesBidder
  simp only [jnE]
  rw [r21]
  refine ⟨fun q => ?_, fun q2 => ?_⟩
  · rw [if_pos]
    rw [q]; rfl
  · have W : ∀ f v, wr 6 f (nI nb) v = some (upd f nb v) := fun f v => wr_nI f v (by omega) (by omega)
    rw [if_neg (show ¬ nI nb = (6 : Int32) from fun y => q2 ((nI_eq (b := 6) (by omega) (by omega)).mp y)), E0, Option.bind_some, W, Option.bind_some]
    refine ⟨st (st (st (st (st t 7 (upd (t 7) nb (t 14 p))) 8 (upd (t 8) nb (t 14 (p + 1)))) 9 (upd (t 9) nb (t 14 (p + 2)))) 10 (upd (t 10) nb 50)) 21 (fun _ => nI nb + 1), ?_, fun j hj => ?_, fun j hj q => ?_⟩
    · show (rd 144 (t 14) (nI p + 1)).bind (fun v5 => (wr 6 (t 8) (t 21 0) v5).bind fun v6 => (rd 144 (t 14) (nI p + 2)).bind fun v8 => (wr 6 (t 9) (t 21 0) v8).bind fun v9 => (wr 6 (t 10) (t 21 0) 50).bind fun v11 => some ((1 : Int32), st (st (st (st (st t 7 (upd (t 7) nb (t 14 p))) 8 v6) 9 v9) 10 v11) 21 (fun _ => t 21 0 + 1))) = _
      rw [E1, Option.bind_some, r21, W, Option.bind_some, E2, Option.bind_some, W, Option.bind_some, W, Option.bind_some]
    · rcases core_cases hj with q | q | q | q | q | q | q | q | q | q | q | q | q <;> subst q
      · exact r 1 rfl
      · exact r 2 rfl
      · exact r 3 rfl
      · exact r 4 rfl
      · exact r 5 rfl
      · exact r 6 rfl
      · show upd (t 7) nb _ = upd (h 6) nb _; rw [show t 7 = h 6 from r 7 rfl]
      · show upd (t 8) nb _ = upd (h 7) nb _; rw [show t 8 = h 7 from r 8 rfl]
      · show upd (t 9) nb _ = upd (h 8) nb _; rw [show t 9 = h 8 from r 9 rfl]
      · show upd (t 10) nb _ = upd (h 9) nb _; rw [show t 10 = h 9 from r 10 rfl]
      · exact r 20 rfl
      · rfl
      · exact r 22 rfl
    · have n : ∀ c, core c = true → j ≠ c := fun c hc e => by rw [e, hc] at hj; cases hj
      rw [st_ne (n 21 rfl), st_ne (n 10 rfl), st_ne (n 9 rfl), st_ne (n 8 rfl), st_ne (n 7 rfl)]
