/-! class and check, call by call -/
theorem cpv_full {f g : Nat → Int32} {n : Nat} (h1 : ∀ q, n ≤ q → f q = 0) (h2 : ∀ q, n ≤ q → g q = 0) : cpv n f g = f := by
  funext q
  unfold cpv va_cpy
  by_cases z : q < n
  · rw [if_pos (by omega)]; congr 1; omega
  · rw [if_neg (by omega), h1 q (by omega), h2 q (by omega)]
/-- what becomes another's is just that -/
theorem become_X {h g : HS} {a b c d : Nat} (wh : WF h a b) (wg : WF g c d) : f_X0_become h g = some g := by
  have h8 := wh.nc8
  have h6 := wh.nb6
  have g8 := wg.nc8
  have g6 := wg.nb6
  have e : ∀ k, k < 6 → cpv 8 (g k) (h k) = g k := fun k hk => cpv_full (fun q hq => wg.z hk q (by omega)) (fun q hq => wh.z hk q (by omega))
  have e' : ∀ k, 6 ≤ k → k < 10 → cpv 6 (g k) (h k) = g k := fun k hk hk2 => cpv_full (fun q hq => wg.zb hk hk2 q (by omega)) (fun q hq => wh.zb hk hk2 q (by omega))
  unfold f_X0_become
  simp only [jnE]
  refine congrArg some ?_
  funext k
  have s10 : g 10 = fun _ => g 10 0 := by rw [wg.1.2.2.1]
  have s11 : g 11 = fun _ => g 11 0 := by rw [wg.1.2.2.2.1]
  have s12 : g 12 = fun _ => g 12 0 := by funext i; exact wg.1.2.2.2.2 i
  by_cases hk : 13 ≤ k
  · rw [st_ne (by omega), st_ne (by omega), st_ne (by omega), st_ne (by omega), st_ne (by omega), st_ne (by omega), st_ne (by omega), st_ne (by omega), st_ne (by omega), st_ne (by omega), st_ne (by omega), st_ne (by omega), st_ne (by omega), wh.2.2.2.2.2.2 k hk, wg.2.2.2.2.2.2 k hk]
  · rcases (show k = 0 ∨ k = 1 ∨ k = 2 ∨ k = 3 ∨ k = 4 ∨ k = 5 ∨ k = 6 ∨ k = 7 ∨ k = 8 ∨ k = 9 ∨ k = 10 ∨ k = 11 ∨ k = 12 by omega) with q | q | q | q | q | q | q | q | q | q | q | q | q <;> subst q
    · exact e 0 (by omega)
    · exact e 1 (by omega)
    · exact e 2 (by omega)
    · exact e 3 (by omega)
    · exact e 4 (by omega)
    · exact e 5 (by omega)
    · exact e' 6 (by omega) (by omega)
    · exact e' 7 (by omega) (by omega)
    · exact e' 8 (by omega) (by omega)
    · exact e' 9 (by omega) (by omega)
    · exact s10.symm
    · exact s11.symm
    · exact s12.symm
/-- what the class's object holds beside its halls, and the check the same -/
def RX (x k t : HS) : Prop := (x 3 0 = 0 ∨ x 3 0 = 1) ∧ t 26 0 = x 3 0 ∧ (x 3 0 = 1 → sl (t 15) 0 (mo k)) ∧ (∃ lc, lc ≤ 96 ∧ x 4 0 = nI lc ∧ t 23 0 = nI lc ∧ ∀ i, i < lc → x 0 i = t 11 i ∧ inR 0 255 (t 11 i)) ∧ (∃ rc, rc ≤ 16 ∧ x 5 0 = nI rc ∧ t 30 0 = nI rc ∧ ∀ i, i < rc → x 1 i = t 18 i) ∧ x 2 = t 0 ∧ t 29 0 = 0
def RR (x n m k t : HS) : Prop := ∃ nc nb, WF n nc nb ∧ rel n t ∧ (∃ a b, WF m a b) ∧ (∃ a b, WF k a b) ∧ RX x k t
theorem RX.g0 {x k t t' : HS} (h : RX x k t) (g : G0 t t') : RX x k t' := by
  obtain ⟨h1, h2, h3, ⟨lc, l1, l2, l3, l4⟩, ⟨rc, r1, r2, r3, r4⟩, h6, h7⟩ := h
  have e : ∀ j, core j = false → j ≠ 15 → j ≠ 16 → j ≠ 27 → j ≠ 28 → t' j = t j := g.1
  refine ⟨h1, by rw [e 26 rfl (by decide) (by decide) (by decide) (by decide)]; exact h2, fun q => (h3 q).congr (fun j _ hj => g.2 j (by omega)), ⟨lc, l1, l2, by rw [e 23 rfl (by decide) (by decide) (by decide) (by decide)]; exact l3, fun i hi => by rw [e 11 rfl (by decide) (by decide) (by decide) (by decide)]; exact l4 i hi⟩, ⟨rc, r1, r2, by rw [e 30 rfl (by decide) (by decide) (by decide) (by decide)]; exact r3, fun i hi => by rw [e 18 rfl (by decide) (by decide) (by decide) (by decide)]; exact r4 i hi⟩, by rw [e 0 rfl (by decide) (by decide) (by decide) (by decide)]; exact h6, by rw [e 29 rfl (by decide) (by decide) (by decide) (by decide)]; exact h7⟩
theorem RX.a29 {x k t : HS} (h : RX x k t) : t 29 0 = 0 := h.2.2.2.2.2.2
/-- a refusal -/
theorem refuse_XM {x n m k t : HS} (h : RR x n m k t) {r : Int32} {j : Nat} (hj : j < 7) (hr : -r = nI j) : ∃ x' t', f_X1_refuse r x n m k = some (r, x') ∧ f_X2_no r t = some (r, t') ∧ RR x' n m k t' := by
  obtain ⟨nc, nb, w, rl, wm, wk, hx⟩ := h
  obtain ⟨h1, h2, h3, h4, h5, h6, h7⟩ := hx
  refine ⟨st x 2 (upd (x 2) j (x 2 j + 1)), st t 0 (upd (t 0) j (t 0 j + 1)), ?_, ?_, nc, nb, w, rl.same rfl, wm, wk, h1, h2, h3, h4, h5, ?_, h7⟩
  · unfold f_X1_refuse
    rw [hr, atv_nI _ hj (by omega), ptv_nI _ _ hj (by omega)]
    rfl
  · unfold f_X2_no
    rw [hr, rd_nI _ hj (by omega), Option.bind_some, wr_nI _ _ hj (by omega), Option.bind_some]
    rfl
  · rw [st_eq, st_eq, h6]
theorem refuseFar_XM {x n m k t : HS} (h : RR x n m k t) {r : Int32} {j : Nat} (hj : j < 7) (hr : -r = nI j) : ∃ (v : Int64) (x' t' : HS), f_X1_refuseFar r x n m k = some (v, x') ∧ f_X2_lowestOf r t = some (v, t') ∧ RR x' n m k t' := by
  obtain ⟨x', t', a, b, c⟩ := refuse_XM h hj hr
  refine ⟨4000000000000000000 - r.toInt64, x', t', by unfold f_X1_refuseFar; rw [a]; rfl, ?_, c⟩
  unfold f_X2_no at b
  unfold f_X2_lowestOf
  rw [hr, rd_nI _ hj (by omega), Option.bind_some, wr_nI _ _ hj (by omega), Option.bind_some] at b ⊢
  simp only [jnE] at b ⊢
  have := Option.some.inj b
  rw [Prod.mk.injEq] at this
  rw [this.2]
theorem beyond_eq (a b c : Int32) : f_X1_beyond a b c = f_X2_bound a b c := rfl
/-- a bound's answer -/
theorem bound_or (a b c : Int32) : (f_X2_bound a b c = 0 ∧ b ≤ a ∧ a ≤ c) ∨ f_X2_bound a b c = -6 ∨ f_X2_bound a b c = -4 := by
  unfold f_X2_bound
  by_cases q : b ≤ a
  · rw [if_pos q]
    by_cases z : a ≤ c
    · rw [if_pos z]; exact Or.inl ⟨rfl, q, z⟩
    · rw [if_neg z]; exact Or.inr (Or.inl rfl)
  · rw [if_neg q]; exact Or.inr (Or.inr rfl)
theorem bound_ne {a b c : Int32} : f_X2_bound a b c ≠ 0 → ∃ j, j < 7 ∧ -(f_X2_bound a b c) = nI j := by
  intro h
  rcases bound_or a b c with ⟨q, -⟩ | q | q
  · exact absurd q h
  · rw [q]; exact ⟨6, by omega, by decide⟩
  · rw [q]; exact ⟨4, by omega, by decide⟩
theorem bound_in {a : Int32} {c : Nat} (hc : c < 2 ^ 31) (h : f_X2_bound a 0 (nI c) = 0) : ∃ k, k ≤ c ∧ a = nI k := by
  rcases bound_or a 0 (nI c) with ⟨-, q1, q2⟩ | q | q
  · rw [Int32.le_iff_toInt_le] at q1 q2
    rw [nI_toInt hc] at q2
    exact inR_nI ⟨q1, q2⟩ hc
  · rw [q] at h; exact absurd h (by decide)
  · rw [q] at h; exact absurd h (by decide)
/-! places -/
theorem place_M {h t : HS} {nc nb c : Nat} (w : WF h nc nb) (r : rel h t) (K : Int32 → Option Int32) (p : Nat) (hp : p < nc) (ep : h 5 p = nI c) : ∀ (k i n : Nat), i + k = p → k < n → L_X2_placeOf_2 (nI c) t K n (nI i) = K (nI p)
  | 0, i, n + 1, hi, _ => by
    have : i = p := by omega
    subst this
    have h8 := w.nc8
    have r6 : t 6 = h 5 := r 6 rfl
    rw [L_X2_placeOf_2, r6, rd_nI _ (by omega) (by omega), Option.bind_some, if_pos ep]
  | k + 1, i, n + 1, hi, hn => by
    have h8 := w.nc8
    have r6 : t 6 = h 5 := r 6 rfl
    have ih := place_M w r K p hp ep k (i + 1) n (by omega) (by omega)
    rw [L_X2_placeOf_2, r6, rd_nI _ (by omega) (by omega), Option.bind_some, if_neg, nI_1]
    · exact ih
    · intro q
      have := w.inj (i := i) (j := p) (by omega) hp (by rw [q, ep])
      omega
theorem place_X {h : HS} {nc nb c : Nat} (w : WF h nc nb) (K : Option Int32) (p : Nat) (hp : p < nc) (ep : h 5 p = nI c) : ∀ (k i n : Nat), i + k = p → k < n → L_X0_placeOf_2 (nI c) h K n (nI i) = some (nI p)
  | 0, i, n + 1, hi, _ => by
    have : i = p := by omega
    subst this
    have h8 := w.nc8
    rw [L_X0_placeOf_2, w.c, if_neg (nI_ge (by omega) (by omega)), atv_nI _ (by omega) (by omega), if_pos ep]
  | k + 1, i, n + 1, hi, hn => by
    have h8 := w.nc8
    have ih := place_X w K p hp ep k (i + 1) n (by omega) (by omega)
    rw [L_X0_placeOf_2, w.c, if_neg (nI_ge (by omega) (by omega)), atv_nI _ (by omega) (by omega), if_neg, nI_1]
    · exact ih
    · intro q
      have := w.inj (i := i) (j := p) (by omega) hp (by rw [q, ep])
      omega
/-- an order without repeats on nc places has every card (nc is 8 at most) -/
theorem WF.place {h : HS} {nc nb c : Nat} (w : WF h nc nb) (hc : c < nc) : ∃ p, p < nc ∧ h 5 p = nI c := by
  -- the map from places to cards is one to one on nc things, so it is onto
  have h8 := w.nc8
  apply Classical.byContradiction
  intro hno
  have hne : ∀ p, p < nc → h 5 p ≠ nI c := fun p hp e => hno ⟨p, hp, e⟩
  have hf : ∀ i, ∃ p, i < nc → p < nc ∧ h 5 i = nI p := fun i => by
    by_cases q : i < nc
    · obtain ⟨p, hp, e⟩ := w.ord q
      exact ⟨p, fun _ => ⟨hp, e⟩⟩
    · exact ⟨0, fun z => absurd z q⟩
  let f : Nat → Nat := fun i => Classical.choose (hf i)
  have hfs : ∀ i, i < nc → f i < nc ∧ h 5 i = nI (f i) := fun i hi => Classical.choose_spec (hf i) hi
  have hL : (List.range nc).map f ⊆ (List.range nc).erase c := by
    intro a ha
    obtain ⟨i, hi, rfl⟩ := List.mem_map.mp ha
    have hi := List.mem_range.mp hi
    rw [List.Nodup.mem_erase_iff List.nodup_range]
    refine ⟨fun e => hne i hi (by rw [(hfs i hi).2, e]), List.mem_range.mpr (hfs i hi).1⟩
  have hN : ((List.range nc).map f).Nodup := by
    rw [List.Nodup, List.pairwise_iff_getElem]
    intro i j hi hj hij e
    rw [List.length_map, List.length_range] at hi hj
    rw [List.getElem_map, List.getElem_map, List.getElem_range, List.getElem_range] at e
    have := w.inj hi hj (by rw [(hfs i hi).2, (hfs j hj).2, e])
    omega
  have := List.Nodup.length_le_of_subset hN hL
  rw [List.length_map, List.length_range, List.length_erase_of_mem (List.mem_range.mpr hc), List.length_range] at this
  omega
theorem placeOf_XM {h : HS} {nc nb c : Nat} (w : WF h nc nb) (hc : c < nc) : ∃ p, p < nc ∧ h 5 p = nI c ∧ f_X0_placeOf (nI c) h = some (nI p) ∧ ∀ t, rel h t → f_X2_placeOf (nI c) t = some (nI p) := by
  obtain ⟨p, hp, ep⟩ := w.place hc
  have h8 := w.nc8
  exact ⟨p, hp, ep, place_X w _ p hp ep p 0 fuel (by omega) (by unfold fuel; omega), fun t r => place_M w r (fun x => some x) p hp ep p 0 fuel (by omega) (by unfold fuel; omega)⟩
