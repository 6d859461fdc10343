/-! the telling of a hall, whole -/
theorem told.congr {a : Nat → Int32} {b : Int32} {i p : Nat} {f g : Nat → Int32} (h : told a b i p f) (e : ∀ j, j < p + 3 → g j = f j) : told a b i p g := by
  obtain ⟨h1, h2, h3, h4, h5, h6⟩ := h
  refine ⟨fun q => ?_, fun q => ?_, fun q => ?_, fun q => ?_, fun q => ?_, fun q => ?_⟩
  · rw [e p (by omega), e (p + 1) (by omega), e (p + 2) (by omega)]; exact h1 q
  · rw [e p (by omega), e (p + 1) (by omega), e (p + 2) (by omega)]; exact h2 q
  · rw [e p (by omega), e (p + 1) (by omega)]; exact h3 q
  · rw [e p (by omega), e (p + 1) (by omega)]; exact h4 q
  · rw [e p (by omega)]; exact h5 q
  · rw [e p (by omega)]; exact h6 q
/-- where the statements begin -/
def sS (a : Nat → Int32) : Nat → Nat
  | 0 => 0
  | k + 1 => sS a k + 1 + (sB (f_X1_shapeBehind (a (sS a k)))).length
/-- a statement stands there -/
def okS (a : Nat → Int32) (lc k : Nat) : Prop := sS a k < lc ∧ (∃ cs, body7 (a (sS a k)) cs ∧ sB (f_X1_shapeBehind (a (sS a k))) = cs ++ [59]) ∧ chk a lc (sB (f_X1_shapeBehind (a (sS a k)))) (sS a k + 1) = none
def tabS (a : Nat → Int32) (q : Nat) (t : HS) : Prop := ∀ k, k < q → t 12 k = a (sS a k) ∧ t 13 k = nI (sS a k) ∧ told a (a (sS a k)) (sS a k + 1) (3 * k) (t 14)
def sm5 (t t' : HS) : Prop := ∀ k, k ≠ 12 → k ≠ 13 → k ≠ 14 → k ≠ 24 → k ≠ 25 → t' k = t k
theorem sm5.tr {t t' t'' : HS} (h : sm5 t t') (h2 : sm5 t' t'') : sm5 t t'' := fun k a b c d e => (h2 k a b c d e).trans (h k a b c d e)
theorem sB_le (b : Int32) : (sB (f_X1_shapeBehind b)).length ≤ 10 := by
  rcases shape_or b with ⟨cs, hb, e⟩ | ⟨e, -⟩
  · rw [e]
    rcases hb with ⟨-, rfl⟩ | ⟨-, rfl⟩ | ⟨-, rfl⟩ | ⟨-, rfl⟩ | ⟨-, rfl⟩ | ⟨-, rfl⟩ | ⟨-, rfl⟩ <;> decide
  · rw [e]; decide
theorem body_len {b : Int32} {cs : List Int32} (hb : body7 b cs) : 1 ≤ cs.length ∧ cs.length ≤ 5 := by
  rcases hb with ⟨-, rfl⟩ | ⟨-, rfl⟩ | ⟨-, rfl⟩ | ⟨-, rfl⟩ | ⟨-, rfl⟩ | ⟨-, rfl⟩ | ⟨-, rfl⟩ <;> decide
def kW (lc : Nat) : Nat → Int32 → Option Int32 := fun (j2_76 : Nat) (j3_76 : Int32) => if nI lc = 0 then some (nI lc) else if (sLen j2_76) ≤ j3_76 then some (-1 : Int32) else some (nI lc)
theorem kW_in {lc sid s : Nat} (hs : s < (sB sid).length) (h10 : (sB sid).length ≤ 10) : kW lc sid (nI s) = some (nI lc) := by
  unfold kW
  by_cases q : nI lc = 0
  · rw [if_pos q]
  · rw [if_neg q, if_neg (show ¬ sLen sid ≤ nI s from nI_ge hs (by omega))]
theorem told_run {x n m k : HS} {lc : Nat} (hlc : lc ≤ 96) (hr : ∀ j, j < lc → inR 0 255 (x 0 j)) : ∀ (z q : Nat) (t : HS) (sid : Nat), (sB sid).length ≤ 10 → lc ≤ sS (x 0) q + z → (∀ j, j < q → okS (x 0) lc j) → sS (x 0) q ≤ lc → 3 * q ≤ sS (x 0) q → t 23 0 = nI lc → t 24 0 = nI (sS (x 0) q) → t 25 0 = nI q → (∀ j, j < lc → t 11 j = x 0 j) → tabS (x 0) q t →
    (∃ (Q : Nat) (t' : HS), 1 ≤ Q ∧ Q ≤ 32 ∧ sS (x 0) Q = lc ∧ (∀ j, j < Q → okS (x 0) lc j) ∧ tabS (x 0) Q t' ∧ t' 25 0 = nI Q ∧ sm5 t t' ∧ (∀ n', z + 10 < n' → L_X1_wrongLetter_8 (nI lc) x n m k (kW lc) n' sid (nI (sB sid).length) (nI (sS (x 0) q)) = some (-1)) ∧ ∀ K n', z + 2 < n' → L_X2_hall_12 K n' 1 t = K 1 t') ∨
    ∃ (j : Nat) (t' : HS), j ≤ lc ∧ t' 24 0 = nI j ∧ sm5 t t' ∧ (∀ n', z + 10 < n' → L_X1_wrongLetter_8 (nI lc) x n m k (kW lc) n' sid (nI (sB sid).length) (nI (sS (x 0) q)) = some (nI j)) ∧ ∀ K n', z + 2 < n' → L_X2_hall_12 K n' 1 t = K 0 t' := by
  intro z
  induction z using Nat.strongRecOn with
  | _ z ih =>
  intro q t sid hsid hz hok hle h3 h23 h24 h25 ha tab
  have q32 : q ≤ 32 := by omega
  by_cases c0 : sS (x 0) q < lc
  · -- a statement more is tried
    have ent : ∀ K n', L_X2_hall_12 K (n' + 1) 1 t = (f_X2_statement t).bind fun v12 => if v12.1 = 0 then L_X2_hall_12 K n' v12.1 (st v12.2 25 (fun _ => ((v12.2 25 0) + (0 : Int32)))) else L_X2_hall_12 K n' v12.1 (st v12.2 25 (fun _ => ((v12.2 25 0) + (1 : Int32)))) := fun K n' => by
      rw [L_X2_hall_12, if_neg N10]
      simp only [jnE]
      rw [h24, h23, if_pos (nI_lt c0 (by omega))]
    have k0 : ∀ K n' T, L_X2_hall_12 K (n' + 1) 0 T = K 0 T := fun K n' T => by rw [L_X2_hall_12, if_pos rfl]
    obtain ⟨SA, SB⟩ := stmt_M (a := x 0) (q := q) h23 h24 h25 ha hr hlc hle (by omega)
    have xin : ∀ n', L_X1_wrongLetter_8 (nI lc) x n m k (kW lc) (n' + 1) sid (nI (sB sid).length) (nI (sS (x 0) q)) = if (sEmp (f_X1_shapeBehind (x 0 (sS (x 0) q)))) = 0 then (L_X1_wrongLetter_8 (nI lc) x n m k (kW lc) n' (f_X1_shapeBehind (x 0 (sS (x 0) q))) (0 : Int32) (nI (sS (x 0) q + 1))) else some (nI (sS (x 0) q)) := fun n' => by
      rw [L_X1_wrongLetter_8, if_neg (nI_ge c0 (by omega)), if_neg (show ¬ nI (sB sid).length < sLen sid from nI_nlt (Nat.le_refl _) (by omega)), atv_nI _ (by omega) (by omega), nI_1]
    rcases shape_or (x 0 (sS (x 0) q)) with ⟨cs, hb, e⟩ | ⟨e, -⟩
    · obtain ⟨SA1, SA2⟩ := SA c0 cs hb
      have bl := body_len hb
      have lcs : (cs ++ [59]).length = cs.length + 1 := by rw [List.length_append]; rfl
      have ne : sEmp (f_X1_shapeBehind (x 0 (sS (x 0) q))) = 0 := by
        unfold sEmp
        rw [e, lcs, if_neg (by omega)]
      have cx := fun n' hn => chk_X (x := x) (n := n) (m := m) (k := k) hlc (sB_le (x 0 (sS (x 0) q))) (kW lc) (fun s hs => kW_in hs (sB_le _)) (cs ++ [59]) 0 (sS (x 0) q + 1) n' (by rw [e]; rfl) (by omega) hn
      rw [lcs] at cx
      cases ec : chk (x 0) lc (cs ++ [59]) (sS (x 0) q + 1) with
      | some j =>
        right
        obtain ⟨t', y1, y2, y3⟩ := SA2 j ec
        refine ⟨j, st t' 25 (fun _ => ((t' 25 0) + (0 : Int32))), chk_le _ _ _ (by omega) ec, y2, fun k h1 h2 h3 h4 h5 => (st_ne h5).trans (y3 k h1 h2 h3 h4), fun n' hn => ?_, fun K n' hn => ?_⟩
        · obtain ⟨n', rfl⟩ : ∃ n2, n' = n2 + 1 := ⟨n' - 1, by omega⟩
          rw [xin, ne, if_pos rfl]
          have := (cx n' (by omega)).2 j ec
          rw [nI0] at this
          exact this
        · obtain ⟨n', rfl⟩ : ∃ n2, n' = n2 + 1 + 1 := ⟨n' - 2, by omega⟩
          rw [ent, y1, Option.bind_some, if_pos rfl]
          exact k0 K n' _
      | none =>
        obtain ⟨t', y1, y2, y3, y4, y5, y6, y7⟩ := SA1 ec
        have l := chk_len _ _ (by omega) ec
        rw [lcs] at l
        have eS : sS (x 0) (q + 1) = sS (x 0) q + 1 + (cs.length + 1) := by rw [sS, e, lcs]
        have okq : okS (x 0) lc q := ⟨c0, ⟨cs, hb, e⟩, by rw [e]; exact ec⟩
        have ok' : ∀ j, j < q + 1 → okS (x 0) lc j := fun j hj => by
          by_cases y : j = q
          · rw [y]; exact okq
          · exact hok j (by omega)
        have tab' : tabS (x 0) (q + 1) (st t' 25 (fun _ => ((t' 25 0) + (1 : Int32)))) := fun j hj => by
          show t' 12 j = _ ∧ t' 13 j = _ ∧ told (x 0) _ _ _ (t' 14)
          by_cases y : j = q
          · subst y
            rw [y3, y4, upd_eq, upd_eq]
            exact ⟨rfl, rfl, y5⟩
          · obtain ⟨a1, a2, a3⟩ := tab j (by omega)
            rw [y3, y4, upd_ne y, upd_ne y]
            exact ⟨a1, a2, a3.congr (fun i hi => y6 i (by omega))⟩
        have s5 : sm5 t (st t' 25 (fun _ => ((t' 25 0) + (1 : Int32)))) := fun k h1 h2 h3 h4 h5 => (st_ne h5).trans (y7 k h1 h2 h3 h4)
        have r := ih (z - (cs.length + 2)) (by omega) (q + 1) (st t' 25 (fun _ => ((t' 25 0) + (1 : Int32)))) (f_X1_shapeBehind (x 0 (sS (x 0) q))) (sB_le _) (by rw [eS]; omega) ok' (by rw [eS]; omega) (by rw [eS]; omega) (by rw [s5 23 (by decide) (by decide) (by decide) (by decide) (by decide)]; exact h23) (by rw [eS]; exact y2) (by show t' 25 0 + 1 = _; rw [y7 25 (by decide) (by decide) (by decide) (by decide), h25, nI_1]) (by rw [s5 11 (by decide) (by decide) (by decide) (by decide) (by decide)]; exact ha) tab'
        have hx : ∀ n', z + 10 < n' → ∃ n2, (z - (cs.length + 2)) + 10 < n2 ∧ L_X1_wrongLetter_8 (nI lc) x n m k (kW lc) n' sid (nI (sB sid).length) (nI (sS (x 0) q)) = L_X1_wrongLetter_8 (nI lc) x n m k (kW lc) n2 (f_X1_shapeBehind (x 0 (sS (x 0) q))) (nI (sB (f_X1_shapeBehind (x 0 (sS (x 0) q)))).length) (nI (sS (x 0) (q + 1))) := fun n' hn => by
          obtain ⟨n', rfl⟩ : ∃ n2, n' = n2 + 1 := ⟨n' - 1, by omega⟩
          have := (cx n' (by omega)).1 ec
          rw [nI0, Nat.zero_add] at this
          refine ⟨n' - (cs.length + 1), by omega, ?_⟩
          rw [xin, ne, if_pos rfl, this, e, lcs, eS]
        have hm : ∀ K n', z + 2 < n' → ∃ n2, (z - (cs.length + 2)) + 2 < n2 ∧ L_X2_hall_12 K n' 1 t = L_X2_hall_12 K n2 1 (st t' 25 (fun _ => ((t' 25 0) + (1 : Int32)))) := fun K n' hn => by
          obtain ⟨n', rfl⟩ : ∃ n2, n' = n2 + 1 := ⟨n' - 1, by omega⟩
          refine ⟨n', by omega, ?_⟩
          rw [ent, y1, Option.bind_some, if_neg N10]
        rcases r with ⟨Q, t2, r1, r2, r3, r4, r5, r6, r7, r8, r9⟩ | ⟨j, t2, r1, r2, r3, r4, r5⟩
        · left
          refine ⟨Q, t2, r1, r2, r3, r4, r5, r6, s5.tr r7, fun n' hn => ?_, fun K n' hn => ?_⟩
          · obtain ⟨n2, b1, b2⟩ := hx n' hn
            rw [b2]; exact r8 n2 b1
          · obtain ⟨n2, b1, b2⟩ := hm K n' hn
            rw [b2]; exact r9 K n2 b1
        · right
          refine ⟨j, t2, r1, r2, s5.tr r3, fun n' hn => ?_, fun K n' hn => ?_⟩
          · obtain ⟨n2, b1, b2⟩ := hx n' hn
            rw [b2]; exact r4 n2 b1
          · obtain ⟨n2, b1, b2⟩ := hm K n' hn
            rw [b2]; exact r5 K n2 b1
    · right
      have em : sEmp (f_X1_shapeBehind (x 0 (sS (x 0) q))) = 1 := by rw [e]; rfl
      refine ⟨sS (x 0) q, st t 25 (fun _ => ((t 25 0) + (0 : Int32))), hle, h24, fun k _ _ _ _ h5 => st_ne h5, fun n' hn => ?_, fun K n' hn => ?_⟩
      · obtain ⟨n', rfl⟩ : ∃ n2, n' = n2 + 1 := ⟨n' - 1, by omega⟩
        rw [xin, em, if_neg N10]
      · obtain ⟨n', rfl⟩ : ∃ n2, n' = n2 + 1 + 1 := ⟨n' - 2, by omega⟩
        rw [ent, SB (fun _ => e), Option.bind_some, if_pos rfl]
        exact k0 K n' _
  · have eq : sS (x 0) q = lc := by omega
    by_cases c1 : q = 0
    · subst c1
      have l0 : lc = 0 := by rw [← eq]; rfl
      subst l0
      right
      have SB := (stmt_M (a := x 0) (q := 0) h23 h24 h25 ha hr hlc hle (by omega)).2 (fun y => absurd y c0)
      refine ⟨0, st t 25 (fun _ => ((t 25 0) + (0 : Int32))), Nat.le_refl _, h24, fun k _ _ _ _ h5 => st_ne h5, fun n' hn => ?_, fun K n' hn => ?_⟩
      · obtain ⟨n', rfl⟩ : ∃ n2, n' = n2 + 1 := ⟨n' - 1, by omega⟩
        rw [L_X1_wrongLetter_8, if_pos (nI_le (Nat.zero_le _) (by omega))]
        unfold kW
        rw [if_pos (show nI 0 = 0 from rfl)]
      · obtain ⟨n', rfl⟩ : ∃ n2, n' = n2 + 1 + 1 := ⟨n' - 2, by omega⟩
        rw [L_X2_hall_12, if_neg N10]
        simp only [jnE]
        rw [h24, h23, h25, if_neg (show ¬ nI (sS (x 0) 0) < nI 0 from nI_nlt (Nat.zero_le _) (by omega)), if_pos (show nI 0 = 0 from rfl), SB, Option.bind_some, if_pos rfl, L_X2_hall_12, if_pos rfl]
        show K 0 (st t 25 (fun _ => t 25 0 + 0)) = _
        rw [h25]
    · left
      refine ⟨q, t, by omega, q32, eq, hok, tab, h25, fun _ _ _ _ _ _ => rfl, fun n' hn => ?_, fun K n' hn => ?_⟩
      · obtain ⟨n', rfl⟩ : ∃ n2, n' = n2 + 1 := ⟨n' - 1, by omega⟩
        rw [L_X1_wrongLetter_8, if_pos (nI_le (by omega) (by omega))]
        unfold kW
        rw [if_neg (nI_ne0 (by omega) (by omega)), if_pos (show sLen sid ≤ nI (sB sid).length from nI_le (Nat.le_refl _) (by omega))]
      · obtain ⟨n', rfl⟩ : ∃ n2, n' = n2 + 1 := ⟨n' - 1, by omega⟩
        rw [L_X2_hall_12, if_neg N10]
        simp only [jnE]
        rw [h24, h23, h25, if_neg (nI_nlt (by omega) (by omega)), if_neg (nI_ne0 (by omega) (by omega))]
