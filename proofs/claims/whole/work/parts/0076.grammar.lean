/-! the telling of a hall: the grammar -/
theorem fits01 (v c : Int32) : f_X1_fits v c = 0 ∨ f_X1_fits v c = 1 := by
  unfold f_X1_fits
  repeat' split
  all_goals first | exact Or.inl rfl | exact Or.inr rfl
/-- the letters fit a shape from a place on: the first that doesn't -/
def chk (a : Nat → Int32) (lc : Nat) : List Int32 → Nat → Option Nat
  | [], _ => none
  | c :: cs, i => if i < lc ∧ f_X1_fits (a i) c = 1 then chk a lc cs (i + 1) else some i
theorem chk_app (a : Nat → Int32) (lc : Nat) (ds : List Int32) : ∀ (cs : List Int32) (i : Nat), chk a lc (cs ++ ds) i = match chk a lc cs i with
    | none => chk a lc ds (i + cs.length)
    | some j => some j
  | [], i => rfl
  | c :: cs, i => by
    show (if i < lc ∧ f_X1_fits (a i) c = 1 then chk a lc (cs ++ ds) (i + 1) else some i) = match (if i < lc ∧ f_X1_fits (a i) c = 1 then chk a lc cs (i + 1) else some i) with
      | none => chk a lc ds (i + (cs.length + 1))
      | some j => some j
    by_cases q : i < lc ∧ f_X1_fits (a i) c = 1
    · rw [if_pos q, if_pos q, chk_app a lc ds cs (i + 1), show i + 1 + cs.length = i + (cs.length + 1) by omega]
    · rw [if_neg q, if_neg q]
theorem chk_len {a : Nat → Int32} {lc : Nat} : ∀ (cs : List Int32) (i : Nat), i ≤ lc → chk a lc cs i = none → i + cs.length ≤ lc
  | [], i, h, _ => h
  | c :: cs, i, h, e => by
    rw [chk] at e
    by_cases q : i < lc ∧ f_X1_fits (a i) c = 1
    · rw [if_pos q] at e
      have := chk_len cs (i + 1) (by omega) e
      rw [List.length_cons]
      omega
    · rw [if_neg q] at e; cases e
theorem chk_le {a : Nat → Int32} {lc : Nat} : ∀ (cs : List Int32) (i j : Nat), i ≤ lc → chk a lc cs i = some j → j ≤ lc
  | [], i, j, h, e => by cases e
  | c :: cs, i, j, h, e => by
    rw [chk] at e
    by_cases q : i < lc ∧ f_X1_fits (a i) c = 1
    · rw [if_pos q] at e
      exact chk_le cs (i + 1) j (by omega) e
    · rw [if_neg q] at e
      have := Option.some.inj e
      omega
theorem chk_get {a : Nat → Int32} {lc : Nat} : ∀ (cs : List Int32) (i : Nat), chk a lc cs i = none → ∀ u, u < cs.length → i + u < lc ∧ f_X1_fits (a (i + u)) (cs.getD u 0) = 1
  | [], i, e, u, hu => absurd hu (Nat.not_lt_zero u)
  | c :: cs, i, e, u, hu => by
    rw [chk] at e
    by_cases q : i < lc ∧ f_X1_fits (a i) c = 1
    · rw [if_pos q] at e
      cases u with
      | zero => exact q
      | succ u =>
        have := chk_get cs (i + 1) e u (by rw [List.length_cons] at hu; omega)
        rw [show i + 1 + u = i + (u + 1) by omega] at this
        exact this
    · rw [if_neg q] at e; cases e
theorem dropC {l : List Int32} {s : Nat} {c : Int32} {cs : List Int32} (e : l.drop s = c :: cs) : s < l.length ∧ l.getD s 0 = c ∧ l.drop (s + 1) = cs := by
  have hs : s < l.length := by
    apply Decidable.byContradiction
    intro h
    rw [List.drop_eq_nil_of_le (by omega)] at e
    cases e
  rw [List.drop_eq_getElem_cons hs] at e
  injection e with e1 e2
  refine ⟨hs, ?_, e2⟩
  rw [List.getD_eq_getElem?_getD, List.getElem?_eq_getElem hs]
  exact e1
/-- the class reads on by a shape -/
theorem chk_X {x n m k : HS} {lc sid : Nat} (hlc : lc ≤ 96) (hs : (sB sid).length ≤ 10) (K : Nat → Int32 → Option Int32) (hK : ∀ s, s < (sB sid).length → K sid (nI s) = some (nI lc)) : ∀ (cs : List Int32) (s i n' : Nat), (sB sid).drop s = cs → i ≤ lc → cs.length < n' →
    (chk (x 0) lc cs i = none → L_X1_wrongLetter_8 (nI lc) x n m k K n' sid (nI s) (nI i) = L_X1_wrongLetter_8 (nI lc) x n m k K (n' - cs.length) sid (nI (s + cs.length)) (nI (i + cs.length))) ∧
    ∀ j, chk (x 0) lc cs i = some j → L_X1_wrongLetter_8 (nI lc) x n m k K n' sid (nI s) (nI i) = some (nI j)
  | [], s, i, n', _, _, _ => ⟨fun _ => rfl, fun j e => by cases e⟩
  | c :: cs, s, i, n', e, hi, hn => by
    obtain ⟨e1, e2, e3⟩ := dropC e
    cases n' with
    | zero => omega
    | succ n' =>
      rw [List.length_cons] at hn
      rw [chk]
      by_cases z : i < lc
      · have st1 : nI s < sLen sid := nI_lt e1 (by omega)
        have st2 : sAt sid (nI s) = some c := by
          unfold sAt
          rw [if_neg (nI_in e1 (by omega)), nI_clamp (by omega), e2]
        by_cases q : f_X1_fits (x 0 i) c = 1
        · obtain ⟨A, B⟩ := chk_X (x := x) (n := n) (m := m) (k := k) hlc hs K hK cs (s + 1) (i + 1) n' e3 (by omega) (by omega)
          have stp : L_X1_wrongLetter_8 (nI lc) x n m k K (n' + 1) sid (nI s) (nI i) = L_X1_wrongLetter_8 (nI lc) x n m k K n' sid (nI (s + 1)) (nI (i + 1)) := by
            rw [L_X1_wrongLetter_8, if_neg (nI_ge z (by omega)), if_pos st1, st2, Option.bind_some, atv_nI _ (by omega) (by omega), q, if_neg N10, nI_1, nI_1]
          rw [if_pos ⟨z, q⟩, stp]
          refine ⟨fun y => ?_, B⟩
          rw [A y, List.length_cons, show n' + 1 - (cs.length + 1) = n' - cs.length by omega, show s + 1 + cs.length = s + (cs.length + 1) by omega, show i + 1 + cs.length = i + (cs.length + 1) by omega]
        · have q0 := (fits01 (x 0 i) c).resolve_right q
          rw [if_neg (fun y => q y.2)]
          refine ⟨fun y => (by cases y), fun j y => ?_⟩
          rw [← Option.some.inj y, L_X1_wrongLetter_8, if_neg (nI_ge z (by omega)), if_pos st1, st2, Option.bind_some, atv_nI _ (by omega) (by omega), q0, if_pos rfl]
      · have : i = lc := by omega
        subst this
        rw [if_neg (fun y => z y.1)]
        refine ⟨fun y => (by cases y), fun j y => ?_⟩
        rw [← Option.some.inj y, L_X1_wrongLetter_8, if_pos (nI_le (Nat.le_refl _) (by omega)), hK s e1]
/-! the check reads on -/
/-- what digits tell, on top of v -/
def vl (a : Nat → Int32) : Nat → Int32 → Nat → Int32
  | 0, v, _ => v
  | d + 1, v, i => vl a d ((((10 : Int32) * v) + a i) - (48 : Int32)) (i + 1)
theorem letterNow_M {t : HS} {a : Nat → Int32} {lc i : Nat} (h23 : t 23 0 = nI lc) (h24 : t 24 0 = nI i) (ha : ∀ j, j < lc → t 11 j = a j) (hlc : lc ≤ 96) (hi : i ≤ lc) : f_X2_letterNow t = some (if i < lc then a i else -1) := by
  unfold f_X2_letterNow
  rw [h23, h24]
  by_cases q : i < lc
  · rw [if_neg (nI_ge q (by omega)), if_pos q, rd_nI _ (by omega) (by omega), Option.bind_some, ha i q]
  · rw [if_pos (nI_le (by omega) (by omega)), if_neg q]
theorem fits48 (v : Int32) : f_X1_fits v 48 = f_X2_isIn v 48 57 := by
  unfold f_X1_fits f_X2_isIn
  rw [if_pos rfl]
def sm2 (t t' : HS) : Prop := ∀ k, k ≠ 14 → k ≠ 24 → t' k = t k
theorem sm2.tr {t t' t'' : HS} (h : sm2 t t') (h2 : sm2 t' t'') : sm2 t t'' := fun k a b => (h2 k a b).trans (h k a b)
theorem digs_M {a : Nat → Int32} {lc D p : Nat} (hlc : lc ≤ 96) (hD : D ≤ 3) (K : Int32 → HS → Option (Int32 × HS)) : ∀ (d j i n' : Nat) (v : Int32) (t : HS), j + d = D → i ≤ lc → d < n' → t 23 0 = nI lc → t 24 0 = nI i → (∀ j, j < lc → t 11 j = a j) →
    (chk a lc (List.replicate d 48) i = none → ∃ t', L_X2_readsDigits_5 (nI p) (nI D) K n' v (nI j) t = K (vl a d v i) t' ∧ t' 24 0 = nI (i + d) ∧ ∀ k, k ≠ 24 → t' k = t k) ∧
    ∀ u, chk a lc (List.replicate d 48) i = some u → ∃ t', L_X2_readsDigits_5 (nI p) (nI D) K n' v (nI j) t = some (0, t') ∧ t' 24 0 = nI u ∧ ∀ k, k ≠ 24 → t' k = t k
  | 0, j, i, n', v, t, hj, hi, hn, h23, h24, ha => by
    have : j = D := by omega
    subst this
    refine ⟨fun _ => ⟨t, ?_, h24, fun _ _ => rfl⟩, fun u e => by cases e⟩
    cases n' with
    | zero => omega
    | succ n' => rw [L_X2_readsDigits_5, if_pos (nI_le (Nat.le_refl _) (by omega))]; rfl
  | d + 1, j, i, n', v, t, hj, hi, hn, h23, h24, ha => by
    cases n' with
    | zero => omega
    | succ n' =>
      have ln := letterNow_M h23 h24 ha hlc hi
      have jl : ¬ nI D ≤ nI j := nI_ge (by omega) (by omega)
      rw [List.replicate_succ, chk]
      by_cases z : i < lc ∧ f_X1_fits (a i) 48 = 1
      · rw [if_pos z]
        rw [if_pos z.1] at ln
        have z2 := z.2
        rw [fits48] at z2
        obtain ⟨A, B⟩ := digs_M (p := p) hlc hD K d (j + 1) (i + 1) n' ((((10 : Int32) * v) + a i) - (48 : Int32)) (st t 24 (fun _ => nI (i + 1))) (by omega) (by omega) (by omega) h23 rfl ha
        have stp : L_X2_readsDigits_5 (nI p) (nI D) K (n' + 1) v (nI j) t = L_X2_readsDigits_5 (nI p) (nI D) K n' ((((10 : Int32) * v) + a i) - (48 : Int32)) (nI (j + 1)) (st t 24 (fun _ => nI (i + 1))) := by
          rw [L_X2_readsDigits_5, if_neg jl, ln, Option.bind_some, z2, if_neg N10, Option.bind_some, h24, nI_1, nI_1]
          simp only [jnE]
        rw [stp]
        refine ⟨fun y => ?_, fun u y => ?_⟩
        · obtain ⟨t', x1, x2, x3⟩ := A y
          exact ⟨t', x1, by rw [x2]; congr 1; omega, fun k hk => (x3 k hk).trans (st_ne hk)⟩
        · obtain ⟨t', x1, x2, x3⟩ := B u y
          exact ⟨t', x1, x2, fun k hk => (x3 k hk).trans (st_ne hk)⟩
      · rw [if_neg z]
        refine ⟨fun y => (by cases y), fun u y => ⟨t, ?_, ?_, fun _ _ => rfl⟩⟩
        · have nf : f_X2_isIn (if i < lc then a i else -1) 48 57 = 0 := by
            by_cases y2 : i < lc
            · rw [if_pos y2, ← fits48]
              exact (fits01 (a i) 48).resolve_right (fun q => z ⟨y2, q⟩)
            · rw [if_neg y2]; decide
          rw [L_X2_readsDigits_5, if_neg jl, ln, Option.bind_some, nf, if_pos rfl]
        · rw [← Option.some.inj y]; exact h24
theorem rd_M {t : HS} {a : Nat → Int32} {lc i D p : Nat} (h23 : t 23 0 = nI lc) (h24 : t 24 0 = nI i) (ha : ∀ j, j < lc → t 11 j = a j) (hlc : lc ≤ 96) (hi : i ≤ lc) (hD : D ≤ 3) (hp : p < 144) :
    (chk a lc (List.replicate D 48) i = none → ∃ t', f_X2_readsDigits (nI p) (nI D) t = some (1, t') ∧ t' 24 0 = nI (i + D) ∧ t' 14 = upd (t 14) p (vl a D 0 i) ∧ sm2 t t') ∧
    ∀ u, chk a lc (List.replicate D 48) i = some u → ∃ t', f_X2_readsDigits (nI p) (nI D) t = some (0, t') ∧ t' 24 0 = nI u ∧ t' 14 = t 14 ∧ sm2 t t' := by
  obtain ⟨A, B⟩ := digs_M (p := p) hlc hD (fun (j3_56 : Int32) (tt_56 : HS) => (wr 144 (tt_56 14) (nI p) j3_56).bind fun v1 => jn (st tt_56 14 v1) (fun (tt_v2 : HS) => some ((1 : Int32), tt_v2))) D 0 i fuel 0 t (by omega) hi (by unfold fuel; omega) h23 h24 ha
  refine ⟨fun y => ?_, fun u y => ?_⟩
  · obtain ⟨t', x1, x2, x3⟩ := A y
    rw [nI0] at x1
    refine ⟨st t' 14 (upd (t 14) p (vl a D 0 i)), ?_, x2, rfl, fun k h1 h2 => (st_ne h1).trans (x3 k h2)⟩
    unfold f_X2_readsDigits
    simp only [jnE] at x1 ⊢
    rw [x1, wr_nI _ _ hp (by omega), Option.bind_some, x3 14 (by decide)]
  · obtain ⟨t', x1, x2, x3⟩ := B u y
    rw [nI0] at x1
    refine ⟨t', ?_, x2, x3 14 (by decide), fun k _ h2 => x3 k h2⟩
    unfold f_X2_readsDigits
    exact x1
