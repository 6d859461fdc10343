/-! the telling of a hall: a statement -/
theorem kindC : ∀ j, j < 256 → f_X1_fits (nI j) 99 = (if 0 ≤ f_X2_cardKind (nI j) then 1 else 0) := by decide +kernel
theorem kindB : ∀ j, j < 256 → f_X1_fits (nI j) 98 = (if 0 ≤ f_X2_bidderKind (nI j) then 1 else 0) := by decide +kernel
theorem dd_M {t : HS} {a : Nat → Int32} {lc i D1 D2 p1 p2 : Nat} (h23 : t 23 0 = nI lc) (h24 : t 24 0 = nI i) (ha : ∀ j, j < lc → t 11 j = a j) (hlc : lc ≤ 96) (hi : i ≤ lc) (hD1 : D1 ≤ 3) (hD2 : D2 ≤ 3) (hp1 : p1 < 144) (hp2 : p2 < 144) :
    (chk a lc (List.replicate D1 48 ++ List.replicate D2 48) i = none → ∃ t', ((f_X2_readsDigits (nI p1) (nI D1) t).bind fun v10 => if v10.1 = 0 then some ((0 : Int32), v10.2) else (f_X2_readsDigits (nI p2) (nI D2) v10.2).bind fun v12 => if v12.1 = 0 then some ((0 : Int32), v12.2) else some ((1 : Int32), v12.2)) = some (1, t') ∧ t' 24 0 = nI (i + D1 + D2) ∧ t' 14 = upd (upd (t 14) p1 (vl a D1 0 i)) p2 (vl a D2 0 (i + D1)) ∧ sm2 t t') ∧
    ∀ u, chk a lc (List.replicate D1 48 ++ List.replicate D2 48) i = some u → ∃ t', ((f_X2_readsDigits (nI p1) (nI D1) t).bind fun v10 => if v10.1 = 0 then some ((0 : Int32), v10.2) else (f_X2_readsDigits (nI p2) (nI D2) v10.2).bind fun v12 => if v12.1 = 0 then some ((0 : Int32), v12.2) else some ((1 : Int32), v12.2)) = some (0, t') ∧ t' 24 0 = nI u ∧ sm2 t t' := by
  rw [chk_app, List.length_replicate]
  obtain ⟨A, B⟩ := rd_M (D := D1) (p := p1) h23 h24 ha hlc hi hD1 hp1
  cases e : chk a lc (List.replicate D1 48) i with
  | some j =>
    obtain ⟨t', x1, x2, x3, x4⟩ := B j e
    refine ⟨fun y => (by cases y), fun u y => ⟨t', ?_, ?_, x4⟩⟩
    · rw [x1, Option.bind_some, if_pos rfl]
    · rw [← Option.some.inj y]; exact x2
  | none =>
    obtain ⟨t1, x1, x2, x3, x4⟩ := A e
    have l := chk_len _ i hi e
    rw [List.length_replicate] at l
    obtain ⟨A2, B2⟩ := rd_M (t := t1) (D := D2) (p := p2) (by rw [x4 23 (by decide) (by decide)]; exact h23) x2 (by rw [x4 11 (by decide) (by decide)]; exact ha) hlc l hD2 hp2
    rw [x1]
    simp only [Option.bind_some]
    rw [if_neg N10]
    refine ⟨fun y => ?_, fun u y => ?_⟩
    · obtain ⟨t', y1, y2, y3, y4⟩ := A2 y
      exact ⟨t', by rw [y1]; rfl, y2, by rw [y3, x3], x4.tr y4⟩
    · obtain ⟨t', y1, y2, y3, y4⟩ := B2 u y
      exact ⟨t', by rw [y1]; rfl, y2, x4.tr y4⟩
/-- what a statement tells, in the check's table -/
def told (a : Nat → Int32) (b : Int32) (i p : Nat) (f : Nat → Int32) : Prop :=
  (b = 99 → f p = f_X2_cardKind (a i) ∧ f (p + 1) = vl a 1 0 (i + 1) ∧ f (p + 2) = vl a 1 0 (i + 2)) ∧
  (b = 98 → f p = f_X2_bidderKind (a i) ∧ f (p + 1) = vl a 1 0 (i + 1) ∧ f (p + 2) = vl a 3 0 (i + 2)) ∧
  (b = 112 → f p = vl a 1 0 i ∧ f (p + 1) = vl a 3 0 (i + 1)) ∧
  (b = 120 ∨ b = 103 → f p = vl a 1 0 i ∧ f (p + 1) = vl a 1 0 (i + 1)) ∧
  (b = 114 → f p = vl a 1 0 i) ∧
  (b = 109 → f p = vl a 2 0 i)
def body7 (b : Int32) (cs : List Int32) : Prop := (b = 99 ∧ cs = [99, 48, 48]) ∨ (b = 98 ∧ cs = [98, 48, 48, 48, 48]) ∨ (b = 112 ∧ cs = [48, 48, 48, 48]) ∨ (b = 120 ∧ cs = [48, 48]) ∨ (b = 103 ∧ cs = [48, 48]) ∨ (b = 114 ∧ cs = [48]) ∨ (b = 109 ∧ cs = [48, 48])
theorem upd2 {f : Nat → Int32} {p q : Nat} {v w : Int32} (h : p ≠ q) : upd (upd f p v) q w p = v := by rw [upd_ne h, upd_eq]
/-- a kind, and digits -/
theorem thingC_M {t : HS} {a : Nat → Int32} {lc i p : Nat} (h23 : t 23 0 = nI lc) (h24 : t 24 0 = nI i) (ha : ∀ j, j < lc → t 11 j = a j) (hr : ∀ j, j < lc → inR 0 255 (a j)) (hlc : lc ≤ 96) (hi : i ≤ lc) (hp : p + 2 < 144) :
    (chk a lc [99, 48, 48] i = none → ∃ t', f_X2_readsThing (nI p) 1 t = some (1, t') ∧ t' 24 0 = nI (i + 3) ∧ told a 99 i p (t' 14) ∧ (∀ j, j < p → t' 14 j = t 14 j) ∧ sm2 t t') ∧
    ∀ u, chk a lc [99, 48, 48] i = some u → ∃ t', f_X2_readsThing (nI p) 1 t = some (0, t') ∧ t' 24 0 = nI u ∧ sm2 t t' := by
  have ln := letterNow_M h23 h24 ha hlc hi
  have e2 : nI p + 2 = nI (p + 2) := nI_add p 2
  unfold f_X2_readsThing
  simp only [iteN, jnE]
  rw [ln, Option.bind_some, wr_nI _ _ (show p < 144 by omega) (by omega), Option.bind_some, st_eq, rd_nI _ (show p < 144 by omega) (by omega), Option.bind_some, upd_eq, nI_1, e2]
  rw [show ([99, 48, 48] : List Int32) = 99 :: (List.replicate 1 48 ++ List.replicate 1 48) from rfl, chk]
  by_cases z : i < lc ∧ f_X1_fits (a i) 99 = 1
  · obtain ⟨v, hv, ev⟩ := inR_nI (b := 255) (hr i z.1) (by omega)
    have kk := kindC v (by omega)
    have k0 : 0 ≤ f_X2_cardKind (a i) := by
      apply Decidable.byContradiction
      intro y
      have z2 := z.2
      rw [ev] at y z2
      rw [kk, if_neg y] at z2
      exact absurd z2 (by decide)
    have h24' : (st t 14 (upd (t 14) p (f_X2_cardKind (a i)))) 24 0 = nI i := h24
    rw [if_pos z, if_pos z.1, if_pos k0, h24', nI_1]
    obtain ⟨A, B⟩ := dd_M (t := st (st t 14 (upd (t 14) p (f_X2_cardKind (a i)))) 24 (fun _ => nI (i + 1))) (a := a) (i := i + 1) (D1 := 1) (D2 := 1) (p1 := p + 1) (p2 := p + 2) h23 rfl ha hlc (by omega) (by omega) (by omega) (by omega) (by omega)
    refine ⟨fun y => ?_, fun u y => ?_⟩
    · obtain ⟨t', x1, x2, x3, x4⟩ := A y
      refine ⟨t', x1, x2, ?_, fun j hj => ?_, fun k h1 h2 => ?_⟩
      · rw [x3]
        refine ⟨fun _ => ⟨?_, ?_, ?_⟩, fun e => absurd e (by decide), fun e => absurd e (by decide), fun e => absurd e (by decide), fun e => absurd e (by decide), fun e => absurd e (by decide)⟩
        · rw [upd_ne (by omega), upd_ne (by omega)]; exact upd_eq _ _ _
        · rw [upd_ne (by omega), upd_eq]
        · rw [upd_eq]
      · rw [x3, upd_ne (by omega), upd_ne (by omega)]
        exact upd_ne (by omega)
      · rw [x4 k h1 h2, st_ne h2, st_ne h1]
    · obtain ⟨t', x1, x2, x4⟩ := B u y
      exact ⟨t', x1, x2, fun k h1 h2 => by rw [x4 k h1 h2, st_ne h2, st_ne h1]⟩
  · have k0 : ¬ 0 ≤ f_X2_cardKind (if i < lc then a i else -1) := by
      by_cases y : i < lc
      · obtain ⟨v, hv, ev⟩ := inR_nI (b := 255) (hr i y) (by omega)
        have kk := kindC v (by omega)
        rw [if_pos y]
        intro q
        refine z ⟨y, ?_⟩
        rw [ev] at q ⊢
        rw [kk, if_pos q]
      · rw [if_neg y]; decide
    rw [if_neg z, if_neg k0]
    refine ⟨fun y => (by cases y), fun u y => ⟨_, rfl, ?_, fun k h1 h2 => st_ne h1⟩⟩
    rw [← Option.some.inj y]
    exact h24
theorem thingB_M {t : HS} {a : Nat → Int32} {lc i p : Nat} (h23 : t 23 0 = nI lc) (h24 : t 24 0 = nI i) (ha : ∀ j, j < lc → t 11 j = a j) (hr : ∀ j, j < lc → inR 0 255 (a j)) (hlc : lc ≤ 96) (hi : i ≤ lc) (hp : p + 2 < 144) :
    (chk a lc [98, 48, 48, 48, 48] i = none → ∃ t', f_X2_readsThing (nI p) 0 t = some (1, t') ∧ t' 24 0 = nI (i + 5) ∧ told a 98 i p (t' 14) ∧ (∀ j, j < p → t' 14 j = t 14 j) ∧ sm2 t t') ∧
    ∀ u, chk a lc [98, 48, 48, 48, 48] i = some u → ∃ t', f_X2_readsThing (nI p) 0 t = some (0, t') ∧ t' 24 0 = nI u ∧ sm2 t t' := by
  have ln := letterNow_M h23 h24 ha hlc hi
  have e2 : nI p + 2 = nI (p + 2) := nI_add p 2
  unfold f_X2_readsThing
  simp only [iteZ, jnE]
  rw [ln, Option.bind_some, wr_nI _ _ (show p < 144 by omega) (by omega), Option.bind_some, st_eq, rd_nI _ (show p < 144 by omega) (by omega), Option.bind_some, upd_eq, nI_1, e2]
  rw [show ([98, 48, 48, 48, 48] : List Int32) = 98 :: (List.replicate 1 48 ++ List.replicate 3 48) from rfl, chk]
  by_cases z : i < lc ∧ f_X1_fits (a i) 98 = 1
  · obtain ⟨v, hv, ev⟩ := inR_nI (b := 255) (hr i z.1) (by omega)
    have kk := kindB v (by omega)
    have k0 : 0 ≤ f_X2_bidderKind (a i) := by
      apply Decidable.byContradiction
      intro y
      have z2 := z.2
      rw [ev] at y z2
      rw [kk, if_neg y] at z2
      exact absurd z2 (by decide)
    have h24' : (st t 14 (upd (t 14) p (f_X2_bidderKind (a i)))) 24 0 = nI i := h24
    rw [if_pos z, if_pos z.1, if_pos k0, h24', nI_1]
    obtain ⟨A, B⟩ := dd_M (t := st (st t 14 (upd (t 14) p (f_X2_bidderKind (a i)))) 24 (fun _ => nI (i + 1))) (a := a) (i := i + 1) (D1 := 1) (D2 := 3) (p1 := p + 1) (p2 := p + 2) h23 rfl ha hlc (by omega) (by omega) (by omega) (by omega) (by omega)
    refine ⟨fun y => ?_, fun u y => ?_⟩
    · obtain ⟨t', x1, x2, x3, x4⟩ := A y
      refine ⟨t', x1, x2, ?_, fun j hj => ?_, fun k h1 h2 => ?_⟩
      · rw [x3]
        refine ⟨fun e => absurd e (by decide), fun _ => ⟨?_, ?_, ?_⟩, fun e => absurd e (by decide), fun e => absurd e (by decide), fun e => absurd e (by decide), fun e => absurd e (by decide)⟩
        · rw [upd_ne (by omega), upd_ne (by omega)]; exact upd_eq _ _ _
        · rw [upd_ne (by omega), upd_eq]
        · rw [upd_eq]
      · rw [x3, upd_ne (by omega), upd_ne (by omega)]
        exact upd_ne (by omega)
      · rw [x4 k h1 h2, st_ne h2, st_ne h1]
    · obtain ⟨t', x1, x2, x4⟩ := B u y
      exact ⟨t', x1, x2, fun k h1 h2 => by rw [x4 k h1 h2, st_ne h2, st_ne h1]⟩
  · have k0 : ¬ 0 ≤ f_X2_bidderKind (if i < lc then a i else -1) := by
      by_cases y : i < lc
      · obtain ⟨v, hv, ev⟩ := inR_nI (b := 255) (hr i y) (by omega)
        have kk := kindB v (by omega)
        rw [if_pos y]
        intro q
        refine z ⟨y, ?_⟩
        rw [ev] at q ⊢
        rw [kk, if_pos q]
      · rw [if_neg y]; decide
    rw [if_neg z, if_neg k0]
    refine ⟨fun y => (by cases y), fun u y => ⟨_, rfl, ?_, fun k h1 h2 => st_ne h1⟩⟩
    rw [← Option.some.inj y]
    exact h24
theorem nbw {t' : HS} {r : Int32} {o : Option (Int32 × HS)} (h : o = some (r, t')) (h01 : r = 0 ∨ r = 1) : (o.bind fun v => nb v.1 (some (v.1, v.2))) = some (r, t') := by
  rw [h, Option.bind_some, nb_ok h01]
theorem reads_M {t : HS} {a : Nat → Int32} {lc i p : Nat} {b : Int32} {cs : List Int32} (hb : body7 b cs) (h23 : t 23 0 = nI lc) (h24 : t 24 0 = nI i) (ha : ∀ j, j < lc → t 11 j = a j) (hr : ∀ j, j < lc → inR 0 255 (a j)) (hlc : lc ≤ 96) (hi : i ≤ lc) (hp : p + 2 < 144) :
    (chk a lc cs i = none → ∃ t', f_X2_readsAll b (nI p) t = some (1, t') ∧ t' 24 0 = nI (i + cs.length) ∧ told a b i p (t' 14) ∧ (∀ j, j < p → t' 14 j = t 14 j) ∧ sm2 t t') ∧
    ∀ u, chk a lc cs i = some u → ∃ t', f_X2_readsAll b (nI p) t = some (0, t') ∧ t' 24 0 = nI u ∧ sm2 t t' := by
  rcases hb with ⟨rfl, rfl⟩ | ⟨rfl, rfl⟩ | ⟨rfl, rfl⟩ | ⟨rfl, rfl⟩ | ⟨rfl, rfl⟩ | ⟨rfl, rfl⟩ | ⟨rfl, rfl⟩
  · obtain ⟨A, B⟩ := thingC_M (p := p) h23 h24 ha hr hlc hi hp
    have e : ∀ r t', f_X2_readsThing (nI p) 1 t = some (r, t') → (r = 0 ∨ r = 1) → f_X2_readsAll 99 (nI p) t = some (r, t') := fun r t' q q1 => by
      unfold f_X2_readsAll
      rw [if_neg (by decide), if_pos rfl, if_pos rfl]
      exact nbw q q1
    refine ⟨fun y => ?_, fun u y => ?_⟩
    · obtain ⟨t', x1, x2⟩ := A y
      exact ⟨t', e _ _ x1 (Or.inr rfl), x2⟩
    · obtain ⟨t', x1, x2⟩ := B u y
      exact ⟨t', e _ _ x1 (Or.inl rfl), x2⟩
  · obtain ⟨A, B⟩ := thingB_M (p := p) h23 h24 ha hr hlc hi hp
    have e : ∀ r t', f_X2_readsThing (nI p) 0 t = some (r, t') → (r = 0 ∨ r = 1) → f_X2_readsAll 98 (nI p) t = some (r, t') := fun r t' q q1 => by
      unfold f_X2_readsAll
      rw [if_pos rfl, if_neg (by decide)]
      exact nbw q q1
    refine ⟨fun y => ?_, fun u y => ?_⟩
    · obtain ⟨t', x1, x2⟩ := A y
      exact ⟨t', e _ _ x1 (Or.inr rfl), x2⟩
    · obtain ⟨t', x1, x2⟩ := B u y
      exact ⟨t', e _ _ x1 (Or.inl rfl), x2⟩
  · obtain ⟨A, B⟩ := dd_M (t := t) (D1 := 1) (D2 := 3) (p1 := p) (p2 := p + 1) h23 h24 ha hlc hi (by omega) (by omega) (by omega) (by omega)
    have e : ∀ o, ((f_X2_readsDigits (nI p) (nI 1) t).bind fun v10 => if v10.1 = 0 then some ((0 : Int32), v10.2) else (f_X2_readsDigits (nI (p + 1)) (nI 3) v10.2).bind fun v12 => if v12.1 = 0 then some ((0 : Int32), v12.2) else some ((1 : Int32), v12.2)) = o → f_X2_readsAll 112 (nI p) t = o := fun o q => by
      unfold f_X2_readsAll
      rw [if_neg (by decide), if_neg (by decide), if_neg (by decide), if_pos rfl, nI_1]
      exact q
    refine ⟨fun y => ?_, fun u y => ?_⟩
    · obtain ⟨t', x1, x2, x3, x4⟩ := A y
      refine ⟨t', e _ x1, x2, ?_, fun j hj => ?_, x4⟩
      · rw [x3]
        exact ⟨fun e => absurd e (by decide), fun e => absurd e (by decide), fun _ => ⟨upd2 (by omega), upd_eq _ _ _⟩, fun e => absurd e (by decide), fun e => absurd e (by decide), fun e => absurd e (by decide)⟩
      · rw [x3, upd_ne (by omega), upd_ne (by omega)]
    · obtain ⟨t', x1, x2, x4⟩ := B u y
      exact ⟨t', e _ x1, x2, x4⟩
  · obtain ⟨A, B⟩ := dd_M (t := t) (D1 := 1) (D2 := 1) (p1 := p) (p2 := p + 1) h23 h24 ha hlc hi (by omega) (by omega) (by omega) (by omega)
    have e : ∀ o, ((f_X2_readsDigits (nI p) (nI 1) t).bind fun v10 => if v10.1 = 0 then some ((0 : Int32), v10.2) else (f_X2_readsDigits (nI (p + 1)) (nI 1) v10.2).bind fun v12 => if v12.1 = 0 then some ((0 : Int32), v12.2) else some ((1 : Int32), v12.2)) = o → f_X2_readsAll 120 (nI p) t = o := fun o q => by
      unfold f_X2_readsAll
      rw [if_neg (by decide), if_neg (by decide), if_neg (by decide), if_neg (by decide), if_neg (by decide), if_pos rfl, nI_1]
      exact q
    refine ⟨fun y => ?_, fun u y => ?_⟩
    · obtain ⟨t', x1, x2, x3, x4⟩ := A y
      refine ⟨t', e _ x1, x2, ?_, fun j hj => ?_, x4⟩
      · rw [x3]
        exact ⟨fun e => absurd e (by decide), fun e => absurd e (by decide), fun e => absurd e (by decide), fun _ => ⟨upd2 (by omega), upd_eq _ _ _⟩, fun e => absurd e (by decide), fun e => absurd e (by decide)⟩
      · rw [x3, upd_ne (by omega), upd_ne (by omega)]
    · obtain ⟨t', x1, x2, x4⟩ := B u y
      exact ⟨t', e _ x1, x2, x4⟩
  · obtain ⟨A, B⟩ := dd_M (t := t) (D1 := 1) (D2 := 1) (p1 := p) (p2 := p + 1) h23 h24 ha hlc hi (by omega) (by omega) (by omega) (by omega)
    have e : ∀ o, ((f_X2_readsDigits (nI p) (nI 1) t).bind fun v10 => if v10.1 = 0 then some ((0 : Int32), v10.2) else (f_X2_readsDigits (nI (p + 1)) (nI 1) v10.2).bind fun v12 => if v12.1 = 0 then some ((0 : Int32), v12.2) else some ((1 : Int32), v12.2)) = o → f_X2_readsAll 103 (nI p) t = o := fun o q => by
      unfold f_X2_readsAll
      rw [if_neg (by decide), if_neg (by decide), if_pos rfl, nI_1]
      exact q
    refine ⟨fun y => ?_, fun u y => ?_⟩
    · obtain ⟨t', x1, x2, x3, x4⟩ := A y
      refine ⟨t', e _ x1, x2, ?_, fun j hj => ?_, x4⟩
      · rw [x3]
        exact ⟨fun e => absurd e (by decide), fun e => absurd e (by decide), fun e => absurd e (by decide), fun _ => ⟨upd2 (by omega), upd_eq _ _ _⟩, fun e => absurd e (by decide), fun e => absurd e (by decide)⟩
      · rw [x3, upd_ne (by omega), upd_ne (by omega)]
    · obtain ⟨t', x1, x2, x4⟩ := B u y
      exact ⟨t', e _ x1, x2, x4⟩
  · obtain ⟨A, B⟩ := rd_M (t := t) (D := 1) (p := p) h23 h24 ha hlc hi (by omega) (by omega)
    have e : ∀ r t', f_X2_readsDigits (nI p) 1 t = some (r, t') → (r = 0 ∨ r = 1) → f_X2_readsAll 114 (nI p) t = some (r, t') := fun r t' q q1 => by
      unfold f_X2_readsAll
      rw [if_neg (by decide), if_neg (by decide), if_neg (by decide), if_neg (by decide), if_pos rfl]
      exact nbw q q1
    refine ⟨fun y => ?_, fun u y => ?_⟩
    · obtain ⟨t', x1, x2, x3, x4⟩ := A y
      refine ⟨t', e _ _ x1 (Or.inr rfl), x2, ?_, fun j hj => ?_, x4⟩
      · rw [x3]
        exact ⟨fun e => absurd e (by decide), fun e => absurd e (by decide), fun e => absurd e (by decide), fun e => absurd e (by decide), fun _ => upd_eq _ _ _, fun e => absurd e (by decide)⟩
      · rw [x3, upd_ne (by omega)]
    · obtain ⟨t', x1, x2, x3, x4⟩ := B u y
      exact ⟨t', e _ _ x1 (Or.inl rfl), x2, x4⟩
  · obtain ⟨A, B⟩ := rd_M (t := t) (D := 2) (p := p) h23 h24 ha hlc hi (by omega) (by omega)
    have e : ∀ r t', f_X2_readsDigits (nI p) 2 t = some (r, t') → (r = 0 ∨ r = 1) → f_X2_readsAll 109 (nI p) t = some (r, t') := fun r t' q q1 => by
      unfold f_X2_readsAll
      rw [if_neg (by decide), if_neg (by decide), if_neg (by decide), if_neg (by decide), if_neg (by decide), if_neg (by decide)]
      exact nbw q q1
    refine ⟨fun y => ?_, fun u y => ?_⟩
    · obtain ⟨t', x1, x2, x3, x4⟩ := A y
      refine ⟨t', e _ _ x1 (Or.inr rfl), x2, ?_, fun j hj => ?_, x4⟩
      · rw [x3]
        exact ⟨fun e => absurd e (by decide), fun e => absurd e (by decide), fun e => absurd e (by decide), fun e => absurd e (by decide), fun e => absurd e (by decide), fun _ => upd_eq _ _ _⟩
      · rw [x3, upd_ne (by omega)]
    · obtain ⟨t', x1, x2, x3, x4⟩ := B u y
      exact ⟨t', e _ _ x1 (Or.inl rfl), x2, x4⟩
/-- the shape behind a letter -/
theorem shape_or (b : Int32) : (∃ cs, body7 b cs ∧ sB (f_X1_shapeBehind b) = cs ++ [59]) ∨ (f_X1_shapeBehind b = 0 ∧ ¬ b = 99 ∧ ¬ b = 98 ∧ ¬ b = 112 ∧ ¬ b = 120 ∧ ¬ b = 103 ∧ ¬ b = 114 ∧ ¬ b = 109) := by
  by_cases h1 : b = 99
  · subst h1; exact Or.inl ⟨_, Or.inl ⟨rfl, rfl⟩, by decide⟩
  by_cases h2 : b = 98
  · subst h2; exact Or.inl ⟨_, Or.inr (Or.inl ⟨rfl, rfl⟩), by decide⟩
  by_cases h3 : b = 112
  · subst h3; exact Or.inl ⟨_, Or.inr (Or.inr (Or.inl ⟨rfl, rfl⟩)), by decide⟩
  by_cases h4 : b = 120
  · subst h4; exact Or.inl ⟨_, Or.inr (Or.inr (Or.inr (Or.inl ⟨rfl, rfl⟩))), by decide⟩
  by_cases h5 : b = 103
  · subst h5; exact Or.inl ⟨_, Or.inr (Or.inr (Or.inr (Or.inr (Or.inl ⟨rfl, rfl⟩)))), by decide⟩
  by_cases h6 : b = 114
  · subst h6; exact Or.inl ⟨_, Or.inr (Or.inr (Or.inr (Or.inr (Or.inr (Or.inl ⟨rfl, rfl⟩))))), by decide⟩
  by_cases h7 : b = 109
  · subst h7; exact Or.inl ⟨_, Or.inr (Or.inr (Or.inr (Or.inr (Or.inr (Or.inr ⟨rfl, rfl⟩))))), by decide⟩
  refine Or.inr ⟨?_, h1, h2, h3, h4, h5, h6, h7⟩
  unfold f_X1_shapeBehind
  rw [if_neg h2, if_neg h1]
  simp only [if_neg h3, if_neg h4, if_neg h5, if_neg h6, if_neg h7, ite_self]
theorem fits59 (v : Int32) : f_X1_fits v 59 = if v = 59 then 1 else 0 := by
  unfold f_X1_fits
  rw [if_neg (by decide), if_neg (by decide), if_neg (by decide)]
def sm4 (t t' : HS) : Prop := ∀ k, k ≠ 12 → k ≠ 13 → k ≠ 14 → k ≠ 24 → t' k = t k
/-- a statement, read by the check -/
theorem stmt_M {t : HS} {a : Nat → Int32} {lc s q : Nat} (h23 : t 23 0 = nI lc) (h24 : t 24 0 = nI s) (h25 : t 25 0 = nI q) (ha : ∀ j, j < lc → t 11 j = a j) (hr : ∀ j, j < lc → inR 0 255 (a j)) (hlc : lc ≤ 96) (hs : s ≤ lc) (hq : q < 47) :
    (s < lc → ∀ cs, body7 (a s) cs → (chk a lc (cs ++ [59]) (s + 1) = none → ∃ t', f_X2_statement t = some (1, t') ∧ t' 24 0 = nI (s + 1 + (cs.length + 1)) ∧ t' 12 = upd (t 12) q (a s) ∧ t' 13 = upd (t 13) q (nI s) ∧ told a (a s) (s + 1) (3 * q) (t' 14) ∧ (∀ j, j < 3 * q → t' 14 j = t 14 j) ∧ sm4 t t') ∧
      ∀ u, chk a lc (cs ++ [59]) (s + 1) = some u → ∃ t', f_X2_statement t = some (0, t') ∧ t' 24 0 = nI u ∧ sm4 t t') ∧
    ((s < lc → f_X1_shapeBehind (a s) = 0) → f_X2_statement t = some (0, t)) := by
  have ln := letterNow_M h23 h24 ha hlc hs
  refine ⟨fun hsl cs hb => ?_, fun hn => ?_⟩
  · rw [if_pos hsl] at ln
    have K : ∀ o, (jn (fun (j1_49 : Int32) (tt_49 : HS) => (wr 48 (tt_49 12) (tt_49 25 0) j1_49).bind fun v2 => jn (st tt_49 12 v2) (fun (tt_v3 : HS) => (wr 48 (tt_v3 13) (tt_v3 25 0) (tt_v3 24 0)).bind fun v4 => jn (st tt_v3 13 v4) (fun (tt_v5 : HS) => jn (st tt_v5 24 (fun _ => ((tt_v5 24 0) + (1 : Int32)))) (fun (tt_v6 : HS) => (f_X2_readsAll j1_49 ((3 : Int32) * (tt_v6 25 0)) tt_v6).bind fun v7 => if v7.1 = 0 then some ((0 : Int32), v7.2) else (f_X2_letterNow v7.2).bind fun v9 => if v9 = (59 : Int32) then jn (st v7.2 24 (fun _ => ((v7.2 24 0) + (1 : Int32)))) (fun (tt_v11 : HS) => some ((1 : Int32), tt_v11)) else some ((0 : Int32), v7.2))))) (fun (K49 : Int32 → HS → Option (Int32 × HS)) => K49 (a s) t)) = o → f_X2_statement t = o := fun o y => by
      unfold f_X2_statement
      rw [ln, Option.bind_some]
      simp only [jnE] at y ⊢
      rcases hb with ⟨e, -⟩ | ⟨e, -⟩ | ⟨e, -⟩ | ⟨e, -⟩ | ⟨e, -⟩ | ⟨e, -⟩ | ⟨e, -⟩
      · rw [if_pos e]; exact y
      · rw [if_neg (by rw [e]; decide), if_pos e]; exact y
      · rw [if_neg (by rw [e]; decide), if_neg (by rw [e]; decide), if_pos e]; exact y
      · rw [if_neg (by rw [e]; decide), if_neg (by rw [e]; decide), if_neg (by rw [e]; decide), if_pos e]; exact y
      · rw [if_neg (by rw [e]; decide), if_neg (by rw [e]; decide), if_neg (by rw [e]; decide), if_neg (by rw [e]; decide), if_neg (by rw [e]; decide), if_pos e]; exact y
      · rw [if_neg (by rw [e]; decide), if_neg (by rw [e]; decide), if_neg (by rw [e]; decide), if_neg (by rw [e]; decide), if_pos e]; exact y
      · rw [if_neg (by rw [e]; decide), if_neg (by rw [e]; decide), if_neg (by rw [e]; decide), if_neg (by rw [e]; decide), if_neg (by rw [e]; decide), if_neg (by rw [e]; decide), if_pos e]; exact y
    simp only [jnE] at K
    have e3 : (3 : Int32) * nI q = nI (3 * q) := by
      rw [show (3 : Int32) = nI 3 from rfl]; exact (Int32.ofNat_mul 3 q).symm
    -- the head stands in the check's tables
    generalize hT : st (st (st t 12 (upd (t 12) q (a s))) 13 (upd (t 13) q (nI s))) 24 (fun _ => nI (s + 1)) = T at *
    have T24 : T 24 0 = nI (s + 1) := by rw [← hT]; rfl
    have To : ∀ k, k ≠ 12 → k ≠ 13 → k ≠ 24 → T k = t k := fun k h1 h2 h3 => by rw [← hT, st_ne h3, st_ne h2, st_ne h1]
    have T12 : T 12 = upd (t 12) q (a s) := by rw [← hT]; rfl
    have T13 : T 13 = upd (t 13) q (nI s) := by rw [← hT]; rfl
    have K2 : ∀ o, ((f_X2_readsAll (a s) (nI (3 * q)) T).bind fun v7 => if v7.1 = 0 then some ((0 : Int32), v7.2) else (f_X2_letterNow v7.2).bind fun v9 => if v9 = (59 : Int32) then some ((1 : Int32), st v7.2 24 (fun _ => ((v7.2 24 0) + (1 : Int32)))) else some ((0 : Int32), v7.2)) = o → f_X2_statement t = o := fun o y => by
      apply K
      rw [h25, wr_nI _ _ (by omega) (by omega), Option.bind_some, show (st t 12 (upd (t 12) q (a s))) 25 0 = nI q from h25, show (st t 12 (upd (t 12) q (a s))) 24 0 = nI s from h24, show (st t 12 (upd (t 12) q (a s))) 13 = t 13 from rfl, wr_nI _ _ (by omega) (by omega), Option.bind_some, show (st (st t 12 (upd (t 12) q (a s))) 13 (upd (t 13) q (nI s))) 24 0 = nI s from h24, nI_1, hT, To 25 (by decide) (by decide) (by decide), h25, e3]
      exact y
    obtain ⟨A, B⟩ := reads_M (t := T) (a := a) (i := s + 1) (p := 3 * q) hb (by rw [To 23 (by decide) (by decide) (by decide)]; exact h23) T24 (by rw [To 11 (by decide) (by decide) (by decide)]; exact ha) hr hlc (by omega) (by omega)
    rw [chk_app]
    cases e : chk a lc cs (s + 1) with
    | some j =>
      obtain ⟨t', x1, x2, x3⟩ := B j e
      refine ⟨fun y => (by cases y), fun u y => ⟨t', K2 _ ?_, by rw [← Option.some.inj y]; exact x2, fun k h1 h2 h3 h4 => (x3 k h3 h4).trans (To k h1 h2 h4)⟩⟩
      rw [x1, Option.bind_some, if_pos rfl]
    | none =>
      obtain ⟨t', x1, x2, x3, x4, x5⟩ := A e
      have hl := chk_len cs (s + 1) (by omega) e
      have ln2 := letterNow_M (t := t') (a := a) (i := s + 1 + cs.length) (by rw [x5 23 (by decide) (by decide), To 23 (by decide) (by decide) (by decide)]; exact h23) x2 (by rw [x5 11 (by decide) (by decide), To 11 (by decide) (by decide) (by decide)]; exact ha) hlc hl
      show ((chk a lc [59] (s + 1 + cs.length)) = none → _) ∧ ∀ u, (chk a lc [59] (s + 1 + cs.length)) = some u → _
      rw [chk, fits59]
      by_cases z : s + 1 + cs.length < lc ∧ (if a (s + 1 + cs.length) = 59 then (1 : Int32) else 0) = 1
      · have z2 : a (s + 1 + cs.length) = 59 := by
          apply Decidable.byContradiction
          intro y
          have := z.2
          rw [if_neg y] at this
          exact absurd this (by decide)
        rw [if_pos z]
        refine ⟨fun _ => ⟨st t' 24 (fun _ => nI (s + 1 + (cs.length + 1))), K2 _ ?_, rfl, ?_, ?_, x3, fun j hj => ?_, fun k h1 h2 h3 h4 => ?_⟩, fun u y => by cases y⟩
        · rw [x1, Option.bind_some, if_neg N10, ln2, Option.bind_some, if_pos z.1, if_pos z2]
          show some ((1 : Int32), st t' 24 (fun _ => t' 24 0 + 1)) = _
          rw [x2, nI_1]
          rfl
        · show t' 12 = _
          rw [x5 12 (by decide) (by decide), T12]
        · show t' 13 = _
          rw [x5 13 (by decide) (by decide), T13]
        · show t' 14 j = _
          rw [x4 j hj, To 14 (by decide) (by decide) (by decide)]
        · rw [st_ne h4, x5 k h3 h4, To k h1 h2 h4]
      · rw [if_neg z]
        refine ⟨fun y => (by cases y), fun u y => ⟨t', K2 _ ?_, by rw [← Option.some.inj y]; exact x2, fun k h1 h2 h3 h4 => (x5 k h3 h4).trans (To k h1 h2 h4)⟩⟩
        have ne : ¬ (if s + 1 + cs.length < lc then a (s + 1 + cs.length) else -1) = 59 := by
          by_cases y2 : s + 1 + cs.length < lc
          · rw [if_pos y2]
            intro y3
            exact z ⟨y2, if_pos y3⟩
          · rw [if_neg y2]; decide
        rw [x1, Option.bind_some, if_neg N10, ln2, Option.bind_some, if_neg ne]
  · unfold f_X2_statement
    rw [ln, Option.bind_some]
    simp only [jnE]
    by_cases y : s < lc
    · rw [if_pos y]
      rcases shape_or (a s) with ⟨cs, hb, e⟩ | ⟨-, h1, h2, h3, h4, h5, h6, h7⟩
      · rw [hn y] at e
        have := congrArg List.length e
        rw [List.length_append] at this
        exact absurd this (by show ¬ 0 = cs.length + 1; omega)
      · rw [if_neg h1, if_neg h2, if_neg h3, if_neg h4, if_neg h6, if_neg h5, if_neg h7]
    · rw [if_neg y]
      simp only [show ¬ (-1 : Int32) = 99 by decide, show ¬ (-1 : Int32) = 98 by decide, show ¬ (-1 : Int32) = 112 by decide, show ¬ (-1 : Int32) = 120 by decide, show ¬ (-1 : Int32) = 114 by decide, show ¬ (-1 : Int32) = 103 by decide, show ¬ (-1 : Int32) = 109 by decide, if_false]
