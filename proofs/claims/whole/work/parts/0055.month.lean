/-! a month, and months -/
def ps (f : Nat → Int32) : Int32 := f 0 + f 1 + f 2 + f 3 + f 4 + f 5
theorem ps_upd {f : Nat → Int32} {b : Nat} (hb : b < 6) (v : Int32) : ps (upd f b (f b + v)) = ps f + v := by
  unfold ps upd
  rcases (show b = 0 ∨ b = 1 ∨ b = 2 ∨ b = 3 ∨ b = 4 ∨ b = 5 by omega) with e | e | e | e | e | e <;> subst e <;> simp <;> ac_rfl
/-- what months leave as it is -/
def mst (h h' : HS) (nc : Nat) : Prop := (∀ k, k ≠ 3 → k ≠ 4 → k ≠ 8 → k ≠ 9 → k ≠ 12 → h' k = h k) ∧ ∀ c, c < nc → h 4 c ≠ -9 → h' 4 c = h 4 c
theorem mst.rf {h : HS} {nc : Nat} : mst h h nc := ⟨fun _ _ _ _ _ _ => rfl, fun _ _ _ => rfl⟩
theorem mst.tr {h h' h'' : HS} {nc : Nat} (a : mst h h' nc) (b : mst h' h'' nc) : mst h h'' nc :=
  ⟨fun k h3 h4 h8 h9 h12 => (b.1 k h3 h4 h8 h9 h12).trans (a.1 k h3 h4 h8 h9 h12), fun c hc hn => (b.2 c hc (by rw [a.2 c hc hn]; exact hn)).trans (a.2 c hc hn)⟩
theorem au_mst {h : HS} {nc nb c b p : Nat} (hp : h 4 c = -9) : mst h (auS h nb c b p) nc := by
  refine ⟨fun k h3 h4 h8 h9 h12 => ?_, fun i hi hn => ?_⟩
  · unfold auS; rw [st_ne h9, st_ne h8, st_ne h4]
  · show upd (h 4) c (nI b) i = h 4 i
    exact upd_ne (fun q => hn (by rw [q]; exact hp))
theorem m9_pile {h : HS} {nc nb c : Nat} (w : WF h nc nb) (hc : c < nc) : (f_X0_inPile (nI c) h = 0) ↔ ¬ h 4 c = -9 := by
  rw [inPile_nI w hc]
  by_cases q : h 4 c = -9
  · rw [if_pos q]; exact ⟨fun z => absurd z (by decide), fun z => absurd q z⟩
  · rw [if_neg q]; exact ⟨fun _ => q, fun _ => rfl⟩
theorem one_neg {p : Nat} (hp1 : 1 ≤ p) (hp9 : p ≤ 999) {x : Int32} (h : (p : Int) ≤ x.toInt) : ¬ x = 0 := by
  intro q
  rw [q, show ((0 : Int32)).toInt = 0 from rfl] at h
  omega
theorem sell_XM : ∀ (k i : Nat) (h : HS) {nc nb : Nat}, WF h nc nb → i + k = nc → ∃ (d : Int32) (h' : HS), WF h' nc nb ∧ mst h h' nc ∧ (∀ b, h 8 b = 0 → h' 8 b = 0) ∧ (∀ (N : Int32) (K : Int32 → Int32 → HS → Option (Int32 × HS)) (n : Nat) (pd j : Int32), k < n → L_X0_goOn_24 N 1 K n pd j (nI i) h = K (pd + d) j h') ∧
    ∀ t, rel h t → t 29 0 = 0 → ∃ t', (∀ (K : HS → Option HS) (n : Nat), k < n → L_X2_goesMonth_12 0 K n (nI i) t = K t') ∧ rel h' t' ∧ fr t t' ∧ ps (t' 16) = ps (t 16) + d ∧ ∀ b, h 8 b = 0 → t' 16 b = t 16 b
  | 0, i, h, nc, nb, w, hi => by
    have : i = nc := by omega
    subst this
    have h8 := w.nc8
    have c0 : nI i ≤ nI i := nI_le (Nat.le_refl _) (by omega)
    refine ⟨0, h, w, mst.rf, fun b q => q, fun N K n pd j hn => ?_, fun t r ha => ⟨t, fun K n hn => ?_, r, fr.rf, ?_, fun b q => rfl⟩⟩
    · cases n with
      | zero => omega
      | succ n => rw [L_X0_goOn_24, if_neg (by decide), w.c, if_pos c0, Int32.add_zero]
    · cases n with
      | zero => omega
      | succ n =>
        have r20 : t 20 = h 10 := r 20 rfl
        rw [L_X2_goesMonth_12, r20, w.c, if_pos c0]
    · rw [Int32.add_zero]
  | k + 1, i, h, nc, nb, w, hi => by
    have h8 := w.nc8
    have h6 := w.nb6
    have c0 : ¬ nI nc ≤ nI i := nI_ge (by omega) (by omega)
    obtain ⟨c, hc, ec⟩ := w.ord (c := i) (by omega)
    have a8 : atv 8 (h 5) (nI i) = nI c := by rw [atv_nI _ (by omega) (by omega), ec]
    have x8 : rd 8 (h 5) (nI i) = some (nI c) := by rw [rd_nI _ (by omega) (by omega), ec]
    by_cases q : h 4 c = -9
    · have qp : ¬ f_X0_inPile (nI c) h = 0 := fun z => (m9_pile w hc).mp z q
      have qm : ∀ t, rel h t → rd 8 (t 5) (nI c) = some 0 := fun t r => by
        have r5 : t 5 = mh h := r 5 rfl
        rw [rd_nI _ (by omega) (by omega), r5, (mh0 w hc).mpr q]
      rcases auction_XM w hc with ⟨e1, -, e3⟩ | ⟨b, p, hb, hp1, hp9, hpu, -, e1, w', e3⟩
      · obtain ⟨d, h', w2, m2, z2, X, M⟩ := sell_XM k (i + 1) h w (by omega)
        refine ⟨d, h', w2, m2, z2, fun N K n pd j hn => ?_, fun t r ha => ?_⟩
        · cases n with
          | zero => omega
          | succ n =>
            rw [L_X0_goOn_24, if_neg (by decide), w.c, if_neg c0, a8, if_neg qp, e1, Option.bind_some, nI_1, Int32.add_zero]
            exact X N K n pd j (by omega)
        · obtain ⟨t', M1, M2, M3, M4, M5⟩ := M t r ha
          refine ⟨t', fun K n hn => ?_, M2, M3, M4, M5⟩
          cases n with
          | zero => omega
          | succ n =>
            have r20 : t 20 = h 10 := r 20 rfl
            have r6 : t 6 = h 5 := r 6 rfl
            rw [L_X2_goesMonth_12, r20, w.c, if_neg c0, if_pos rfl, r6, x8, Option.bind_some, qm t r, Option.bind_some, if_pos rfl, Option.bind_some, e3 t r ha, Option.bind_some, nI_1]
            exact M1 K n (by omega)
      · obtain ⟨d, h', w2, m2, z2, X, M⟩ := sell_XM k (i + 1) (auS h nb c b p) w' (by omega)
        have zz : ∀ b', h 8 b' = 0 → (auS h nb c b p) 8 b' = 0 := fun b' z => by
          show upd (h 8) b (h 8 b - nI p) b' = 0
          rw [upd_ne (fun e => one_neg hp1 hp9 hpu (by rw [← e]; exact z))]
          exact z
        refine ⟨nI p + d, h', w2, (au_mst q).tr m2, fun b' z => z2 b' (zz b' z), fun N K n pd j hn => ?_, fun t r ha => ?_⟩
        · cases n with
          | zero => omega
          | succ n =>
            rw [L_X0_goOn_24, if_neg (by decide), w.c, if_neg c0, a8, if_neg qp, e1, Option.bind_some, nI_1, X N K n _ j (by omega)]
            rw [Int32.add_assoc]
        · obtain ⟨t1, s1, s2, s3, s4⟩ := e3 t r ha
          obtain ⟨t', M1, M2, M3, M4, M5⟩ := M t1 s2 (by rw [s3 29 rfl (by decide)]; exact ha)
          refine ⟨t', fun K n hn => ?_, M2, s3.tr M3, ?_, fun b' z => ?_⟩
          · cases n with
            | zero => omega
            | succ n =>
              have r20 : t 20 = h 10 := r 20 rfl
              have r6 : t 6 = h 5 := r 6 rfl
              rw [L_X2_goesMonth_12, r20, w.c, if_neg c0, if_pos rfl, r6, x8, Option.bind_some, qm t r, Option.bind_some, if_pos rfl, Option.bind_some, s1, Option.bind_some, nI_1]
              exact M1 K n (by omega)
          · rw [M4, s4, ps_upd (by omega), Int32.add_assoc]
          · rw [M5 b' (zz b' z), s4]
            exact upd_ne (fun e => one_neg hp1 hp9 hpu (by rw [← e]; exact z))
    · have qp : f_X0_inPile (nI c) h = 0 := (m9_pile w hc).mpr q
      obtain ⟨d, h', w2, m2, z2, X, M⟩ := sell_XM k (i + 1) h w (by omega)
      refine ⟨d, h', w2, m2, z2, fun N K n pd j hn => ?_, fun t r ha => ?_⟩
      · cases n with
        | zero => omega
        | succ n =>
          rw [L_X0_goOn_24, if_neg (by decide), w.c, if_neg c0, a8, if_pos qp, nI_1]
          exact X N K n pd j (by omega)
      · obtain ⟨t', M1, M2, M3, M4, M5⟩ := M t r ha
        refine ⟨t', fun K n hn => ?_, M2, M3, M4, M5⟩
        cases n with
        | zero => omega
        | succ n =>
          have r20 : t 20 = h 10 := r 20 rfl
          have r6 : t 6 = h 5 := r 6 rfl
          have r5 : t 5 = mh h := r 5 rfl
          rw [L_X2_goesMonth_12, r20, w.c, if_neg c0, if_pos rfl, r6, x8, Option.bind_some, rd_nI _ (show c < 8 by omega) (by omega), r5, Option.bind_some, if_neg (fun z => q ((mh0 w hc).mp z)), nI_1]
          exact M1 K n (by omega)
/-! the end of a month -/
def agI (h : HS) (i : Nat) : Nat → Int32 := fun c => if c < i ∧ h 4 c = -9 then mn 99 (h 3 c + 1) else h 3 c
def puI (h : HS) (i : Nat) : Nat → Int32 := fun b => if b < i then mn 999 (h 8 b + 5) else h 8 b
def clS (h : HS) (nc nb : Nat) : HS := st (st h 3 (agI h nc)) 8 (puI h nb)
theorem agI_0 (h : HS) : agI h 0 = h 3 := by
  funext c; unfold agI; rw [if_neg (by omega)]
theorem puI_0 (h : HS) : puI h 0 = h 8 := by
  funext c; unfold puI; rw [if_neg (by omega)]
theorem agI_at (h : HS) (i : Nat) : agI h i i = h 3 i := by
  unfold agI; rw [if_neg (by omega)]
theorem puI_at (h : HS) (i : Nat) : puI h i i = h 8 i := by
  unfold puI; rw [if_neg (by omega)]
theorem agI_s (h : HS) (i : Nat) : agI h (i + 1) = if h 4 i = -9 then upd (agI h i) i (mn 99 (h 3 i + 1)) else agI h i := by
  funext c
  by_cases q : h 4 i = -9
  · rw [if_pos q]
    by_cases e : c = i
    · subst e
      rw [upd_eq]
      unfold agI
      rw [if_pos ⟨by omega, q⟩]
    · rw [upd_ne e]
      unfold agI
      by_cases z : c < i
      · by_cases y : h 4 c = -9
        · rw [if_pos ⟨by omega, y⟩, if_pos ⟨z, y⟩]
        · rw [if_neg (fun a => y a.2), if_neg (fun a => y a.2)]
      · rw [if_neg (fun a => by omega), if_neg (fun a => by omega)]
  · rw [if_neg q]
    unfold agI
    by_cases e : c = i
    · subst e
      rw [if_neg (fun a => q a.2), if_neg (fun a => q a.2)]
    · by_cases z : c < i
      · by_cases y : h 4 c = -9
        · rw [if_pos ⟨by omega, y⟩, if_pos ⟨z, y⟩]
        · rw [if_neg (fun a => y a.2), if_neg (fun a => y a.2)]
      · rw [if_neg (fun a => by omega), if_neg (fun a => by omega)]
theorem puI_s (h : HS) (i : Nat) : puI h (i + 1) = upd (puI h i) i (mn 999 (h 8 i + 5)) := by
  funext c
  by_cases e : c = i
  · subst e
    rw [upd_eq]
    unfold puI
    rw [if_pos (by omega)]
  · rw [upd_ne e]
    unfold puI
    by_cases z : c < i
    · rw [if_pos (by omega), if_pos z]
    · rw [if_neg (by omega), if_neg z]
theorem age_X {h : HS} {nc nb : Nat} (w : WF h nc nb) (K : HS → Option HS) : ∀ (k i n : Nat), i + k = nc → k < n → L_X0_closeMonth_2 K n (nI i) (st h 3 (agI h i)) = K (st h 3 (agI h nc))
  | 0, i, n + 1, hi, _ => by
    have : i = nc := by omega
    subst this
    have h8 := w.nc8
    rw [L_X0_closeMonth_2, show (st h 3 (agI h i)) 10 0 = h 10 0 from rfl, w.c, if_pos (nI_le (Nat.le_refl _) (by omega))]
  | k + 1, i, n + 1, hi, hn => by
    have h8 := w.nc8
    have ih := age_X w K k (i + 1) n (by omega) (by omega)
    rw [L_X0_closeMonth_2, show (st h 3 (agI h i)) 10 0 = h 10 0 from rfl, w.c, if_neg (nI_ge (by omega) (by omega)), show f_X0_inPile (nI i) (st h 3 (agI h i)) = f_X0_inPile (nI i) h from rfl, ← ih, nI_1]
    rw [agI_s]
    by_cases q : h 4 i = -9
    · rw [if_neg (fun z => (m9_pile w (by omega)).mp z q), if_pos q, st_eq, atv_nI _ (by omega) (by omega), ptv_nI _ _ (by omega) (by omega), agI_at, st_st]
      rfl
    · rw [if_pos ((m9_pile w (by omega)).mpr q), if_neg q]
theorem pur_X {h : HS} {nc nb : Nat} (w : WF h nc nb) (K : HS → Option HS) : ∀ (k i n : Nat), i + k = nb → k < n → L_X0_closeMonth_49 K n (nI i) (st h 8 (puI h i)) = K (st h 8 (puI h nb))
  | 0, i, n + 1, hi, _ => by
    have : i = nb := by omega
    subst this
    have h6 := w.nb6
    rw [L_X0_closeMonth_49, show (st h 8 (puI h i)) 11 0 = h 11 0 from rfl, w.b, if_pos (nI_le (Nat.le_refl _) (by omega))]
  | k + 1, i, n + 1, hi, hn => by
    have h6 := w.nb6
    have ih := pur_X w K k (i + 1) n (by omega) (by omega)
    rw [L_X0_closeMonth_49, show (st h 8 (puI h i)) 11 0 = h 11 0 from rfl, w.b, if_neg (nI_ge (by omega) (by omega)), ← ih, nI_1, puI_s, st_eq, atv_nI _ (by omega) (by omega), ptv_nI _ _ (by omega) (by omega), puI_at, st_st]
    rfl
theorem agI_WF {h : HS} {nc nb : Nat} (w : WF h nc nb) : WF (st h 3 (agI h nc)) nc nb := w.set3 (fun c hc => by
    have := w.age hc
    unfold agI
    split
    · refine mn_in (m := 99) ?_ (by omega)
      unfold inR at this
      rw [toInt_addR (by rw [show ((1 : Int32)).toInt = 1 from rfl]; omega) (by rw [show ((1 : Int32)).toInt = 1 from rfl]; omega), show ((1 : Int32)).toInt = 1 from rfl]
      omega
    · exact this) (fun i hi => by
    unfold agI
    rw [if_neg (by omega)]
    exact w.z (by omega) i hi)
theorem puI_WF {h : HS} {nc nb : Nat} (w : WF h nc nb) : WF (st h 8 (puI h nb)) nc nb := w.set8 (fun b hb => by
    have := w.pur hb
    unfold puI
    rw [if_pos hb]
    refine mn_in (m := 999) ?_ (by omega)
    unfold inR at this
    rw [toInt_addR (by rw [show ((5 : Int32)).toInt = 5 from rfl]; omega) (by rw [show ((5 : Int32)).toInt = 5 from rfl]; omega), show ((5 : Int32)).toInt = 5 from rfl]
    omega) (fun i hi => by
    unfold puI
    rw [if_neg (by omega)]
    exact w.zb (by omega) (by omega) i hi)
theorem cl_WF {h : HS} {nc nb : Nat} (w : WF h nc nb) : WF (clS h nc nb) nc nb := puI_WF (h := st h 3 (agI h nc)) (agI_WF w)
theorem cl_X {h : HS} {nc nb : Nat} (w : WF h nc nb) : f_X0_closeMonth h = some (clS h nc nb) := by
  have h8 := w.nc8
  have h6 := w.nb6
  have a := age_X w (fun (hh_47 : HS) => L_X0_closeMonth_49 (fun (hh_87 : HS) => some hh_87) fuel (0 : Int32) hh_47) nc 0 fuel (by omega) (by unfold fuel; omega)
  have b := pur_X (agI_WF w) (fun x => some x) nb 0 fuel (by omega) (by unfold fuel; omega)
  rw [agI_0, st_same (h := h) (k := 3) (f := h 3) rfl] at a
  rw [puI_0, st_same (h := st h 3 (agI h nc)) (k := 8) (f := (st h 3 (agI h nc)) 8) rfl] at b
  rw [show nI 0 = 0 from rfl] at a b
  unfold f_X0_closeMonth
  simp only [jnE]
  rw [a, b]
  rfl
theorem age_M {h t : HS} {nc nb : Nat} (w : WF h nc nb) (r : rel h t) (j1 : Int32) (K : HS → Option HS) : ∀ (k i n : Nat), i + k = nc → k < n → L_X2_goesMonth_57 j1 K n (nI i) (st t 4 (agI h i)) = K (st t 4 (agI h nc))
  | 0, i, n + 1, hi, _ => by
    have : i = nc := by omega
    subst this
    have h8 := w.nc8
    have r20 : t 20 = h 10 := r 20 rfl
    rw [L_X2_goesMonth_57, show (st t 4 (agI h i)) 20 = t 20 from rfl, r20, w.c, if_pos (nI_le (Nat.le_refl _) (by omega))]
  | k + 1, i, n + 1, hi, hn => by
    have h8 := w.nc8
    have r20 : t 20 = h 10 := r 20 rfl
    have r5 : t 5 = mh h := r 5 rfl
    have ih := age_M w r j1 K k (i + 1) n (by omega) (by omega)
    rw [L_X2_goesMonth_57, show (st t 4 (agI h i)) 20 = t 20 from rfl, r20, w.c, if_neg (nI_ge (by omega) (by omega)), show (st t 4 (agI h i)) 5 = t 5 from rfl, r5, rd_nI _ (by omega) (by omega), Option.bind_some, ← ih, nI_1, agI_s, st_eq, rd_nI _ (by omega) (by omega), agI_at]
    have ag := w.age (c := i) (by omega)
    have ag1 : 0 ≤ (h 3 i + 1).toInt := by
      unfold inR at ag
      rw [toInt_addR (by rw [show ((1 : Int32)).toInt = 1 from rfl]; omega) (by rw [show ((1 : Int32)).toInt = 1 from rfl]; omega), show ((1 : Int32)).toInt = 1 from rfl]
      omega
    by_cases q : h 4 i = -9
    · rw [if_pos ((mh0 w (by omega)).mpr q), if_pos q, Option.bind_some, wr_nI _ _ (by omega) (by omega), Option.bind_some, st_st, show (99 : Int32) = nI 99 from rfl, held_up ag1 (by omega)]
      rfl
    · rw [if_neg (fun z => q ((mh0 w (by omega)).mp z)), if_neg q, Option.bind_some, wr_nI _ _ (by omega) (by omega), Option.bind_some, st_st, upd_same (agI_at h i)]
      rfl
theorem pur_M {h t : HS} {nc nb : Nat} (w : WF h nc nb) (r : rel h t) (j1 : Int32) (K : HS → Option HS) : ∀ (k i n : Nat), i + k = nb → k < n → L_X2_goesMonth_110 j1 K n (nI i) (st t 9 (puI h i)) = K (st t 9 (puI h nb))
  | 0, i, n + 1, hi, _ => by
    have : i = nb := by omega
    subst this
    have h6 := w.nb6
    have r21 : t 21 = h 11 := r 21 rfl
    rw [L_X2_goesMonth_110, show (st t 9 (puI h i)) 21 = t 21 from rfl, r21, w.b, if_pos (nI_le (Nat.le_refl _) (by omega))]
  | k + 1, i, n + 1, hi, hn => by
    have h6 := w.nb6
    have r21 : t 21 = h 11 := r 21 rfl
    have ih := pur_M w r j1 K k (i + 1) n (by omega) (by omega)
    have ag := w.pur (b := i) (by omega)
    have ag1 : 0 ≤ (h 8 i + 5).toInt := by
      unfold inR at ag
      rw [toInt_addR (by rw [show ((5 : Int32)).toInt = 5 from rfl]; omega) (by rw [show ((5 : Int32)).toInt = 5 from rfl]; omega), show ((5 : Int32)).toInt = 5 from rfl]
      omega
    rw [L_X2_goesMonth_110, show (st t 9 (puI h i)) 21 = t 21 from rfl, r21, w.b, if_neg (nI_ge (by omega) (by omega)), ← ih, nI_1, puI_s, st_eq, rd_nI _ (by omega) (by omega), Option.bind_some, puI_at, wr_nI _ _ (by omega) (by omega), Option.bind_some, st_st, show (999 : Int32) = nI 999 from rfl, held_up ag1 (by omega)]
    rfl
theorem cl_mst {h : HS} {nc nb : Nat} : mst h (clS h nc nb) nc := by
  refine ⟨fun k h3 h4 h8 h9 h12 => ?_, fun c hc hn => rfl⟩
  unfold clS
  rw [st_ne h8, st_ne h3]
/-- the check's month behind the sales -/
theorem cl_M {h t : HS} {nc nb : Nat} (w : WF h nc nb) (r : rel h t) (j1 : Int32) : ∃ t', (jn (fun (tt_108 : HS) => jn (fun (tt_144 : HS) => some tt_144) (fun (K144 : HS → Option (HS)) => (L_X2_goesMonth_110 j1 K144 fuel (0 : Int32) tt_108))) (fun (K108 : HS → Option (HS)) => (L_X2_goesMonth_57 j1 K108 fuel (0 : Int32) t))) = some t' ∧ rel (clS h nc nb) t' ∧ fr t t' ∧ t' 16 = t 16 := by
  have h8 := w.nc8
  have h6 := w.nb6
  have r4 : t 4 = h 3 := r 4 rfl
  have r9 : t 9 = h 8 := r 9 rfl
  have a := age_M w r j1 (fun (tt_108 : HS) => L_X2_goesMonth_110 j1 (fun (tt_144 : HS) => some tt_144) fuel (0 : Int32) tt_108) nc 0 fuel (by omega) (by unfold fuel; omega)
  have r1 := r.w3 (agI h nc)
  have b := pur_M (agI_WF w) r1 j1 (fun x => some x) nb 0 fuel (by omega) (by unfold fuel; omega)
  rw [agI_0, st_same (h := t) (k := 4) (f := h 3) r4] at a
  rw [puI_0, st_same (h := st t 4 (agI h nc)) (k := 9) (f := (st h 3 (agI h nc)) 8) r9] at b
  simp only [jnE]
  rw [show nI 0 = 0 from rfl] at a b
  refine ⟨_, ?_, r1.w8 (puI (st h 3 (agI h nc)) nb), (fr.rf.put rfl).put rfl, rfl⟩
  rw [a]
  exact b
/-- a month with sales -/
theorem month_XM {h : HS} {nc nb : Nat} (w : WF h nc nb) : ∃ (d : Int32) (h' : HS), WF h' nc nb ∧ mst h h' nc ∧ (∀ (N : Int32) (K : Int32 → HS → Option (Int32 × HS)) (n : Nat) (pd i : Int32), ¬ N ≤ i → L_X0_goOn_5 N 1 K (n + 1) pd i h = L_X0_goOn_5 N 1 K n (pd + d) (i + 1) h') ∧
    ∀ t, rel h t → t 29 0 = 0 → ∃ t', f_X2_goesMonth 0 t = some t' ∧ rel h' t' ∧ fr t t' ∧ ps (t' 16) = ps (t 16) + d ∧ ∀ b, h 8 b = 0 → t' 16 b = t 16 b := by
  have h8 := w.nc8
  have w1 : WF (st h 12 (fun _ => h 12 0 + 1)) nc nb := w.set12 _
  obtain ⟨d, h1, w2, m2, z2, X, M⟩ := sell_XM nc 0 (st h 12 (fun _ => h 12 0 + 1)) w1 (by omega)
  have m1 : mst h (st h 12 (fun _ => h 12 0 + 1)) nc := ⟨fun k _ _ _ _ h12 => st_ne h12, fun _ _ _ => rfl⟩
  refine ⟨d, clS h1 nc nb, cl_WF w2, (m1.tr m2).tr cl_mst, fun N K n pd i hN => ?_, fun t r ha => ?_⟩
  · rw [L_X0_goOn_5, if_neg hN]
    have x := X N (fun (j3_72 : Int32) (j4_72 : Int32) (hh_72 : HS) => (f_X0_closeMonth hh_72).bind fun v3 => (L_X0_goOn_5 N 1 K n j3_72 (j4_72 + (1 : Int32)) v3)) fuel pd i (by unfold fuel; omega)
    rw [nI0] at x
    simp only [jnE]
    rw [x, cl_X w2, Option.bind_some]
  · have r22 : t 22 = h 12 := r 22 rfl
    have r1 : rel (st h 12 (fun _ => h 12 0 + 1)) (st t 22 (fun _ => t 22 0 + 1)) := by rw [r22]; exact r.w12 _
    obtain ⟨t1, M1, M2, M3, M4, M5⟩ := M _ r1 ha
    obtain ⟨t2, N1, N2, N3, N4⟩ := cl_M w2 M2 0
    refine ⟨t2, ?_, N2, ((fr.rf.put (k := 22) rfl).tr M3).tr N3, by rw [N4, M4]; rfl, fun b z => by rw [N4, M5 b z]; rfl⟩
    have x := M1 (fun (tt_55 : HS) => L_X2_goesMonth_57 0 (fun (tt_108 : HS) => L_X2_goesMonth_110 0 (fun (tt_144 : HS) => some tt_144) fuel (0 : Int32) tt_108) fuel (0 : Int32) tt_55) fuel (by unfold fuel; omega)
    rw [show nI 0 = 0 from rfl] at x
    simp only [jnE] at N1
    unfold f_X2_goesMonth
    simp only [jnE]
    rw [x]
    exact N1
/-- a month without -/
theorem still_XM {h : HS} {nc nb : Nat} (w : WF h nc nb) : ∃ (h' : HS), WF h' nc nb ∧ mst h h' nc ∧ h' 4 = h 4 ∧ (∀ (N : Int32) (K : Int32 → HS → Option (Int32 × HS)) (n : Nat) (pd i : Int32), ¬ N ≤ i → L_X0_goOn_5 N 0 K (n + 1) pd i h = L_X0_goOn_5 N 0 K n pd (i + 1) h') ∧
    ∀ t, rel h t → t 29 0 = 0 → ∃ t', f_X2_goesMonth 1 t = some t' ∧ rel h' t' ∧ fr t t' := by
  have h8 := w.nc8
  have w1 : WF (st h 12 (fun _ => h 12 0 + 1)) nc nb := w.set12 _
  have m1 : mst h (st h 12 (fun _ => h 12 0 + 1)) nc := ⟨fun k _ _ _ _ h12 => st_ne h12, fun _ _ _ => rfl⟩
  refine ⟨clS (st h 12 (fun _ => h 12 0 + 1)) nc nb, cl_WF w1, m1.tr cl_mst, rfl, fun N K n pd i hN => ?_, fun t r ha => ?_⟩
  · rw [L_X0_goOn_5, if_neg hN]
    simp only [jnE]
    rw [show fuel = 999 + 1 from rfl, L_X0_goOn_24, if_pos rfl, cl_X w1, Option.bind_some]
  · have r22 : t 22 = h 12 := r 22 rfl
    have r1 : rel (st h 12 (fun _ => h 12 0 + 1)) (st t 22 (fun _ => t 22 0 + 1)) := by rw [r22]; exact r.w12 _
    obtain ⟨t2, N1, N2, N3, N4⟩ := cl_M w1 r1 1
    refine ⟨t2, ?_, N2, (fr.rf.put (k := 22) rfl).tr N3⟩
    refine Eq.trans ?_ N1
    unfold f_X2_goesMonth
    simp only [jnE]
    conv => lhs; rw [show fuel = 999 + 1 from rfl, L_X2_goesMonth_12]
    rw [if_neg (show ¬ (1 : Int32) = 0 by decide)]
    simp only [ite_self]
    rfl
/-- months with sales -/
theorem goOn_loop : ∀ (k i : Nat) (h : HS) {nc nb N : Nat}, WF h nc nb → i + k = N → N ≤ 60 → ∃ (d : Int32) (h' : HS), WF h' nc nb ∧ mst h h' nc ∧ (∀ (K : Int32 → HS → Option (Int32 × HS)) (n : Nat) (pd : Int32), k < n → L_X0_goOn_5 (nI N) 1 K n pd (nI i) h = K (pd + d) h') ∧
    ∀ t, rel h t → t 29 0 = 0 → ∃ t', (∀ (K : HS → Option HS) (n : Nat), k < n → L_X2_goes_2 (nI N) K n (nI i) t = K t') ∧ rel h' t' ∧ fr t t' ∧ ps (t' 16) = ps (t 16) + d
  | 0, i, h, nc, nb, N, w, hi, hN => by
    have : i = N := by omega
    subst this
    have c0 : nI i ≤ nI i := nI_le (Nat.le_refl _) (by omega)
    refine ⟨0, h, w, mst.rf, fun K n pd hn => ?_, fun t r ha => ⟨t, fun K n hn => ?_, r, fr.rf, by rw [Int32.add_zero]⟩⟩
    · cases n with
      | zero => omega
      | succ n => rw [L_X0_goOn_5, if_pos c0, Int32.add_zero]
    · cases n with
      | zero => omega
      | succ n => rw [L_X2_goes_2, if_pos c0]
  | k + 1, i, h, nc, nb, N, w, hi, hN => by
    have c0 : ¬ nI N ≤ nI i := nI_ge (by omega) (by omega)
    obtain ⟨d, h1, w1, m1, X, M⟩ := month_XM w
    obtain ⟨d2, h2, w2, m2, X2, M2⟩ := goOn_loop k (i + 1) h1 w1 (by omega) hN
    refine ⟨d + d2, h2, w2, m1.tr m2, fun K n pd hn => ?_, fun t r ha => ?_⟩
    · cases n with
      | zero => omega
      | succ n =>
        rw [X (nI N) K n pd (nI i) c0, nI_1, X2 K n _ (by omega), Int32.add_assoc]
    · obtain ⟨t1, a1, a2, a3, a4, -⟩ := M t r ha
      obtain ⟨t2, b1, b2, b3, b4⟩ := M2 t1 a2 (by rw [a3 29 rfl (by decide)]; exact ha)
      refine ⟨t2, fun K n hn => ?_, b2, a3.tr b3, by rw [b4, a4, Int32.add_assoc]⟩
      cases n with
      | zero => omega
      | succ n =>
        rw [L_X2_goes_2, if_neg c0, a1, Option.bind_some, nI_1]
        exact b1 K n (by omega)
theorem goOn_XM {h : HS} {nc nb n : Nat} (w : WF h nc nb) (hn : n ≤ 60) : ∃ (d : Int32) (h' : HS), WF h' nc nb ∧ mst h h' nc ∧ f_X0_goOn (nI n) 1 h = some (d, h') ∧
    ∀ t, rel h t → t 29 0 = 0 → ∃ t', f_X2_goes (nI n) t = some t' ∧ rel h' t' ∧ fr t t' ∧ ps (t' 16) = ps (t 16) + d := by
  obtain ⟨d, h', w', m, X, M⟩ := goOn_loop n 0 h w (by omega) hn
  refine ⟨d, h', w', m, ?_, fun t r ha => ?_⟩
  · have x := X (fun (j3_82 : Int32) (hh_82 : HS) => some (j3_82, hh_82)) fuel 0 (by unfold fuel; omega)
    rw [Int32.zero_add] at x
    rw [show nI 0 = 0 from rfl] at x
    unfold f_X0_goOn
    simp only [jnE]
    rw [x]
  · obtain ⟨t', a1, a2, a3, a4⟩ := M t r ha
    refine ⟨t', ?_, a2, a3, a4⟩
    have x := a1 (fun x => some x) fuel (by unfold fuel; omega)
    rw [show nI 0 = 0 from rfl] at x
    unfold f_X2_goes
    simp only [jnE]
    rw [x]
/-- one month -/
theorem goOn1_XM {h : HS} {nc nb : Nat} (w : WF h nc nb) : ∃ (d : Int32) (h' : HS), WF h' nc nb ∧ mst h h' nc ∧ f_X0_goOn 1 1 h = some (d, h') ∧
    ∀ t, rel h t → t 29 0 = 0 → ∃ t', f_X2_goesMonth 0 t = some t' ∧ rel h' t' ∧ fr t t' ∧ ps (t' 16) = ps (t 16) + d ∧ ∀ b, h 8 b = 0 → t' 16 b = t 16 b := by
  obtain ⟨d, h', w', m, X, M⟩ := month_XM w
  refine ⟨d, h', w', m, ?_, M⟩
  have x := X 1 (fun (j3_82 : Int32) (hh_82 : HS) => some (j3_82, hh_82)) 999 0 0 (by decide)
  have x2 : L_X0_goOn_5 1 1 (fun (j3_82 : Int32) (hh_82 : HS) => some (j3_82, hh_82)) 999 (0 + d) (0 + 1) h' = some (d, h') := by
    rw [show (999 : Nat) = 998 + 1 from rfl, L_X0_goOn_5, if_pos (by decide), Int32.zero_add]
  rw [x2] at x
  unfold f_X0_goOn
  simp only [jnE]
  exact x
theorem still1_XM {h : HS} {nc nb : Nat} (w : WF h nc nb) : ∃ (h' : HS), WF h' nc nb ∧ mst h h' nc ∧ h' 4 = h 4 ∧ f_X0_goOn 1 0 h = some (0, h') ∧
    ∀ t, rel h t → t 29 0 = 0 → ∃ t', f_X2_goesMonth 1 t = some t' ∧ rel h' t' ∧ fr t t' := by
  obtain ⟨h', w', m, e4, X, M⟩ := still_XM w
  refine ⟨h', w', m, e4, ?_, M⟩
  have x := X 1 (fun (j3_82 : Int32) (hh_82 : HS) => some (j3_82, hh_82)) 999 0 0 (by decide)
  have x2 : L_X0_goOn_5 1 0 (fun (j3_82 : Int32) (hh_82 : HS) => some (j3_82, hh_82)) 999 0 (0 + 1) h' = some (0, h') := by
    rw [show (999 : Nat) = 998 + 1 from rfl, L_X0_goOn_5, if_pos (by decide)]
  rw [x2] at x
  unfold f_X0_goOn
  simp only [jnE]
  exact x
