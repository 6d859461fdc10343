set_option maxHeartbeats 4000000 in
set_option maxRecDepth 100000 in
theorem c_X2_divisor (l : Launch) (D : va_G) (cI : ClassId) (j0 : Int64) (j2 : Int64) (out : Int64) (hf : f_X2_divisor j0 j2 = some out) : uL l D cI yX2_divisor wsX2_divisor ({ frames := 0, cells := 0, slots := 0, locals := 0 } : Room) [.long j0, .long j2] [] [] out := by
  intro sz
  refine Met.ofW (cc := cX2_divisor) (maxL := 10) (ret := (some .long)) (by decide) rfl ?_
  intro p e s m args below meth c s₁ Bd hml hv
  obtain ⟨rfl, hsz, hP, hK, hD0, hN⟩ := hv
  have hx := Bd.exec
  have hb := Bd.bytes
  have hr := Bd.returns
  have hts := atoms_spec (ws := wsX2_divisor) Bd.pre
  have hown : s.vm.findClass RX2 = some m.cls := findClass_of_methodNamed Bd.named
  have hlocks := Bd.notSynchronized
  subst hsz
  have hD := hD0.self (sz := s.heap.size)
  generalize hAe : va_A [] s.heap.size = G at hD ⊢
  have hA : ∀ q : Nat, s.heap.size ≤ q → G q := fun q h => by rw [← hAe]; exact Or.inr h
  have hS : va_S G s.heap s.heap [] := va_S.rf
  have hP : va_P D vwCl [] s.heap := hP
  have hl := lv_entry ([.long j0, .long j2]) (n := 10) (Nat.le_of_ble_eq_true rfl)
  rw [lg_entry_eq]
  generalize (lg_sl ([.long j0, .long j2]) ++ List.replicate (10 - (lg_sl ([.long j0, .long j2])).length) Slot.unset).toArray = ls at hl ⊢
  have hl : lv_has ls 10 [(0, .long j0), (2, .long j2)] := hl
  refine W_in ?_
  intro WW hWW
  refine (hWW _ _ _).mpr ?_
  unfold f_X2_divisor at hf
  refine lv_lload_n hx hb dX2_divisor_0 rfl (lv_at hl 0 rfl) ?_
  refine lv_lstore (lv' := [(4, .long j0), (0, .long j0), (2, .long j2)]) hx hb dX2_divisor_1 hl (by decide) rfl (fun ls hl => ?_)
  refine lv_lload_n hx hb dX2_divisor_3 rfl (lv_at hl 2 rfl) ?_
  refine lv_lstore (lv' := [(6, .long j2), (4, .long j0), (0, .long j0), (2, .long j2)]) hx hb dX2_divisor_4 hl (by decide) rfl (fun ls hl => ?_)
  obtain ⟨K31, hK31, hf⟩ := jnS hf
  have J31 : ∀ (j4_31 : Int64) (H : Heap) (locs : List Loc) (ls : Array Slot), K31 j4_31 = some out → va_P D vwCl [] H → va_D G [] → va_S G s.heap H locs → lv_has ls 10 [(4, .long j4_31)] → WW H locs (F0 m 31 ls []) := by
    intro j4_31 H locs ls hf hP hD hS hl
    subst hK31
    refine (hWW _ _ _).mpr ?_
    refine lv_lload hx hb dX2_divisor_31 (lv_at hl 0 rfl) ?_
    obtain rfl := Option.some.inj hf
    exact W.lret (v := j4_31) hx hb hr (fun t ht hW => ⟨⟨j4_31, (), rfl, rfl, hPt ht hP⟩, hS.F ht⟩) hS.2.2 dX2_divisor_33
  have P6 : ∀ (n' : Nat) (j4_6 : Int64) (j6_6 : Int64) (H : Heap) (locs : List Loc) (ls : Array Slot), L_X2_divisor_6 j0 j2 K31 n' j4_6 j6_6 = some out → va_P D vwCl [] H → va_D G [] → va_S G s.heap H locs → lv_has ls 10 [(4, .long j4_6), (6, .long j6_6)] → WW H locs (F0 m 6 ls []) := by
    intro n'
    induction n' with
    | zero => intro j4_6 j6_6 H locs ls hf; exact absurd (show (none : Option (Int64)) = some out from hf) (fun q => by cases q)
    | succ n' ih =>
      intro j4_6 j6_6 H locs ls hf hP hD hS hl
      rw [L_X2_divisor_6] at hf
      refine (hWW _ _ _).mpr ?_
      refine lv_lload hx hb dX2_divisor_6 (lv_at hl 1 rfl) ?_
      refine lv_lconst (v := (0 : Int64)) hx hb dX2_divisor_8 (by decide) ?_
      refine W.lcmp hx hb dX2_divisor_9 ?_
      refine lv_if_eq (tgt := 31) hx hb dX2_divisor_10 (by decide) (fun c1 => ?_) (fun c1 => ?_)
      · have hf := hT hf c1
        exact (hWW _ _ _).mp (J31 _ _ _ _ hf hP hD hS (lv_sub hl [0] rfl))
      · have hf := hF hf c1
        refine lv_lload hx hb dX2_divisor_13 (lv_at hl 0 rfl) ?_
        refine lv_lload hx hb dX2_divisor_15 (lv_at hl 1 rfl) ?_
        obtain ⟨c2, hf⟩ := nzS hf
        refine lv_lrem hx hb dX2_divisor_17 c2 ?_
        refine lv_lstore (lv' := [(8, .long (j4_6 - j4_6 / j6_6 * j6_6)), (4, .long j4_6), (6, .long j6_6)]) hx hb dX2_divisor_18 hl (by decide) rfl (fun ls hl => ?_)
        refine lv_lload hx hb dX2_divisor_20 (lv_at hl 2 rfl) ?_
        refine lv_lstore (lv' := [(4, .long j6_6), (8, .long (j4_6 - j4_6 / j6_6 * j6_6)), (6, .long j6_6)]) hx hb dX2_divisor_22 hl (by decide) rfl (fun ls hl => ?_)
        refine lv_lload hx hb dX2_divisor_24 (lv_at hl 1 rfl) ?_
        refine lv_lstore (lv' := [(6, .long (j4_6 - j4_6 / j6_6 * j6_6)), (4, .long j6_6), (8, .long (j4_6 - j4_6 / j6_6 * j6_6))]) hx hb dX2_divisor_26 hl (by decide) rfl (fun ls hl => ?_)
        refine lv_goto (tgt := 6) hx hb dX2_divisor_28 (by decide) ?_
        exact (hWW _ _ _).mp (ih _ _ _ _ _ hf hP hD hS (lv_sub hl [1, 0] rfl))
  exact (hWW _ _ _).mp (P6 _ _ _ _ _ _ hf hP hD hS (lv_sub hl [1, 0] rfl))
set_option maxHeartbeats 4000000 in
set_option maxRecDepth 100000 in
theorem c_X2_partOf (l : Launch) (D : va_G) (cI : ClassId) (j0 : Int64) (j2 : Int64) (j4 : Int32) (out : Int64) (hf : f_X2_partOf j0 j2 j4 = some out) : uL l D cI yX2_partOf wsX2_partOf ({ frames := 1, cells := 0, slots := 0, locals := 29 } : Room) [.long j0, .long j2, .int j4] [] [] out := by
  intro sz
  refine Met.ofW (cc := cX2_partOf) (maxL := 5) (ret := (some .long)) (by decide) rfl ?_
  intro p e s m args below meth c s₁ Bd hml hv
  obtain ⟨rfl, hsz, hP, hK, hD0, hN⟩ := hv
  have hx := Bd.exec
  have hb := Bd.bytes
  have hr := Bd.returns
  have hts := atoms_spec (ws := wsX2_partOf) Bd.pre
  have hown : s.vm.findClass RX2 = some m.cls := findClass_of_methodNamed Bd.named
  have hlocks := Bd.notSynchronized
  subst hsz
  have hD := hD0.self (sz := s.heap.size)
  generalize hAe : va_A [] s.heap.size = G at hD ⊢
  have hA : ∀ q : Nat, s.heap.size ≤ q → G q := fun q h => by rw [← hAe]; exact Or.inr h
  have hS : va_S G s.heap s.heap [] := va_S.rf
  have hP : va_P D vwCl [] s.heap := hP
  have hl := lv_entry ([.long j0, .long j2, .int j4]) (n := 5) (Nat.le_of_ble_eq_true rfl)
  rw [lg_entry_eq]
  generalize (lg_sl ([.long j0, .long j2, .int j4]) ++ List.replicate (5 - (lg_sl ([.long j0, .long j2, .int j4])).length) Slot.unset).toArray = ls at hl ⊢
  have hl : lv_has ls 5 [(0, .long j0), (2, .long j2), (4, .int j4)] := hl
  refine W_in ?_
  intro WW hWW
  refine (hWW _ _ _).mpr ?_
  unfold f_X2_partOf at hf
  refine lv_iload hx hb dX2_partOf_0 (lv_at hl 2 rfl) ?_
  refine lv_if_ne (tgt := 9) hx hb dX2_partOf_2 (by decide) (fun c1 => ?_) (fun c1 => ?_)
  · have hf := hF hf c1
    refine lv_lload_n hx hb dX2_partOf_9 rfl (lv_at hl 1 rfl) ?_
    refine lv_lload_n hx hb dX2_partOf_10 rfl (lv_at hl 0 rfl) ?_
    refine lv_lload_n hx hb dX2_partOf_11 rfl (lv_at hl 1 rfl) ?_
    obtain ⟨v2, hev2, hf⟩ := bS hf
    refine rS_lo (As := [.long j0, .long j2]) (rest := [.long j2]) ⟨hx, hb, hml, hown, hts⟩ hK hN hA hP hD hS (c_X2_divisor l D cI j0 j2 v2 hev2) (va_cwS 2 hts gX2_partOf_X2_divisor rfl rfl rfl hd_X2_divisor.2 ⟨Nat.le_of_ble_eq_true rfl, Nat.le_of_ble_eq_true rfl⟩) [] (by decide) rfl rfl hl.1 rfl (Nat.le_of_ble_eq_true rfl) dX2_partOf_12 ⟨Nat.le_of_ble_eq_true rfl, Nat.le_of_ble_eq_true rfl⟩ (fun H locs hP hD hS => ?_)
    obtain ⟨c3, hf⟩ := nzS hf
    refine lv_ldiv hx hb dX2_partOf_15 c3 ?_
    obtain rfl := Option.some.inj hf
    exact W.lret (v := (j2 / v2)) hx hb hr (fun t ht hW => ⟨⟨(j2 / v2), (), rfl, rfl, hPt ht hP⟩, hS.F ht⟩) hS.2.2 dX2_partOf_16
  · have hf := hT hf c1
    refine lv_lload_n hx hb dX2_partOf_5 rfl (lv_at hl 0 rfl) ?_
    refine lv_goto (tgt := 10) hx hb dX2_partOf_6 (by decide) ?_
    refine lv_lload_n hx hb dX2_partOf_10 rfl (lv_at hl 0 rfl) ?_
    refine lv_lload_n hx hb dX2_partOf_11 rfl (lv_at hl 1 rfl) ?_
    obtain ⟨v4, hev4, hf⟩ := bS hf
    refine rS_lo (As := [.long j0, .long j2]) (rest := [.long j0]) ⟨hx, hb, hml, hown, hts⟩ hK hN hA hP hD hS (c_X2_divisor l D cI j0 j2 v4 hev4) (va_cwS 2 hts gX2_partOf_X2_divisor rfl rfl rfl hd_X2_divisor.2 ⟨Nat.le_of_ble_eq_true rfl, Nat.le_of_ble_eq_true rfl⟩) [] (by decide) rfl rfl hl.1 rfl (Nat.le_of_ble_eq_true rfl) dX2_partOf_12 ⟨Nat.le_of_ble_eq_true rfl, Nat.le_of_ble_eq_true rfl⟩ (fun H locs hP hD hS => ?_)
    obtain ⟨c5, hf⟩ := nzS hf
    refine lv_ldiv hx hb dX2_partOf_15 c5 ?_
    obtain rfl := Option.some.inj hf
    exact W.lret (v := (j0 / v4)) hx hb hr (fun t ht hW => ⟨⟨(j0 / v4), (), rfl, rfl, hPt ht hP⟩, hS.F ht⟩) hS.2.2 dX2_partOf_16
set_option maxHeartbeats 4000000 in
set_option maxRecDepth 100000 in
theorem c_X2_stutter (l : Launch) (D : va_G) (cI : ClassId) (A : Nat → Nat) (j1 : Int32) (j2 : Int32) (j3 : Int32) (j4 : Int32) (j5 : Int32) (tt : HS) (out : Int64 × HS) (hf : f_X2_stutter j1 j2 j3 j4 j5 tt = some out) : uL l D cI yX2_stutter wsX2_stutter ({ frames := 8, cells := 0, slots := 0, locals := 182 } : Room) [.ref (A 0), .int j1, .int j2, .int j3, .int j4, .int j5] (wM A cI tt) (wM A cI out.2) out.1 := by
  intro sz
  refine Met.ofW (cc := cX2_stutter) (maxL := 15) (ret := (some .long)) (by decide) rfl ?_
  intro p e s m args below meth c s₁ Bd hml hv
  obtain ⟨rfl, hsz, hP, hK, hD0, hN⟩ := hv
  have hx := Bd.exec
  have hb := Bd.bytes
  have hr := Bd.returns
  have hts := atoms_spec (ws := wsX2_stutter) Bd.pre
  have hown : s.vm.findClass RX2 = some m.cls := findClass_of_methodNamed Bd.named
  have hlocks := Bd.notSynchronized
  subst hsz
  have hD := hD0.self (sz := s.heap.size)
  generalize hAe : va_A (wM A cI tt) s.heap.size = G at hD ⊢
  have hA : ∀ q : Nat, s.heap.size ≤ q → G q := fun q h => by rw [← hAe]; exact Or.inr h
  have hS : va_S G s.heap s.heap [] := va_S.rf
  have hP : va_P D vwCl (wM A cI tt) s.heap := hP
  have hl := lv_entry ([.ref (A 0), .int j1, .int j2, .int j3, .int j4, .int j5]) (n := 15) (Nat.le_of_ble_eq_true rfl)
  rw [lg_entry_eq]
  generalize (lg_sl ([.ref (A 0), .int j1, .int j2, .int j3, .int j4, .int j5]) ++ List.replicate (15 - (lg_sl ([.ref (A 0), .int j1, .int j2, .int j3, .int j4, .int j5])).length) Slot.unset).toArray = ls at hl ⊢
  have hl : lv_has ls 15 [(0, .ref (A 0)), (1, .int j1), (2, .int j2), (3, .int j3), (4, .int j4), (5, .int j5)] := hl
  have hinM : ∀ w ∈ wsX20, w ∈ wsX2_stutter := by decide +kernel
  have lk0 := hts (.fieldLink RX2 25 "LiesBoughtBackModel" "holder" "[I") (by decide +kernel)
  refine W_in ?_
  intro WW hWW
  refine (hWW _ _ _).mpr ?_
  unfold f_X2_stutter at hf
  refine lv_aload_n hx hb dX2_stutter_0 rfl (lv_at hl 0 rfl) ?_
  refine lv_iload_n hx hb dX2_stutter_1 rfl (lv_at hl 1 rfl) ?_
  refine lv_iload_n hx hb dX2_stutter_2 rfl (lv_at hl 2 rfl) ?_
  refine qV_i (As := [.int j1, .int j2]) (rest := []) ⟨hx, hb, hml, hown, hts⟩ hK hN hA hP hD hS (c_X2_areTold l D cI A j1 j2 tt (f_X2_areTold j1 j2 tt) rfl) (cwV 2 hts gX2_stutter_X2_areTold rfl rfl rfl hd_X2_areTold ⟨Nat.le_of_ble_eq_true rfl, Nat.le_of_ble_eq_true rfl⟩) (va_recv hK hP (ci := 2) (q0 := 0) rfl rfl) (bq_X2_X2_t A cI tt) rfl hl.1 rfl (Nat.le_of_ble_eq_true rfl) dX2_stutter_3 ⟨Nat.le_of_ble_eq_true rfl, Nat.le_of_ble_eq_true rfl⟩ (fun H locs hP hD hS => ?_)
  refine lv_if_ne (tgt := 13) hx hb dX2_stutter_6 (by decide) (fun c1 => ?_) (fun c1 => ?_)
  · have hf := hF hf c1
    refine lv_iload_n hx hb dX2_stutter_13 rfl (lv_at hl 3 rfl) ?_
    obtain ⟨K23, hK23, hf⟩ := jnS hf
    have J23 : ∀ (tt_23 : HS) (H : Heap) (locs : List Loc) (ls : Array Slot), K23 tt_23 = some out → va_P D vwCl (wM A cI tt_23) H → va_D G (wM A cI tt_23) → va_S G s.heap H locs → lv_has ls 15 [(0, .ref (A 0)), (1, .int j1), (2, .int j2), (3, .int j3), (4, .int j4), (5, .int j5)] → WW H locs (F0 m 23 ls []) := by
      intro tt_23 H locs ls hf hP hD hS hl
      subst hK23
      refine (hWW _ _ _).mpr ?_
      refine lv_bipush (v := (-4 : Int32)) hx hb dX2_stutter_23 (by decide) ?_
      refine lv_goto (tgt := 62) hx hb dX2_stutter_25 (by decide) ?_
      refine lv_istore (lv' := [(6, .int (-4 : Int32)), (0, .ref (A 0)), (1, .int j1), (2, .int j2), (3, .int j3), (4, .int j4), (5, .int j5)]) hx hb dX2_stutter_62 hl (by decide) rfl (fun ls hl => ?_)
      refine lv_iload hx hb dX2_stutter_64 (lv_at hl 0 rfl) ?_
      refine lv_if_eq (tgt := 76) hx hb dX2_stutter_66 (by decide) (fun c2 => ?_) (fun c2 => ?_)
      · exact absurd c2 (by decide)
      · refine lv_aload_n hx hb dX2_stutter_69 rfl (lv_at hl 1 rfl) ?_
        refine lv_iload hx hb dX2_stutter_70 (lv_at hl 0 rfl) ?_
        obtain ⟨v3, hev3, hf⟩ := bS hf
        refine qV_l (ws' := (wM A cI v3.2)) (As := [.int (-4 : Int32)]) (rest := []) ⟨hx, hb, hml, hown, hts⟩ hK hN hA hP hD hS (c_X2_lowestOf l D cI A (-4 : Int32) tt_23 v3 hev3) (cwV 1 hts gX2_stutter_X2_lowestOf rfl rfl rfl hd_X2_lowestOf ⟨Nat.le_of_ble_eq_true rfl, Nat.le_of_ble_eq_true rfl⟩) (va_recv hK hP (ci := 2) (q0 := 0) rfl rfl) (bp_X2_X2_t_t A cI tt_23 v3.2) rfl hl.1 rfl (Nat.le_of_ble_eq_true rfl) dX2_stutter_72 ⟨Nat.le_of_ble_eq_true rfl, Nat.le_of_ble_eq_true rfl⟩ (fun H locs hP hD hS => ?_)
        have hP : va_P D vwCl (wM A cI v3.2) H := hP
        obtain rfl := Option.some.inj hf
        exact W.lret (v := v3.1) hx hb hr (fun t ht hW => ⟨⟨v3.1, (), rfl, rfl, hPt ht hP⟩, hS.F ht⟩) hS.2.2 dX2_stutter_75
    refine lv_if_lt (tgt := 23) hx hb dX2_stutter_14 (by decide) (fun c4 => ?_) (fun c4 => ?_)
    · have hf := hT hf c4
      exact (hWW _ _ _).mp (J23 _ _ _ _ hf hP hD hS (lv_sub hl [0, 1, 2, 3, 4, 5] rfl))
    · have hf := hF hf c4
      refine lv_iload hx hb dX2_stutter_17 (lv_at hl 4 rfl) ?_
      refine lv_iconst (v := (2 : Int32)) hx hb dX2_stutter_19 (by decide) ?_
      refine lv_icmp_ge (tgt := 28) hx hb dX2_stutter_20 (by decide) (fun c5 => ?_) (fun c5 => ?_)
      · have hf := hT hf c5
        refine lv_iload_n hx hb dX2_stutter_28 rfl (lv_at hl 3 rfl) ?_
        refine lv_bipush (v := (7 : Int32)) hx hb dX2_stutter_29 (by decide) ?_
        obtain ⟨K41, hK41, hf⟩ := jnS hf
        have J41 : ∀ (tt_41 : HS) (H : Heap) (locs : List Loc) (ls : Array Slot), K41 tt_41 = some out → va_P D vwCl (wM A cI tt_41) H → va_D G (wM A cI tt_41) → va_S G s.heap H locs → lv_has ls 15 [(0, .ref (A 0)), (1, .int j1), (2, .int j2), (3, .int j3), (4, .int j4), (5, .int j5)] → WW H locs (F0 m 41 ls []) := by
          intro tt_41 H locs ls hf hP hD hS hl
          subst hK41
          refine (hWW _ _ _).mpr ?_
          refine lv_bipush (v := (-6 : Int32)) hx hb dX2_stutter_41 (by decide) ?_
          refine lv_goto (tgt := 62) hx hb dX2_stutter_43 (by decide) ?_
          refine lv_istore (lv' := [(6, .int (-6 : Int32)), (0, .ref (A 0)), (1, .int j1), (2, .int j2), (3, .int j3), (4, .int j4), (5, .int j5)]) hx hb dX2_stutter_62 hl (by decide) rfl (fun ls hl => ?_)
          refine lv_iload hx hb dX2_stutter_64 (lv_at hl 0 rfl) ?_
          refine lv_if_eq (tgt := 76) hx hb dX2_stutter_66 (by decide) (fun c6 => ?_) (fun c6 => ?_)
          · exact absurd c6 (by decide)
          · refine lv_aload_n hx hb dX2_stutter_69 rfl (lv_at hl 1 rfl) ?_
            refine lv_iload hx hb dX2_stutter_70 (lv_at hl 0 rfl) ?_
            obtain ⟨v7, hev7, hf⟩ := bS hf
            refine qV_l (ws' := (wM A cI v7.2)) (As := [.int (-6 : Int32)]) (rest := []) ⟨hx, hb, hml, hown, hts⟩ hK hN hA hP hD hS (c_X2_lowestOf l D cI A (-6 : Int32) tt_41 v7 hev7) (cwV 1 hts gX2_stutter_X2_lowestOf rfl rfl rfl hd_X2_lowestOf ⟨Nat.le_of_ble_eq_true rfl, Nat.le_of_ble_eq_true rfl⟩) (va_recv hK hP (ci := 2) (q0 := 0) rfl rfl) (bp_X2_X2_t_t A cI tt_41 v7.2) rfl hl.1 rfl (Nat.le_of_ble_eq_true rfl) dX2_stutter_72 ⟨Nat.le_of_ble_eq_true rfl, Nat.le_of_ble_eq_true rfl⟩ (fun H locs hP hD hS => ?_)
            have hP : va_P D vwCl (wM A cI v7.2) H := hP
            obtain rfl := Option.some.inj hf
            exact W.lret (v := v7.1) hx hb hr (fun t ht hW => ⟨⟨v7.1, (), rfl, rfl, hPt ht hP⟩, hS.F ht⟩) hS.2.2 dX2_stutter_75
        refine lv_icmp_gt (tgt := 41) hx hb dX2_stutter_31 (by decide) (fun c8 => ?_) (fun c8 => ?_)
        · have hf := hT hf c8
          exact (hWW _ _ _).mp (J41 _ _ _ _ hf hP hD hS (lv_sub hl [0, 1, 2, 3, 4, 5] rfl))
        · have hf := hF hf c8
          refine lv_iload hx hb dX2_stutter_34 (lv_at hl 4 rfl) ?_
          refine lv_bipush (v := (20 : Int32)) hx hb dX2_stutter_36 (by decide) ?_
          refine lv_icmp_le (tgt := 46) hx hb dX2_stutter_38 (by decide) (fun c9 => ?_) (fun c9 => ?_)
          · have hf := hT hf c9
            refine lv_iload hx hb dX2_stutter_46 (lv_at hl 5 rfl) ?_
            refine lv_iconst (v := (0 : Int32)) hx hb dX2_stutter_48 (by decide) ?_
            refine lv_iconst (v := (1 : Int32)) hx hb dX2_stutter_49 (by decide) ?_
            refine qS_i (As := [.int j5, .int (0 : Int32), .int (1 : Int32)]) (rest := []) ⟨hx, hb, hml, hown, hts⟩ hK hN hA hP hD hS (c_X2_isIn l D cI j5 (0 : Int32) (1 : Int32) (f_X2_isIn j5 (0 : Int32) (1 : Int32)) rfl) (va_cwS 3 hts gX2_stutter_X2_isIn rfl rfl rfl hd_X2_isIn.2 ⟨Nat.le_of_ble_eq_true rfl, Nat.le_of_ble_eq_true rfl⟩) Bp_e rfl hl.1 rfl (Nat.le_of_ble_eq_true rfl) dX2_stutter_50 ⟨Nat.le_of_ble_eq_true rfl, Nat.le_of_ble_eq_true rfl⟩ (fun H locs hP hD hS => ?_)
            refine lv_if_ne (tgt := 61) hx hb dX2_stutter_53 (by decide) (fun c10 => ?_) (fun c10 => ?_)
            · have hf := hF hf c10
              refine lv_iconst (v := (0 : Int32)) hx hb dX2_stutter_61 (by decide) ?_
              refine lv_istore (lv' := [(6, .int (0 : Int32)), (0, .ref (A 0)), (1, .int j1), (2, .int j2), (3, .int j3), (4, .int j4), (5, .int j5)]) hx hb dX2_stutter_62 hl (by decide) rfl (fun ls hl => ?_)
              refine lv_iload hx hb dX2_stutter_64 (lv_at hl 0 rfl) ?_
              refine lv_if_eq (tgt := 76) hx hb dX2_stutter_66 (by decide) (fun c11 => ?_) (fun c11 => ?_)
              · refine lv_lconst (v := (0 : Int64)) hx hb dX2_stutter_76 (by decide) ?_
                refine lv_lstore (lv' := [(7, .long (0 : Int64)), (6, .int (0 : Int32)), (0, .ref (A 0)), (1, .int j1), (2, .int j2), (3, .int j3), (4, .int j4), (5, .int j5)]) hx hb dX2_stutter_77 hl (by decide) rfl (fun ls hl => ?_)
                refine lv_lconst (v := (1 : Int64)) hx hb dX2_stutter_79 (by decide) ?_
                refine lv_lstore (lv' := [(9, .long (1 : Int64)), (7, .long (0 : Int64)), (6, .int (0 : Int32)), (0, .ref (A 0)), (1, .int j1), (2, .int j2), (3, .int j3), (4, .int j4), (5, .int j5)]) hx hb dX2_stutter_80 hl (by decide) rfl (fun ls hl => ?_)
                refine lv_iconst (v := (0 : Int32)) hx hb dX2_stutter_82 (by decide) ?_
                refine lv_istore (lv' := [(11, .int (0 : Int32)), (9, .long (1 : Int64)), (7, .long (0 : Int64)), (6, .int (0 : Int32)), (0, .ref (A 0)), (1, .int j1), (2, .int j2), (3, .int j3), (4, .int j4), (5, .int j5)]) hx hb dX2_stutter_83 hl (by decide) rfl (fun ls hl => ?_)
                obtain ⟨K105, hK105, hf⟩ := jnS hf
                have J105 : ∀ (j7_105 : Int64) (j9_105 : Int64) (tt_105 : HS) (H : Heap) (locs : List Loc) (ls : Array Slot), K105 j7_105 j9_105 tt_105 = some out → va_P D vwCl (wM A cI tt_105) H → va_D G (wM A cI tt_105) → va_S G s.heap H locs → lv_has ls 15 [(0, .ref (A 0)), (1, .int j1), (2, .int j2), (3, .int j3), (4, .int j4), (5, .int j5), (7, .long j7_105), (9, .long j9_105)] → WW H locs (F0 m 105 ls []) := by
                  intro j7_105 j9_105 tt_105 H locs ls hf hP hD hS hl
                  subst hK105
                  refine (hWW _ _ _).mpr ?_
                  refine lv_iconst (v := (0 : Int32)) hx hb dX2_stutter_105 (by decide) ?_
                  refine lv_istore (lv' := [(11, .int (0 : Int32)), (0, .ref (A 0)), (1, .int j1), (2, .int j2), (3, .int j3), (4, .int j4), (5, .int j5), (7, .long j7_105), (9, .long j9_105)]) hx hb dX2_stutter_106 hl (by decide) rfl (fun ls hl => ?_)
                  obtain ⟨K206, hK206, hf⟩ := jnS hf
                  have J206 : ∀ (j7_206 : Int64) (j9_206 : Int64) (tt_206 : HS) (H : Heap) (locs : List Loc) (ls : Array Slot), K206 j7_206 j9_206 tt_206 = some out → va_P D vwCl (wM A cI tt_206) H → va_D G (wM A cI tt_206) → va_S G s.heap H locs → lv_has ls 15 [(5, .int j5), (7, .long j7_206), (9, .long j9_206)] → WW H locs (F0 m 206 ls []) := by
                    intro j7_206 j9_206 tt_206 H locs ls hf hP hD hS hl
                    subst hK206
                    refine (hWW _ _ _).mpr ?_
                    refine lv_lload hx hb dX2_stutter_206 (lv_at hl 1 rfl) ?_
                    refine lv_lload hx hb dX2_stutter_208 (lv_at hl 2 rfl) ?_
                    refine lv_iload hx hb dX2_stutter_210 (lv_at hl 0 rfl) ?_
                    obtain ⟨v12, hev12, hf⟩ := bS hf
                    refine qS_l (As := [.long j7_206, .long j9_206, .int j5]) (rest := []) ⟨hx, hb, hml, hown, hts⟩ hK hN hA hP hD hS (c_X2_partOf l D cI j7_206 j9_206 j5 v12 hev12) (va_cwS 3 hts gX2_stutter_X2_partOf rfl rfl rfl hd_X2_partOf.2 ⟨Nat.le_of_ble_eq_true rfl, Nat.le_of_ble_eq_true rfl⟩) Bp_e rfl hl.1 rfl (Nat.le_of_ble_eq_true rfl) dX2_stutter_212 ⟨Nat.le_of_ble_eq_true rfl, Nat.le_of_ble_eq_true rfl⟩ (fun H locs hP hD hS => ?_)
                    obtain rfl := Option.some.inj hf
                    exact W.lret (v := v12) hx hb hr (fun t ht hW => ⟨⟨v12, (), rfl, rfl, hPt ht hP⟩, hS.F ht⟩) hS.2.2 dX2_stutter_215
                  have P108 : ∀ (n' : Nat) (j7_108 : Int64) (j9_108 : Int64) (j11_108 : Int32) (tt_108 : HS) (H : Heap) (locs : List Loc) (ls : Array Slot), L_X2_stutter_108 j1 j2 j3 j4 j5 K206 n' j7_108 j9_108 j11_108 tt_108 = some out → va_P D vwCl (wM A cI tt_108) H → va_D G (wM A cI tt_108) → va_S G s.heap H locs → lv_has ls 15 [(0, .ref (A 0)), (1, .int j1), (2, .int j2), (3, .int j3), (4, .int j4), (5, .int j5), (7, .long j7_108), (9, .long j9_108), (11, .int j11_108)] → WW H locs (F0 m 108 ls []) := by
                    intro n'
                    induction n' with
                    | zero => intro j7_108 j9_108 j11_108 tt_108 H locs ls hf; exact absurd (show (none : Option (Int64 × HS)) = some out from hf) (fun q => by cases q)
                    | succ n' ih =>
                      intro j7_108 j9_108 j11_108 tt_108 H locs ls hf hP hD hS hl
                      rw [L_X2_stutter_108] at hf
                      refine (hWW _ _ _).mpr ?_
                      refine lv_iload hx hb dX2_stutter_108 (lv_at hl 8 rfl) ?_
                      refine lv_iconst (v := (1 : Int32)) hx hb dX2_stutter_110 (by decide) ?_
                      refine lv_iload_n hx hb dX2_stutter_111 rfl (lv_at hl 3 rfl) ?_
                      refine lv_ishl hx hb dX2_stutter_112 ?_
                      refine lv_icmp_ge (tgt := 206) hx hb dX2_stutter_113 (by decide) (fun c13 => ?_) (fun c13 => ?_)
                      · have hf := hT hf c13
                        exact (hWW _ _ _).mp (J206 _ _ _ _ _ _ hf hP hD hS (lv_sub hl [5, 6, 7] rfl))
                      · have hf := hF hf c13
                        refine lv_aload_n hx hb dX2_stutter_116 rfl (lv_at hl 0 rfl) ?_
                        obtain ⟨v14, hev14, hf⟩ := bS hf
                        refine qV_v (ws' := (wM A cI v14)) (As := []) (rest := []) ⟨hx, hb, hml, hown, hts⟩ hK hN hA hP hD hS (c_X2_thinks l D cI A tt_108 v14 hev14) (cwV 0 hts gX2_stutter_X2_thinks rfl rfl rfl hd_X2_thinks ⟨Nat.le_of_ble_eq_true rfl, Nat.le_of_ble_eq_true rfl⟩) (va_recv hK hP (ci := 2) (q0 := 0) rfl rfl) (bp_X2_X2_t_t A cI tt_108 v14) rfl hl.1 rfl (Nat.le_of_ble_eq_true rfl) dX2_stutter_117 ⟨Nat.le_of_ble_eq_true rfl, Nat.le_of_ble_eq_true rfl⟩ (fun H locs hP hD hS => ?_)
                        have hP : va_P D vwCl (wM A cI v14) H := hP
                        refine lv_lconst (v := (1 : Int64)) hx hb dX2_stutter_120 (by decide) ?_
                        refine lv_lstore (lv' := [(12, .long (1 : Int64)), (0, .ref (A 0)), (1, .int j1), (2, .int j2), (3, .int j3), (4, .int j4), (5, .int j5), (7, .long j7_108), (9, .long j9_108), (11, .int j11_108)]) hx hb dX2_stutter_121 hl (by decide) rfl (fun ls hl => ?_)
                        refine lv_iconst (v := (0 : Int32)) hx hb dX2_stutter_123 (by decide) ?_
                        refine lv_istore (lv' := [(14, .int (0 : Int32)), (12, .long (1 : Int64)), (0, .ref (A 0)), (1, .int j1), (2, .int j2), (3, .int j3), (4, .int j4), (5, .int j5), (7, .long j7_108), (9, .long j9_108), (11, .int j11_108)]) hx hb dX2_stutter_124 hl (by decide) rfl (fun ls hl => ?_)
                        obtain ⟨K173, hK173, hf⟩ := jnS hf
                        have J173 : ∀ (j7_173 : Int64) (j9_173 : Int64) (j11_173 : Int32) (j12_173 : Int64) (tt_173 : HS) (H : Heap) (locs : List Loc) (ls : Array Slot), K173 j7_173 j9_173 j11_173 j12_173 tt_173 = some out → va_P D vwCl (wM A cI tt_173) H → va_D G (wM A cI tt_173) → va_S G s.heap H locs → lv_has ls 15 [(0, .ref (A 0)), (1, .int j1), (2, .int j2), (3, .int j3), (4, .int j4), (5, .int j5), (7, .long j7_173), (9, .long j9_173), (11, .int j11_173), (12, .long j12_173)] → WW H locs (F0 m 173 ls []) := by
                          intro j7_173 j9_173 j11_173 j12_173 tt_173 H locs ls hf hP hD hS hl
                          subst hK173
                          refine (hWW _ _ _).mpr ?_
                          refine lv_lload hx hb dX2_stutter_173 (lv_at hl 6 rfl) ?_
                          refine lv_aload_n hx hb dX2_stutter_175 rfl (lv_at hl 0 rfl) ?_
                          refine va_get (D := D) (ci := 2) (v := .ref (A 6)) (C := RX2) (T := TX2) (N := 31) hx hb hts hinM hown hK hP 0 rfl rfl 5 (by decide) lk0 (fun _ h9 => h9) rfl dX2_stutter_176 ?_
                          refine lv_iload_n hx hb dX2_stutter_179 rfl (lv_at hl 2 rfl) ?_
                          obtain ⟨v15, he, hf⟩ := bS hf
                          refine x_iald hx hb hK hP 6 (n := 8) rfl he dX2_stutter_180 ?_
                          refine lv_iload_n hx hb dX2_stutter_181 rfl (lv_at hl 1 rfl) ?_
                          refine lv_iconst (v := (1 : Int32)) hx hb dX2_stutter_182 (by decide) ?_
                          refine lv_iadd hx hb dX2_stutter_183 ?_
                          refine lv_icmp_ne (tgt := 192) hx hb dX2_stutter_184 (by decide) (fun c16 => ?_) (fun c16 => ?_)
                          · have hf := hF hf c16
                            refine lv_lconst (v := (0 : Int64)) hx hb dX2_stutter_192 (by decide) ?_
                            refine lv_ladd hx hb dX2_stutter_193 ?_
                            refine lv_lstore (lv' := [(7, .long (j7_173 + (0 : Int64))), (0, .ref (A 0)), (1, .int j1), (2, .int j2), (3, .int j3), (4, .int j4), (5, .int j5), (9, .long j9_173), (11, .int j11_173), (12, .long j12_173)]) hx hb dX2_stutter_194 hl (by decide) rfl (fun ls hl => ?_)
                            refine lv_aload_n hx hb dX2_stutter_196 rfl (lv_at hl 1 rfl) ?_
                            obtain ⟨v17, hev17, hf⟩ := bS hf
                            refine qV_v (ws' := (wM A cI v17)) (As := []) (rest := []) ⟨hx, hb, hml, hown, hts⟩ hK hN hA hP hD hS (c_X2_forgets l D cI A tt_173 v17 hev17) (cwV 0 hts gX2_stutter_X2_forgets rfl rfl rfl hd_X2_forgets ⟨Nat.le_of_ble_eq_true rfl, Nat.le_of_ble_eq_true rfl⟩) (va_recv hK hP (ci := 2) (q0 := 0) rfl rfl) (bp_X2_X2_t_t A cI tt_173 v17) rfl hl.1 rfl (Nat.le_of_ble_eq_true rfl) dX2_stutter_197 ⟨Nat.le_of_ble_eq_true rfl, Nat.le_of_ble_eq_true rfl⟩ (fun H locs hP hD hS => ?_)
                            have hP : va_P D vwCl (wM A cI v17) H := hP
                            refine lv_iinc (v := (j11_173 + (1 : Int32))) (lv' := [(11, .int (j11_173 + (1 : Int32))), (7, .long (j7_173 + (0 : Int64))), (0, .ref (A 0)), (1, .int j1), (2, .int j2), (3, .int j3), (4, .int j4), (5, .int j5), (9, .long j9_173), (12, .long j12_173)]) hx hb dX2_stutter_200 hl (k := 8) rfl rfl (by decide) rfl (fun ls hl => ?_)
                            refine lv_goto (tgt := 108) hx hb dX2_stutter_203 (by decide) ?_
                            exact (hWW _ _ _).mp (ih _ _ _ _ _ _ _ hf hP hD hS (lv_sub hl [2, 3, 4, 5, 6, 7, 1, 8, 0] rfl))
                          · have hf := hT hf c16
                            refine lv_lload hx hb dX2_stutter_187 (lv_at hl 9 rfl) ?_
                            refine lv_goto (tgt := 193) hx hb dX2_stutter_189 (by decide) ?_
                            refine lv_ladd hx hb dX2_stutter_193 ?_
                            refine lv_lstore (lv' := [(7, .long (j7_173 + j12_173)), (0, .ref (A 0)), (1, .int j1), (2, .int j2), (3, .int j3), (4, .int j4), (5, .int j5), (9, .long j9_173), (11, .int j11_173), (12, .long j12_173)]) hx hb dX2_stutter_194 hl (by decide) rfl (fun ls hl => ?_)
                            refine lv_aload_n hx hb dX2_stutter_196 rfl (lv_at hl 1 rfl) ?_
                            obtain ⟨v18, hev18, hf⟩ := bS hf
                            refine qV_v (ws' := (wM A cI v18)) (As := []) (rest := []) ⟨hx, hb, hml, hown, hts⟩ hK hN hA hP hD hS (c_X2_forgets l D cI A tt_173 v18 hev18) (cwV 0 hts gX2_stutter_X2_forgets rfl rfl rfl hd_X2_forgets ⟨Nat.le_of_ble_eq_true rfl, Nat.le_of_ble_eq_true rfl⟩) (va_recv hK hP (ci := 2) (q0 := 0) rfl rfl) (bp_X2_X2_t_t A cI tt_173 v18) rfl hl.1 rfl (Nat.le_of_ble_eq_true rfl) dX2_stutter_197 ⟨Nat.le_of_ble_eq_true rfl, Nat.le_of_ble_eq_true rfl⟩ (fun H locs hP hD hS => ?_)
                            have hP : va_P D vwCl (wM A cI v18) H := hP
                            refine lv_iinc (v := (j11_173 + (1 : Int32))) (lv' := [(11, .int (j11_173 + (1 : Int32))), (7, .long (j7_173 + j12_173)), (0, .ref (A 0)), (1, .int j1), (2, .int j2), (3, .int j3), (4, .int j4), (5, .int j5), (9, .long j9_173), (12, .long j12_173)]) hx hb dX2_stutter_200 hl (k := 8) rfl rfl (by decide) rfl (fun ls hl => ?_)
                            refine lv_goto (tgt := 108) hx hb dX2_stutter_203 (by decide) ?_
                            exact (hWW _ _ _).mp (ih _ _ _ _ _ _ _ hf hP hD hS (lv_sub hl [2, 3, 4, 5, 6, 7, 1, 8, 0] rfl))
                        have P126 : ∀ (n' : Nat) (j7_126 : Int64) (j9_126 : Int64) (j11_126 : Int32) (j12_126 : Int64) (j14_126 : Int32) (tt_126 : HS) (H : Heap) (locs : List Loc) (ls : Array Slot), L_X2_stutter_126 j1 j2 j3 j4 j5 K173 n' j7_126 j9_126 j11_126 j12_126 j14_126 tt_126 = some out → va_P D vwCl (wM A cI tt_126) H → va_D G (wM A cI tt_126) → va_S G s.heap H locs → lv_has ls 15 [(0, .ref (A 0)), (1, .int j1), (2, .int j2), (3, .int j3), (4, .int j4), (5, .int j5), (7, .long j7_126), (9, .long j9_126), (11, .int j11_126), (12, .long j12_126), (14, .int j14_126)] → WW H locs (F0 m 126 ls []) := by
                          intro n'
                          induction n' with
                          | zero => intro j7_126 j9_126 j11_126 j12_126 j14_126 tt_126 H locs ls hf; exact absurd (show (none : Option (Int64 × HS)) = some out from hf) (fun q => by cases q)
                          | succ n' ih =>
                            intro j7_126 j9_126 j11_126 j12_126 j14_126 tt_126 H locs ls hf hP hD hS hl
                            rw [L_X2_stutter_126] at hf
                            refine (hWW _ _ _).mpr ?_
                            refine lv_iload hx hb dX2_stutter_126 (lv_at hl 10 rfl) ?_
                            refine lv_iload_n hx hb dX2_stutter_128 rfl (lv_at hl 3 rfl) ?_
                            refine lv_icmp_ge (tgt := 173) hx hb dX2_stutter_129 (by decide) (fun c19 => ?_) (fun c19 => ?_)
                            · have hf := hT hf c19
                              exact (hWW _ _ _).mp (J173 _ _ _ _ _ _ _ _ hf hP hD hS (lv_sub hl [0, 1, 2, 3, 4, 5, 6, 7, 8, 9] rfl))
                            · have hf := hF hf c19
                              refine lv_lload hx hb dX2_stutter_132 (lv_at hl 9 rfl) ?_
                              refine lv_iload hx hb dX2_stutter_134 (lv_at hl 8 rfl) ?_
                              refine lv_iload hx hb dX2_stutter_136 (lv_at hl 10 rfl) ?_
                              refine qS_i (As := [.int j11_126, .int j14_126]) (rest := [.long j12_126]) ⟨hx, hb, hml, hown, hts⟩ hK hN hA hP hD hS (c_X2_has l D cI j11_126 j14_126 (f_X2_has j11_126 j14_126) rfl) (va_cwS 2 hts gX2_stutter_X2_has rfl rfl rfl hd_X2_has.2 ⟨Nat.le_of_ble_eq_true rfl, Nat.le_of_ble_eq_true rfl⟩) Bp_e rfl hl.1 rfl (Nat.le_of_ble_eq_true rfl) dX2_stutter_138 ⟨Nat.le_of_ble_eq_true rfl, Nat.le_of_ble_eq_true rfl⟩ (fun H locs hP hD hS => ?_)
                              refine lv_if_eq (tgt := 148) hx hb dX2_stutter_141 (by decide) (fun c20 => ?_) (fun c20 => ?_)
                              · have hf := hT hf c20
                                refine lv_iload hx hb dX2_stutter_148 (lv_at hl 4 rfl) ?_
                                refine lv_iconst (v := (1 : Int32)) hx hb dX2_stutter_150 (by decide) ?_
                                refine lv_isub hx hb dX2_stutter_151 ?_
                                refine lv_i2l hx hb dX2_stutter_152 rfl ?_
                                refine lv_lmul hx hb dX2_stutter_153 ?_
                                refine lv_lstore (lv' := [(12, .long (j12_126 * ((j4 - (1 : Int32))).toInt64)), (0, .ref (A 0)), (1, .int j1), (2, .int j2), (3, .int j3), (4, .int j4), (5, .int j5), (7, .long j7_126), (9, .long j9_126), (11, .int j11_126), (14, .int j14_126)]) hx hb dX2_stutter_154 hl (by decide) rfl (fun ls hl => ?_)
                                refine lv_aload_n hx hb dX2_stutter_156 rfl (lv_at hl 1 rfl) ?_
                                refine lv_iload hx hb dX2_stutter_157 (lv_at hl 9 rfl) ?_
                                refine lv_iload hx hb dX2_stutter_159 (lv_at hl 10 rfl) ?_
                                refine qS_i (As := [.int j11_126, .int j14_126]) (rest := [.ref (A 0)]) ⟨hx, hb, hml, hown, hts⟩ hK hN hA hP hD hS (c_X2_has l D cI j11_126 j14_126 (f_X2_has j11_126 j14_126) rfl) (va_cwS 2 hts gX2_stutter_X2_has rfl rfl rfl hd_X2_has.2 ⟨Nat.le_of_ble_eq_true rfl, Nat.le_of_ble_eq_true rfl⟩) Bp_e rfl hl.1 rfl (Nat.le_of_ble_eq_true rfl) dX2_stutter_161 ⟨Nat.le_of_ble_eq_true rfl, Nat.le_of_ble_eq_true rfl⟩ (fun H locs hP hD hS => ?_)
                                obtain ⟨v21, hev21, hf⟩ := bS hf
                                refine qV_v (ws' := (wM A cI v21)) (As := [.int (f_X2_has j11_126 j14_126)]) (rest := []) ⟨hx, hb, hml, hown, hts⟩ hK hN hA hP hD hS (c_X2_goesMonth l D cI A (f_X2_has j11_126 j14_126) tt_126 v21 hev21) (cwV 1 hts gX2_stutter_X2_goesMonth rfl rfl rfl hd_X2_goesMonth ⟨Nat.le_of_ble_eq_true rfl, Nat.le_of_ble_eq_true rfl⟩) (va_recv hK hP (ci := 2) (q0 := 0) rfl rfl) (bp_X2_X2_t_t A cI tt_126 v21) rfl hl.1 rfl (Nat.le_of_ble_eq_true rfl) dX2_stutter_164 ⟨Nat.le_of_ble_eq_true rfl, Nat.le_of_ble_eq_true rfl⟩ (fun H locs hP hD hS => ?_)
                                have hP : va_P D vwCl (wM A cI v21) H := hP
                                refine lv_iinc (v := (j14_126 + (1 : Int32))) (lv' := [(14, .int (j14_126 + (1 : Int32))), (12, .long (j12_126 * ((j4 - (1 : Int32))).toInt64)), (0, .ref (A 0)), (1, .int j1), (2, .int j2), (3, .int j3), (4, .int j4), (5, .int j5), (7, .long j7_126), (9, .long j9_126), (11, .int j11_126)]) hx hb dX2_stutter_167 hl (k := 10) rfl rfl (by decide) rfl (fun ls hl => ?_)
                                refine lv_goto (tgt := 126) hx hb dX2_stutter_170 (by decide) ?_
                                exact (hWW _ _ _).mp (ih _ _ _ _ _ _ _ _ _ hf hP hD hS (lv_sub hl [2, 3, 4, 5, 6, 7, 8, 9, 10, 1, 0] rfl))
                              · have hf := hF hf c20
                                refine lv_lconst (v := (1 : Int64)) hx hb dX2_stutter_144 (by decide) ?_
                                refine lv_goto (tgt := 153) hx hb dX2_stutter_145 (by decide) ?_
                                refine lv_lmul hx hb dX2_stutter_153 ?_
                                refine lv_lstore (lv' := [(12, .long (j12_126 * (1 : Int64))), (0, .ref (A 0)), (1, .int j1), (2, .int j2), (3, .int j3), (4, .int j4), (5, .int j5), (7, .long j7_126), (9, .long j9_126), (11, .int j11_126), (14, .int j14_126)]) hx hb dX2_stutter_154 hl (by decide) rfl (fun ls hl => ?_)
                                refine lv_aload_n hx hb dX2_stutter_156 rfl (lv_at hl 1 rfl) ?_
                                refine lv_iload hx hb dX2_stutter_157 (lv_at hl 9 rfl) ?_
                                refine lv_iload hx hb dX2_stutter_159 (lv_at hl 10 rfl) ?_
                                refine qS_i (As := [.int j11_126, .int j14_126]) (rest := [.ref (A 0)]) ⟨hx, hb, hml, hown, hts⟩ hK hN hA hP hD hS (c_X2_has l D cI j11_126 j14_126 (f_X2_has j11_126 j14_126) rfl) (va_cwS 2 hts gX2_stutter_X2_has rfl rfl rfl hd_X2_has.2 ⟨Nat.le_of_ble_eq_true rfl, Nat.le_of_ble_eq_true rfl⟩) Bp_e rfl hl.1 rfl (Nat.le_of_ble_eq_true rfl) dX2_stutter_161 ⟨Nat.le_of_ble_eq_true rfl, Nat.le_of_ble_eq_true rfl⟩ (fun H locs hP hD hS => ?_)
                                obtain ⟨v22, hev22, hf⟩ := bS hf
                                refine qV_v (ws' := (wM A cI v22)) (As := [.int (f_X2_has j11_126 j14_126)]) (rest := []) ⟨hx, hb, hml, hown, hts⟩ hK hN hA hP hD hS (c_X2_goesMonth l D cI A (f_X2_has j11_126 j14_126) tt_126 v22 hev22) (cwV 1 hts gX2_stutter_X2_goesMonth rfl rfl rfl hd_X2_goesMonth ⟨Nat.le_of_ble_eq_true rfl, Nat.le_of_ble_eq_true rfl⟩) (va_recv hK hP (ci := 2) (q0 := 0) rfl rfl) (bp_X2_X2_t_t A cI tt_126 v22) rfl hl.1 rfl (Nat.le_of_ble_eq_true rfl) dX2_stutter_164 ⟨Nat.le_of_ble_eq_true rfl, Nat.le_of_ble_eq_true rfl⟩ (fun H locs hP hD hS => ?_)
                                have hP : va_P D vwCl (wM A cI v22) H := hP
                                refine lv_iinc (v := (j14_126 + (1 : Int32))) (lv' := [(14, .int (j14_126 + (1 : Int32))), (12, .long (j12_126 * (1 : Int64))), (0, .ref (A 0)), (1, .int j1), (2, .int j2), (3, .int j3), (4, .int j4), (5, .int j5), (7, .long j7_126), (9, .long j9_126), (11, .int j11_126)]) hx hb dX2_stutter_167 hl (k := 10) rfl rfl (by decide) rfl (fun ls hl => ?_)
                                refine lv_goto (tgt := 126) hx hb dX2_stutter_170 (by decide) ?_
                                exact (hWW _ _ _).mp (ih _ _ _ _ _ _ _ _ _ hf hP hD hS (lv_sub hl [2, 3, 4, 5, 6, 7, 8, 9, 10, 1, 0] rfl))
                        exact (hWW _ _ _).mp (P126 _ _ _ _ _ _ _ _ _ _ hf hP hD hS (lv_sub hl [2, 3, 4, 5, 6, 7, 8, 9, 10, 1, 0] rfl))
                  exact (hWW _ _ _).mp (P108 _ _ _ _ _ _ _ _ hf hP hD hS (lv_sub hl [1, 2, 3, 4, 5, 6, 7, 8, 0] rfl))
                have P85 : ∀ (n' : Nat) (j7_85 : Int64) (j9_85 : Int64) (j11_85 : Int32) (tt_85 : HS) (H : Heap) (locs : List Loc) (ls : Array Slot), L_X2_stutter_85 j1 j2 j3 j4 j5 K105 n' j7_85 j9_85 j11_85 tt_85 = some out → va_P D vwCl (wM A cI tt_85) H → va_D G (wM A cI tt_85) → va_S G s.heap H locs → lv_has ls 15 [(0, .ref (A 0)), (1, .int j1), (2, .int j2), (3, .int j3), (4, .int j4), (5, .int j5), (7, .long j7_85), (9, .long j9_85), (11, .int j11_85)] → WW H locs (F0 m 85 ls []) := by
                  intro n'
                  induction n' with
                  | zero => intro j7_85 j9_85 j11_85 tt_85 H locs ls hf; exact absurd (show (none : Option (Int64 × HS)) = some out from hf) (fun q => by cases q)
                  | succ n' ih =>
                    intro j7_85 j9_85 j11_85 tt_85 H locs ls hf hP hD hS hl
                    rw [L_X2_stutter_85] at hf
                    refine (hWW _ _ _).mpr ?_
                    refine lv_iload hx hb dX2_stutter_85 (lv_at hl 8 rfl) ?_
                    refine lv_iload_n hx hb dX2_stutter_87 rfl (lv_at hl 3 rfl) ?_
                    refine lv_icmp_ge (tgt := 105) hx hb dX2_stutter_88 (by decide) (fun c23 => ?_) (fun c23 => ?_)
                    · have hf := hT hf c23
                      exact (hWW _ _ _).mp (J105 _ _ _ _ _ _ hf hP hD hS (lv_sub hl [0, 1, 2, 3, 4, 5, 6, 7] rfl))
                    · have hf := hF hf c23
                      refine lv_lload hx hb dX2_stutter_91 (lv_at hl 7 rfl) ?_
                      refine lv_iload hx hb dX2_stutter_93 (lv_at hl 4 rfl) ?_
                      refine lv_i2l hx hb dX2_stutter_95 rfl ?_
                      refine lv_lmul hx hb dX2_stutter_96 ?_
                      refine lv_lstore (lv' := [(9, .long (j9_85 * (j4).toInt64)), (0, .ref (A 0)), (1, .int j1), (2, .int j2), (3, .int j3), (4, .int j4), (5, .int j5), (7, .long j7_85), (11, .int j11_85)]) hx hb dX2_stutter_97 hl (by decide) rfl (fun ls hl => ?_)
                      refine lv_iinc (v := (j11_85 + (1 : Int32))) (lv' := [(11, .int (j11_85 + (1 : Int32))), (9, .long (j9_85 * (j4).toInt64)), (0, .ref (A 0)), (1, .int j1), (2, .int j2), (3, .int j3), (4, .int j4), (5, .int j5), (7, .long j7_85)]) hx hb dX2_stutter_99 hl (k := 8) rfl rfl (by decide) rfl (fun ls hl => ?_)
                      refine lv_goto (tgt := 85) hx hb dX2_stutter_102 (by decide) ?_
                      exact (hWW _ _ _).mp (ih _ _ _ _ _ _ _ hf hP hD hS (lv_sub hl [2, 3, 4, 5, 6, 7, 8, 1, 0] rfl))
                exact (hWW _ _ _).mp (P85 _ _ _ _ _ _ _ _ hf hP hD hS (lv_sub hl [4, 5, 6, 7, 8, 9, 2, 1, 0] rfl))
              · exact absurd c11 (by decide)
            · have hf := hT hf c10
              refine lv_bipush (v := (-2 : Int32)) hx hb dX2_stutter_56 (by decide) ?_
              refine lv_goto (tgt := 62) hx hb dX2_stutter_58 (by decide) ?_
              refine lv_istore (lv' := [(6, .int (-2 : Int32)), (0, .ref (A 0)), (1, .int j1), (2, .int j2), (3, .int j3), (4, .int j4), (5, .int j5)]) hx hb dX2_stutter_62 hl (by decide) rfl (fun ls hl => ?_)
              refine lv_iload hx hb dX2_stutter_64 (lv_at hl 0 rfl) ?_
              refine lv_if_eq (tgt := 76) hx hb dX2_stutter_66 (by decide) (fun c24 => ?_) (fun c24 => ?_)
              · exact absurd c24 (by decide)
              · refine lv_aload_n hx hb dX2_stutter_69 rfl (lv_at hl 1 rfl) ?_
                refine lv_iload hx hb dX2_stutter_70 (lv_at hl 0 rfl) ?_
                obtain ⟨v25, hev25, hf⟩ := bS hf
                refine qV_l (ws' := (wM A cI v25.2)) (As := [.int (-2 : Int32)]) (rest := []) ⟨hx, hb, hml, hown, hts⟩ hK hN hA hP hD hS (c_X2_lowestOf l D cI A (-2 : Int32) tt v25 hev25) (cwV 1 hts gX2_stutter_X2_lowestOf rfl rfl rfl hd_X2_lowestOf ⟨Nat.le_of_ble_eq_true rfl, Nat.le_of_ble_eq_true rfl⟩) (va_recv hK hP (ci := 2) (q0 := 0) rfl rfl) (bp_X2_X2_t_t A cI tt v25.2) rfl hl.1 rfl (Nat.le_of_ble_eq_true rfl) dX2_stutter_72 ⟨Nat.le_of_ble_eq_true rfl, Nat.le_of_ble_eq_true rfl⟩ (fun H locs hP hD hS => ?_)
                have hP : va_P D vwCl (wM A cI v25.2) H := hP
                obtain rfl := Option.some.inj hf
                exact W.lret (v := v25.1) hx hb hr (fun t ht hW => ⟨⟨v25.1, (), rfl, rfl, hPt ht hP⟩, hS.F ht⟩) hS.2.2 dX2_stutter_75
          · have hf := hF hf c9
            exact (hWW _ _ _).mp (J41 _ _ _ _ hf hP hD hS (lv_sub hl [0, 1, 2, 3, 4, 5] rfl))
      · have hf := hF hf c5
        exact (hWW _ _ _).mp (J23 _ _ _ _ hf hP hD hS (lv_sub hl [0, 1, 2, 3, 4, 5] rfl))
  · have hf := hT hf c1
    refine lv_iconst (v := (-1 : Int32)) hx hb dX2_stutter_9 (by decide) ?_
    refine lv_goto (tgt := 62) hx hb dX2_stutter_10 (by decide) ?_
    refine lv_istore (lv' := [(6, .int (-1 : Int32)), (0, .ref (A 0)), (1, .int j1), (2, .int j2), (3, .int j3), (4, .int j4), (5, .int j5)]) hx hb dX2_stutter_62 hl (by decide) rfl (fun ls hl => ?_)
    refine lv_iload hx hb dX2_stutter_64 (lv_at hl 0 rfl) ?_
    refine lv_if_eq (tgt := 76) hx hb dX2_stutter_66 (by decide) (fun c26 => ?_) (fun c26 => ?_)
    · exact absurd c26 (by decide)
    · refine lv_aload_n hx hb dX2_stutter_69 rfl (lv_at hl 1 rfl) ?_
      refine lv_iload hx hb dX2_stutter_70 (lv_at hl 0 rfl) ?_
      obtain ⟨v27, hev27, hf⟩ := bS hf
      refine qV_l (ws' := (wM A cI v27.2)) (As := [.int (-1 : Int32)]) (rest := []) ⟨hx, hb, hml, hown, hts⟩ hK hN hA hP hD hS (c_X2_lowestOf l D cI A (-1 : Int32) tt v27 hev27) (cwV 1 hts gX2_stutter_X2_lowestOf rfl rfl rfl hd_X2_lowestOf ⟨Nat.le_of_ble_eq_true rfl, Nat.le_of_ble_eq_true rfl⟩) (va_recv hK hP (ci := 2) (q0 := 0) rfl rfl) (bp_X2_X2_t_t A cI tt v27.2) rfl hl.1 rfl (Nat.le_of_ble_eq_true rfl) dX2_stutter_72 ⟨Nat.le_of_ble_eq_true rfl, Nat.le_of_ble_eq_true rfl⟩ (fun H locs hP hD hS => ?_)
      have hP : va_P D vwCl (wM A cI v27.2) H := hP
      obtain rfl := Option.some.inj hf
      exact W.lret (v := v27.1) hx hb hr (fun t ht hW => ⟨⟨v27.1, (), rfl, rfl, hPt ht hP⟩, hS.F ht⟩) hS.2.2 dX2_stutter_75
set_option maxHeartbeats 4000000 in
set_option maxRecDepth 100000 in
theorem c_X2_mean (l : Launch) (D : va_G) (cI : ClassId) (A : Nat → Nat) (j1 : Int32) (tt : HS) (out : Int64 × HS) (hf : f_X2_mean j1 tt = some out) : uL l D cI yX2_mean wsX2_mean ({ frames := 2, cells := 0, slots := 0, locals := 53 } : Room) [.ref (A 0), .int j1] (wM A cI tt) (wM A cI out.2) out.1 := by
  intro sz
  refine Met.ofW (cc := cX2_mean) (maxL := 2) (ret := (some .long)) (by decide) rfl ?_
  intro p e s m args below meth c s₁ Bd hml hv
  obtain ⟨rfl, hsz, hP, hK, hD0, hN⟩ := hv
  have hx := Bd.exec
  have hb := Bd.bytes
  have hr := Bd.returns
  have hts := atoms_spec (ws := wsX2_mean) Bd.pre
  have hown : s.vm.findClass RX2 = some m.cls := findClass_of_methodNamed Bd.named
  have hlocks := Bd.notSynchronized
  subst hsz
  have hD := hD0.self (sz := s.heap.size)
  generalize hAe : va_A (wM A cI tt) s.heap.size = G at hD ⊢
  have hA : ∀ q : Nat, s.heap.size ≤ q → G q := fun q h => by rw [← hAe]; exact Or.inr h
  have hS : va_S G s.heap s.heap [] := va_S.rf
  have hP : va_P D vwCl (wM A cI tt) s.heap := hP
  have hl := lv_entry ([.ref (A 0), .int j1]) (n := 2) (Nat.le_of_ble_eq_true rfl)
  rw [lg_entry_eq]
  generalize (lg_sl ([.ref (A 0), .int j1]) ++ List.replicate (2 - (lg_sl ([.ref (A 0), .int j1])).length) Slot.unset).toArray = ls at hl ⊢
  have hl : lv_has ls 2 [(0, .ref (A 0)), (1, .int j1)] := hl
  have hinM : ∀ w ∈ wsX20, w ∈ wsX2_mean := by decide +kernel
  have lk0 := hts (.fieldLink RX2 73 "LiesBoughtBackModel" "bidders" "I") (by decide +kernel)
  have lk1 := hts (.fieldLink RX2 37 "LiesBoughtBackModel" "purse" "[I") (by decide +kernel)
  refine W_in ?_
  intro WW hWW
  refine (hWW _ _ _).mpr ?_
  unfold f_X2_mean at hf
  refine lv_iload_n hx hb dX2_mean_0 rfl (lv_at hl 1 rfl) ?_
  refine lv_iconst (v := (0 : Int32)) hx hb dX2_mean_1 (by decide) ?_
  refine lv_iconst (v := (1 : Int32)) hx hb dX2_mean_2 (by decide) ?_
  refine qS_i (As := [.int j1, .int (0 : Int32), .int (1 : Int32)]) (rest := []) ⟨hx, hb, hml, hown, hts⟩ hK hN hA hP hD hS (c_X2_isIn l D cI j1 (0 : Int32) (1 : Int32) (f_X2_isIn j1 (0 : Int32) (1 : Int32)) rfl) (va_cwS 3 hts gX2_mean_X2_isIn rfl rfl rfl hd_X2_isIn.2 ⟨Nat.le_of_ble_eq_true rfl, Nat.le_of_ble_eq_true rfl⟩) Bp_e rfl hl.1 rfl (Nat.le_of_ble_eq_true rfl) dX2_mean_3 ⟨Nat.le_of_ble_eq_true rfl, Nat.le_of_ble_eq_true rfl⟩ (fun H locs hP hD hS => ?_)
  refine lv_if_ne (tgt := 16) hx hb dX2_mean_6 (by decide) (fun c1 => ?_) (fun c1 => ?_)
  · have hf := hF hf c1
    refine lv_aload_n hx hb dX2_mean_16 rfl (lv_at hl 0 rfl) ?_
    refine va_get (D := D) (ci := 2) (v := .int (tt 21 0)) (C := RX2) (T := TX2) (N := 31) hx hb hts hinM hown hK hP 0 rfl rfl 12 (by decide) lk0 (fun _ h9 => h9) rfl dX2_mean_17 ?_
    refine lv_if_ne (tgt := 28) hx hb dX2_mean_20 (by decide) (fun c2 => ?_) (fun c2 => ?_)
    · have hf := hF hf c2
      refine lv_aload_n hx hb dX2_mean_28 rfl (lv_at hl 0 rfl) ?_
      refine lv_aload_n hx hb dX2_mean_29 rfl (lv_at hl 0 rfl) ?_
      refine va_get (D := D) (ci := 2) (v := .ref (A 10)) (C := RX2) (T := TX2) (N := 31) hx hb hts hinM hown hK hP 0 rfl rfl 9 (by decide) lk1 (fun _ h9 => h9) rfl dX2_mean_30 ?_
      refine lv_aload_n hx hb dX2_mean_33 rfl (lv_at hl 0 rfl) ?_
      refine va_get (D := D) (ci := 2) (v := .int (tt 21 0)) (C := RX2) (T := TX2) (N := 31) hx hb hts hinM hown hK hP 0 rfl rfl 12 (by decide) lk0 (fun _ h9 => h9) rfl dX2_mean_34 ?_
      obtain ⟨v3, hev3, hf⟩ := bS hf
      refine qV_i (As := [.ref (A 10), .int (tt 21 0)]) (rest := []) ⟨hx, hb, hml, hown, hts⟩ hK hN hA hP hD hS (c_X2_allOf_9 l D cI A (tt 21 0) tt v3 hev3) (cwV 2 hts gX2_mean_X2_allOf rfl rfl rfl hd_X2_allOf ⟨Nat.le_of_ble_eq_true rfl, Nat.le_of_ble_eq_true rfl⟩) (va_recv hK hP (ci := 2) (q0 := 0) rfl rfl) (bq_X2_X2_t A cI tt) rfl hl.1 rfl (Nat.le_of_ble_eq_true rfl) dX2_mean_37 ⟨Nat.le_of_ble_eq_true rfl, Nat.le_of_ble_eq_true rfl⟩ (fun H locs hP hD hS => ?_)
      refine lv_i2l hx hb dX2_mean_40 rfl ?_
      refine lv_aload_n hx hb dX2_mean_41 rfl (lv_at hl 0 rfl) ?_
      refine va_get (D := D) (ci := 2) (v := .int (tt 21 0)) (C := RX2) (T := TX2) (N := 31) hx hb hts hinM hown hK hP 0 rfl rfl 12 (by decide) lk0 (fun _ h9 => h9) rfl dX2_mean_42 ?_
      refine lv_i2l hx hb dX2_mean_45 rfl ?_
      refine lv_iload_n hx hb dX2_mean_46 rfl (lv_at hl 1 rfl) ?_
      obtain ⟨v4, hev4, hf⟩ := bS hf
      refine qS_l (As := [.long (v3).toInt64, .long ((tt 21 0)).toInt64, .int j1]) (rest := []) ⟨hx, hb, hml, hown, hts⟩ hK hN hA hP hD hS (c_X2_partOf l D cI (v3).toInt64 ((tt 21 0)).toInt64 j1 v4 hev4) (va_cwS 3 hts gX2_mean_X2_partOf rfl rfl rfl hd_X2_partOf.2 ⟨Nat.le_of_ble_eq_true rfl, Nat.le_of_ble_eq_true rfl⟩) Bp_e rfl hl.1 rfl (Nat.le_of_ble_eq_true rfl) dX2_mean_47 ⟨Nat.le_of_ble_eq_true rfl, Nat.le_of_ble_eq_true rfl⟩ (fun H locs hP hD hS => ?_)
      obtain rfl := Option.some.inj hf
      exact W.lret (v := v4) hx hb hr (fun t ht hW => ⟨⟨v4, (), rfl, rfl, hPt ht hP⟩, hS.F ht⟩) hS.2.2 dX2_mean_50
    · have hf := hT hf c2
      refine lv_iload_n hx hb dX2_mean_23 rfl (lv_at hl 1 rfl) ?_
      refine lv_i2l hx hb dX2_mean_24 rfl ?_
      refine lv_goto (tgt := 50) hx hb dX2_mean_25 (by decide) ?_
      obtain rfl := Option.some.inj hf
      exact W.lret (v := (j1).toInt64) hx hb hr (fun t ht hW => ⟨⟨(j1).toInt64, (), rfl, rfl, hPt ht hP⟩, hS.F ht⟩) hS.2.2 dX2_mean_50
  · have hf := hT hf c1
    refine lv_aload_n hx hb dX2_mean_9 rfl (lv_at hl 0 rfl) ?_
    refine lv_bipush (v := (-2 : Int32)) hx hb dX2_mean_10 (by decide) ?_
    obtain ⟨v5, hev5, hf⟩ := bS hf
    refine qV_l (ws' := (wM A cI v5.2)) (As := [.int (-2 : Int32)]) (rest := []) ⟨hx, hb, hml, hown, hts⟩ hK hN hA hP hD hS (c_X2_lowestOf l D cI A (-2 : Int32) tt v5 hev5) (cwV 1 hts gX2_mean_X2_lowestOf rfl rfl rfl hd_X2_lowestOf ⟨Nat.le_of_ble_eq_true rfl, Nat.le_of_ble_eq_true rfl⟩) (va_recv hK hP (ci := 2) (q0 := 0) rfl rfl) (bp_X2_X2_t_t A cI tt v5.2) rfl hl.1 rfl (Nat.le_of_ble_eq_true rfl) dX2_mean_12 ⟨Nat.le_of_ble_eq_true rfl, Nat.le_of_ble_eq_true rfl⟩ (fun H locs hP hD hS => ?_)
    have hP : va_P D vwCl (wM A cI v5.2) H := hP
    obtain rfl := Option.some.inj hf
    exact W.lret (v := v5.1) hx hb hr (fun t ht hW => ⟨⟨v5.1, (), rfl, rfl, hPt ht hP⟩, hS.F ht⟩) hS.2.2 dX2_mean_15
set_option maxHeartbeats 4000000 in
set_option maxRecDepth 100000 in
theorem c_X2_isSo (l : Launch) (D : va_G) (cI : ClassId) (A : Nat → Nat) (tt : HS) (out : Int32 × HS) (hf : f_X2_isSo tt = some out) : uI l D cI yX2_isSo wsX2_isSo ({ frames := 8, cells := 0, slots := 0, locals := 182 } : Room) [.ref (A 0)] (wM A cI tt) (wM A cI out.2) out.1 := by
  intro sz
  refine Met.ofW (cc := cX2_isSo) (maxL := 3) (ret := (some .boolean)) (by decide) rfl ?_
  intro p e s m args below meth c s₁ Bd hml hv
  obtain ⟨rfl, hsz, hP, hK, hD0, hN⟩ := hv
  have hx := Bd.exec
  have hb := Bd.bytes
  have hr := Bd.returns
  have hts := atoms_spec (ws := wsX2_isSo) Bd.pre
  have hown : s.vm.findClass RX2 = some m.cls := findClass_of_methodNamed Bd.named
  have hlocks := Bd.notSynchronized
  subst hsz
  have hD := hD0.self (sz := s.heap.size)
  generalize hAe : va_A (wM A cI tt) s.heap.size = G at hD ⊢
  have hA : ∀ q : Nat, s.heap.size ≤ q → G q := fun q h => by rw [← hAe]; exact Or.inr h
  have hS : va_S G s.heap s.heap [] := va_S.rf
  have hP : va_P D vwCl (wM A cI tt) s.heap := hP
  have hl := lv_entry ([.ref (A 0)]) (n := 3) (Nat.le_of_ble_eq_true rfl)
  rw [lg_entry_eq]
  generalize (lg_sl ([.ref (A 0)]) ++ List.replicate (3 - (lg_sl ([.ref (A 0)])).length) Slot.unset).toArray = ls at hl ⊢
  have hl : lv_has ls 3 [(0, .ref (A 0))] := hl
  have hinM : ∀ w ∈ wsX20, w ∈ wsX2_isSo := by decide +kernel
  have lk0 := hts (.fieldLink RX2 299 "LiesBoughtBackModel" "rowMany" "I") (by decide +kernel)
  have lk1 := hts (.fieldLink RX2 67 "LiesBoughtBackModel" "cards" "I") (by decide +kernel)
  have lk2 := hts (.fieldLink RX2 64 "LiesBoughtBackModel" "row" "[I") (by decide +kernel)
  have lk3 := hts (.fieldLink RX2 25 "LiesBoughtBackModel" "holder" "[I") (by decide +kernel)
  refine W_in ?_
  intro WW hWW
  refine (hWW _ _ _).mpr ?_
  unfold f_X2_isSo at hf
  refine lv_aload_n hx hb dX2_isSo_0 rfl (lv_at hl 0 rfl) ?_
  obtain ⟨v1, hev1, hf⟩ := bS hf
  refine qV_v (ws' := (wM A cI v1)) (As := []) (rest := []) ⟨hx, hb, hml, hown, hts⟩ hK hN hA hP hD hS (c_X2_thinks l D cI A tt v1 hev1) (cwV 0 hts gX2_isSo_X2_thinks rfl rfl rfl hd_X2_thinks ⟨Nat.le_of_ble_eq_true rfl, Nat.le_of_ble_eq_true rfl⟩) (va_recv hK hP (ci := 2) (q0 := 0) rfl rfl) (bp_X2_X2_t_t A cI tt v1) rfl hl.1 rfl (Nat.le_of_ble_eq_true rfl) dX2_isSo_1 ⟨Nat.le_of_ble_eq_true rfl, Nat.le_of_ble_eq_true rfl⟩ (fun H locs hP hD hS => ?_)
  have hP : va_P D vwCl (wM A cI v1) H := hP
  refine lv_aload_n hx hb dX2_isSo_4 rfl (lv_at hl 0 rfl) ?_
  refine lv_iconst (v := (0 : Int32)) hx hb dX2_isSo_5 (by decide) ?_
  obtain ⟨v2, hev2, hf⟩ := bS hf
  refine qV_v (ws' := (wM A cI v2)) (As := [.int (0 : Int32)]) (rest := []) ⟨hx, hb, hml, hown, hts⟩ hK hN hA hP hD hS (c_X2_goesMonth l D cI A (0 : Int32) v1 v2 hev2) (cwV 1 hts gX2_isSo_X2_goesMonth rfl rfl rfl hd_X2_goesMonth ⟨Nat.le_of_ble_eq_true rfl, Nat.le_of_ble_eq_true rfl⟩) (va_recv hK hP (ci := 2) (q0 := 0) rfl rfl) (bp_X2_X2_t_t A cI v1 v2) rfl hl.1 rfl (Nat.le_of_ble_eq_true rfl) dX2_isSo_6 ⟨Nat.le_of_ble_eq_true rfl, Nat.le_of_ble_eq_true rfl⟩ (fun H locs hP hD hS => ?_)
  have hP : va_P D vwCl (wM A cI v2) H := hP
  refine lv_aload_n hx hb dX2_isSo_9 rfl (lv_at hl 0 rfl) ?_
  refine va_get (D := D) (ci := 2) (v := .int (v2 30 0)) (C := RX2) (T := TX2) (N := 31) hx hb hts hinM hown hK hP 0 rfl rfl 29 (by decide) lk0 (fun _ h9 => h9) rfl dX2_isSo_10 ?_
  refine lv_aload_n hx hb dX2_isSo_13 rfl (lv_at hl 0 rfl) ?_
  refine va_get (D := D) (ci := 2) (v := .int (v2 20 0)) (C := RX2) (T := TX2) (N := 31) hx hb hts hinM hown hK hP 0 rfl rfl 11 (by decide) lk1 (fun _ h9 => h9) rfl dX2_isSo_14 ?_
  refine lv_icmp_gt (tgt := 24) hx hb dX2_isSo_17 (by decide) (fun c3 => ?_) (fun c3 => ?_)
  · have hf := hT hf c3
    refine lv_iconst (v := (0 : Int32)) hx hb dX2_isSo_24 (by decide) ?_
    refine lv_istore_n (lv' := [(1, .int (0 : Int32)), (0, .ref (A 0))]) hx hb dX2_isSo_25 rfl hl (by decide) rfl (fun ls hl => ?_)
    refine lv_iconst (v := (0 : Int32)) hx hb dX2_isSo_26 (by decide) ?_
    refine lv_istore_n (lv' := [(2, .int (0 : Int32)), (1, .int (0 : Int32)), (0, .ref (A 0))]) hx hb dX2_isSo_27 rfl hl (by decide) rfl (fun ls hl => ?_)
    obtain ⟨K83, hK83, hf⟩ := jnS hf
    have J83 : ∀ (j1_83 : Int32) (tt_83 : HS) (H : Heap) (locs : List Loc) (ls : Array Slot), K83 j1_83 tt_83 = some out → va_P D vwCl (wM A cI tt_83) H → va_D G (wM A cI tt_83) → va_S G s.heap H locs → lv_has ls 3 [(0, .ref (A 0)), (1, .int j1_83)] → WW H locs (F0 m 83 ls []) := by
      intro j1_83 tt_83 H locs ls hf hP hD hS hl
      subst hK83
      refine (hWW _ _ _).mpr ?_
      refine lv_aload_n hx hb dX2_isSo_83 rfl (lv_at hl 0 rfl) ?_
      obtain ⟨v4, hev4, hf⟩ := bS hf
      refine qV_v (ws' := (wM A cI v4)) (As := []) (rest := []) ⟨hx, hb, hml, hown, hts⟩ hK hN hA hP hD hS (c_X2_forgets l D cI A tt_83 v4 hev4) (cwV 0 hts gX2_isSo_X2_forgets rfl rfl rfl hd_X2_forgets ⟨Nat.le_of_ble_eq_true rfl, Nat.le_of_ble_eq_true rfl⟩) (va_recv hK hP (ci := 2) (q0 := 0) rfl rfl) (bp_X2_X2_t_t A cI tt_83 v4) rfl hl.1 rfl (Nat.le_of_ble_eq_true rfl) dX2_isSo_84 ⟨Nat.le_of_ble_eq_true rfl, Nat.le_of_ble_eq_true rfl⟩ (fun H locs hP hD hS => ?_)
      have hP : va_P D vwCl (wM A cI v4) H := hP
      refine lv_iload_n hx hb dX2_isSo_87 rfl (lv_at hl 1 rfl) ?_
      obtain ⟨hnb, hf⟩ := nbS hf
      obtain rfl := Option.some.inj hf
      exact W.zret (ty := .boolean) (v := j1_83) hx hb hr hnb (fun t ht hW => ⟨⟨j1_83, (), rfl, rfl, hPt ht hP⟩, hS.F ht⟩) hS.2.2 dX2_isSo_88
    have P28 : ∀ (n' : Nat) (j1_28 : Int32) (j2_28 : Int32) (tt_28 : HS) (H : Heap) (locs : List Loc) (ls : Array Slot), L_X2_isSo_28  K83 n' j1_28 j2_28 tt_28 = some out → va_P D vwCl (wM A cI tt_28) H → va_D G (wM A cI tt_28) → va_S G s.heap H locs → lv_has ls 3 [(0, .ref (A 0)), (1, .int j1_28), (2, .int j2_28)] → WW H locs (F0 m 28 ls []) := by
      intro n'
      induction n' with
      | zero => intro j1_28 j2_28 tt_28 H locs ls hf; exact absurd (show (none : Option (Int32 × HS)) = some out from hf) (fun q => by cases q)
      | succ n' ih =>
        intro j1_28 j2_28 tt_28 H locs ls hf hP hD hS hl
        rw [L_X2_isSo_28] at hf
        refine (hWW _ _ _).mpr ?_
        refine lv_iload_n hx hb dX2_isSo_28 rfl (lv_at hl 2 rfl) ?_
        refine lv_aload_n hx hb dX2_isSo_29 rfl (lv_at hl 0 rfl) ?_
        refine va_get (D := D) (ci := 2) (v := .int (tt_28 30 0)) (C := RX2) (T := TX2) (N := 31) hx hb hts hinM hown hK hP 0 rfl rfl 29 (by decide) lk0 (fun _ h9 => h9) rfl dX2_isSo_30 ?_
        refine lv_icmp_ge (tgt := 83) hx hb dX2_isSo_33 (by decide) (fun c5 => ?_) (fun c5 => ?_)
        · have hf := hT hf c5
          exact (hWW _ _ _).mp (J83 _ _ _ _ _ hf hP hD hS (lv_sub hl [0, 1] rfl))
        · have hf := hF hf c5
          refine lv_iload_n hx hb dX2_isSo_36 rfl (lv_at hl 1 rfl) ?_
          refine lv_if_eq (tgt := 83) hx hb dX2_isSo_37 (by decide) (fun c6 => ?_) (fun c6 => ?_)
          · have hf := hT hf c6
            exact (hWW _ _ _).mp (J83 _ _ _ _ _ hf hP hD hS (lv_sub hl [0, 1] rfl))
          · have hf := hF hf c6
            refine lv_aload_n hx hb dX2_isSo_40 rfl (lv_at hl 0 rfl) ?_
            refine va_get (D := D) (ci := 2) (v := .ref (A 19)) (C := RX2) (T := TX2) (N := 31) hx hb hts hinM hown hK hP 0 rfl rfl 28 (by decide) lk2 (fun _ h9 => h9) rfl dX2_isSo_41 ?_
            refine lv_iload_n hx hb dX2_isSo_44 rfl (lv_at hl 2 rfl) ?_
            obtain ⟨v7, he, hf⟩ := bS hf
            refine x_iald hx hb hK hP 19 (n := 16) rfl he dX2_isSo_45 ?_
            refine lv_aload_n hx hb dX2_isSo_46 rfl (lv_at hl 0 rfl) ?_
            refine va_get (D := D) (ci := 2) (v := .ref (A 6)) (C := RX2) (T := TX2) (N := 31) hx hb hts hinM hown hK hP 0 rfl rfl 5 (by decide) lk3 (fun _ h9 => h9) rfl dX2_isSo_47 ?_
            refine lv_iload_n hx hb dX2_isSo_50 rfl (lv_at hl 2 rfl) ?_
            obtain ⟨v8, he, hf⟩ := bS hf
            refine x_iald hx hb hK hP 6 (n := 8) rfl he dX2_isSo_51 ?_
            refine lv_if_ne (tgt := 60) hx hb dX2_isSo_52 (by decide) (fun c9 => ?_) (fun c9 => ?_)
            · have hf := hF hf c9
              refine lv_aload_n hx hb dX2_isSo_60 rfl (lv_at hl 0 rfl) ?_
              refine va_get (D := D) (ci := 2) (v := .ref (A 6)) (C := RX2) (T := TX2) (N := 31) hx hb hts hinM hown hK hP 0 rfl rfl 5 (by decide) lk3 (fun _ h9 => h9) rfl dX2_isSo_61 ?_
              refine lv_iload_n hx hb dX2_isSo_64 rfl (lv_at hl 2 rfl) ?_
              obtain ⟨v10, he, hf⟩ := bS hf
              refine x_iald hx hb hK hP 6 (n := 8) rfl he dX2_isSo_65 ?_
              refine lv_iconst (v := (1 : Int32)) hx hb dX2_isSo_66 (by decide) ?_
              refine lv_isub hx hb dX2_isSo_67 ?_
              refine lv_icmp_ne (tgt := 75) hx hb dX2_isSo_68 (by decide) (fun c11 => ?_) (fun c11 => ?_)
              · have hf := hF hf c11
                refine lv_iconst (v := (0 : Int32)) hx hb dX2_isSo_75 (by decide) ?_
                refine lv_istore_n (lv' := [(1, .int (0 : Int32)), (0, .ref (A 0)), (2, .int j2_28)]) hx hb dX2_isSo_76 rfl hl (by decide) rfl (fun ls hl => ?_)
                refine lv_iinc (v := (j2_28 + (1 : Int32))) (lv' := [(2, .int (j2_28 + (1 : Int32))), (1, .int (0 : Int32)), (0, .ref (A 0))]) hx hb dX2_isSo_77 hl (k := 2) rfl rfl (by decide) rfl (fun ls hl => ?_)
                refine lv_goto (tgt := 28) hx hb dX2_isSo_80 (by decide) ?_
                exact (hWW _ _ _).mp (ih _ _ _ _ _ _ hf hP hD hS (lv_sub hl [2, 1, 0] rfl))
              · have hf := hT hf c11
                refine lv_iconst (v := (1 : Int32)) hx hb dX2_isSo_71 (by decide) ?_
                refine lv_goto (tgt := 76) hx hb dX2_isSo_72 (by decide) ?_
                refine lv_istore_n (lv' := [(1, .int (1 : Int32)), (0, .ref (A 0)), (2, .int j2_28)]) hx hb dX2_isSo_76 rfl hl (by decide) rfl (fun ls hl => ?_)
                refine lv_iinc (v := (j2_28 + (1 : Int32))) (lv' := [(2, .int (j2_28 + (1 : Int32))), (1, .int (1 : Int32)), (0, .ref (A 0))]) hx hb dX2_isSo_77 hl (k := 2) rfl rfl (by decide) rfl (fun ls hl => ?_)
                refine lv_goto (tgt := 28) hx hb dX2_isSo_80 (by decide) ?_
                exact (hWW _ _ _).mp (ih _ _ _ _ _ _ hf hP hD hS (lv_sub hl [2, 1, 0] rfl))
            · have hf := hT hf c9
              refine lv_bipush (v := (9 : Int32)) hx hb dX2_isSo_55 (by decide) ?_
              refine lv_goto (tgt := 68) hx hb dX2_isSo_57 (by decide) ?_
              refine lv_icmp_ne (tgt := 75) hx hb dX2_isSo_68 (by decide) (fun c12 => ?_) (fun c12 => ?_)
              · have hf := hF hf c12
                refine lv_iconst (v := (0 : Int32)) hx hb dX2_isSo_75 (by decide) ?_
                refine lv_istore_n (lv' := [(1, .int (0 : Int32)), (0, .ref (A 0)), (2, .int j2_28)]) hx hb dX2_isSo_76 rfl hl (by decide) rfl (fun ls hl => ?_)
                refine lv_iinc (v := (j2_28 + (1 : Int32))) (lv' := [(2, .int (j2_28 + (1 : Int32))), (1, .int (0 : Int32)), (0, .ref (A 0))]) hx hb dX2_isSo_77 hl (k := 2) rfl rfl (by decide) rfl (fun ls hl => ?_)
                refine lv_goto (tgt := 28) hx hb dX2_isSo_80 (by decide) ?_
                exact (hWW _ _ _).mp (ih _ _ _ _ _ _ hf hP hD hS (lv_sub hl [2, 1, 0] rfl))
              · have hf := hT hf c12
                refine lv_iconst (v := (1 : Int32)) hx hb dX2_isSo_71 (by decide) ?_
                refine lv_goto (tgt := 76) hx hb dX2_isSo_72 (by decide) ?_
                refine lv_istore_n (lv' := [(1, .int (1 : Int32)), (0, .ref (A 0)), (2, .int j2_28)]) hx hb dX2_isSo_76 rfl hl (by decide) rfl (fun ls hl => ?_)
                refine lv_iinc (v := (j2_28 + (1 : Int32))) (lv' := [(2, .int (j2_28 + (1 : Int32))), (1, .int (1 : Int32)), (0, .ref (A 0))]) hx hb dX2_isSo_77 hl (k := 2) rfl rfl (by decide) rfl (fun ls hl => ?_)
                refine lv_goto (tgt := 28) hx hb dX2_isSo_80 (by decide) ?_
                exact (hWW _ _ _).mp (ih _ _ _ _ _ _ hf hP hD hS (lv_sub hl [2, 1, 0] rfl))
    exact (hWW _ _ _).mp (P28 _ _ _ _ _ _ _ hf hP hD hS (lv_sub hl [2, 1, 0] rfl))
  · have hf := hF hf c3
    refine lv_iconst (v := (1 : Int32)) hx hb dX2_isSo_20 (by decide) ?_
    refine lv_goto (tgt := 25) hx hb dX2_isSo_21 (by decide) ?_
    refine lv_istore_n (lv' := [(1, .int (1 : Int32)), (0, .ref (A 0))]) hx hb dX2_isSo_25 rfl hl (by decide) rfl (fun ls hl => ?_)
    refine lv_iconst (v := (0 : Int32)) hx hb dX2_isSo_26 (by decide) ?_
    refine lv_istore_n (lv' := [(2, .int (0 : Int32)), (1, .int (1 : Int32)), (0, .ref (A 0))]) hx hb dX2_isSo_27 rfl hl (by decide) rfl (fun ls hl => ?_)
    obtain ⟨K83, hK83, hf⟩ := jnS hf
    have J83 : ∀ (j1_83 : Int32) (tt_83 : HS) (H : Heap) (locs : List Loc) (ls : Array Slot), K83 j1_83 tt_83 = some out → va_P D vwCl (wM A cI tt_83) H → va_D G (wM A cI tt_83) → va_S G s.heap H locs → lv_has ls 3 [(0, .ref (A 0)), (1, .int j1_83)] → WW H locs (F0 m 83 ls []) := by
      intro j1_83 tt_83 H locs ls hf hP hD hS hl
      subst hK83
      refine (hWW _ _ _).mpr ?_
      refine lv_aload_n hx hb dX2_isSo_83 rfl (lv_at hl 0 rfl) ?_
      obtain ⟨v13, hev13, hf⟩ := bS hf
      refine qV_v (ws' := (wM A cI v13)) (As := []) (rest := []) ⟨hx, hb, hml, hown, hts⟩ hK hN hA hP hD hS (c_X2_forgets l D cI A tt_83 v13 hev13) (cwV 0 hts gX2_isSo_X2_forgets rfl rfl rfl hd_X2_forgets ⟨Nat.le_of_ble_eq_true rfl, Nat.le_of_ble_eq_true rfl⟩) (va_recv hK hP (ci := 2) (q0 := 0) rfl rfl) (bp_X2_X2_t_t A cI tt_83 v13) rfl hl.1 rfl (Nat.le_of_ble_eq_true rfl) dX2_isSo_84 ⟨Nat.le_of_ble_eq_true rfl, Nat.le_of_ble_eq_true rfl⟩ (fun H locs hP hD hS => ?_)
      have hP : va_P D vwCl (wM A cI v13) H := hP
      refine lv_iload_n hx hb dX2_isSo_87 rfl (lv_at hl 1 rfl) ?_
      obtain ⟨hnb, hf⟩ := nbS hf
      obtain rfl := Option.some.inj hf
      exact W.zret (ty := .boolean) (v := j1_83) hx hb hr hnb (fun t ht hW => ⟨⟨j1_83, (), rfl, rfl, hPt ht hP⟩, hS.F ht⟩) hS.2.2 dX2_isSo_88
    have P28 : ∀ (n' : Nat) (j1_28 : Int32) (j2_28 : Int32) (tt_28 : HS) (H : Heap) (locs : List Loc) (ls : Array Slot), L_X2_isSo_28  K83 n' j1_28 j2_28 tt_28 = some out → va_P D vwCl (wM A cI tt_28) H → va_D G (wM A cI tt_28) → va_S G s.heap H locs → lv_has ls 3 [(0, .ref (A 0)), (1, .int j1_28), (2, .int j2_28)] → WW H locs (F0 m 28 ls []) := by
      intro n'
      induction n' with
      | zero => intro j1_28 j2_28 tt_28 H locs ls hf; exact absurd (show (none : Option (Int32 × HS)) = some out from hf) (fun q => by cases q)
      | succ n' ih =>
        intro j1_28 j2_28 tt_28 H locs ls hf hP hD hS hl
        rw [L_X2_isSo_28] at hf
        refine (hWW _ _ _).mpr ?_
        refine lv_iload_n hx hb dX2_isSo_28 rfl (lv_at hl 2 rfl) ?_
        refine lv_aload_n hx hb dX2_isSo_29 rfl (lv_at hl 0 rfl) ?_
        refine va_get (D := D) (ci := 2) (v := .int (tt_28 30 0)) (C := RX2) (T := TX2) (N := 31) hx hb hts hinM hown hK hP 0 rfl rfl 29 (by decide) lk0 (fun _ h9 => h9) rfl dX2_isSo_30 ?_
        refine lv_icmp_ge (tgt := 83) hx hb dX2_isSo_33 (by decide) (fun c14 => ?_) (fun c14 => ?_)
        · have hf := hT hf c14
          exact (hWW _ _ _).mp (J83 _ _ _ _ _ hf hP hD hS (lv_sub hl [0, 1] rfl))
        · have hf := hF hf c14
          refine lv_iload_n hx hb dX2_isSo_36 rfl (lv_at hl 1 rfl) ?_
          refine lv_if_eq (tgt := 83) hx hb dX2_isSo_37 (by decide) (fun c15 => ?_) (fun c15 => ?_)
          · have hf := hT hf c15
            exact (hWW _ _ _).mp (J83 _ _ _ _ _ hf hP hD hS (lv_sub hl [0, 1] rfl))
          · have hf := hF hf c15
            refine lv_aload_n hx hb dX2_isSo_40 rfl (lv_at hl 0 rfl) ?_
            refine va_get (D := D) (ci := 2) (v := .ref (A 19)) (C := RX2) (T := TX2) (N := 31) hx hb hts hinM hown hK hP 0 rfl rfl 28 (by decide) lk2 (fun _ h9 => h9) rfl dX2_isSo_41 ?_
            refine lv_iload_n hx hb dX2_isSo_44 rfl (lv_at hl 2 rfl) ?_
            obtain ⟨v16, he, hf⟩ := bS hf
            refine x_iald hx hb hK hP 19 (n := 16) rfl he dX2_isSo_45 ?_
            refine lv_aload_n hx hb dX2_isSo_46 rfl (lv_at hl 0 rfl) ?_
            refine va_get (D := D) (ci := 2) (v := .ref (A 6)) (C := RX2) (T := TX2) (N := 31) hx hb hts hinM hown hK hP 0 rfl rfl 5 (by decide) lk3 (fun _ h9 => h9) rfl dX2_isSo_47 ?_
            refine lv_iload_n hx hb dX2_isSo_50 rfl (lv_at hl 2 rfl) ?_
            obtain ⟨v17, he, hf⟩ := bS hf
            refine x_iald hx hb hK hP 6 (n := 8) rfl he dX2_isSo_51 ?_
            refine lv_if_ne (tgt := 60) hx hb dX2_isSo_52 (by decide) (fun c18 => ?_) (fun c18 => ?_)
            · have hf := hF hf c18
              refine lv_aload_n hx hb dX2_isSo_60 rfl (lv_at hl 0 rfl) ?_
              refine va_get (D := D) (ci := 2) (v := .ref (A 6)) (C := RX2) (T := TX2) (N := 31) hx hb hts hinM hown hK hP 0 rfl rfl 5 (by decide) lk3 (fun _ h9 => h9) rfl dX2_isSo_61 ?_
              refine lv_iload_n hx hb dX2_isSo_64 rfl (lv_at hl 2 rfl) ?_
              obtain ⟨v19, he, hf⟩ := bS hf
              refine x_iald hx hb hK hP 6 (n := 8) rfl he dX2_isSo_65 ?_
              refine lv_iconst (v := (1 : Int32)) hx hb dX2_isSo_66 (by decide) ?_
              refine lv_isub hx hb dX2_isSo_67 ?_
              refine lv_icmp_ne (tgt := 75) hx hb dX2_isSo_68 (by decide) (fun c20 => ?_) (fun c20 => ?_)
              · have hf := hF hf c20
                refine lv_iconst (v := (0 : Int32)) hx hb dX2_isSo_75 (by decide) ?_
                refine lv_istore_n (lv' := [(1, .int (0 : Int32)), (0, .ref (A 0)), (2, .int j2_28)]) hx hb dX2_isSo_76 rfl hl (by decide) rfl (fun ls hl => ?_)
                refine lv_iinc (v := (j2_28 + (1 : Int32))) (lv' := [(2, .int (j2_28 + (1 : Int32))), (1, .int (0 : Int32)), (0, .ref (A 0))]) hx hb dX2_isSo_77 hl (k := 2) rfl rfl (by decide) rfl (fun ls hl => ?_)
                refine lv_goto (tgt := 28) hx hb dX2_isSo_80 (by decide) ?_
                exact (hWW _ _ _).mp (ih _ _ _ _ _ _ hf hP hD hS (lv_sub hl [2, 1, 0] rfl))
              · have hf := hT hf c20
                refine lv_iconst (v := (1 : Int32)) hx hb dX2_isSo_71 (by decide) ?_
                refine lv_goto (tgt := 76) hx hb dX2_isSo_72 (by decide) ?_
                refine lv_istore_n (lv' := [(1, .int (1 : Int32)), (0, .ref (A 0)), (2, .int j2_28)]) hx hb dX2_isSo_76 rfl hl (by decide) rfl (fun ls hl => ?_)
                refine lv_iinc (v := (j2_28 + (1 : Int32))) (lv' := [(2, .int (j2_28 + (1 : Int32))), (1, .int (1 : Int32)), (0, .ref (A 0))]) hx hb dX2_isSo_77 hl (k := 2) rfl rfl (by decide) rfl (fun ls hl => ?_)
                refine lv_goto (tgt := 28) hx hb dX2_isSo_80 (by decide) ?_
                exact (hWW _ _ _).mp (ih _ _ _ _ _ _ hf hP hD hS (lv_sub hl [2, 1, 0] rfl))
            · have hf := hT hf c18
              refine lv_bipush (v := (9 : Int32)) hx hb dX2_isSo_55 (by decide) ?_
              refine lv_goto (tgt := 68) hx hb dX2_isSo_57 (by decide) ?_
              refine lv_icmp_ne (tgt := 75) hx hb dX2_isSo_68 (by decide) (fun c21 => ?_) (fun c21 => ?_)
              · have hf := hF hf c21
                refine lv_iconst (v := (0 : Int32)) hx hb dX2_isSo_75 (by decide) ?_
                refine lv_istore_n (lv' := [(1, .int (0 : Int32)), (0, .ref (A 0)), (2, .int j2_28)]) hx hb dX2_isSo_76 rfl hl (by decide) rfl (fun ls hl => ?_)
                refine lv_iinc (v := (j2_28 + (1 : Int32))) (lv' := [(2, .int (j2_28 + (1 : Int32))), (1, .int (0 : Int32)), (0, .ref (A 0))]) hx hb dX2_isSo_77 hl (k := 2) rfl rfl (by decide) rfl (fun ls hl => ?_)
                refine lv_goto (tgt := 28) hx hb dX2_isSo_80 (by decide) ?_
                exact (hWW _ _ _).mp (ih _ _ _ _ _ _ hf hP hD hS (lv_sub hl [2, 1, 0] rfl))
              · have hf := hT hf c21
                refine lv_iconst (v := (1 : Int32)) hx hb dX2_isSo_71 (by decide) ?_
                refine lv_goto (tgt := 76) hx hb dX2_isSo_72 (by decide) ?_
                refine lv_istore_n (lv' := [(1, .int (1 : Int32)), (0, .ref (A 0)), (2, .int j2_28)]) hx hb dX2_isSo_76 rfl hl (by decide) rfl (fun ls hl => ?_)
                refine lv_iinc (v := (j2_28 + (1 : Int32))) (lv' := [(2, .int (j2_28 + (1 : Int32))), (1, .int (1 : Int32)), (0, .ref (A 0))]) hx hb dX2_isSo_77 hl (k := 2) rfl rfl (by decide) rfl (fun ls hl => ?_)
                refine lv_goto (tgt := 28) hx hb dX2_isSo_80 (by decide) ?_
                exact (hWW _ _ _).mp (ih _ _ _ _ _ _ hf hP hD hS (lv_sub hl [2, 1, 0] rfl))
    exact (hWW _ _ _).mp (P28 _ _ _ _ _ _ _ hf hP hD hS (lv_sub hl [2, 1, 0] rfl))
set_option maxHeartbeats 4000000 in
set_option maxRecDepth 100000 in
theorem c_X2_bitsFor_1 (l : Launch) (D : va_G) (cI : ClassId) (A : Nat → Nat) (j2 : Int32) (tt : HS) (out : Int32 × HS) (hf : f_X2_bitsFor_1 j2 tt = some out) : uI l D cI yX2_bitsFor wsX2_bitsFor ({ frames := 9, cells := 0, slots := 0, locals := 204 } : Room) [.ref (A 0), .ref (A 2), .int j2] (wM A cI tt) (wM A cI out.2) out.1 := by
  intro sz
  refine Met.ofW (cc := cX2_bitsFor) (maxL := 6) (ret := (some .int)) (by decide) rfl ?_
  intro p e s m args below meth c s₁ Bd hml hv
  obtain ⟨rfl, hsz, hP, hK, hD0, hN⟩ := hv
  have hx := Bd.exec
  have hb := Bd.bytes
  have hr := Bd.returns
  have hts := atoms_spec (ws := wsX2_bitsFor) Bd.pre
  have hown : s.vm.findClass RX2 = some m.cls := findClass_of_methodNamed Bd.named
  have hlocks := Bd.notSynchronized
  subst hsz
  have hD := hD0.self (sz := s.heap.size)
  generalize hAe : va_A (wM A cI tt) s.heap.size = G at hD ⊢
  have hA : ∀ q : Nat, s.heap.size ≤ q → G q := fun q h => by rw [← hAe]; exact Or.inr h
  have hS : va_S G s.heap s.heap [] := va_S.rf
  have hP : va_P D vwCl (wM A cI tt) s.heap := hP
  have hl := lv_entry ([.ref (A 0), .ref (A 2), .int j2]) (n := 6) (Nat.le_of_ble_eq_true rfl)
  rw [lg_entry_eq]
  generalize (lg_sl ([.ref (A 0), .ref (A 2), .int j2]) ++ List.replicate (6 - (lg_sl ([.ref (A 0), .ref (A 2), .int j2])).length) Slot.unset).toArray = ls at hl ⊢
  have hl : lv_has ls 6 [(0, .ref (A 0)), (1, .ref (A 2)), (2, .int j2)] := hl
  refine W_in ?_
  intro WW hWW
  refine (hWW _ _ _).mpr ?_
  unfold f_X2_bitsFor_1 at hf
  refine lv_aload_n hx hb dX2_bitsFor_0 rfl (lv_at hl 1 rfl) ?_
  refine lv_iload_n hx hb dX2_bitsFor_1 rfl (lv_at hl 2 rfl) ?_
  obtain ⟨v1, he, hf⟩ := bS hf
  refine x_iald hx hb hK hP 2 (n := 8) rfl he dX2_bitsFor_2 ?_
  refine lv_istore_n (lv' := [(3, .int v1), (0, .ref (A 0)), (1, .ref (A 2)), (2, .int j2)]) hx hb dX2_bitsFor_3 rfl hl (by decide) rfl (fun ls hl => ?_)
  refine lv_iconst (v := (0 : Int32)) hx hb dX2_bitsFor_4 (by decide) ?_
  refine lv_istore (lv' := [(4, .int (0 : Int32)), (3, .int v1), (0, .ref (A 0)), (1, .ref (A 2)), (2, .int j2)]) hx hb dX2_bitsFor_5 hl (by decide) rfl (fun ls hl => ?_)
  refine lv_iconst (v := (0 : Int32)) hx hb dX2_bitsFor_7 (by decide) ?_
  refine lv_istore (lv' := [(5, .int (0 : Int32)), (4, .int (0 : Int32)), (3, .int v1), (0, .ref (A 0)), (1, .ref (A 2)), (2, .int j2)]) hx hb dX2_bitsFor_8 hl (by decide) rfl (fun ls hl => ?_)
  obtain ⟨K48, hK48, hf⟩ := jnS hf
  have J48 : ∀ (j3_48 : Int32) (j4_48 : Int32) (tt_48 : HS) (H : Heap) (locs : List Loc) (ls : Array Slot), K48 j3_48 j4_48 tt_48 = some out → va_P D vwCl (wM A cI tt_48) H → va_D G (wM A cI tt_48) → va_S G s.heap H locs → lv_has ls 6 [(1, .ref (A 2)), (2, .int j2), (3, .int j3_48), (4, .int j4_48)] → WW H locs (F0 m 48 ls []) := by
    intro j3_48 j4_48 tt_48 H locs ls hf hP hD hS hl
    subst hK48
    refine (hWW _ _ _).mpr ?_
    refine lv_aload_n hx hb dX2_bitsFor_48 rfl (lv_at hl 0 rfl) ?_
    refine lv_iload_n hx hb dX2_bitsFor_49 rfl (lv_at hl 1 rfl) ?_
    refine lv_iload_n hx hb dX2_bitsFor_50 rfl (lv_at hl 2 rfl) ?_
    obtain ⟨v2, he, hf⟩ := bS hf
    obtain ⟨tt_v3, ett_v3, hf⟩ := jnS hf
    refine x_iast (ws' := (wM A cI tt_v3)) hx hb hK hP hD hS 2 (n := 8) rfl he ((sa_X2_t_1 A cI tt_48 v2).trans (congrArg (fun z => wM A cI z) ett_v3.symm)) dX2_bitsFor_51 (fun H locs hP hD hS => ?_)
    refine lv_iload hx hb dX2_bitsFor_52 (lv_at hl 3 rfl) ?_
    obtain rfl := Option.some.inj hf
    exact W.iret (v := j4_48) hx hb hr (fun t ht hW => ⟨⟨j4_48, (), rfl, rfl, hPt ht hP⟩, hS.F ht⟩) hS.2.2 dX2_bitsFor_54
  have P10 : ∀ (n' : Nat) (j3_10 : Int32) (j4_10 : Int32) (j5_10 : Int32) (tt_10 : HS) (H : Heap) (locs : List Loc) (ls : Array Slot), L_X2_bitsFor_1_10 j2 K48 n' j3_10 j4_10 j5_10 tt_10 = some out → va_P D vwCl (wM A cI tt_10) H → va_D G (wM A cI tt_10) → va_S G s.heap H locs → lv_has ls 6 [(0, .ref (A 0)), (1, .ref (A 2)), (2, .int j2), (3, .int j3_10), (4, .int j4_10), (5, .int j5_10)] → WW H locs (F0 m 10 ls []) := by
    intro n'
    induction n' with
    | zero => intro j3_10 j4_10 j5_10 tt_10 H locs ls hf; exact absurd (show (none : Option (Int32 × HS)) = some out from hf) (fun q => by cases q)
    | succ n' ih =>
      intro j3_10 j4_10 j5_10 tt_10 H locs ls hf hP hD hS hl
      rw [L_X2_bitsFor_1_10] at hf
      refine (hWW _ _ _).mpr ?_
      refine lv_iload hx hb dX2_bitsFor_10 (lv_at hl 5 rfl) ?_
      refine lv_bipush (v := (6 : Int32)) hx hb dX2_bitsFor_12 (by decide) ?_
      refine lv_icmp_ge (tgt := 48) hx hb dX2_bitsFor_14 (by decide) (fun c4 => ?_) (fun c4 => ?_)
      · have hf := hT hf c4
        exact (hWW _ _ _).mp (J48 _ _ _ _ _ _ hf hP hD hS (lv_sub hl [1, 2, 3, 4] rfl))
      · have hf := hF hf c4
        refine lv_aload_n hx hb dX2_bitsFor_17 rfl (lv_at hl 1 rfl) ?_
        refine lv_iload_n hx hb dX2_bitsFor_18 rfl (lv_at hl 2 rfl) ?_
        refine lv_iload hx hb dX2_bitsFor_19 (lv_at hl 5 rfl) ?_
        obtain ⟨v5, he, hf⟩ := bS hf
        obtain ⟨tt_v6, ett_v6, hf⟩ := jnS hf
        refine x_iast (ws' := (wM A cI tt_v6)) hx hb hK hP hD hS 2 (n := 8) rfl he ((sa_X2_t_1 A cI tt_10 v5).trans (congrArg (fun z => wM A cI z) ett_v6.symm)) dX2_bitsFor_21 (fun H locs hP hD hS => ?_)
        refine lv_iload hx hb dX2_bitsFor_22 (lv_at hl 4 rfl) ?_
        refine lv_aload_n hx hb dX2_bitsFor_24 rfl (lv_at hl 0 rfl) ?_
        obtain ⟨v7, hev7, hf⟩ := bS hf
        refine qV_i (ws' := (wM A cI v7.2)) (As := []) (rest := [.int j4_10]) ⟨hx, hb, hml, hown, hts⟩ hK hN hA hP hD hS (c_X2_isSo l D cI A tt_v6 v7 hev7) (cwV 0 hts gX2_bitsFor_X2_isSo rfl rfl rfl hd_X2_isSo ⟨Nat.le_of_ble_eq_true rfl, Nat.le_of_ble_eq_true rfl⟩) (va_recv hK hP (ci := 2) (q0 := 0) rfl rfl) (bp_X2_X2_t_t A cI tt_v6 v7.2) rfl hl.1 rfl (Nat.le_of_ble_eq_true rfl) dX2_bitsFor_25 ⟨Nat.le_of_ble_eq_true rfl, Nat.le_of_ble_eq_true rfl⟩ (fun H locs hP hD hS => ?_)
        have hP : va_P D vwCl (wM A cI v7.2) H := hP
        refine lv_if_eq (tgt := 38) hx hb dX2_bitsFor_28 (by decide) (fun c8 => ?_) (fun c8 => ?_)
        · have hf := hT hf c8
          refine lv_iconst (v := (0 : Int32)) hx hb dX2_bitsFor_38 (by decide) ?_
          refine lv_ior hx hb dX2_bitsFor_39 ?_
          refine lv_istore (lv' := [(4, .int (j4_10 ||| (0 : Int32))), (0, .ref (A 0)), (1, .ref (A 2)), (2, .int j2), (3, .int j3_10), (5, .int j5_10)]) hx hb dX2_bitsFor_40 hl (by decide) rfl (fun ls hl => ?_)
          refine lv_iinc (v := (j5_10 + (1 : Int32))) (lv' := [(5, .int (j5_10 + (1 : Int32))), (4, .int (j4_10 ||| (0 : Int32))), (0, .ref (A 0)), (1, .ref (A 2)), (2, .int j2), (3, .int j3_10)]) hx hb dX2_bitsFor_42 hl (k := 5) rfl rfl (by decide) rfl (fun ls hl => ?_)
          refine lv_goto (tgt := 10) hx hb dX2_bitsFor_45 (by decide) ?_
          exact (hWW _ _ _).mp (ih _ _ _ _ _ _ _ hf hP hD hS (lv_sub hl [2, 3, 4, 5, 1, 0] rfl))
        · have hf := hF hf c8
          refine lv_iconst (v := (1 : Int32)) hx hb dX2_bitsFor_31 (by decide) ?_
          refine lv_iload hx hb dX2_bitsFor_32 (lv_at hl 5 rfl) ?_
          refine lv_ishl hx hb dX2_bitsFor_34 ?_
          refine lv_goto (tgt := 39) hx hb dX2_bitsFor_35 (by decide) ?_
          refine lv_ior hx hb dX2_bitsFor_39 ?_
          refine lv_istore (lv' := [(4, .int (j4_10 ||| ((1 : Int32) <<< (j5_10 &&& 31)))), (0, .ref (A 0)), (1, .ref (A 2)), (2, .int j2), (3, .int j3_10), (5, .int j5_10)]) hx hb dX2_bitsFor_40 hl (by decide) rfl (fun ls hl => ?_)
          refine lv_iinc (v := (j5_10 + (1 : Int32))) (lv' := [(5, .int (j5_10 + (1 : Int32))), (4, .int (j4_10 ||| ((1 : Int32) <<< (j5_10 &&& 31)))), (0, .ref (A 0)), (1, .ref (A 2)), (2, .int j2), (3, .int j3_10)]) hx hb dX2_bitsFor_42 hl (k := 5) rfl rfl (by decide) rfl (fun ls hl => ?_)
          refine lv_goto (tgt := 10) hx hb dX2_bitsFor_45 (by decide) ?_
          exact (hWW _ _ _).mp (ih _ _ _ _ _ _ _ hf hP hD hS (lv_sub hl [2, 3, 4, 5, 1, 0] rfl))
  exact (hWW _ _ _).mp (P10 _ _ _ _ _ _ _ _ hf hP hD hS (lv_sub hl [3, 4, 5, 2, 1, 0] rfl))
set_option maxHeartbeats 4000000 in
set_option maxRecDepth 100000 in
theorem c_X2_bitsFor_3 (l : Launch) (D : va_G) (cI : ClassId) (A : Nat → Nat) (j2 : Int32) (tt : HS) (out : Int32 × HS) (hf : f_X2_bitsFor_3 j2 tt = some out) : uI l D cI yX2_bitsFor wsX2_bitsFor ({ frames := 9, cells := 0, slots := 0, locals := 204 } : Room) [.ref (A 0), .ref (A 4), .int j2] (wM A cI tt) (wM A cI out.2) out.1 := by
  intro sz
  refine Met.ofW (cc := cX2_bitsFor) (maxL := 6) (ret := (some .int)) (by decide) rfl ?_
  intro p e s m args below meth c s₁ Bd hml hv
  obtain ⟨rfl, hsz, hP, hK, hD0, hN⟩ := hv
  have hx := Bd.exec
  have hb := Bd.bytes
  have hr := Bd.returns
  have hts := atoms_spec (ws := wsX2_bitsFor) Bd.pre
  have hown : s.vm.findClass RX2 = some m.cls := findClass_of_methodNamed Bd.named
  have hlocks := Bd.notSynchronized
  subst hsz
  have hD := hD0.self (sz := s.heap.size)
  generalize hAe : va_A (wM A cI tt) s.heap.size = G at hD ⊢
  have hA : ∀ q : Nat, s.heap.size ≤ q → G q := fun q h => by rw [← hAe]; exact Or.inr h
  have hS : va_S G s.heap s.heap [] := va_S.rf
  have hP : va_P D vwCl (wM A cI tt) s.heap := hP
  have hl := lv_entry ([.ref (A 0), .ref (A 4), .int j2]) (n := 6) (Nat.le_of_ble_eq_true rfl)
  rw [lg_entry_eq]
  generalize (lg_sl ([.ref (A 0), .ref (A 4), .int j2]) ++ List.replicate (6 - (lg_sl ([.ref (A 0), .ref (A 4), .int j2])).length) Slot.unset).toArray = ls at hl ⊢
  have hl : lv_has ls 6 [(0, .ref (A 0)), (1, .ref (A 4)), (2, .int j2)] := hl
  refine W_in ?_
  intro WW hWW
  refine (hWW _ _ _).mpr ?_
  unfold f_X2_bitsFor_3 at hf
  refine lv_aload_n hx hb dX2_bitsFor_0 rfl (lv_at hl 1 rfl) ?_
  refine lv_iload_n hx hb dX2_bitsFor_1 rfl (lv_at hl 2 rfl) ?_
  obtain ⟨v1, he, hf⟩ := bS hf
  refine x_iald hx hb hK hP 4 (n := 8) rfl he dX2_bitsFor_2 ?_
  refine lv_istore_n (lv' := [(3, .int v1), (0, .ref (A 0)), (1, .ref (A 4)), (2, .int j2)]) hx hb dX2_bitsFor_3 rfl hl (by decide) rfl (fun ls hl => ?_)
  refine lv_iconst (v := (0 : Int32)) hx hb dX2_bitsFor_4 (by decide) ?_
  refine lv_istore (lv' := [(4, .int (0 : Int32)), (3, .int v1), (0, .ref (A 0)), (1, .ref (A 4)), (2, .int j2)]) hx hb dX2_bitsFor_5 hl (by decide) rfl (fun ls hl => ?_)
  refine lv_iconst (v := (0 : Int32)) hx hb dX2_bitsFor_7 (by decide) ?_
  refine lv_istore (lv' := [(5, .int (0 : Int32)), (4, .int (0 : Int32)), (3, .int v1), (0, .ref (A 0)), (1, .ref (A 4)), (2, .int j2)]) hx hb dX2_bitsFor_8 hl (by decide) rfl (fun ls hl => ?_)
  obtain ⟨K48, hK48, hf⟩ := jnS hf
  have J48 : ∀ (j3_48 : Int32) (j4_48 : Int32) (tt_48 : HS) (H : Heap) (locs : List Loc) (ls : Array Slot), K48 j3_48 j4_48 tt_48 = some out → va_P D vwCl (wM A cI tt_48) H → va_D G (wM A cI tt_48) → va_S G s.heap H locs → lv_has ls 6 [(1, .ref (A 4)), (2, .int j2), (3, .int j3_48), (4, .int j4_48)] → WW H locs (F0 m 48 ls []) := by
    intro j3_48 j4_48 tt_48 H locs ls hf hP hD hS hl
    subst hK48
    refine (hWW _ _ _).mpr ?_
    refine lv_aload_n hx hb dX2_bitsFor_48 rfl (lv_at hl 0 rfl) ?_
    refine lv_iload_n hx hb dX2_bitsFor_49 rfl (lv_at hl 1 rfl) ?_
    refine lv_iload_n hx hb dX2_bitsFor_50 rfl (lv_at hl 2 rfl) ?_
    obtain ⟨v2, he, hf⟩ := bS hf
    obtain ⟨tt_v3, ett_v3, hf⟩ := jnS hf
    refine x_iast (ws' := (wM A cI tt_v3)) hx hb hK hP hD hS 4 (n := 8) rfl he ((sa_X2_t_3 A cI tt_48 v2).trans (congrArg (fun z => wM A cI z) ett_v3.symm)) dX2_bitsFor_51 (fun H locs hP hD hS => ?_)
    refine lv_iload hx hb dX2_bitsFor_52 (lv_at hl 3 rfl) ?_
    obtain rfl := Option.some.inj hf
    exact W.iret (v := j4_48) hx hb hr (fun t ht hW => ⟨⟨j4_48, (), rfl, rfl, hPt ht hP⟩, hS.F ht⟩) hS.2.2 dX2_bitsFor_54
  have P10 : ∀ (n' : Nat) (j3_10 : Int32) (j4_10 : Int32) (j5_10 : Int32) (tt_10 : HS) (H : Heap) (locs : List Loc) (ls : Array Slot), L_X2_bitsFor_3_10 j2 K48 n' j3_10 j4_10 j5_10 tt_10 = some out → va_P D vwCl (wM A cI tt_10) H → va_D G (wM A cI tt_10) → va_S G s.heap H locs → lv_has ls 6 [(0, .ref (A 0)), (1, .ref (A 4)), (2, .int j2), (3, .int j3_10), (4, .int j4_10), (5, .int j5_10)] → WW H locs (F0 m 10 ls []) := by
    intro n'
    induction n' with
    | zero => intro j3_10 j4_10 j5_10 tt_10 H locs ls hf; exact absurd (show (none : Option (Int32 × HS)) = some out from hf) (fun q => by cases q)
    | succ n' ih =>
      intro j3_10 j4_10 j5_10 tt_10 H locs ls hf hP hD hS hl
      rw [L_X2_bitsFor_3_10] at hf
      refine (hWW _ _ _).mpr ?_
      refine lv_iload hx hb dX2_bitsFor_10 (lv_at hl 5 rfl) ?_
      refine lv_bipush (v := (6 : Int32)) hx hb dX2_bitsFor_12 (by decide) ?_
      refine lv_icmp_ge (tgt := 48) hx hb dX2_bitsFor_14 (by decide) (fun c4 => ?_) (fun c4 => ?_)
      · have hf := hT hf c4
        exact (hWW _ _ _).mp (J48 _ _ _ _ _ _ hf hP hD hS (lv_sub hl [1, 2, 3, 4] rfl))
      · have hf := hF hf c4
        refine lv_aload_n hx hb dX2_bitsFor_17 rfl (lv_at hl 1 rfl) ?_
        refine lv_iload_n hx hb dX2_bitsFor_18 rfl (lv_at hl 2 rfl) ?_
        refine lv_iload hx hb dX2_bitsFor_19 (lv_at hl 5 rfl) ?_
        obtain ⟨v5, he, hf⟩ := bS hf
        obtain ⟨tt_v6, ett_v6, hf⟩ := jnS hf
        refine x_iast (ws' := (wM A cI tt_v6)) hx hb hK hP hD hS 4 (n := 8) rfl he ((sa_X2_t_3 A cI tt_10 v5).trans (congrArg (fun z => wM A cI z) ett_v6.symm)) dX2_bitsFor_21 (fun H locs hP hD hS => ?_)
        refine lv_iload hx hb dX2_bitsFor_22 (lv_at hl 4 rfl) ?_
        refine lv_aload_n hx hb dX2_bitsFor_24 rfl (lv_at hl 0 rfl) ?_
        obtain ⟨v7, hev7, hf⟩ := bS hf
        refine qV_i (ws' := (wM A cI v7.2)) (As := []) (rest := [.int j4_10]) ⟨hx, hb, hml, hown, hts⟩ hK hN hA hP hD hS (c_X2_isSo l D cI A tt_v6 v7 hev7) (cwV 0 hts gX2_bitsFor_X2_isSo rfl rfl rfl hd_X2_isSo ⟨Nat.le_of_ble_eq_true rfl, Nat.le_of_ble_eq_true rfl⟩) (va_recv hK hP (ci := 2) (q0 := 0) rfl rfl) (bp_X2_X2_t_t A cI tt_v6 v7.2) rfl hl.1 rfl (Nat.le_of_ble_eq_true rfl) dX2_bitsFor_25 ⟨Nat.le_of_ble_eq_true rfl, Nat.le_of_ble_eq_true rfl⟩ (fun H locs hP hD hS => ?_)
        have hP : va_P D vwCl (wM A cI v7.2) H := hP
        refine lv_if_eq (tgt := 38) hx hb dX2_bitsFor_28 (by decide) (fun c8 => ?_) (fun c8 => ?_)
        · have hf := hT hf c8
          refine lv_iconst (v := (0 : Int32)) hx hb dX2_bitsFor_38 (by decide) ?_
          refine lv_ior hx hb dX2_bitsFor_39 ?_
          refine lv_istore (lv' := [(4, .int (j4_10 ||| (0 : Int32))), (0, .ref (A 0)), (1, .ref (A 4)), (2, .int j2), (3, .int j3_10), (5, .int j5_10)]) hx hb dX2_bitsFor_40 hl (by decide) rfl (fun ls hl => ?_)
          refine lv_iinc (v := (j5_10 + (1 : Int32))) (lv' := [(5, .int (j5_10 + (1 : Int32))), (4, .int (j4_10 ||| (0 : Int32))), (0, .ref (A 0)), (1, .ref (A 4)), (2, .int j2), (3, .int j3_10)]) hx hb dX2_bitsFor_42 hl (k := 5) rfl rfl (by decide) rfl (fun ls hl => ?_)
          refine lv_goto (tgt := 10) hx hb dX2_bitsFor_45 (by decide) ?_
          exact (hWW _ _ _).mp (ih _ _ _ _ _ _ _ hf hP hD hS (lv_sub hl [2, 3, 4, 5, 1, 0] rfl))
        · have hf := hF hf c8
          refine lv_iconst (v := (1 : Int32)) hx hb dX2_bitsFor_31 (by decide) ?_
          refine lv_iload hx hb dX2_bitsFor_32 (lv_at hl 5 rfl) ?_
          refine lv_ishl hx hb dX2_bitsFor_34 ?_
          refine lv_goto (tgt := 39) hx hb dX2_bitsFor_35 (by decide) ?_
          refine lv_ior hx hb dX2_bitsFor_39 ?_
          refine lv_istore (lv' := [(4, .int (j4_10 ||| ((1 : Int32) <<< (j5_10 &&& 31)))), (0, .ref (A 0)), (1, .ref (A 4)), (2, .int j2), (3, .int j3_10), (5, .int j5_10)]) hx hb dX2_bitsFor_40 hl (by decide) rfl (fun ls hl => ?_)
          refine lv_iinc (v := (j5_10 + (1 : Int32))) (lv' := [(5, .int (j5_10 + (1 : Int32))), (4, .int (j4_10 ||| ((1 : Int32) <<< (j5_10 &&& 31)))), (0, .ref (A 0)), (1, .ref (A 4)), (2, .int j2), (3, .int j3_10)]) hx hb dX2_bitsFor_42 hl (k := 5) rfl rfl (by decide) rfl (fun ls hl => ?_)
          refine lv_goto (tgt := 10) hx hb dX2_bitsFor_45 (by decide) ?_
          exact (hWW _ _ _).mp (ih _ _ _ _ _ _ _ hf hP hD hS (lv_sub hl [2, 3, 4, 5, 1, 0] rfl))
  exact (hWW _ _ _).mp (P10 _ _ _ _ _ _ _ _ hf hP hD hS (lv_sub hl [3, 4, 5, 2, 1, 0] rfl))
set_option maxHeartbeats 4000000 in
set_option maxRecDepth 100000 in
theorem c_X2_whoTold (l : Launch) (D : va_G) (cI : ClassId) (A : Nat → Nat) (j1 : Int32) (j2 : Int32) (tt : HS) (out : Int32 × HS) (hf : f_X2_whoTold j1 j2 tt = some out) : uI l D cI yX2_whoTold wsX2_whoTold ({ frames := 10, cells := 0, slots := 0, locals := 229 } : Room) [.ref (A 0), .int j1, .int j2] (wM A cI tt) (wM A cI out.2) out.1 := by
  intro sz
  refine Met.ofW (cc := cX2_whoTold) (maxL := 4) (ret := (some .int)) (by decide) rfl ?_
  intro p e s m args below meth c s₁ Bd hml hv
  obtain ⟨rfl, hsz, hP, hK, hD0, hN⟩ := hv
  have hx := Bd.exec
  have hb := Bd.bytes
  have hr := Bd.returns
  have hts := atoms_spec (ws := wsX2_whoTold) Bd.pre
  have hown : s.vm.findClass RX2 = some m.cls := findClass_of_methodNamed Bd.named
  have hlocks := Bd.notSynchronized
  subst hsz
  have hD := hD0.self (sz := s.heap.size)
  generalize hAe : va_A (wM A cI tt) s.heap.size = G at hD ⊢
  have hA : ∀ q : Nat, s.heap.size ≤ q → G q := fun q h => by rw [← hAe]; exact Or.inr h
  have hS : va_S G s.heap s.heap [] := va_S.rf
  have hP : va_P D vwCl (wM A cI tt) s.heap := hP
  have hl := lv_entry ([.ref (A 0), .int j1, .int j2]) (n := 4) (Nat.le_of_ble_eq_true rfl)
  rw [lg_entry_eq]
  generalize (lg_sl ([.ref (A 0), .int j1, .int j2]) ++ List.replicate (4 - (lg_sl ([.ref (A 0), .int j1, .int j2])).length) Slot.unset).toArray = ls at hl ⊢
  have hl : lv_has ls 4 [(0, .ref (A 0)), (1, .int j1), (2, .int j2)] := hl
  have hinM : ∀ w ∈ wsX20, w ∈ wsX2_whoTold := by decide +kernel
  have lk0 := hts (.fieldLink RX2 13 "LiesBoughtBackModel" "sort" "[I") (by decide +kernel)
  have lk1 := hts (.fieldLink RX2 19 "LiesBoughtBackModel" "teller" "[I") (by decide +kernel)
  refine W_in ?_
  intro WW hWW
  refine (hWW _ _ _).mpr ?_
  unfold f_X2_whoTold at hf
  refine lv_aload_n hx hb dX2_whoTold_0 rfl (lv_at hl 0 rfl) ?_
  refine lv_iload_n hx hb dX2_whoTold_1 rfl (lv_at hl 1 rfl) ?_
  refine qV_i (As := [.int j1]) (rest := []) ⟨hx, hb, hml, hown, hts⟩ hK hN hA hP hD hS (c_X2_isCard l D cI A j1 tt (f_X2_isCard j1 tt) rfl) (cwV 1 hts gX2_whoTold_X2_isCard rfl rfl rfl hd_X2_isCard ⟨Nat.le_of_ble_eq_true rfl, Nat.le_of_ble_eq_true rfl⟩) (va_recv hK hP (ci := 2) (q0 := 0) rfl rfl) (bq_X2_X2_t A cI tt) rfl hl.1 rfl (Nat.le_of_ble_eq_true rfl) dX2_whoTold_2 ⟨Nat.le_of_ble_eq_true rfl, Nat.le_of_ble_eq_true rfl⟩ (fun H locs hP hD hS => ?_)
  refine lv_if_ne (tgt := 12) hx hb dX2_whoTold_5 (by decide) (fun c1 => ?_) (fun c1 => ?_)
  · have hf := hF hf c1
    refine lv_iload_n hx hb dX2_whoTold_12 rfl (lv_at hl 2 rfl) ?_
    refine lv_iconst (v := (0 : Int32)) hx hb dX2_whoTold_13 (by decide) ?_
    refine lv_iconst (v := (1 : Int32)) hx hb dX2_whoTold_14 (by decide) ?_
    refine qS_i (As := [.int j2, .int (0 : Int32), .int (1 : Int32)]) (rest := []) ⟨hx, hb, hml, hown, hts⟩ hK hN hA hP hD hS (c_X2_isIn l D cI j2 (0 : Int32) (1 : Int32) (f_X2_isIn j2 (0 : Int32) (1 : Int32)) rfl) (va_cwS 3 hts gX2_whoTold_X2_isIn rfl rfl rfl hd_X2_isIn.2 ⟨Nat.le_of_ble_eq_true rfl, Nat.le_of_ble_eq_true rfl⟩) Bp_e rfl hl.1 rfl (Nat.le_of_ble_eq_true rfl) dX2_whoTold_15 ⟨Nat.le_of_ble_eq_true rfl, Nat.le_of_ble_eq_true rfl⟩ (fun H locs hP hD hS => ?_)
    refine lv_if_ne (tgt := 26) hx hb dX2_whoTold_18 (by decide) (fun c2 => ?_) (fun c2 => ?_)
    · have hf := hF hf c2
      refine lv_iconst (v := (0 : Int32)) hx hb dX2_whoTold_26 (by decide) ?_
      refine lv_istore_n (lv' := [(3, .int (0 : Int32)), (0, .ref (A 0)), (1, .int j1), (2, .int j2)]) hx hb dX2_whoTold_27 rfl hl (by decide) rfl (fun ls hl => ?_)
      refine lv_iload_n hx hb dX2_whoTold_28 rfl (lv_at hl 0 rfl) ?_
      refine lv_if_eq (tgt := 38) hx hb dX2_whoTold_29 (by decide) (fun c3 => ?_) (fun c3 => ?_)
      · refine lv_aload_n hx hb dX2_whoTold_38 rfl (lv_at hl 1 rfl) ?_
        refine lv_iload_n hx hb dX2_whoTold_39 rfl (lv_at hl 3 rfl) ?_
        refine lv_if_ne (tgt := 50) hx hb dX2_whoTold_40 (by decide) (fun c4 => ?_) (fun c4 => ?_)
        · have hf := hF hf c4
          refine lv_aload_n hx hb dX2_whoTold_50 rfl (lv_at hl 1 rfl) ?_
          refine va_get (D := D) (ci := 2) (v := .ref (A 2)) (C := RX2) (T := TX2) (N := 31) hx hb hts hinM hown hK hP 0 rfl rfl 1 (by decide) lk0 (fun _ h9 => h9) rfl dX2_whoTold_51 ?_
          refine lv_iload_n hx hb dX2_whoTold_54 rfl (lv_at hl 2 rfl) ?_
          obtain ⟨v5, hev5, hf⟩ := bS hf
          refine qV_i (ws' := (wM A cI v5.2)) (As := [.ref (A 2), .int j1]) (rest := []) ⟨hx, hb, hml, hown, hts⟩ hK hN hA hP hD hS (c_X2_bitsFor_1 l D cI A j1 tt v5 hev5) (cwV 2 hts gX2_whoTold_X2_bitsFor rfl rfl rfl hd_X2_bitsFor ⟨Nat.le_of_ble_eq_true rfl, Nat.le_of_ble_eq_true rfl⟩) (va_recv hK hP (ci := 2) (q0 := 0) rfl rfl) (bp_X2_X2_t_t A cI tt v5.2) rfl hl.1 rfl (Nat.le_of_ble_eq_true rfl) dX2_whoTold_55 ⟨Nat.le_of_ble_eq_true rfl, Nat.le_of_ble_eq_true rfl⟩ (fun H locs hP hD hS => ?_)
          have hP : va_P D vwCl (wM A cI v5.2) H := hP
          obtain rfl := Option.some.inj hf
          exact W.iret (v := v5.1) hx hb hr (fun t ht hW => ⟨⟨v5.1, (), rfl, rfl, hPt ht hP⟩, hS.F ht⟩) hS.2.2 dX2_whoTold_58
        · have hf := hT hf c4
          refine lv_aload_n hx hb dX2_whoTold_43 rfl (lv_at hl 1 rfl) ?_
          refine va_get (D := D) (ci := 2) (v := .ref (A 4)) (C := RX2) (T := TX2) (N := 31) hx hb hts hinM hown hK hP 0 rfl rfl 3 (by decide) lk1 (fun _ h9 => h9) rfl dX2_whoTold_44 ?_
          refine lv_goto (tgt := 54) hx hb dX2_whoTold_47 (by decide) ?_
          refine lv_iload_n hx hb dX2_whoTold_54 rfl (lv_at hl 2 rfl) ?_
          obtain ⟨v6, hev6, hf⟩ := bS hf
          refine qV_i (ws' := (wM A cI v6.2)) (As := [.ref (A 4), .int j1]) (rest := []) ⟨hx, hb, hml, hown, hts⟩ hK hN hA hP hD hS (c_X2_bitsFor_3 l D cI A j1 tt v6 hev6) (cwV 2 hts gX2_whoTold_X2_bitsFor rfl rfl rfl hd_X2_bitsFor ⟨Nat.le_of_ble_eq_true rfl, Nat.le_of_ble_eq_true rfl⟩) (va_recv hK hP (ci := 2) (q0 := 0) rfl rfl) (bp_X2_X2_t_t A cI tt v6.2) rfl hl.1 rfl (Nat.le_of_ble_eq_true rfl) dX2_whoTold_55 ⟨Nat.le_of_ble_eq_true rfl, Nat.le_of_ble_eq_true rfl⟩ (fun H locs hP hD hS => ?_)
          have hP : va_P D vwCl (wM A cI v6.2) H := hP
          obtain rfl := Option.some.inj hf
          exact W.iret (v := v6.1) hx hb hr (fun t ht hW => ⟨⟨v6.1, (), rfl, rfl, hPt ht hP⟩, hS.F ht⟩) hS.2.2 dX2_whoTold_58
      · exact absurd c3 (by decide)
    · have hf := hT hf c2
      refine lv_bipush (v := (-2 : Int32)) hx hb dX2_whoTold_21 (by decide) ?_
      refine lv_goto (tgt := 27) hx hb dX2_whoTold_23 (by decide) ?_
      refine lv_istore_n (lv' := [(3, .int (-2 : Int32)), (0, .ref (A 0)), (1, .int j1), (2, .int j2)]) hx hb dX2_whoTold_27 rfl hl (by decide) rfl (fun ls hl => ?_)
      refine lv_iload_n hx hb dX2_whoTold_28 rfl (lv_at hl 0 rfl) ?_
      refine lv_if_eq (tgt := 38) hx hb dX2_whoTold_29 (by decide) (fun c7 => ?_) (fun c7 => ?_)
      · exact absurd c7 (by decide)
      · refine lv_aload_n hx hb dX2_whoTold_32 rfl (lv_at hl 1 rfl) ?_
        refine lv_iload_n hx hb dX2_whoTold_33 rfl (lv_at hl 0 rfl) ?_
        obtain ⟨v8, hev8, hf⟩ := bS hf
        refine qV_i (ws' := (wM A cI v8.2)) (As := [.int (-2 : Int32)]) (rest := []) ⟨hx, hb, hml, hown, hts⟩ hK hN hA hP hD hS (c_X2_no l D cI A (-2 : Int32) tt v8 hev8) (cwV 1 hts gX2_whoTold_X2_no rfl rfl rfl hd_X2_no ⟨Nat.le_of_ble_eq_true rfl, Nat.le_of_ble_eq_true rfl⟩) (va_recv hK hP (ci := 2) (q0 := 0) rfl rfl) (bp_X2_X2_t_t A cI tt v8.2) rfl hl.1 rfl (Nat.le_of_ble_eq_true rfl) dX2_whoTold_34 ⟨Nat.le_of_ble_eq_true rfl, Nat.le_of_ble_eq_true rfl⟩ (fun H locs hP hD hS => ?_)
        have hP : va_P D vwCl (wM A cI v8.2) H := hP
        obtain rfl := Option.some.inj hf
        exact W.iret (v := v8.1) hx hb hr (fun t ht hW => ⟨⟨v8.1, (), rfl, rfl, hPt ht hP⟩, hS.F ht⟩) hS.2.2 dX2_whoTold_37
  · have hf := hT hf c1
    refine lv_iconst (v := (-1 : Int32)) hx hb dX2_whoTold_8 (by decide) ?_
    refine lv_goto (tgt := 27) hx hb dX2_whoTold_9 (by decide) ?_
    refine lv_istore_n (lv' := [(3, .int (-1 : Int32)), (0, .ref (A 0)), (1, .int j1), (2, .int j2)]) hx hb dX2_whoTold_27 rfl hl (by decide) rfl (fun ls hl => ?_)
    refine lv_iload_n hx hb dX2_whoTold_28 rfl (lv_at hl 0 rfl) ?_
    refine lv_if_eq (tgt := 38) hx hb dX2_whoTold_29 (by decide) (fun c9 => ?_) (fun c9 => ?_)
    · exact absurd c9 (by decide)
    · refine lv_aload_n hx hb dX2_whoTold_32 rfl (lv_at hl 1 rfl) ?_
      refine lv_iload_n hx hb dX2_whoTold_33 rfl (lv_at hl 0 rfl) ?_
      obtain ⟨v10, hev10, hf⟩ := bS hf
      refine qV_i (ws' := (wM A cI v10.2)) (As := [.int (-1 : Int32)]) (rest := []) ⟨hx, hb, hml, hown, hts⟩ hK hN hA hP hD hS (c_X2_no l D cI A (-1 : Int32) tt v10 hev10) (cwV 1 hts gX2_whoTold_X2_no rfl rfl rfl hd_X2_no ⟨Nat.le_of_ble_eq_true rfl, Nat.le_of_ble_eq_true rfl⟩) (va_recv hK hP (ci := 2) (q0 := 0) rfl rfl) (bp_X2_X2_t_t A cI tt v10.2) rfl hl.1 rfl (Nat.le_of_ble_eq_true rfl) dX2_whoTold_34 ⟨Nat.le_of_ble_eq_true rfl, Nat.le_of_ble_eq_true rfl⟩ (fun H locs hP hD hS => ?_)
      have hP : va_P D vwCl (wM A cI v10.2) H := hP
      obtain rfl := Option.some.inj hf
      exact W.iret (v := v10.1) hx hb hr (fun t ht hW => ⟨⟨v10.1, (), rfl, rfl, hPt ht hP⟩, hS.F ht⟩) hS.2.2 dX2_whoTold_37
set_option maxHeartbeats 4000000 in
set_option maxRecDepth 100000 in
theorem c_X2_row (l : Launch) (D : va_G) (cI : ClassId) (A : Nat → Nat) (j1 : Int32) (tt : HS) (out : Int32 × HS) (hf : f_X2_row j1 tt = some out) : uI l D cI yX2_row wsX2_row ({ frames := 1, cells := 0, slots := 0, locals := 22 } : Room) [.ref (A 0), .int j1] (wM A cI tt) (wM A cI out.2) out.1 := by
  intro sz
  refine Met.ofW (cc := cX2_row) (maxL := 3) (ret := (some .int)) (by decide) rfl ?_
  intro p e s m args below meth c s₁ Bd hml hv
  obtain ⟨rfl, hsz, hP, hK, hD0, hN⟩ := hv
  have hx := Bd.exec
  have hb := Bd.bytes
  have hr := Bd.returns
  have hts := atoms_spec (ws := wsX2_row) Bd.pre
  have hown : s.vm.findClass RX2 = some m.cls := findClass_of_methodNamed Bd.named
  have hlocks := Bd.notSynchronized
  subst hsz
  have hD := hD0.self (sz := s.heap.size)
  generalize hAe : va_A (wM A cI tt) s.heap.size = G at hD ⊢
  have hA : ∀ q : Nat, s.heap.size ≤ q → G q := fun q h => by rw [← hAe]; exact Or.inr h
  have hS : va_S G s.heap s.heap [] := va_S.rf
  have hP : va_P D vwCl (wM A cI tt) s.heap := hP
  have hl := lv_entry ([.ref (A 0), .int j1]) (n := 3) (Nat.le_of_ble_eq_true rfl)
  rw [lg_entry_eq]
  generalize (lg_sl ([.ref (A 0), .int j1]) ++ List.replicate (3 - (lg_sl ([.ref (A 0), .int j1])).length) Slot.unset).toArray = ls at hl ⊢
  have hl : lv_has ls 3 [(0, .ref (A 0)), (1, .int j1)] := hl
  have hinM : ∀ w ∈ wsX20, w ∈ wsX2_row := by decide +kernel
  have lk0 := hts (.fieldLink RX2 64 "LiesBoughtBackModel" "row" "[I") (by decide +kernel)
  have lk1 := hts (.fieldLink RX2 299 "LiesBoughtBackModel" "rowMany" "I") (by decide +kernel)
  refine W_in ?_
  intro WW hWW
  refine (hWW _ _ _).mpr ?_
  unfold f_X2_row at hf
  refine lv_iload_n hx hb dX2_row_0 rfl (lv_at hl 1 rfl) ?_
  refine lv_iconst (v := (0 : Int32)) hx hb dX2_row_1 (by decide) ?_
  refine lv_bipush (v := (99 : Int32)) hx hb dX2_row_2 (by decide) ?_
  refine qS_i (As := [.int j1, .int (0 : Int32), .int (99 : Int32)]) (rest := []) ⟨hx, hb, hml, hown, hts⟩ hK hN hA hP hD hS (c_X2_bound l D cI j1 (0 : Int32) (99 : Int32) (f_X2_bound j1 (0 : Int32) (99 : Int32)) rfl) (va_cwS 3 hts gX2_row_X2_bound rfl rfl rfl hd_X2_bound.2 ⟨Nat.le_of_ble_eq_true rfl, Nat.le_of_ble_eq_true rfl⟩) Bp_e rfl hl.1 rfl (Nat.le_of_ble_eq_true rfl) dX2_row_4 ⟨Nat.le_of_ble_eq_true rfl, Nat.le_of_ble_eq_true rfl⟩ (fun H locs hP hD hS => ?_)
  refine lv_istore_n (lv' := [(2, .int (f_X2_bound j1 (0 : Int32) (99 : Int32))), (0, .ref (A 0)), (1, .int j1)]) hx hb dX2_row_7 rfl hl (by decide) rfl (fun ls hl => ?_)
  refine lv_iload_n hx hb dX2_row_8 rfl (lv_at hl 0 rfl) ?_
  obtain ⟨K24, hK24, hf⟩ := jnS hf
  have J24 : ∀ (j2_24 : Int32) (tt_24 : HS) (H : Heap) (locs : List Loc) (ls : Array Slot), K24 j2_24 tt_24 = some out → va_P D vwCl (wM A cI tt_24) H → va_D G (wM A cI tt_24) → va_S G s.heap H locs → lv_has ls 3 [(0, .ref (A 0)), (1, .int j1), (2, .int j2_24)] → WW H locs (F0 m 24 ls []) := by
    intro j2_24 tt_24 H locs ls hf hP hD hS hl
    subst hK24
    refine (hWW _ _ _).mpr ?_
    refine lv_iload_n hx hb dX2_row_24 rfl (lv_at hl 2 rfl) ?_
    refine lv_if_eq (tgt := 34) hx hb dX2_row_25 (by decide) (fun c1 => ?_) (fun c1 => ?_)
    · have hf := hT hf c1
      refine lv_aload_n hx hb dX2_row_34 rfl (lv_at hl 0 rfl) ?_
      refine va_get (D := D) (ci := 2) (v := .ref (A 19)) (C := RX2) (T := TX2) (N := 31) hx hb hts hinM hown hK hP 0 rfl rfl 28 (by decide) lk0 (fun _ h9 => h9) rfl dX2_row_35 ?_
      refine lv_aload_n hx hb dX2_row_38 rfl (lv_at hl 0 rfl) ?_
      refine va_get (D := D) (ci := 2) (v := .int (tt_24 30 0)) (C := RX2) (T := TX2) (N := 31) hx hb hts hinM hown hK hP 0 rfl rfl 29 (by decide) lk1 (fun _ h9 => h9) rfl dX2_row_39 ?_
      refine lv_iload_n hx hb dX2_row_42 rfl (lv_at hl 1 rfl) ?_
      obtain ⟨v2, he, hf⟩ := bS hf
      obtain ⟨tt_v3, ett_v3, hf⟩ := jnS hf
      refine x_iast (ws' := (wM A cI tt_v3)) hx hb hK hP hD hS 19 (n := 16) rfl he ((sa_X2_t_18 A cI tt_24 v2).trans (congrArg (fun z => wM A cI z) ett_v3.symm)) dX2_row_43 (fun H locs hP hD hS => ?_)
      refine lv_aload_n hx hb dX2_row_44 rfl (lv_at hl 0 rfl) ?_
      refine lv_dup hx hb dX2_row_45 rfl ?_
      refine va_get (D := D) (ci := 2) (v := .int (tt_v3 30 0)) (C := RX2) (T := TX2) (N := 31) hx hb hts hinM hown hK hP 0 rfl rfl 29 (by decide) lk1 (fun _ h9 => h9) rfl dX2_row_46 ?_
      refine lv_iconst (v := (1 : Int32)) hx hb dX2_row_49 (by decide) ?_
      refine lv_iadd hx hb dX2_row_50 ?_
      obtain ⟨tt_v4, ett_v4, hf⟩ := jnS hf
      refine va_put (D := D) (ci := 2) (v := .int ((tt_v3 30 0) + (1 : Int32))) (ty := .int) (C := RX2) (T := TX2) (N := 31) hx hb hts hinM tyX2 tyX2_ok nmX2 hown hK hP hD hS 0 rfl rfl 29 (by decide) lk1 (fun _ h9 => h9) rfl (by decide +kernel) rfl rfl (Nat.le_of_ble_eq_true rfl) dX2_row_51 (fun H locs hP hD hS => ?_)
      have hE : _ = (wM A cI tt_v4) := ((sf_X2_t_30 A cI tt_v3 ((tt_v3 30 0) + (1 : Int32))).trans (congrArg (fun z => wM A cI z) ett_v4.symm))
      have hP : va_P D vwCl (wM A cI tt_v4) H := hE ▸ hP
      have hD : va_D G (wM A cI tt_v4) := hE ▸ hD
      refine lv_aload_n hx hb dX2_row_54 rfl (lv_at hl 0 rfl) ?_
      refine va_get (D := D) (ci := 2) (v := .int (tt_v4 30 0)) (C := RX2) (T := TX2) (N := 31) hx hb hts hinM hown hK hP 0 rfl rfl 29 (by decide) lk1 (fun _ h9 => h9) rfl dX2_row_55 ?_
      obtain rfl := Option.some.inj hf
      exact W.iret (v := (tt_v4 30 0)) hx hb hr (fun t ht hW => ⟨⟨(tt_v4 30 0), (), rfl, rfl, hPt ht hP⟩, hS.F ht⟩) hS.2.2 dX2_row_58
    · have hf := hF hf c1
      refine lv_aload_n hx hb dX2_row_28 rfl (lv_at hl 0 rfl) ?_
      refine lv_iload_n hx hb dX2_row_29 rfl (lv_at hl 2 rfl) ?_
      obtain ⟨v5, hev5, hf⟩ := bS hf
      refine qV_i (ws' := (wM A cI v5.2)) (As := [.int j2_24]) (rest := []) ⟨hx, hb, hml, hown, hts⟩ hK hN hA hP hD hS (c_X2_no l D cI A j2_24 tt_24 v5 hev5) (cwV 1 hts gX2_row_X2_no rfl rfl rfl hd_X2_no ⟨Nat.le_of_ble_eq_true rfl, Nat.le_of_ble_eq_true rfl⟩) (va_recv hK hP (ci := 2) (q0 := 0) rfl rfl) (bp_X2_X2_t_t A cI tt_24 v5.2) rfl hl.1 rfl (Nat.le_of_ble_eq_true rfl) dX2_row_30 ⟨Nat.le_of_ble_eq_true rfl, Nat.le_of_ble_eq_true rfl⟩ (fun H locs hP hD hS => ?_)
      have hP : va_P D vwCl (wM A cI v5.2) H := hP
      obtain rfl := Option.some.inj hf
      exact W.iret (v := v5.1) hx hb hr (fun t ht hW => ⟨⟨v5.1, (), rfl, rfl, hPt ht hP⟩, hS.F ht⟩) hS.2.2 dX2_row_33
  refine lv_if_ne (tgt := 24) hx hb dX2_row_9 (by decide) (fun c6 => ?_) (fun c6 => ?_)
  · have hf := hF hf c6
    exact (hWW _ _ _).mp (J24 _ _ _ _ _ hf hP hD hS (lv_sub hl [1, 2, 0] rfl))
  · have hf := hT hf c6
    refine lv_aload_n hx hb dX2_row_12 rfl (lv_at hl 1 rfl) ?_
    refine va_get (D := D) (ci := 2) (v := .int (tt 30 0)) (C := RX2) (T := TX2) (N := 31) hx hb hts hinM hown hK hP 0 rfl rfl 29 (by decide) lk1 (fun _ h9 => h9) rfl dX2_row_13 ?_
    refine lv_bipush (v := (16 : Int32)) hx hb dX2_row_16 (by decide) ?_
    refine lv_icmp_ne (tgt := 24) hx hb dX2_row_18 (by decide) (fun c7 => ?_) (fun c7 => ?_)
    · have hf := hF hf c7
      exact (hWW _ _ _).mp (J24 _ _ _ _ _ hf hP hD hS (lv_sub hl [1, 2, 0] rfl))
    · have hf := hT hf c7
      refine lv_bipush (v := (-6 : Int32)) hx hb dX2_row_21 (by decide) ?_
      refine lv_istore_n (lv' := [(2, .int (-6 : Int32)), (0, .ref (A 0)), (1, .int j1)]) hx hb dX2_row_23 rfl hl (by decide) rfl (fun ls hl => ?_)
      exact (hWW _ _ _).mp (J24 _ _ _ _ _ hf hP hD hS (lv_sub hl [1, 2, 0] rfl))
set_option maxHeartbeats 4000000 in
set_option maxRecDepth 100000 in
theorem c_X2_judge (l : Launch) (D : va_G) (cI : ClassId) (A : Nat → Nat) (tt : HS) (out : Int32 × HS) (hf : f_X2_judge tt = some out) : uI l D cI yX2_judge wsX2_judge ({ frames := 1, cells := 0, slots := 0, locals := 23 } : Room) [.ref (A 0)] (wM A cI tt) (wM A cI out.2) out.1 := by
  intro sz
  refine Met.ofW (cc := cX2_judge) (maxL := 3) (ret := (some .int)) (by decide) rfl ?_
  intro p e s m args below meth c s₁ Bd hml hv
  obtain ⟨rfl, hsz, hP, hK, hD0, hN⟩ := hv
  have hx := Bd.exec
  have hb := Bd.bytes
  have hr := Bd.returns
  have hts := atoms_spec (ws := wsX2_judge) Bd.pre
  have hown : s.vm.findClass RX2 = some m.cls := findClass_of_methodNamed Bd.named
  have hlocks := Bd.notSynchronized
  subst hsz
  have hD := hD0.self (sz := s.heap.size)
  generalize hAe : va_A (wM A cI tt) s.heap.size = G at hD ⊢
  have hA : ∀ q : Nat, s.heap.size ≤ q → G q := fun q h => by rw [← hAe]; exact Or.inr h
  have hS : va_S G s.heap s.heap [] := va_S.rf
  have hP : va_P D vwCl (wM A cI tt) s.heap := hP
  have hl := lv_entry ([.ref (A 0)]) (n := 3) (Nat.le_of_ble_eq_true rfl)
  rw [lg_entry_eq]
  generalize (lg_sl ([.ref (A 0)]) ++ List.replicate (3 - (lg_sl ([.ref (A 0)])).length) Slot.unset).toArray = ls at hl ⊢
  have hl : lv_has ls 3 [(0, .ref (A 0))] := hl
  have hinM : ∀ w ∈ wsX20, w ∈ wsX2_judge := by decide +kernel
  have lk0 := hts (.fieldLink RX2 299 "LiesBoughtBackModel" "rowMany" "I") (by decide +kernel)
  have lk1 := hts (.fieldLink RX2 67 "LiesBoughtBackModel" "cards" "I") (by decide +kernel)
  have lk2 := hts (.fieldLink RX2 64 "LiesBoughtBackModel" "row" "[I") (by decide +kernel)
  refine W_in ?_
  intro WW hWW
  refine (hWW _ _ _).mpr ?_
  unfold f_X2_judge at hf
  refine lv_aload_n hx hb dX2_judge_0 rfl (lv_at hl 0 rfl) ?_
  refine va_get (D := D) (ci := 2) (v := .int (tt 30 0)) (C := RX2) (T := TX2) (N := 31) hx hb hts hinM hown hK hP 0 rfl rfl 29 (by decide) lk0 (fun _ h9 => h9) rfl dX2_judge_1 ?_
  refine lv_istore_n (lv' := [(1, .int (tt 30 0)), (0, .ref (A 0))]) hx hb dX2_judge_4 rfl hl (by decide) rfl (fun ls hl => ?_)
  refine lv_aload_n hx hb dX2_judge_5 rfl (lv_at hl 1 rfl) ?_
  refine lv_iconst (v := (0 : Int32)) hx hb dX2_judge_6 (by decide) ?_
  obtain ⟨tt_v1, ett_v1, hf⟩ := jnS hf
  refine va_put (D := D) (ci := 2) (v := .int (0 : Int32)) (ty := .int) (C := RX2) (T := TX2) (N := 31) hx hb hts hinM tyX2 tyX2_ok nmX2 hown hK hP hD hS 0 rfl rfl 29 (by decide) lk0 (fun _ h9 => h9) rfl (by decide +kernel) rfl rfl (Nat.le_of_ble_eq_true rfl) dX2_judge_7 (fun H locs hP hD hS => ?_)
  have hE : _ = (wM A cI tt_v1) := ((sf_X2_t_30 A cI tt (0 : Int32)).trans (congrArg (fun z => wM A cI z) ett_v1.symm))
  have hP : va_P D vwCl (wM A cI tt_v1) H := hE ▸ hP
  have hD : va_D G (wM A cI tt_v1) := hE ▸ hD
  refine lv_iconst (v := (0 : Int32)) hx hb dX2_judge_10 (by decide) ?_
  refine lv_istore_n (lv' := [(2, .int (0 : Int32)), (1, .int (tt 30 0)), (0, .ref (A 0))]) hx hb dX2_judge_11 rfl hl (by decide) rfl (fun ls hl => ?_)
  obtain ⟨K47, hK47, hf⟩ := jnS hf
  have J47 : ∀ (tt_47 : HS) (H : Heap) (locs : List Loc) (ls : Array Slot), K47 tt_47 = some out → va_P D vwCl (wM A cI tt_47) H → va_D G (wM A cI tt_47) → va_S G s.heap H locs → lv_has ls 3 [] → WW H locs (F0 m 47 ls []) := by
    intro tt_47 H locs ls hf hP hD hS hl
    subst hK47
    refine (hWW _ _ _).mpr ?_
    refine lv_bipush (v := (-9 : Int32)) hx hb dX2_judge_47 (by decide) ?_
    obtain rfl := Option.some.inj hf
    exact W.iret (v := (-9 : Int32)) hx hb hr (fun t ht hW => ⟨⟨(-9 : Int32), (), rfl, rfl, hPt ht hP⟩, hS.F ht⟩) hS.2.2 dX2_judge_49
  have P12 : ∀ (n' : Nat) (j1_12 : Int32) (j2_12 : Int32) (tt_12 : HS) (H : Heap) (locs : List Loc) (ls : Array Slot), L_X2_judge_12  K47 n' j1_12 j2_12 tt_12 = some out → va_P D vwCl (wM A cI tt_12) H → va_D G (wM A cI tt_12) → va_S G s.heap H locs → lv_has ls 3 [(0, .ref (A 0)), (1, .int j1_12), (2, .int j2_12)] → WW H locs (F0 m 12 ls []) := by
    intro n'
    induction n' with
    | zero => intro j1_12 j2_12 tt_12 H locs ls hf; exact absurd (show (none : Option (Int32 × HS)) = some out from hf) (fun q => by cases q)
    | succ n' ih =>
      intro j1_12 j2_12 tt_12 H locs ls hf hP hD hS hl
      rw [L_X2_judge_12] at hf
      refine (hWW _ _ _).mpr ?_
      refine lv_iload_n hx hb dX2_judge_12 rfl (lv_at hl 2 rfl) ?_
      refine lv_iload_n hx hb dX2_judge_13 rfl (lv_at hl 1 rfl) ?_
      refine lv_icmp_ge (tgt := 47) hx hb dX2_judge_14 (by decide) (fun c2 => ?_) (fun c2 => ?_)
      · have hf := hT hf c2
        exact (hWW _ _ _).mp (J47 _ _ _ _ hf hP hD hS (lv_sub hl [] rfl))
      · have hf := hF hf c2
        refine lv_iload_n hx hb dX2_judge_17 rfl (lv_at hl 2 rfl) ?_
        refine lv_aload_n hx hb dX2_judge_18 rfl (lv_at hl 0 rfl) ?_
        refine va_get (D := D) (ci := 2) (v := .int (tt_12 20 0)) (C := RX2) (T := TX2) (N := 31) hx hb hts hinM hown hK hP 0 rfl rfl 11 (by decide) lk1 (fun _ h9 => h9) rfl dX2_judge_19 ?_
        refine lv_icmp_ge (tgt := 39) hx hb dX2_judge_22 (by decide) (fun c3 => ?_) (fun c3 => ?_)
        · have hf := hT hf c3
          refine lv_iload_n hx hb dX2_judge_39 rfl (lv_at hl 2 rfl) ?_
          obtain rfl := Option.some.inj hf
          exact W.iret (v := j2_12) hx hb hr (fun t ht hW => ⟨⟨j2_12, (), rfl, rfl, hPt ht hP⟩, hS.F ht⟩) hS.2.2 dX2_judge_40
        · have hf := hF hf c3
          refine lv_aload_n hx hb dX2_judge_25 rfl (lv_at hl 0 rfl) ?_
          refine lv_iload_n hx hb dX2_judge_26 rfl (lv_at hl 2 rfl) ?_
          obtain ⟨v4, hev4, hf⟩ := bS hf
          refine qV_i (As := [.int j2_12]) (rest := []) ⟨hx, hb, hml, hown, hts⟩ hK hN hA hP hD hS (c_X2_worth l D cI A j2_12 tt_12 v4 hev4) (cwV 1 hts gX2_judge_X2_worth rfl rfl rfl hd_X2_worth ⟨Nat.le_of_ble_eq_true rfl, Nat.le_of_ble_eq_true rfl⟩) (va_recv hK hP (ci := 2) (q0 := 0) rfl rfl) (bq_X2_X2_t A cI tt_12) rfl hl.1 rfl (Nat.le_of_ble_eq_true rfl) dX2_judge_27 ⟨Nat.le_of_ble_eq_true rfl, Nat.le_of_ble_eq_true rfl⟩ (fun H locs hP hD hS => ?_)
          refine lv_aload_n hx hb dX2_judge_30 rfl (lv_at hl 0 rfl) ?_
          refine va_get (D := D) (ci := 2) (v := .ref (A 19)) (C := RX2) (T := TX2) (N := 31) hx hb hts hinM hown hK hP 0 rfl rfl 28 (by decide) lk2 (fun _ h9 => h9) rfl dX2_judge_31 ?_
          refine lv_iload_n hx hb dX2_judge_34 rfl (lv_at hl 2 rfl) ?_
          obtain ⟨v5, he, hf⟩ := bS hf
          refine x_iald hx hb hK hP 19 (n := 16) rfl he dX2_judge_35 ?_
          refine lv_icmp_eq (tgt := 41) hx hb dX2_judge_36 (by decide) (fun c6 => ?_) (fun c6 => ?_)
          · have hf := hT hf c6
            refine lv_iinc (v := (j2_12 + (1 : Int32))) (lv' := [(2, .int (j2_12 + (1 : Int32))), (0, .ref (A 0)), (1, .int j1_12)]) hx hb dX2_judge_41 hl (k := 2) rfl rfl (by decide) rfl (fun ls hl => ?_)
            refine lv_goto (tgt := 12) hx hb dX2_judge_44 (by decide) ?_
            exact (hWW _ _ _).mp (ih _ _ _ _ _ _ hf hP hD hS (lv_sub hl [1, 2, 0] rfl))
          · have hf := hF hf c6
            refine lv_iload_n hx hb dX2_judge_39 rfl (lv_at hl 2 rfl) ?_
            obtain rfl := Option.some.inj hf
            exact W.iret (v := j2_12) hx hb hr (fun t ht hW => ⟨⟨j2_12, (), rfl, rfl, hPt ht hP⟩, hS.F ht⟩) hS.2.2 dX2_judge_40
  exact (hWW _ _ _).mp (P12 _ _ _ _ _ _ _ hf hP hD hS (lv_sub hl [2, 1, 0] rfl))
set_option maxHeartbeats 4000000 in
set_option maxRecDepth 100000 in
theorem c_X2_clear (l : Launch) (D : va_G) (cI : ClassId) (A : Nat → Nat) (tt : HS) (out : Int32 × HS) (hf : f_X2_clear tt = some out) : uI l D cI yX2_clear wsX2_clear ({ frames := 0, cells := 0, slots := 0, locals := 0 } : Room) [.ref (A 0)] (wM A cI tt) (wM A cI out.2) out.1 := by
  intro sz
  refine Met.ofW (cc := cX2_clear) (maxL := 2) (ret := (some .int)) (by decide) rfl ?_
  intro p e s m args below meth c s₁ Bd hml hv
  obtain ⟨rfl, hsz, hP, hK, hD0, hN⟩ := hv
  have hx := Bd.exec
  have hb := Bd.bytes
  have hr := Bd.returns
  have hts := atoms_spec (ws := wsX2_clear) Bd.pre
  have hown : s.vm.findClass RX2 = some m.cls := findClass_of_methodNamed Bd.named
  have hlocks := Bd.notSynchronized
  subst hsz
  have hD := hD0.self (sz := s.heap.size)
  generalize hAe : va_A (wM A cI tt) s.heap.size = G at hD ⊢
  have hA : ∀ q : Nat, s.heap.size ≤ q → G q := fun q h => by rw [← hAe]; exact Or.inr h
  have hS : va_S G s.heap s.heap [] := va_S.rf
  have hP : va_P D vwCl (wM A cI tt) s.heap := hP
  have hl := lv_entry ([.ref (A 0)]) (n := 2) (Nat.le_of_ble_eq_true rfl)
  rw [lg_entry_eq]
  generalize (lg_sl ([.ref (A 0)]) ++ List.replicate (2 - (lg_sl ([.ref (A 0)])).length) Slot.unset).toArray = ls at hl ⊢
  have hl : lv_has ls 2 [(0, .ref (A 0))] := hl
  have hinM : ∀ w ∈ wsX20, w ∈ wsX2_clear := by decide +kernel
  have lk0 := hts (.fieldLink RX2 299 "LiesBoughtBackModel" "rowMany" "I") (by decide +kernel)
  refine W_in ?_
  intro WW hWW
  refine (hWW _ _ _).mpr ?_
  unfold f_X2_clear at hf
  refine lv_aload_n hx hb dX2_clear_0 rfl (lv_at hl 0 rfl) ?_
  refine va_get (D := D) (ci := 2) (v := .int (tt 30 0)) (C := RX2) (T := TX2) (N := 31) hx hb hts hinM hown hK hP 0 rfl rfl 29 (by decide) lk0 (fun _ h9 => h9) rfl dX2_clear_1 ?_
  refine lv_istore_n (lv' := [(1, .int (tt 30 0)), (0, .ref (A 0))]) hx hb dX2_clear_4 rfl hl (by decide) rfl (fun ls hl => ?_)
  refine lv_aload_n hx hb dX2_clear_5 rfl (lv_at hl 1 rfl) ?_
  refine lv_iconst (v := (0 : Int32)) hx hb dX2_clear_6 (by decide) ?_
  obtain ⟨tt_v1, ett_v1, hf⟩ := jnS hf
  refine va_put (D := D) (ci := 2) (v := .int (0 : Int32)) (ty := .int) (C := RX2) (T := TX2) (N := 31) hx hb hts hinM tyX2 tyX2_ok nmX2 hown hK hP hD hS 0 rfl rfl 29 (by decide) lk0 (fun _ h9 => h9) rfl (by decide +kernel) rfl rfl (Nat.le_of_ble_eq_true rfl) dX2_clear_7 (fun H locs hP hD hS => ?_)
  have hE : _ = (wM A cI tt_v1) := ((sf_X2_t_30 A cI tt (0 : Int32)).trans (congrArg (fun z => wM A cI z) ett_v1.symm))
  have hP : va_P D vwCl (wM A cI tt_v1) H := hE ▸ hP
  have hD : va_D G (wM A cI tt_v1) := hE ▸ hD
  refine lv_iload_n hx hb dX2_clear_10 rfl (lv_at hl 0 rfl) ?_
  obtain rfl := Option.some.inj hf
  exact W.iret (v := (tt 30 0)) hx hb hr (fun t ht hW => ⟨⟨(tt 30 0), (), rfl, rfl, hPt ht hP⟩, hS.F ht⟩) hS.2.2 dX2_clear_11
set_option maxHeartbeats 4000000 in
set_option maxRecDepth 100000 in
theorem c_X2_draw (l : Launch) (D : va_G) (cI : ClassId) (A : Nat → Nat) (j1 : Int32) (tt : HS) (out : Int32 × HS) (hf : f_X2_draw j1 tt = some out) : uI l D cI yX2_draw wsX2_draw ({ frames := 0, cells := 0, slots := 0, locals := 0 } : Room) [.ref (A 0), .int j1] (wM A cI tt) (wM A cI out.2) out.1 := by
  intro sz
  refine Met.ofW (cc := cX2_draw) (maxL := 2) (ret := (some .int)) (by decide) rfl ?_
  intro p e s m args below meth c s₁ Bd hml hv
  obtain ⟨rfl, hsz, hP, hK, hD0, hN⟩ := hv
  have hx := Bd.exec
  have hb := Bd.bytes
  have hr := Bd.returns
  have hts := atoms_spec (ws := wsX2_draw) Bd.pre
  have hown : s.vm.findClass RX2 = some m.cls := findClass_of_methodNamed Bd.named
  have hlocks := Bd.notSynchronized
  subst hsz
  have hD := hD0.self (sz := s.heap.size)
  generalize hAe : va_A (wM A cI tt) s.heap.size = G at hD ⊢
  have hA : ∀ q : Nat, s.heap.size ≤ q → G q := fun q h => by rw [← hAe]; exact Or.inr h
  have hS : va_S G s.heap s.heap [] := va_S.rf
  have hP : va_P D vwCl (wM A cI tt) s.heap := hP
  have hl := lv_entry ([.ref (A 0), .int j1]) (n := 2) (Nat.le_of_ble_eq_true rfl)
  rw [lg_entry_eq]
  generalize (lg_sl ([.ref (A 0), .int j1]) ++ List.replicate (2 - (lg_sl ([.ref (A 0), .int j1])).length) Slot.unset).toArray = ls at hl ⊢
  have hl : lv_has ls 2 [(0, .ref (A 0)), (1, .int j1)] := hl
  have hinM : ∀ w ∈ wsX20, w ∈ wsX2_draw := by decide +kernel
  have lk0 := hts (.fieldLink RX2 308 "LiesBoughtBackModel" "lots" "I") (by decide +kernel)
  have lk1 := hts (.constant RX2 311 (1664525)) (by decide +kernel)
  have lk2 := hts (.constant RX2 312 (1013904223)) (by decide +kernel)
  have lk3 := hts (.constant RX2 313 (2147483647)) (by decide +kernel)
  refine W_in ?_
  intro WW hWW
  refine (hWW _ _ _).mpr ?_
  unfold f_X2_draw at hf
  refine lv_aload_n hx hb dX2_draw_0 rfl (lv_at hl 0 rfl) ?_
  refine lv_aload_n hx hb dX2_draw_1 rfl (lv_at hl 0 rfl) ?_
  refine va_get (D := D) (ci := 2) (v := .int (tt 31 0)) (C := RX2) (T := TX2) (N := 31) hx hb hts hinM hown hK hP 0 rfl rfl 30 (by decide) lk0 (fun _ h9 => h9) rfl dX2_draw_2 ?_
  refine lv_ldcw (v := (1664525 : Int32)) hx hb hown lk1 dX2_draw_5 ?_
  refine lv_imul hx hb dX2_draw_8 ?_
  refine lv_ldcw (v := (1013904223 : Int32)) hx hb hown lk2 dX2_draw_9 ?_
  refine lv_iadd hx hb dX2_draw_12 ?_
  obtain ⟨tt_v1, ett_v1, hf⟩ := jnS hf
  refine va_put (D := D) (ci := 2) (v := .int (((tt 31 0) * (1664525 : Int32)) + (1013904223 : Int32))) (ty := .int) (C := RX2) (T := TX2) (N := 31) hx hb hts hinM tyX2 tyX2_ok nmX2 hown hK hP hD hS 0 rfl rfl 30 (by decide) lk0 (fun _ h9 => h9) rfl (by decide +kernel) rfl rfl (Nat.le_of_ble_eq_true rfl) dX2_draw_13 (fun H locs hP hD hS => ?_)
  have hE : _ = (wM A cI tt_v1) := ((sf_X2_t_31 A cI tt (((tt 31 0) * (1664525 : Int32)) + (1013904223 : Int32))).trans (congrArg (fun z => wM A cI z) ett_v1.symm))
  have hP : va_P D vwCl (wM A cI tt_v1) H := hE ▸ hP
  have hD : va_D G (wM A cI tt_v1) := hE ▸ hD
  refine lv_aload_n hx hb dX2_draw_16 rfl (lv_at hl 0 rfl) ?_
  refine va_get (D := D) (ci := 2) (v := .int (tt_v1 31 0)) (C := RX2) (T := TX2) (N := 31) hx hb hts hinM hown hK hP 0 rfl rfl 30 (by decide) lk0 (fun _ h9 => h9) rfl dX2_draw_17 ?_
  refine lv_ldcw (v := (2147483647 : Int32)) hx hb hown lk3 dX2_draw_20 ?_
  refine lv_iand hx hb dX2_draw_23 ?_
  refine lv_sipush (v := (256 : Int32)) hx hb dX2_draw_24 (by decide) ?_
  refine lv_idiv hx hb dX2_draw_27 (by decide) ?_
  refine lv_iload_n hx hb dX2_draw_28 rfl (lv_at hl 1 rfl) ?_
  obtain ⟨c2, hf⟩ := nzS hf
  refine lv_irem hx hb dX2_draw_29 c2 ?_
  obtain rfl := Option.some.inj hf
  exact W.iret (v := ((((tt_v1 31 0) &&& (2147483647 : Int32)) / (256 : Int32)) - (((tt_v1 31 0) &&& (2147483647 : Int32)) / (256 : Int32)) / j1 * j1)) hx hb hr (fun t ht hW => ⟨⟨((((tt_v1 31 0) &&& (2147483647 : Int32)) / (256 : Int32)) - (((tt_v1 31 0) &&& (2147483647 : Int32)) / (256 : Int32)) / j1 * j1), (), rfl, rfl, hPt ht hP⟩, hS.F ht⟩) hS.2.2 dX2_draw_30
set_option maxHeartbeats 4000000 in
set_option maxRecDepth 100000 in
theorem c_X2_lots (l : Launch) (D : va_G) (cI : ClassId) (A : Nat → Nat) (j1 : Int32) (j2 : Int32) (j3 : Int32) (tt : HS) (out : Int32 × HS) (hf : f_X2_lots j1 j2 j3 tt = some out) : uI l D cI yX2_lots wsX2_lots ({ frames := 9, cells := 0, slots := 0, locals := 204 } : Room) [.ref (A 0), .int j1, .int j2, .int j3] (wM A cI tt) (wM A cI out.2) out.1 := by
  intro sz
  refine Met.ofW (cc := cX2_lots) (maxL := 8) (ret := (some .int)) (by decide) rfl ?_
  intro p e s m args below meth c s₁ Bd hml hv
  obtain ⟨rfl, hsz, hP, hK, hD0, hN⟩ := hv
  have hx := Bd.exec
  have hb := Bd.bytes
  have hr := Bd.returns
  have hts := atoms_spec (ws := wsX2_lots) Bd.pre
  have hown : s.vm.findClass RX2 = some m.cls := findClass_of_methodNamed Bd.named
  have hlocks := Bd.notSynchronized
  subst hsz
  have hD := hD0.self (sz := s.heap.size)
  generalize hAe : va_A (wM A cI tt) s.heap.size = G at hD ⊢
  have hA : ∀ q : Nat, s.heap.size ≤ q → G q := fun q h => by rw [← hAe]; exact Or.inr h
  have hS : va_S G s.heap s.heap [] := va_S.rf
  have hP : va_P D vwCl (wM A cI tt) s.heap := hP
  have hl := lv_entry ([.ref (A 0), .int j1, .int j2, .int j3]) (n := 8) (Nat.le_of_ble_eq_true rfl)
  rw [lg_entry_eq]
  generalize (lg_sl ([.ref (A 0), .int j1, .int j2, .int j3]) ++ List.replicate (8 - (lg_sl ([.ref (A 0), .int j1, .int j2, .int j3])).length) Slot.unset).toArray = ls at hl ⊢
  have hl : lv_has ls 8 [(0, .ref (A 0)), (1, .int j1), (2, .int j2), (3, .int j3)] := hl
  have hinM : ∀ w ∈ wsX20, w ∈ wsX2_lots := by decide +kernel
  have lk0 := hts (.fieldLink RX2 308 "LiesBoughtBackModel" "lots" "I") (by decide +kernel)
  have lk1 := hts (.fieldLink RX2 40 "LiesBoughtBackModel" "belief" "[I") (by decide +kernel)
  have lk2 := hts (.fieldLink RX2 73 "LiesBoughtBackModel" "bidders" "I") (by decide +kernel)
  have lk3 := hts (.fieldLink RX2 67 "LiesBoughtBackModel" "cards" "I") (by decide +kernel)
  have lk4 := hts (.fieldLink RX2 25 "LiesBoughtBackModel" "holder" "[I") (by decide +kernel)
  have lk5 := hts (.fieldLink RX2 37 "LiesBoughtBackModel" "purse" "[I") (by decide +kernel)
  refine W_in ?_
  intro WW hWW
  refine (hWW _ _ _).mpr ?_
  unfold f_X2_lots at hf
  refine lv_iload_n hx hb dX2_lots_0 rfl (lv_at hl 1 rfl) ?_
  refine lv_iconst (v := (1 : Int32)) hx hb dX2_lots_1 (by decide) ?_
  refine lv_bipush (v := (20 : Int32)) hx hb dX2_lots_2 (by decide) ?_
  refine qS_i (As := [.int j1, .int (1 : Int32), .int (20 : Int32)]) (rest := []) ⟨hx, hb, hml, hown, hts⟩ hK hN hA hP hD hS (c_X2_bound l D cI j1 (1 : Int32) (20 : Int32) (f_X2_bound j1 (1 : Int32) (20 : Int32)) rfl) (va_cwS 3 hts gX2_lots_X2_bound rfl rfl rfl hd_X2_bound.2 ⟨Nat.le_of_ble_eq_true rfl, Nat.le_of_ble_eq_true rfl⟩) Bp_e rfl hl.1 rfl (Nat.le_of_ble_eq_true rfl) dX2_lots_4 ⟨Nat.le_of_ble_eq_true rfl, Nat.le_of_ble_eq_true rfl⟩ (fun H locs hP hD hS => ?_)
  refine lv_istore (lv' := [(4, .int (f_X2_bound j1 (1 : Int32) (20 : Int32))), (0, .ref (A 0)), (1, .int j1), (2, .int j2), (3, .int j3)]) hx hb dX2_lots_7 hl (by decide) rfl (fun ls hl => ?_)
  refine lv_iload hx hb dX2_lots_9 (lv_at hl 0 rfl) ?_
  obtain ⟨K27, hK27, hf⟩ := jnS hf
  have J27 : ∀ (j4_27 : Int32) (tt_27 : HS) (H : Heap) (locs : List Loc) (ls : Array Slot), K27 j4_27 tt_27 = some out → va_P D vwCl (wM A cI tt_27) H → va_D G (wM A cI tt_27) → va_S G s.heap H locs → lv_has ls 8 [(0, .ref (A 0)), (1, .int j1), (2, .int j2), (3, .int j3), (4, .int j4_27)] → WW H locs (F0 m 27 ls []) := by
    intro j4_27 tt_27 H locs ls hf hP hD hS hl
    subst hK27
    refine (hWW _ _ _).mpr ?_
    refine lv_iload hx hb dX2_lots_27 (lv_at hl 4 rfl) ?_
    refine lv_if_eq (tgt := 39) hx hb dX2_lots_29 (by decide) (fun c1 => ?_) (fun c1 => ?_)
    · have hf := hT hf c1
      refine lv_aload_n hx hb dX2_lots_39 rfl (lv_at hl 0 rfl) ?_
      refine lv_iload_n hx hb dX2_lots_40 rfl (lv_at hl 2 rfl) ?_
      obtain ⟨tt_v2, ett_v2, hf⟩ := jnS hf
      refine va_put (D := D) (ci := 2) (v := .int j2) (ty := .int) (C := RX2) (T := TX2) (N := 31) hx hb hts hinM tyX2 tyX2_ok nmX2 hown hK hP hD hS 0 rfl rfl 30 (by decide) lk0 (fun _ h9 => h9) rfl (by decide +kernel) rfl rfl (Nat.le_of_ble_eq_true rfl) dX2_lots_41 (fun H locs hP hD hS => ?_)
      have hE : _ = (wM A cI tt_v2) := ((sf_X2_t_31 A cI tt_27 j2).trans (congrArg (fun z => wM A cI z) ett_v2.symm))
      have hP : va_P D vwCl (wM A cI tt_v2) H := hE ▸ hP
      have hD : va_D G (wM A cI tt_v2) := hE ▸ hD
      refine lv_iconst (v := (0 : Int32)) hx hb dX2_lots_44 (by decide) ?_
      refine lv_istore (lv' := [(5, .int (0 : Int32)), (0, .ref (A 0)), (1, .int j1), (2, .int j2), (3, .int j3), (4, .int j4_27)]) hx hb dX2_lots_45 hl (by decide) rfl (fun ls hl => ?_)
      refine lv_iconst (v := (0 : Int32)) hx hb dX2_lots_47 (by decide) ?_
      refine lv_istore (lv' := [(6, .int (0 : Int32)), (5, .int (0 : Int32)), (0, .ref (A 0)), (1, .int j1), (2, .int j2), (3, .int j3), (4, .int j4_27)]) hx hb dX2_lots_48 hl (by decide) rfl (fun ls hl => ?_)
      obtain ⟨K168, hK168, hf⟩ := jnS hf
      have J168 : ∀ (j5_168 : Int32) (tt_168 : HS) (H : Heap) (locs : List Loc) (ls : Array Slot), K168 j5_168 tt_168 = some out → va_P D vwCl (wM A cI tt_168) H → va_D G (wM A cI tt_168) → va_S G s.heap H locs → lv_has ls 8 [(5, .int j5_168)] → WW H locs (F0 m 168 ls []) := by
        intro j5_168 tt_168 H locs ls hf hP hD hS hl
        subst hK168
        refine (hWW _ _ _).mpr ?_
        refine lv_iload hx hb dX2_lots_168 (lv_at hl 0 rfl) ?_
        obtain rfl := Option.some.inj hf
        exact W.iret (v := j5_168) hx hb hr (fun t ht hW => ⟨⟨j5_168, (), rfl, rfl, hPt ht hP⟩, hS.F ht⟩) hS.2.2 dX2_lots_170
      have P50 : ∀ (n' : Nat) (j5_50 : Int32) (j6_50 : Int32) (tt_50 : HS) (H : Heap) (locs : List Loc) (ls : Array Slot), L_X2_lots_50 j1 j2 j3 K168 n' j5_50 j6_50 tt_50 = some out → va_P D vwCl (wM A cI tt_50) H → va_D G (wM A cI tt_50) → va_S G s.heap H locs → lv_has ls 8 [(0, .ref (A 0)), (1, .int j1), (3, .int j3), (5, .int j5_50), (6, .int j6_50)] → WW H locs (F0 m 50 ls []) := by
        intro n'
        induction n' with
        | zero => intro j5_50 j6_50 tt_50 H locs ls hf; exact absurd (show (none : Option (Int32 × HS)) = some out from hf) (fun q => by cases q)
        | succ n' ih =>
          intro j5_50 j6_50 tt_50 H locs ls hf hP hD hS hl
          rw [L_X2_lots_50] at hf
          refine (hWW _ _ _).mpr ?_
          refine lv_iload hx hb dX2_lots_50 (lv_at hl 4 rfl) ?_
          refine lv_iload_n hx hb dX2_lots_52 rfl (lv_at hl 1 rfl) ?_
          refine lv_icmp_ge (tgt := 168) hx hb dX2_lots_53 (by decide) (fun c3 => ?_) (fun c3 => ?_)
          · have hf := hT hf c3
            exact (hWW _ _ _).mp (J168 _ _ _ _ _ hf hP hD hS (lv_sub hl [3] rfl))
          · have hf := hF hf c3
            refine lv_aload_n hx hb dX2_lots_56 rfl (lv_at hl 0 rfl) ?_
            obtain ⟨v4, hev4, hf⟩ := bS hf
            refine qV_v (ws' := (wM A cI v4)) (As := []) (rest := []) ⟨hx, hb, hml, hown, hts⟩ hK hN hA hP hD hS (c_X2_thinks l D cI A tt_50 v4 hev4) (cwV 0 hts gX2_lots_X2_thinks rfl rfl rfl hd_X2_thinks ⟨Nat.le_of_ble_eq_true rfl, Nat.le_of_ble_eq_true rfl⟩) (va_recv hK hP (ci := 2) (q0 := 0) rfl rfl) (bp_X2_X2_t_t A cI tt_50 v4) rfl hl.1 rfl (Nat.le_of_ble_eq_true rfl) dX2_lots_57 ⟨Nat.le_of_ble_eq_true rfl, Nat.le_of_ble_eq_true rfl⟩ (fun H locs hP hD hS => ?_)
            have hP : va_P D vwCl (wM A cI v4) H := hP
            refine lv_iconst (v := (0 : Int32)) hx hb dX2_lots_60 (by decide) ?_
            refine lv_istore (lv' := [(7, .int (0 : Int32)), (0, .ref (A 0)), (1, .int j1), (3, .int j3), (5, .int j5_50), (6, .int j6_50)]) hx hb dX2_lots_61 hl (by decide) rfl (fun ls hl => ?_)
            obtain ⟨K91, hK91, hf⟩ := jnS hf
            have J91 : ∀ (j5_91 : Int32) (j6_91 : Int32) (tt_91 : HS) (H : Heap) (locs : List Loc) (ls : Array Slot), K91 j5_91 j6_91 tt_91 = some out → va_P D vwCl (wM A cI tt_91) H → va_D G (wM A cI tt_91) → va_S G s.heap H locs → lv_has ls 8 [(0, .ref (A 0)), (1, .int j1), (3, .int j3), (5, .int j5_91), (6, .int j6_91)] → WW H locs (F0 m 91 ls []) := by
              intro j5_91 j6_91 tt_91 H locs ls hf hP hD hS hl
              subst hK91
              refine (hWW _ _ _).mpr ?_
              refine lv_iconst (v := (0 : Int32)) hx hb dX2_lots_91 (by decide) ?_
              refine lv_istore (lv' := [(7, .int (0 : Int32)), (0, .ref (A 0)), (1, .int j1), (3, .int j3), (5, .int j5_91), (6, .int j6_91)]) hx hb dX2_lots_92 hl (by decide) rfl (fun ls hl => ?_)
              obtain ⟨K117, hK117, hf⟩ := jnS hf
              have J117 : ∀ (j5_117 : Int32) (j6_117 : Int32) (tt_117 : HS) (H : Heap) (locs : List Loc) (ls : Array Slot), K117 j5_117 j6_117 tt_117 = some out → va_P D vwCl (wM A cI tt_117) H → va_D G (wM A cI tt_117) → va_S G s.heap H locs → lv_has ls 8 [(0, .ref (A 0)), (1, .int j1), (3, .int j3), (5, .int j5_117), (6, .int j6_117)] → WW H locs (F0 m 117 ls []) := by
                intro j5_117 j6_117 tt_117 H locs ls hf hP hD hS hl
                subst hK117
                refine (hWW _ _ _).mpr ?_
                refine lv_aload_n hx hb dX2_lots_117 rfl (lv_at hl 0 rfl) ?_
                refine lv_iconst (v := (2 : Int32)) hx hb dX2_lots_118 (by decide) ?_
                obtain ⟨v5, hev5, hf⟩ := bS hf
                refine qV_v (ws' := (wM A cI v5)) (As := [.int (2 : Int32)]) (rest := []) ⟨hx, hb, hml, hown, hts⟩ hK hN hA hP hD hS (c_X2_goes l D cI A (2 : Int32) tt_117 v5 hev5) (cwV 1 hts gX2_lots_X2_goes rfl rfl rfl hd_X2_goes ⟨Nat.le_of_ble_eq_true rfl, Nat.le_of_ble_eq_true rfl⟩) (va_recv hK hP (ci := 2) (q0 := 0) rfl rfl) (bp_X2_X2_t_t A cI tt_117 v5) rfl hl.1 rfl (Nat.le_of_ble_eq_true rfl) dX2_lots_119 ⟨Nat.le_of_ble_eq_true rfl, Nat.le_of_ble_eq_true rfl⟩ (fun H locs hP hD hS => ?_)
                have hP : va_P D vwCl (wM A cI v5) H := hP
                refine lv_iload hx hb dX2_lots_122 (lv_at hl 3 rfl) ?_
                refine lv_iload_n hx hb dX2_lots_124 rfl (lv_at hl 2 rfl) ?_
                refine lv_if_ne (tgt := 143) hx hb dX2_lots_125 (by decide) (fun c6 => ?_) (fun c6 => ?_)
                · have hf := hF hf c6
                  refine lv_aload_n hx hb dX2_lots_143 rfl (lv_at hl 0 rfl) ?_
                  refine lv_aload_n hx hb dX2_lots_144 rfl (lv_at hl 0 rfl) ?_
                  refine va_get (D := D) (ci := 2) (v := .ref (A 11)) (C := RX2) (T := TX2) (N := 31) hx hb hts hinM hown hK hP 0 rfl rfl 10 (by decide) lk1 (fun _ h9 => h9) rfl dX2_lots_145 ?_
                  refine lv_aload_n hx hb dX2_lots_148 rfl (lv_at hl 0 rfl) ?_
                  refine va_get (D := D) (ci := 2) (v := .int (v5 21 0)) (C := RX2) (T := TX2) (N := 31) hx hb hts hinM hown hK hP 0 rfl rfl 12 (by decide) lk2 (fun _ h9 => h9) rfl dX2_lots_149 ?_
                  obtain ⟨v7, hev7, hf⟩ := bS hf
                  refine qV_i (As := [.ref (A 11), .int (v5 21 0)]) (rest := [.int j5_117]) ⟨hx, hb, hml, hown, hts⟩ hK hN hA hP hD hS (c_X2_allOf_10 l D cI A (v5 21 0) v5 v7 hev7) (cwV 2 hts gX2_lots_X2_allOf rfl rfl rfl hd_X2_allOf ⟨Nat.le_of_ble_eq_true rfl, Nat.le_of_ble_eq_true rfl⟩) (va_recv hK hP (ci := 2) (q0 := 0) rfl rfl) (bq_X2_X2_t A cI v5) rfl hl.1 rfl (Nat.le_of_ble_eq_true rfl) dX2_lots_152 ⟨Nat.le_of_ble_eq_true rfl, Nat.le_of_ble_eq_true rfl⟩ (fun H locs hP hD hS => ?_)
                  refine lv_iadd hx hb dX2_lots_155 ?_
                  refine lv_istore (lv' := [(5, .int (j5_117 + v7)), (0, .ref (A 0)), (1, .int j1), (3, .int j3), (6, .int j6_117)]) hx hb dX2_lots_156 hl (by decide) rfl (fun ls hl => ?_)
                  refine lv_aload_n hx hb dX2_lots_158 rfl (lv_at hl 1 rfl) ?_
                  obtain ⟨v8, hev8, hf⟩ := bS hf
                  refine qV_v (ws' := (wM A cI v8)) (As := []) (rest := []) ⟨hx, hb, hml, hown, hts⟩ hK hN hA hP hD hS (c_X2_forgets l D cI A v5 v8 hev8) (cwV 0 hts gX2_lots_X2_forgets rfl rfl rfl hd_X2_forgets ⟨Nat.le_of_ble_eq_true rfl, Nat.le_of_ble_eq_true rfl⟩) (va_recv hK hP (ci := 2) (q0 := 0) rfl rfl) (bp_X2_X2_t_t A cI v5 v8) rfl hl.1 rfl (Nat.le_of_ble_eq_true rfl) dX2_lots_159 ⟨Nat.le_of_ble_eq_true rfl, Nat.le_of_ble_eq_true rfl⟩ (fun H locs hP hD hS => ?_)
                  have hP : va_P D vwCl (wM A cI v8) H := hP
                  refine lv_iinc (v := (j6_117 + (1 : Int32))) (lv' := [(6, .int (j6_117 + (1 : Int32))), (5, .int (j5_117 + v7)), (0, .ref (A 0)), (1, .int j1), (3, .int j3)]) hx hb dX2_lots_162 hl (k := 4) rfl rfl (by decide) rfl (fun ls hl => ?_)
                  refine lv_goto (tgt := 50) hx hb dX2_lots_165 (by decide) ?_
                  exact (hWW _ _ _).mp (ih _ _ _ _ _ _ hf hP hD hS (lv_sub hl [2, 3, 4, 1, 0] rfl))
                · have hf := hT hf c6
                  refine lv_aload_n hx hb dX2_lots_128 rfl (lv_at hl 0 rfl) ?_
                  refine va_get (D := D) (ci := 2) (v := .int (v5 20 0)) (C := RX2) (T := TX2) (N := 31) hx hb hts hinM hown hK hP 0 rfl rfl 11 (by decide) lk3 (fun _ h9 => h9) rfl dX2_lots_129 ?_
                  refine lv_aload_n hx hb dX2_lots_132 rfl (lv_at hl 0 rfl) ?_
                  obtain ⟨v9, hev9, hf⟩ := bS hf
                  refine qV_i (As := []) (rest := [.int (v5 20 0), .int j5_117]) ⟨hx, hb, hml, hown, hts⟩ hK hN hA hP hD hS (c_X2_pile l D cI A v5 v9 hev9) (cwV 0 hts gX2_lots_X2_pile rfl rfl rfl hd_X2_pile ⟨Nat.le_of_ble_eq_true rfl, Nat.le_of_ble_eq_true rfl⟩) (va_recv hK hP (ci := 2) (q0 := 0) rfl rfl) (bq_X2_X2_t A cI v5) rfl hl.1 rfl (Nat.le_of_ble_eq_true rfl) dX2_lots_133 ⟨Nat.le_of_ble_eq_true rfl, Nat.le_of_ble_eq_true rfl⟩ (fun H locs hP hD hS => ?_)
                  obtain ⟨v10, hev10, hf⟩ := bS hf
                  refine qS_i (As := [.int v9]) (rest := [.int (v5 20 0), .int j5_117]) ⟨hx, hb, hml, hown, hts⟩ hK hN hA hP hD hS (c_X2_bits l D cI v9 v10 hev10) (va_cwS 1 hts gX2_lots_X2_bits rfl rfl rfl hd_X2_bits.2 ⟨Nat.le_of_ble_eq_true rfl, Nat.le_of_ble_eq_true rfl⟩) Bp_e rfl hl.1 rfl (Nat.le_of_ble_eq_true rfl) dX2_lots_136 ⟨Nat.le_of_ble_eq_true rfl, Nat.le_of_ble_eq_true rfl⟩ (fun H locs hP hD hS => ?_)
                  refine lv_isub hx hb dX2_lots_139 ?_
                  refine lv_goto (tgt := 155) hx hb dX2_lots_140 (by decide) ?_
                  refine lv_iadd hx hb dX2_lots_155 ?_
                  refine lv_istore (lv' := [(5, .int (j5_117 + ((v5 20 0) - v10))), (0, .ref (A 0)), (1, .int j1), (3, .int j3), (6, .int j6_117)]) hx hb dX2_lots_156 hl (by decide) rfl (fun ls hl => ?_)
                  refine lv_aload_n hx hb dX2_lots_158 rfl (lv_at hl 1 rfl) ?_
                  obtain ⟨v11, hev11, hf⟩ := bS hf
                  refine qV_v (ws' := (wM A cI v11)) (As := []) (rest := []) ⟨hx, hb, hml, hown, hts⟩ hK hN hA hP hD hS (c_X2_forgets l D cI A v5 v11 hev11) (cwV 0 hts gX2_lots_X2_forgets rfl rfl rfl hd_X2_forgets ⟨Nat.le_of_ble_eq_true rfl, Nat.le_of_ble_eq_true rfl⟩) (va_recv hK hP (ci := 2) (q0 := 0) rfl rfl) (bp_X2_X2_t_t A cI v5 v11) rfl hl.1 rfl (Nat.le_of_ble_eq_true rfl) dX2_lots_159 ⟨Nat.le_of_ble_eq_true rfl, Nat.le_of_ble_eq_true rfl⟩ (fun H locs hP hD hS => ?_)
                  have hP : va_P D vwCl (wM A cI v11) H := hP
                  refine lv_iinc (v := (j6_117 + (1 : Int32))) (lv' := [(6, .int (j6_117 + (1 : Int32))), (5, .int (j5_117 + ((v5 20 0) - v10))), (0, .ref (A 0)), (1, .int j1), (3, .int j3)]) hx hb dX2_lots_162 hl (k := 4) rfl rfl (by decide) rfl (fun ls hl => ?_)
                  refine lv_goto (tgt := 50) hx hb dX2_lots_165 (by decide) ?_
                  exact (hWW _ _ _).mp (ih _ _ _ _ _ _ hf hP hD hS (lv_sub hl [2, 3, 4, 1, 0] rfl))
              have P94 : ∀ (n' : Nat) (j5_94 : Int32) (j6_94 : Int32) (j7_94 : Int32) (tt_94 : HS) (H : Heap) (locs : List Loc) (ls : Array Slot), L_X2_lots_94 j1 j2 j3 K117 n' j5_94 j6_94 j7_94 tt_94 = some out → va_P D vwCl (wM A cI tt_94) H → va_D G (wM A cI tt_94) → va_S G s.heap H locs → lv_has ls 8 [(0, .ref (A 0)), (1, .int j1), (3, .int j3), (5, .int j5_94), (6, .int j6_94), (7, .int j7_94)] → WW H locs (F0 m 94 ls []) := by
                intro n'
                induction n' with
                | zero => intro j5_94 j6_94 j7_94 tt_94 H locs ls hf; exact absurd (show (none : Option (Int32 × HS)) = some out from hf) (fun q => by cases q)
                | succ n' ih =>
                  intro j5_94 j6_94 j7_94 tt_94 H locs ls hf hP hD hS hl
                  rw [L_X2_lots_94] at hf
                  refine (hWW _ _ _).mpr ?_
                  refine lv_iload hx hb dX2_lots_94 (lv_at hl 5 rfl) ?_
                  refine lv_aload_n hx hb dX2_lots_96 rfl (lv_at hl 0 rfl) ?_
                  refine va_get (D := D) (ci := 2) (v := .int (tt_94 20 0)) (C := RX2) (T := TX2) (N := 31) hx hb hts hinM hown hK hP 0 rfl rfl 11 (by decide) lk3 (fun _ h9 => h9) rfl dX2_lots_97 ?_
                  refine lv_icmp_ge (tgt := 117) hx hb dX2_lots_100 (by decide) (fun c12 => ?_) (fun c12 => ?_)
                  · have hf := hT hf c12
                    exact (hWW _ _ _).mp (J117 _ _ _ _ _ _ hf hP hD hS (lv_sub hl [0, 1, 2, 3, 4] rfl))
                  · have hf := hF hf c12
                    refine lv_aload_n hx hb dX2_lots_103 rfl (lv_at hl 0 rfl) ?_
                    refine va_get (D := D) (ci := 2) (v := .ref (A 6)) (C := RX2) (T := TX2) (N := 31) hx hb hts hinM hown hK hP 0 rfl rfl 5 (by decide) lk4 (fun _ h9 => h9) rfl dX2_lots_104 ?_
                    refine lv_iload hx hb dX2_lots_107 (lv_at hl 5 rfl) ?_
                    refine lv_iconst (v := (0 : Int32)) hx hb dX2_lots_109 (by decide) ?_
                    obtain ⟨v13, he, hf⟩ := bS hf
                    obtain ⟨tt_v14, ett_v14, hf⟩ := jnS hf
                    refine x_iast (ws' := (wM A cI tt_v14)) hx hb hK hP hD hS 6 (n := 8) rfl he ((sa_X2_t_5 A cI tt_94 v13).trans (congrArg (fun z => wM A cI z) ett_v14.symm)) dX2_lots_110 (fun H locs hP hD hS => ?_)
                    refine lv_iinc (v := (j7_94 + (1 : Int32))) (lv' := [(7, .int (j7_94 + (1 : Int32))), (0, .ref (A 0)), (1, .int j1), (3, .int j3), (5, .int j5_94), (6, .int j6_94)]) hx hb dX2_lots_111 hl (k := 5) rfl rfl (by decide) rfl (fun ls hl => ?_)
                    refine lv_goto (tgt := 94) hx hb dX2_lots_114 (by decide) ?_
                    exact (hWW _ _ _).mp (ih _ _ _ _ _ _ _ hf hP hD hS (lv_sub hl [1, 2, 3, 4, 5, 0] rfl))
              exact (hWW _ _ _).mp (P94 _ _ _ _ _ _ _ _ hf hP hD hS (lv_sub hl [1, 2, 3, 4, 5, 0] rfl))
            have P63 : ∀ (n' : Nat) (j5_63 : Int32) (j6_63 : Int32) (j7_63 : Int32) (tt_63 : HS) (H : Heap) (locs : List Loc) (ls : Array Slot), L_X2_lots_63 j1 j2 j3 K91 n' j5_63 j6_63 j7_63 tt_63 = some out → va_P D vwCl (wM A cI tt_63) H → va_D G (wM A cI tt_63) → va_S G s.heap H locs → lv_has ls 8 [(0, .ref (A 0)), (1, .int j1), (3, .int j3), (5, .int j5_63), (6, .int j6_63), (7, .int j7_63)] → WW H locs (F0 m 63 ls []) := by
              intro n'
              induction n' with
              | zero => intro j5_63 j6_63 j7_63 tt_63 H locs ls hf; exact absurd (show (none : Option (Int32 × HS)) = some out from hf) (fun q => by cases q)
              | succ n' ih =>
                intro j5_63 j6_63 j7_63 tt_63 H locs ls hf hP hD hS hl
                rw [L_X2_lots_63] at hf
                refine (hWW _ _ _).mpr ?_
                refine lv_iload hx hb dX2_lots_63 (lv_at hl 5 rfl) ?_
                refine lv_aload_n hx hb dX2_lots_65 rfl (lv_at hl 0 rfl) ?_
                refine va_get (D := D) (ci := 2) (v := .int (tt_63 21 0)) (C := RX2) (T := TX2) (N := 31) hx hb hts hinM hown hK hP 0 rfl rfl 12 (by decide) lk2 (fun _ h9 => h9) rfl dX2_lots_66 ?_
                refine lv_icmp_ge (tgt := 91) hx hb dX2_lots_69 (by decide) (fun c15 => ?_) (fun c15 => ?_)
                · have hf := hT hf c15
                  exact (hWW _ _ _).mp (J91 _ _ _ _ _ _ hf hP hD hS (lv_sub hl [0, 1, 2, 3, 4] rfl))
                · have hf := hF hf c15
                  refine lv_aload_n hx hb dX2_lots_72 rfl (lv_at hl 0 rfl) ?_
                  refine va_get (D := D) (ci := 2) (v := .ref (A 10)) (C := RX2) (T := TX2) (N := 31) hx hb hts hinM hown hK hP 0 rfl rfl 9 (by decide) lk5 (fun _ h9 => h9) rfl dX2_lots_73 ?_
                  refine lv_iload hx hb dX2_lots_76 (lv_at hl 5 rfl) ?_
                  refine lv_aload_n hx hb dX2_lots_78 rfl (lv_at hl 0 rfl) ?_
                  refine lv_bipush (v := (100 : Int32)) hx hb dX2_lots_79 (by decide) ?_
                  obtain ⟨v16, hev16, hf⟩ := bS hf
                  refine qV_i (ws' := (wM A cI v16.2)) (As := [.int (100 : Int32)]) (rest := [.int j7_63, .ref (A 10)]) ⟨hx, hb, hml, hown, hts⟩ hK hN hA hP hD hS (c_X2_draw l D cI A (100 : Int32) tt_63 v16 hev16) (cwV 1 hts gX2_lots_X2_draw rfl rfl rfl hd_X2_draw ⟨Nat.le_of_ble_eq_true rfl, Nat.le_of_ble_eq_true rfl⟩) (va_recv hK hP (ci := 2) (q0 := 0) rfl rfl) (bp_X2_X2_t_t A cI tt_63 v16.2) rfl hl.1 rfl (Nat.le_of_ble_eq_true rfl) dX2_lots_81 ⟨Nat.le_of_ble_eq_true rfl, Nat.le_of_ble_eq_true rfl⟩ (fun H locs hP hD hS => ?_)
                  have hP : va_P D vwCl (wM A cI v16.2) H := hP
                  obtain ⟨v17, he, hf⟩ := bS hf
                  obtain ⟨tt_v18, ett_v18, hf⟩ := jnS hf
                  refine x_iast (ws' := (wM A cI tt_v18)) hx hb hK hP hD hS 10 (n := 6) rfl he ((sa_X2_t_9 A cI v16.2 v17).trans (congrArg (fun z => wM A cI z) ett_v18.symm)) dX2_lots_84 (fun H locs hP hD hS => ?_)
                  refine lv_iinc (v := (j7_63 + (1 : Int32))) (lv' := [(7, .int (j7_63 + (1 : Int32))), (0, .ref (A 0)), (1, .int j1), (3, .int j3), (5, .int j5_63), (6, .int j6_63)]) hx hb dX2_lots_85 hl (k := 5) rfl rfl (by decide) rfl (fun ls hl => ?_)
                  refine lv_goto (tgt := 63) hx hb dX2_lots_88 (by decide) ?_
                  exact (hWW _ _ _).mp (ih _ _ _ _ _ _ _ hf hP hD hS (lv_sub hl [1, 2, 3, 4, 5, 0] rfl))
            exact (hWW _ _ _).mp (P63 _ _ _ _ _ _ _ _ hf hP hD hS (lv_sub hl [1, 2, 3, 4, 5, 0] rfl))
      exact (hWW _ _ _).mp (P50 _ _ _ _ _ _ _ hf hP hD hS (lv_sub hl [2, 3, 5, 1, 0] rfl))
    · have hf := hF hf c1
      refine lv_aload_n hx hb dX2_lots_32 rfl (lv_at hl 0 rfl) ?_
      refine lv_iload hx hb dX2_lots_33 (lv_at hl 4 rfl) ?_
      obtain ⟨v19, hev19, hf⟩ := bS hf
      refine qV_i (ws' := (wM A cI v19.2)) (As := [.int j4_27]) (rest := []) ⟨hx, hb, hml, hown, hts⟩ hK hN hA hP hD hS (c_X2_no l D cI A j4_27 tt_27 v19 hev19) (cwV 1 hts gX2_lots_X2_no rfl rfl rfl hd_X2_no ⟨Nat.le_of_ble_eq_true rfl, Nat.le_of_ble_eq_true rfl⟩) (va_recv hK hP (ci := 2) (q0 := 0) rfl rfl) (bp_X2_X2_t_t A cI tt_27 v19.2) rfl hl.1 rfl (Nat.le_of_ble_eq_true rfl) dX2_lots_35 ⟨Nat.le_of_ble_eq_true rfl, Nat.le_of_ble_eq_true rfl⟩ (fun H locs hP hD hS => ?_)
      have hP : va_P D vwCl (wM A cI v19.2) H := hP
      obtain rfl := Option.some.inj hf
      exact W.iret (v := v19.1) hx hb hr (fun t ht hW => ⟨⟨v19.1, (), rfl, rfl, hPt ht hP⟩, hS.F ht⟩) hS.2.2 dX2_lots_38
  refine lv_if_ne (tgt := 27) hx hb dX2_lots_11 (by decide) (fun c20 => ?_) (fun c20 => ?_)
  · have hf := hF hf c20
    exact (hWW _ _ _).mp (J27 _ _ _ _ _ hf hP hD hS (lv_sub hl [1, 2, 3, 4, 0] rfl))
  · have hf := hT hf c20
    refine lv_iload_n hx hb dX2_lots_14 rfl (lv_at hl 4 rfl) ?_
    refine lv_iconst (v := (0 : Int32)) hx hb dX2_lots_15 (by decide) ?_
    refine lv_iconst (v := (1 : Int32)) hx hb dX2_lots_16 (by decide) ?_
    refine qS_i (As := [.int j3, .int (0 : Int32), .int (1 : Int32)]) (rest := []) ⟨hx, hb, hml, hown, hts⟩ hK hN hA hP hD hS (c_X2_isIn l D cI j3 (0 : Int32) (1 : Int32) (f_X2_isIn j3 (0 : Int32) (1 : Int32)) rfl) (va_cwS 3 hts gX2_lots_X2_isIn rfl rfl rfl hd_X2_isIn.2 ⟨Nat.le_of_ble_eq_true rfl, Nat.le_of_ble_eq_true rfl⟩) Bp_e rfl hl.1 rfl (Nat.le_of_ble_eq_true rfl) dX2_lots_17 ⟨Nat.le_of_ble_eq_true rfl, Nat.le_of_ble_eq_true rfl⟩ (fun H locs hP hD hS => ?_)
    refine lv_if_ne (tgt := 27) hx hb dX2_lots_20 (by decide) (fun c21 => ?_) (fun c21 => ?_)
    · have hf := hF hf c21
      exact (hWW _ _ _).mp (J27 _ _ _ _ _ hf hP hD hS (lv_sub hl [1, 2, 3, 4, 0] rfl))
    · have hf := hT hf c21
      refine lv_bipush (v := (-2 : Int32)) hx hb dX2_lots_23 (by decide) ?_
      refine lv_istore (lv' := [(4, .int (-2 : Int32)), (0, .ref (A 0)), (1, .int j1), (2, .int j2), (3, .int j3)]) hx hb dX2_lots_25 hl (by decide) rfl (fun ls hl => ?_)
      exact (hWW _ _ _).mp (J27 _ _ _ _ _ hf hP hD hS (lv_sub hl [1, 2, 3, 4, 0] rfl))
set_option maxHeartbeats 4000000 in
set_option maxRecDepth 100000 in
theorem c_X2_count (l : Launch) (D : va_G) (cI : ClassId) (A : Nat → Nat) (j1 : Int32) (tt : HS) (out : Int32) (hf : f_X2_count j1 tt = some out) : uI l D cI yX2_count wsX2_count ({ frames := 1, cells := 0, slots := 0, locals := 24 } : Room) [.ref (A 0), .int j1] (wM A cI tt) (wM A cI tt) out := by
  intro sz
  refine Met.ofW (cc := cX2_count) (maxL := 4) (ret := (some .int)) (by decide) rfl ?_
  intro p e s m args below meth c s₁ Bd hml hv
  obtain ⟨rfl, hsz, hP, hK, hD0, hN⟩ := hv
  have hx := Bd.exec
  have hb := Bd.bytes
  have hr := Bd.returns
  have hts := atoms_spec (ws := wsX2_count) Bd.pre
  have hown : s.vm.findClass RX2 = some m.cls := findClass_of_methodNamed Bd.named
  have hlocks := Bd.notSynchronized
  subst hsz
  have hD := hD0.self (sz := s.heap.size)
  generalize hAe : va_A (wM A cI tt) s.heap.size = G at hD ⊢
  have hA : ∀ q : Nat, s.heap.size ≤ q → G q := fun q h => by rw [← hAe]; exact Or.inr h
  have hS : va_S G s.heap s.heap [] := va_S.rf
  have hP : va_P D vwCl (wM A cI tt) s.heap := hP
  have hl := lv_entry ([.ref (A 0), .int j1]) (n := 4) (Nat.le_of_ble_eq_true rfl)
  rw [lg_entry_eq]
  generalize (lg_sl ([.ref (A 0), .int j1]) ++ List.replicate (4 - (lg_sl ([.ref (A 0), .int j1])).length) Slot.unset).toArray = ls at hl ⊢
  have hl : lv_has ls 4 [(0, .ref (A 0)), (1, .int j1)] := hl
  have hinM : ∀ w ∈ wsX20, w ∈ wsX2_count := by decide +kernel
  have lk0 := hts (.fieldLink RX2 67 "LiesBoughtBackModel" "cards" "I") (by decide +kernel)
  have lk1 := hts (.fieldLink RX2 73 "LiesBoughtBackModel" "bidders" "I") (by decide +kernel)
  have lk2 := hts (.fieldLink RX2 129 "LiesBoughtBackModel" "month" "I") (by decide +kernel)
  have lk3 := hts (.fieldLink RX2 40 "LiesBoughtBackModel" "belief" "[I") (by decide +kernel)
  have lk4 := hts (.fieldLink RX2 299 "LiesBoughtBackModel" "rowMany" "I") (by decide +kernel)
  have lk5 := hts (.fieldLink RX2 80 "LiesBoughtBackModel" "taped" "I") (by decide +kernel)
  have lk6 := hts (.fieldLink RX2 7 "LiesBoughtBackModel" "refused" "[I") (by decide +kernel)
  refine W_in ?_
  intro WW hWW
  refine (hWW _ _ _).mpr ?_
  unfold f_X2_count at hf
  refine lv_iload_n hx hb dX2_count_0 rfl (lv_at hl 1 rfl) ?_
  refine lv_bipush (v := (11 : Int32)) hx hb dX2_count_1 (by decide) ?_
  refine lv_bipush (v := (16 : Int32)) hx hb dX2_count_3 (by decide) ?_
  refine qS_i (As := [.int j1, .int (11 : Int32), .int (16 : Int32)]) (rest := []) ⟨hx, hb, hml, hown, hts⟩ hK hN hA hP hD hS (c_X2_isIn l D cI j1 (11 : Int32) (16 : Int32) (f_X2_isIn j1 (11 : Int32) (16 : Int32)) rfl) (va_cwS 3 hts gX2_count_X2_isIn rfl rfl rfl hd_X2_isIn.2 ⟨Nat.le_of_ble_eq_true rfl, Nat.le_of_ble_eq_true rfl⟩) Bp_e rfl hl.1 rfl (Nat.le_of_ble_eq_true rfl) dX2_count_5 ⟨Nat.le_of_ble_eq_true rfl, Nat.le_of_ble_eq_true rfl⟩ (fun H locs hP hD hS => ?_)
  refine lv_if_eq (tgt := 21) hx hb dX2_count_8 (by decide) (fun c1 => ?_) (fun c1 => ?_)
  · have hf := hT hf c1
    refine lv_iconst (v := (0 : Int32)) hx hb dX2_count_21 (by decide) ?_
    refine lv_istore_n (lv' := [(2, .int (0 : Int32)), (0, .ref (A 0)), (1, .int j1)]) hx hb dX2_count_22 rfl hl (by decide) rfl (fun ls hl => ?_)
    refine lv_iload_n hx hb dX2_count_23 rfl (lv_at hl 2 rfl) ?_
    by_cases c2 : j1 = (0 : Int32)
    · have hf := hT hf c2
      refine sw_in (v := 0) (off := 48) (tgt := 72) hx hb dX2_count_24 ((congrArg Int32.toInt c2).trans (by decide)) (by decide) (by decide) (by decide) (by decide) ?_
      refine lv_aload_n hx hb dX2_count_72 rfl (lv_at hl 1 rfl) ?_
      refine va_get (D := D) (ci := 2) (v := .int (tt 20 0)) (C := RX2) (T := TX2) (N := 31) hx hb hts hinM hown hK hP 0 rfl rfl 11 (by decide) lk0 (fun _ h9 => h9) rfl dX2_count_73 ?_
      obtain rfl := Option.some.inj hf
      exact W.iret (v := (tt 20 0)) hx hb hr (fun t ht hW => ⟨⟨(tt 20 0), (), rfl, rfl, hPt ht hP⟩, hS.F ht⟩) hS.2.2 dX2_count_76
    have hf := hF hf c2
    by_cases c3 : j1 = (1 : Int32)
    · have hf := hT hf c3
      refine sw_in (v := 1) (off := 53) (tgt := 77) hx hb dX2_count_24 ((congrArg Int32.toInt c3).trans (by decide)) (by decide) (by decide) (by decide) (by decide) ?_
      refine lv_aload_n hx hb dX2_count_77 rfl (lv_at hl 1 rfl) ?_
      refine va_get (D := D) (ci := 2) (v := .int (tt 21 0)) (C := RX2) (T := TX2) (N := 31) hx hb hts hinM hown hK hP 0 rfl rfl 12 (by decide) lk1 (fun _ h9 => h9) rfl dX2_count_78 ?_
      obtain rfl := Option.some.inj hf
      exact W.iret (v := (tt 21 0)) hx hb hr (fun t ht hW => ⟨⟨(tt 21 0), (), rfl, rfl, hPt ht hP⟩, hS.F ht⟩) hS.2.2 dX2_count_81
    have hf := hF hf c3
    by_cases c4 : j1 = (2 : Int32)
    · have hf := hT hf c4
      refine sw_in (v := 2) (off := 58) (tgt := 82) hx hb dX2_count_24 ((congrArg Int32.toInt c4).trans (by decide)) (by decide) (by decide) (by decide) (by decide) ?_
      refine lv_aload_n hx hb dX2_count_82 rfl (lv_at hl 1 rfl) ?_
      refine va_get (D := D) (ci := 2) (v := .int (tt 22 0)) (C := RX2) (T := TX2) (N := 31) hx hb hts hinM hown hK hP 0 rfl rfl 13 (by decide) lk2 (fun _ h9 => h9) rfl dX2_count_83 ?_
      obtain rfl := Option.some.inj hf
      exact W.iret (v := (tt 22 0)) hx hb hr (fun t ht hW => ⟨⟨(tt 22 0), (), rfl, rfl, hPt ht hP⟩, hS.F ht⟩) hS.2.2 dX2_count_86
    have hf := hF hf c4
    by_cases c5 : j1 = (3 : Int32)
    · have hf := hT hf c5
      refine sw_in (v := 3) (off := 63) (tgt := 87) hx hb dX2_count_24 ((congrArg Int32.toInt c5).trans (by decide)) (by decide) (by decide) (by decide) (by decide) ?_
      refine lv_aload_n hx hb dX2_count_87 rfl (lv_at hl 1 rfl) ?_
      obtain ⟨v6, hev6, hf⟩ := bS hf
      refine qV_i (As := []) (rest := []) ⟨hx, hb, hml, hown, hts⟩ hK hN hA hP hD hS (c_X2_pile l D cI A tt v6 hev6) (cwV 0 hts gX2_count_X2_pile rfl rfl rfl hd_X2_pile ⟨Nat.le_of_ble_eq_true rfl, Nat.le_of_ble_eq_true rfl⟩) (va_recv hK hP (ci := 2) (q0 := 0) rfl rfl) (bq_X2_X2_t A cI tt) rfl hl.1 rfl (Nat.le_of_ble_eq_true rfl) dX2_count_88 ⟨Nat.le_of_ble_eq_true rfl, Nat.le_of_ble_eq_true rfl⟩ (fun H locs hP hD hS => ?_)
      obtain rfl := Option.some.inj hf
      exact W.iret (v := v6) hx hb hr (fun t ht hW => ⟨⟨v6, (), rfl, rfl, hPt ht hP⟩, hS.F ht⟩) hS.2.2 dX2_count_91
    have hf := hF hf c5
    by_cases c7 : j1 = (4 : Int32)
    · have hf := hT hf c7
      refine sw_in (v := 4) (off := 68) (tgt := 92) hx hb dX2_count_24 ((congrArg Int32.toInt c7).trans (by decide)) (by decide) (by decide) (by decide) (by decide) ?_
      refine lv_iconst (v := (0 : Int32)) hx hb dX2_count_92 (by decide) ?_
      refine lv_istore_n (lv' := [(3, .int (0 : Int32)), (2, .int (0 : Int32)), (0, .ref (A 0)), (1, .int j1)]) hx hb dX2_count_93 rfl hl (by decide) rfl (fun ls hl => ?_)
      obtain ⟨K116, hK116, hf⟩ := jnS hf
      have J116 : ∀ (j2_116 : Int32) (H : Heap) (locs : List Loc) (ls : Array Slot), K116 j2_116 = some out → va_P D vwCl (wM A cI tt) H → va_D G (wM A cI tt) → va_S G s.heap H locs → lv_has ls 4 [(2, .int j2_116)] → WW H locs (F0 m 116 ls []) := by
        intro j2_116 H locs ls hf hP hD hS hl
        subst hK116
        refine (hWW _ _ _).mpr ?_
        refine lv_iload_n hx hb dX2_count_116 rfl (lv_at hl 0 rfl) ?_
        obtain rfl := Option.some.inj hf
        exact W.iret (v := j2_116) hx hb hr (fun t ht hW => ⟨⟨j2_116, (), rfl, rfl, hPt ht hP⟩, hS.F ht⟩) hS.2.2 dX2_count_117
      have P94 : ∀ (n' : Nat) (j2_94 : Int32) (j3_94 : Int32) (H : Heap) (locs : List Loc) (ls : Array Slot), L_X2_count_94 j1 tt K116 n' j2_94 j3_94 = some out → va_P D vwCl (wM A cI tt) H → va_D G (wM A cI tt) → va_S G s.heap H locs → lv_has ls 4 [(0, .ref (A 0)), (2, .int j2_94), (3, .int j3_94)] → WW H locs (F0 m 94 ls []) := by
        intro n'
        induction n' with
        | zero => intro j2_94 j3_94 H locs ls hf; exact absurd (show (none : Option (Int32)) = some out from hf) (fun q => by cases q)
        | succ n' ih =>
          intro j2_94 j3_94 H locs ls hf hP hD hS hl
          rw [L_X2_count_94] at hf
          refine (hWW _ _ _).mpr ?_
          refine lv_iload_n hx hb dX2_count_94 rfl (lv_at hl 2 rfl) ?_
          refine lv_aload_n hx hb dX2_count_95 rfl (lv_at hl 0 rfl) ?_
          refine va_get (D := D) (ci := 2) (v := .int (tt 20 0)) (C := RX2) (T := TX2) (N := 31) hx hb hts hinM hown hK hP 0 rfl rfl 11 (by decide) lk0 (fun _ h9 => h9) rfl dX2_count_96 ?_
          refine lv_icmp_ge (tgt := 116) hx hb dX2_count_99 (by decide) (fun c8 => ?_) (fun c8 => ?_)
          · have hf := hT hf c8
            exact (hWW _ _ _).mp (J116 _ _ _ _ hf hP hD hS (lv_sub hl [1] rfl))
          · have hf := hF hf c8
            refine lv_iload_n hx hb dX2_count_102 rfl (lv_at hl 1 rfl) ?_
            refine lv_aload_n hx hb dX2_count_103 rfl (lv_at hl 0 rfl) ?_
            refine lv_iload_n hx hb dX2_count_104 rfl (lv_at hl 2 rfl) ?_
            obtain ⟨v9, hev9, hf⟩ := bS hf
            refine qV_i (As := [.int j3_94]) (rest := [.int j2_94]) ⟨hx, hb, hml, hown, hts⟩ hK hN hA hP hD hS (c_X2_worth l D cI A j3_94 tt v9 hev9) (cwV 1 hts gX2_count_X2_worth rfl rfl rfl hd_X2_worth ⟨Nat.le_of_ble_eq_true rfl, Nat.le_of_ble_eq_true rfl⟩) (va_recv hK hP (ci := 2) (q0 := 0) rfl rfl) (bq_X2_X2_t A cI tt) rfl hl.1 rfl (Nat.le_of_ble_eq_true rfl) dX2_count_105 ⟨Nat.le_of_ble_eq_true rfl, Nat.le_of_ble_eq_true rfl⟩ (fun H locs hP hD hS => ?_)
            refine lv_iadd hx hb dX2_count_108 ?_
            refine lv_istore_n (lv' := [(2, .int (j2_94 + v9)), (0, .ref (A 0)), (3, .int j3_94)]) hx hb dX2_count_109 rfl hl (by decide) rfl (fun ls hl => ?_)
            refine lv_iinc (v := (j3_94 + (1 : Int32))) (lv' := [(3, .int (j3_94 + (1 : Int32))), (2, .int (j2_94 + v9)), (0, .ref (A 0))]) hx hb dX2_count_110 hl (k := 2) rfl rfl (by decide) rfl (fun ls hl => ?_)
            refine lv_goto (tgt := 94) hx hb dX2_count_113 (by decide) ?_
            exact (hWW _ _ _).mp (ih _ _ _ _ _ hf hP hD hS (lv_sub hl [2, 1, 0] rfl))
      exact (hWW _ _ _).mp (P94 _ _ _ _ _ _ hf hP hD hS (lv_sub hl [2, 1, 0] rfl))
    have hf := hF hf c7
    by_cases c10 : j1 = (5 : Int32)
    · have hf := hT hf c10
      refine sw_in (v := 5) (off := 94) (tgt := 118) hx hb dX2_count_24 ((congrArg Int32.toInt c10).trans (by decide)) (by decide) (by decide) (by decide) (by decide) ?_
      refine lv_aload_n hx hb dX2_count_118 rfl (lv_at hl 1 rfl) ?_
      refine lv_aload_n hx hb dX2_count_119 rfl (lv_at hl 1 rfl) ?_
      refine va_get (D := D) (ci := 2) (v := .ref (A 11)) (C := RX2) (T := TX2) (N := 31) hx hb hts hinM hown hK hP 0 rfl rfl 10 (by decide) lk3 (fun _ h9 => h9) rfl dX2_count_120 ?_
      refine lv_aload_n hx hb dX2_count_123 rfl (lv_at hl 1 rfl) ?_
      refine va_get (D := D) (ci := 2) (v := .int (tt 21 0)) (C := RX2) (T := TX2) (N := 31) hx hb hts hinM hown hK hP 0 rfl rfl 12 (by decide) lk1 (fun _ h9 => h9) rfl dX2_count_124 ?_
      obtain ⟨v11, hev11, hf⟩ := bS hf
      refine qV_i (As := [.ref (A 11), .int (tt 21 0)]) (rest := []) ⟨hx, hb, hml, hown, hts⟩ hK hN hA hP hD hS (c_X2_allOf_10 l D cI A (tt 21 0) tt v11 hev11) (cwV 2 hts gX2_count_X2_allOf rfl rfl rfl hd_X2_allOf ⟨Nat.le_of_ble_eq_true rfl, Nat.le_of_ble_eq_true rfl⟩) (va_recv hK hP (ci := 2) (q0 := 0) rfl rfl) (bq_X2_X2_t A cI tt) rfl hl.1 rfl (Nat.le_of_ble_eq_true rfl) dX2_count_127 ⟨Nat.le_of_ble_eq_true rfl, Nat.le_of_ble_eq_true rfl⟩ (fun H locs hP hD hS => ?_)
      obtain rfl := Option.some.inj hf
      exact W.iret (v := v11) hx hb hr (fun t ht hW => ⟨⟨v11, (), rfl, rfl, hPt ht hP⟩, hS.F ht⟩) hS.2.2 dX2_count_130
    have hf := hF hf c10
    by_cases c12 : j1 = (6 : Int32)
    · have hf := hT hf c12
      refine sw_in (v := 6) (off := 107) (tgt := 131) hx hb dX2_count_24 ((congrArg Int32.toInt c12).trans (by decide)) (by decide) (by decide) (by decide) (by decide) ?_
      refine lv_aload_n hx hb dX2_count_131 rfl (lv_at hl 1 rfl) ?_
      refine va_get (D := D) (ci := 2) (v := .int (tt 30 0)) (C := RX2) (T := TX2) (N := 31) hx hb hts hinM hown hK hP 0 rfl rfl 29 (by decide) lk4 (fun _ h9 => h9) rfl dX2_count_132 ?_
      obtain rfl := Option.some.inj hf
      exact W.iret (v := (tt 30 0)) hx hb hr (fun t ht hW => ⟨⟨(tt 30 0), (), rfl, rfl, hPt ht hP⟩, hS.F ht⟩) hS.2.2 dX2_count_135
    have hf := hF hf c12
    by_cases c13 : j1 = (7 : Int32)
    · have hf := hT hf c13
      refine sw_in (v := 7) (off := 112) (tgt := 136) hx hb dX2_count_24 ((congrArg Int32.toInt c13).trans (by decide)) (by decide) (by decide) (by decide) (by decide) ?_
      refine lv_aload_n hx hb dX2_count_136 rfl (lv_at hl 1 rfl) ?_
      refine va_get (D := D) (ci := 2) (v := .int (tt 23 0)) (C := RX2) (T := TX2) (N := 31) hx hb hts hinM hown hK hP 0 rfl rfl 18 (by decide) lk5 (fun _ h9 => h9) rfl dX2_count_137 ?_
      obtain rfl := Option.some.inj hf
      exact W.iret (v := (tt 23 0)) hx hb hr (fun t ht hW => ⟨⟨(tt 23 0), (), rfl, rfl, hPt ht hP⟩, hS.F ht⟩) hS.2.2 dX2_count_140
    have hf := hF hf c13
    refine lv_tableOut (tgt := 141) hx hb dX2_count_24 (by have z0 := lv_neT (a := 0) c2 (by decide); have z1 := lv_neT (a := 1) c3 (by decide); have z2 := lv_neT (a := 2) c4 (by decide); have z3 := lv_neT (a := 3) c5 (by decide); have z4 := lv_neT (a := 4) c7 (by decide); have z5 := lv_neT (a := 5) c10 (by decide); have z6 := lv_neT (a := 6) c12 (by decide); have z7 := lv_neT (a := 7) c13 (by decide); omega) (by decide) ?_
    refine lv_bipush (v := (-9 : Int32)) hx hb dX2_count_141 (by decide) ?_
    obtain rfl := Option.some.inj hf
    exact W.iret (v := (-9 : Int32)) hx hb hr (fun t ht hW => ⟨⟨(-9 : Int32), (), rfl, rfl, hPt ht hP⟩, hS.F ht⟩) hS.2.2 dX2_count_143
  · have hf := hF hf c1
    refine lv_aload_n hx hb dX2_count_11 rfl (lv_at hl 0 rfl) ?_
    refine va_get (D := D) (ci := 2) (v := .ref (A 1)) (C := RX2) (T := TX2) (N := 31) hx hb hts hinM hown hK hP 0 rfl rfl 0 (by decide) lk6 (fun _ h9 => h9) rfl dX2_count_12 ?_
    refine lv_iload_n hx hb dX2_count_15 rfl (lv_at hl 1 rfl) ?_
    refine lv_bipush (v := (10 : Int32)) hx hb dX2_count_16 (by decide) ?_
    refine lv_isub hx hb dX2_count_18 ?_
    obtain ⟨v14, he, hf⟩ := bS hf
    refine x_iald hx hb hK hP 1 (n := 7) rfl he dX2_count_19 ?_
    obtain rfl := Option.some.inj hf
    exact W.iret (v := v14) hx hb hr (fun t ht hW => ⟨⟨v14, (), rfl, rfl, hPt ht hP⟩, hS.F ht⟩) hS.2.2 dX2_count_20
