set_option maxHeartbeats 4000000 in
set_option maxRecDepth 100000 in
theorem c_X2_bidder (l : Launch) (D : va_G) (cI : ClassId) (A : Nat → Nat) (j1 : Int32) (j2 : Int32) (tt : HS) (out : Int32 × HS) (hf : f_X2_bidder j1 j2 tt = some out) : uI l D cI yX2_bidder wsX2_bidder ({ frames := 1, cells := 0, slots := 0, locals := 23 } : Room) [.ref (A 0), .int j1, .int j2] (wM A cI tt) (wM A cI out.2) out.1 := by
  intro sz
  refine Met.ofW (cc := cX2_bidder) (maxL := 3) (ret := (some .int)) (by decide) rfl ?_
  intro p e s m args below meth c s₁ Bd hml hv
  obtain ⟨rfl, hsz, hP, hK, hD0, hN⟩ := hv
  have hx := Bd.exec
  have hb := Bd.bytes
  have hr := Bd.returns
  have hts := atoms_spec (ws := wsX2_bidder) Bd.pre
  have hown : s.vm.findClass RX2 = some m.cls := findClass_of_methodNamed Bd.named
  have hlocks := Bd.notSynchronized
  subst hsz
  have hD := hD0.self (sz := s.heap.size)
  generalize hAe : va_A (wM A cI tt) s.heap.size = G at hD ⊢
  have hA : ∀ q : Nat, s.heap.size ≤ q → G q := fun q h => by rw [← hAe]; exact Or.inr h
  have hS : va_S G s.heap s.heap [] := va_S.rf
  have hP : va_P D vwCl (wM A cI tt) s.heap := hP
  have hl := lv_entry ([.ref (A 0), .int j1, .int j2]) (n := 3) (Nat.le_of_ble_eq_true rfl)
  rw [lg_entry_eq]
  generalize (lg_sl ([.ref (A 0), .int j1, .int j2]) ++ List.replicate (3 - (lg_sl ([.ref (A 0), .int j1, .int j2])).length) Slot.unset).toArray = ls at hl ⊢
  have hl : lv_has ls 3 [(0, .ref (A 0)), (1, .int j1), (2, .int j2)] := hl
  have hinM : ∀ w ∈ wsX20, w ∈ wsX2_bidder := by decide +kernel
  have lk0 := hts (.fieldLink RX2 31 "LiesBoughtBackModel" "kind" "[I") (by decide +kernel)
  have lk1 := hts (.fieldLink RX2 34 "LiesBoughtBackModel" "figure" "[I") (by decide +kernel)
  have lk2 := hts (.fieldLink RX2 37 "LiesBoughtBackModel" "purse" "[I") (by decide +kernel)
  have lk3 := hts (.fieldLink RX2 40 "LiesBoughtBackModel" "belief" "[I") (by decide +kernel)
  refine W_in ?_
  intro WW hWW
  refine (hWW _ _ _).mpr ?_
  unfold f_X2_bidder at hf
  refine lv_aload_n hx hb dX2_bidder_0 rfl (lv_at hl 0 rfl) ?_
  refine lv_iload_n hx hb dX2_bidder_1 rfl (lv_at hl 1 rfl) ?_
  refine qV_i (As := [.int j1]) (rest := []) ⟨hx, hb, hml, hown, hts⟩ hK hN hA hP hD hS (c_X2_isBidder l D cI A j1 tt (f_X2_isBidder j1 tt) rfl) (cwV 1 hts gX2_bidder_X2_isBidder rfl rfl rfl hd_X2_isBidder ⟨Nat.le_of_ble_eq_true rfl, Nat.le_of_ble_eq_true rfl⟩) (va_recv hK hP (ci := 2) (q0 := 0) rfl rfl) (bq_X2_X2_t A cI tt) rfl hl.1 rfl (Nat.le_of_ble_eq_true rfl) dX2_bidder_2 ⟨Nat.le_of_ble_eq_true rfl, Nat.le_of_ble_eq_true rfl⟩ (fun H locs hP hD hS => ?_)
  refine lv_if_ne (tgt := 14) hx hb dX2_bidder_5 (by decide) (fun c1 => ?_) (fun c1 => ?_)
  · have hf := hF hf c1
    refine lv_iload_n hx hb dX2_bidder_14 rfl (lv_at hl 2 rfl) ?_
    by_cases c2 : j2 = (0 : Int32)
    · have hf := hT hf c2
      refine sw_in (v := 0) (off := 33) (tgt := 48) hx hb dX2_bidder_15 ((congrArg Int32.toInt c2).trans (by decide)) (by decide) (by decide) (by decide) (by decide) ?_
      refine lv_aload_n hx hb dX2_bidder_48 rfl (lv_at hl 0 rfl) ?_
      refine va_get (D := D) (ci := 2) (v := .ref (A 8)) (C := RX2) (T := TX2) (N := 31) hx hb hts hinM hown hK hP 0 rfl rfl 7 (by decide) lk0 (fun _ h9 => h9) rfl dX2_bidder_49 ?_
      refine lv_iload_n hx hb dX2_bidder_52 rfl (lv_at hl 1 rfl) ?_
      obtain ⟨v3, he, hf⟩ := bS hf
      refine x_iald hx hb hK hP 8 (n := 6) rfl he dX2_bidder_53 ?_
      obtain rfl := Option.some.inj hf
      exact W.iret (v := v3) hx hb hr (fun t ht hW => ⟨⟨v3, (), rfl, rfl, hPt ht hP⟩, hS.F ht⟩) hS.2.2 dX2_bidder_54
    have hf := hF hf c2
    by_cases c4 : j2 = (1 : Int32)
    · have hf := hT hf c4
      refine sw_in (v := 1) (off := 40) (tgt := 55) hx hb dX2_bidder_15 ((congrArg Int32.toInt c4).trans (by decide)) (by decide) (by decide) (by decide) (by decide) ?_
      refine lv_aload_n hx hb dX2_bidder_55 rfl (lv_at hl 0 rfl) ?_
      refine va_get (D := D) (ci := 2) (v := .ref (A 9)) (C := RX2) (T := TX2) (N := 31) hx hb hts hinM hown hK hP 0 rfl rfl 8 (by decide) lk1 (fun _ h9 => h9) rfl dX2_bidder_56 ?_
      refine lv_iload_n hx hb dX2_bidder_59 rfl (lv_at hl 1 rfl) ?_
      obtain ⟨v5, he, hf⟩ := bS hf
      refine x_iald hx hb hK hP 9 (n := 6) rfl he dX2_bidder_60 ?_
      obtain rfl := Option.some.inj hf
      exact W.iret (v := v5) hx hb hr (fun t ht hW => ⟨⟨v5, (), rfl, rfl, hPt ht hP⟩, hS.F ht⟩) hS.2.2 dX2_bidder_61
    have hf := hF hf c4
    by_cases c6 : j2 = (2 : Int32)
    · have hf := hT hf c6
      refine sw_in (v := 2) (off := 47) (tgt := 62) hx hb dX2_bidder_15 ((congrArg Int32.toInt c6).trans (by decide)) (by decide) (by decide) (by decide) (by decide) ?_
      refine lv_aload_n hx hb dX2_bidder_62 rfl (lv_at hl 0 rfl) ?_
      refine va_get (D := D) (ci := 2) (v := .ref (A 10)) (C := RX2) (T := TX2) (N := 31) hx hb hts hinM hown hK hP 0 rfl rfl 9 (by decide) lk2 (fun _ h9 => h9) rfl dX2_bidder_63 ?_
      refine lv_iload_n hx hb dX2_bidder_66 rfl (lv_at hl 1 rfl) ?_
      obtain ⟨v7, he, hf⟩ := bS hf
      refine x_iald hx hb hK hP 10 (n := 6) rfl he dX2_bidder_67 ?_
      obtain rfl := Option.some.inj hf
      exact W.iret (v := v7) hx hb hr (fun t ht hW => ⟨⟨v7, (), rfl, rfl, hPt ht hP⟩, hS.F ht⟩) hS.2.2 dX2_bidder_68
    have hf := hF hf c6
    by_cases c8 : j2 = (3 : Int32)
    · have hf := hT hf c8
      refine sw_in (v := 3) (off := 54) (tgt := 69) hx hb dX2_bidder_15 ((congrArg Int32.toInt c8).trans (by decide)) (by decide) (by decide) (by decide) (by decide) ?_
      refine lv_aload_n hx hb dX2_bidder_69 rfl (lv_at hl 0 rfl) ?_
      refine va_get (D := D) (ci := 2) (v := .ref (A 11)) (C := RX2) (T := TX2) (N := 31) hx hb hts hinM hown hK hP 0 rfl rfl 10 (by decide) lk3 (fun _ h9 => h9) rfl dX2_bidder_70 ?_
      refine lv_iload_n hx hb dX2_bidder_73 rfl (lv_at hl 1 rfl) ?_
      obtain ⟨v9, he, hf⟩ := bS hf
      refine x_iald hx hb hK hP 11 (n := 6) rfl he dX2_bidder_74 ?_
      obtain rfl := Option.some.inj hf
      exact W.iret (v := v9) hx hb hr (fun t ht hW => ⟨⟨v9, (), rfl, rfl, hPt ht hP⟩, hS.F ht⟩) hS.2.2 dX2_bidder_75
    have hf := hF hf c8
    by_cases c10 : j2 = (4 : Int32)
    · have hf := hT hf c10
      refine sw_in (v := 4) (off := 61) (tgt := 76) hx hb dX2_bidder_15 ((congrArg Int32.toInt c10).trans (by decide)) (by decide) (by decide) (by decide) (by decide) ?_
      refine lv_aload_n hx hb dX2_bidder_76 rfl (lv_at hl 0 rfl) ?_
      refine lv_iload_n hx hb dX2_bidder_77 rfl (lv_at hl 1 rfl) ?_
      obtain ⟨v11, hev11, hf⟩ := bS hf
      refine qV_i (As := [.int j1]) (rest := []) ⟨hx, hb, hml, hown, hts⟩ hK hN hA hP hD hS (c_X2_heldBy l D cI A j1 tt v11 hev11) (cwV 1 hts gX2_bidder_X2_heldBy rfl rfl rfl hd_X2_heldBy ⟨Nat.le_of_ble_eq_true rfl, Nat.le_of_ble_eq_true rfl⟩) (va_recv hK hP (ci := 2) (q0 := 0) rfl rfl) (bq_X2_X2_t A cI tt) rfl hl.1 rfl (Nat.le_of_ble_eq_true rfl) dX2_bidder_78 ⟨Nat.le_of_ble_eq_true rfl, Nat.le_of_ble_eq_true rfl⟩ (fun H locs hP hD hS => ?_)
      obtain rfl := Option.some.inj hf
      exact W.iret (v := v11) hx hb hr (fun t ht hW => ⟨⟨v11, (), rfl, rfl, hPt ht hP⟩, hS.F ht⟩) hS.2.2 dX2_bidder_81
    have hf := hF hf c10
    refine lv_tableOut (tgt := 82) hx hb dX2_bidder_15 (by have z0 := lv_neT (a := 0) c2 (by decide); have z1 := lv_neT (a := 1) c4 (by decide); have z2 := lv_neT (a := 2) c6 (by decide); have z3 := lv_neT (a := 3) c8 (by decide); have z4 := lv_neT (a := 4) c10 (by decide); omega) (by decide) ?_
    refine lv_aload_n hx hb dX2_bidder_82 rfl (lv_at hl 0 rfl) ?_
    refine lv_bipush (v := (-2 : Int32)) hx hb dX2_bidder_83 (by decide) ?_
    obtain ⟨v12, hev12, hf⟩ := bS hf
    refine qV_i (ws' := (wM A cI v12.2)) (As := [.int (-2 : Int32)]) (rest := []) ⟨hx, hb, hml, hown, hts⟩ hK hN hA hP hD hS (c_X2_no l D cI A (-2 : Int32) tt v12 hev12) (cwV 1 hts gX2_bidder_X2_no rfl rfl rfl hd_X2_no ⟨Nat.le_of_ble_eq_true rfl, Nat.le_of_ble_eq_true rfl⟩) (va_recv hK hP (ci := 2) (q0 := 0) rfl rfl) (bp_X2_X2_t_t A cI tt v12.2) rfl hl.1 rfl (Nat.le_of_ble_eq_true rfl) dX2_bidder_85 ⟨Nat.le_of_ble_eq_true rfl, Nat.le_of_ble_eq_true rfl⟩ (fun H locs hP hD hS => ?_)
    have hP : va_P D vwCl (wM A cI v12.2) H := hP
    obtain rfl := Option.some.inj hf
    exact W.iret (v := v12.1) hx hb hr (fun t ht hW => ⟨⟨v12.1, (), rfl, rfl, hPt ht hP⟩, hS.F ht⟩) hS.2.2 dX2_bidder_88
  · have hf := hT hf c1
    refine lv_aload_n hx hb dX2_bidder_8 rfl (lv_at hl 0 rfl) ?_
    refine lv_iconst (v := (-1 : Int32)) hx hb dX2_bidder_9 (by decide) ?_
    obtain ⟨v13, hev13, hf⟩ := bS hf
    refine qV_i (ws' := (wM A cI v13.2)) (As := [.int (-1 : Int32)]) (rest := []) ⟨hx, hb, hml, hown, hts⟩ hK hN hA hP hD hS (c_X2_no l D cI A (-1 : Int32) tt v13 hev13) (cwV 1 hts gX2_bidder_X2_no rfl rfl rfl hd_X2_no ⟨Nat.le_of_ble_eq_true rfl, Nat.le_of_ble_eq_true rfl⟩) (va_recv hK hP (ci := 2) (q0 := 0) rfl rfl) (bp_X2_X2_t_t A cI tt v13.2) rfl hl.1 rfl (Nat.le_of_ble_eq_true rfl) dX2_bidder_10 ⟨Nat.le_of_ble_eq_true rfl, Nat.le_of_ble_eq_true rfl⟩ (fun H locs hP hD hS => ?_)
    have hP : va_P D vwCl (wM A cI v13.2) H := hP
    obtain rfl := Option.some.inj hf
    exact W.iret (v := v13.1) hx hb hr (fun t ht hW => ⟨⟨v13.1, (), rfl, rfl, hPt ht hP⟩, hS.F ht⟩) hS.2.2 dX2_bidder_13
set_option maxHeartbeats 4000000 in
set_option maxRecDepth 100000 in
theorem c_X2_areTold (l : Launch) (D : va_G) (cI : ClassId) (A : Nat → Nat) (j1 : Int32) (j2 : Int32) (tt : HS) (out : Int32) (hf : f_X2_areTold j1 j2 tt = out) : uI l D cI yX2_areTold wsX2_areTold ({ frames := 1, cells := 0, slots := 0, locals := 21 } : Room) [.ref (A 0), .int j1, .int j2] (wM A cI tt) (wM A cI tt) out := by
  intro sz
  refine Met.ofW (cc := cX2_areTold) (maxL := 3) (ret := (some .boolean)) (by decide) rfl ?_
  intro p e s m args below meth c s₁ Bd hml hv
  obtain ⟨rfl, hsz, hP, hK, hD0, hN⟩ := hv
  have hx := Bd.exec
  have hb := Bd.bytes
  have hr := Bd.returns
  have hts := atoms_spec (ws := wsX2_areTold) Bd.pre
  have hown : s.vm.findClass RX2 = some m.cls := findClass_of_methodNamed Bd.named
  have hlocks := Bd.notSynchronized
  subst hsz
  have hD := hD0.self (sz := s.heap.size)
  generalize hAe : va_A (wM A cI tt) s.heap.size = G at hD ⊢
  have hA : ∀ q : Nat, s.heap.size ≤ q → G q := fun q h => by rw [← hAe]; exact Or.inr h
  have hS : va_S G s.heap s.heap [] := va_S.rf
  have hP : va_P D vwCl (wM A cI tt) s.heap := hP
  have hl := lv_entry ([.ref (A 0), .int j1, .int j2]) (n := 3) (Nat.le_of_ble_eq_true rfl)
  rw [lg_entry_eq]
  generalize (lg_sl ([.ref (A 0), .int j1, .int j2]) ++ List.replicate (3 - (lg_sl ([.ref (A 0), .int j1, .int j2])).length) Slot.unset).toArray = ls at hl ⊢
  have hl : lv_has ls 3 [(0, .ref (A 0)), (1, .int j1), (2, .int j2)] := hl
  refine W_in ?_
  intro WW hWW
  refine (hWW _ _ _).mpr ?_
  unfold f_X2_areTold at hf
  refine lv_aload_n hx hb dX2_areTold_0 rfl (lv_at hl 0 rfl) ?_
  refine lv_iload_n hx hb dX2_areTold_1 rfl (lv_at hl 1 rfl) ?_
  refine qV_i (As := [.int j1]) (rest := []) ⟨hx, hb, hml, hown, hts⟩ hK hN hA hP hD hS (c_X2_isBidder l D cI A j1 tt (f_X2_isBidder j1 tt) rfl) (cwV 1 hts gX2_areTold_X2_isBidder rfl rfl rfl hd_X2_isBidder ⟨Nat.le_of_ble_eq_true rfl, Nat.le_of_ble_eq_true rfl⟩) (va_recv hK hP (ci := 2) (q0 := 0) rfl rfl) (bq_X2_X2_t A cI tt) rfl hl.1 rfl (Nat.le_of_ble_eq_true rfl) dX2_areTold_2 ⟨Nat.le_of_ble_eq_true rfl, Nat.le_of_ble_eq_true rfl⟩ (fun H locs hP hD hS => ?_)
  refine lv_if_eq (tgt := 20) hx hb dX2_areTold_5 (by decide) (fun c1 => ?_) (fun c1 => ?_)
  · have hf := hT hf c1
    refine lv_iconst (v := (0 : Int32)) hx hb dX2_areTold_20 (by decide) ?_
    subst hf
    exact W.zret (ty := .boolean) (v := (0 : Int32)) hx hb hr rfl (fun t ht hW => ⟨⟨(0 : Int32), (), rfl, rfl, hPt ht hP⟩, hS.F ht⟩) hS.2.2 dX2_areTold_21
  · have hf := hF hf c1
    refine lv_aload_n hx hb dX2_areTold_8 rfl (lv_at hl 0 rfl) ?_
    refine lv_iload_n hx hb dX2_areTold_9 rfl (lv_at hl 2 rfl) ?_
    refine qV_i (As := [.int j2]) (rest := []) ⟨hx, hb, hml, hown, hts⟩ hK hN hA hP hD hS (c_X2_isCard l D cI A j2 tt (f_X2_isCard j2 tt) rfl) (cwV 1 hts gX2_areTold_X2_isCard rfl rfl rfl hd_X2_isCard ⟨Nat.le_of_ble_eq_true rfl, Nat.le_of_ble_eq_true rfl⟩) (va_recv hK hP (ci := 2) (q0 := 0) rfl rfl) (bq_X2_X2_t A cI tt) rfl hl.1 rfl (Nat.le_of_ble_eq_true rfl) dX2_areTold_10 ⟨Nat.le_of_ble_eq_true rfl, Nat.le_of_ble_eq_true rfl⟩ (fun H locs hP hD hS => ?_)
    refine lv_if_eq (tgt := 20) hx hb dX2_areTold_13 (by decide) (fun c2 => ?_) (fun c2 => ?_)
    · have hf := hT hf c2
      refine lv_iconst (v := (0 : Int32)) hx hb dX2_areTold_20 (by decide) ?_
      subst hf
      exact W.zret (ty := .boolean) (v := (0 : Int32)) hx hb hr rfl (fun t ht hW => ⟨⟨(0 : Int32), (), rfl, rfl, hPt ht hP⟩, hS.F ht⟩) hS.2.2 dX2_areTold_21
    · have hf := hF hf c2
      refine lv_iconst (v := (1 : Int32)) hx hb dX2_areTold_16 (by decide) ?_
      refine lv_goto (tgt := 21) hx hb dX2_areTold_17 (by decide) ?_
      subst hf
      exact W.zret (ty := .boolean) (v := (1 : Int32)) hx hb hr rfl (fun t ht hW => ⟨⟨(1 : Int32), (), rfl, rfl, hPt ht hP⟩, hS.F ht⟩) hS.2.2 dX2_areTold_21
set_option maxHeartbeats 4000000 in
set_option maxRecDepth 100000 in
theorem c_X2_bids (l : Launch) (D : va_G) (cI : ClassId) (A : Nat → Nat) (j1 : Int32) (j2 : Int32) (tt : HS) (out : Int32 × HS) (hf : f_X2_bids j1 j2 tt = some out) : uI l D cI yX2_bids wsX2_bids ({ frames := 4, cells := 0, slots := 0, locals := 90 } : Room) [.ref (A 0), .int j1, .int j2] (wM A cI tt) (wM A cI out.2) out.1 := by
  intro sz
  refine Met.ofW (cc := cX2_bids) (maxL := 3) (ret := (some .int)) (by decide) rfl ?_
  intro p e s m args below meth c s₁ Bd hml hv
  obtain ⟨rfl, hsz, hP, hK, hD0, hN⟩ := hv
  have hx := Bd.exec
  have hb := Bd.bytes
  have hr := Bd.returns
  have hts := atoms_spec (ws := wsX2_bids) Bd.pre
  have hown : s.vm.findClass RX2 = some m.cls := findClass_of_methodNamed Bd.named
  have hlocks := Bd.notSynchronized
  subst hsz
  have hD := hD0.self (sz := s.heap.size)
  generalize hAe : va_A (wM A cI tt) s.heap.size = G at hD ⊢
  have hA : ∀ q : Nat, s.heap.size ≤ q → G q := fun q h => by rw [← hAe]; exact Or.inr h
  have hS : va_S G s.heap s.heap [] := va_S.rf
  have hP : va_P D vwCl (wM A cI tt) s.heap := hP
  have hl := lv_entry ([.ref (A 0), .int j1, .int j2]) (n := 3) (Nat.le_of_ble_eq_true rfl)
  rw [lg_entry_eq]
  generalize (lg_sl ([.ref (A 0), .int j1, .int j2]) ++ List.replicate (3 - (lg_sl ([.ref (A 0), .int j1, .int j2])).length) Slot.unset).toArray = ls at hl ⊢
  have hl : lv_has ls 3 [(0, .ref (A 0)), (1, .int j1), (2, .int j2)] := hl
  refine W_in ?_
  intro WW hWW
  refine (hWW _ _ _).mpr ?_
  unfold f_X2_bids at hf
  refine lv_aload_n hx hb dX2_bids_0 rfl (lv_at hl 0 rfl) ?_
  refine lv_iload_n hx hb dX2_bids_1 rfl (lv_at hl 1 rfl) ?_
  refine lv_iload_n hx hb dX2_bids_2 rfl (lv_at hl 2 rfl) ?_
  refine qV_i (As := [.int j1, .int j2]) (rest := []) ⟨hx, hb, hml, hown, hts⟩ hK hN hA hP hD hS (c_X2_areTold l D cI A j1 j2 tt (f_X2_areTold j1 j2 tt) rfl) (cwV 2 hts gX2_bids_X2_areTold rfl rfl rfl hd_X2_areTold ⟨Nat.le_of_ble_eq_true rfl, Nat.le_of_ble_eq_true rfl⟩) (va_recv hK hP (ci := 2) (q0 := 0) rfl rfl) (bq_X2_X2_t A cI tt) rfl hl.1 rfl (Nat.le_of_ble_eq_true rfl) dX2_bids_3 ⟨Nat.le_of_ble_eq_true rfl, Nat.le_of_ble_eq_true rfl⟩ (fun H locs hP hD hS => ?_)
  refine lv_if_eq (tgt := 18) hx hb dX2_bids_6 (by decide) (fun c1 => ?_) (fun c1 => ?_)
  · have hf := hT hf c1
    refine lv_aload_n hx hb dX2_bids_18 rfl (lv_at hl 0 rfl) ?_
    refine lv_iconst (v := (-1 : Int32)) hx hb dX2_bids_19 (by decide) ?_
    obtain ⟨v2, hev2, hf⟩ := bS hf
    refine qV_i (ws' := (wM A cI v2.2)) (As := [.int (-1 : Int32)]) (rest := []) ⟨hx, hb, hml, hown, hts⟩ hK hN hA hP hD hS (c_X2_no l D cI A (-1 : Int32) tt v2 hev2) (cwV 1 hts gX2_bids_X2_no rfl rfl rfl hd_X2_no ⟨Nat.le_of_ble_eq_true rfl, Nat.le_of_ble_eq_true rfl⟩) (va_recv hK hP (ci := 2) (q0 := 0) rfl rfl) (bp_X2_X2_t_t A cI tt v2.2) rfl hl.1 rfl (Nat.le_of_ble_eq_true rfl) dX2_bids_20 ⟨Nat.le_of_ble_eq_true rfl, Nat.le_of_ble_eq_true rfl⟩ (fun H locs hP hD hS => ?_)
    have hP : va_P D vwCl (wM A cI v2.2) H := hP
    obtain rfl := Option.some.inj hf
    exact W.iret (v := v2.1) hx hb hr (fun t ht hW => ⟨⟨v2.1, (), rfl, rfl, hPt ht hP⟩, hS.F ht⟩) hS.2.2 dX2_bids_23
  · have hf := hF hf c1
    refine lv_aload_n hx hb dX2_bids_9 rfl (lv_at hl 0 rfl) ?_
    refine lv_iload_n hx hb dX2_bids_10 rfl (lv_at hl 1 rfl) ?_
    refine lv_iload_n hx hb dX2_bids_11 rfl (lv_at hl 2 rfl) ?_
    obtain ⟨v3, hev3, hf⟩ := bS hf
    refine qV_i (As := [.int j1, .int j2]) (rest := []) ⟨hx, hb, hml, hown, hts⟩ hK hN hA hP hD hS (c_X2_bidOf l D cI A j1 j2 tt v3 hev3) (cwV 2 hts gX2_bids_X2_bidOf rfl rfl rfl hd_X2_bidOf ⟨Nat.le_of_ble_eq_true rfl, Nat.le_of_ble_eq_true rfl⟩) (va_recv hK hP (ci := 2) (q0 := 0) rfl rfl) (bq_X2_X2_t A cI tt) rfl hl.1 rfl (Nat.le_of_ble_eq_true rfl) dX2_bids_12 ⟨Nat.le_of_ble_eq_true rfl, Nat.le_of_ble_eq_true rfl⟩ (fun H locs hP hD hS => ?_)
    refine lv_goto (tgt := 23) hx hb dX2_bids_15 (by decide) ?_
    obtain rfl := Option.some.inj hf
    exact W.iret (v := v3) hx hb hr (fun t ht hW => ⟨⟨v3, (), rfl, rfl, hPt ht hP⟩, hS.F ht⟩) hS.2.2 dX2_bids_23
set_option maxHeartbeats 4000000 in
set_option maxRecDepth 100000 in
theorem c_X2_pays (l : Launch) (D : va_G) (cI : ClassId) (A : Nat → Nat) (j1 : Int32) (j2 : Int32) (tt : HS) (out : Int32 × HS) (hf : f_X2_pays j1 j2 tt = some out) : uI l D cI yX2_pays wsX2_pays ({ frames := 1, cells := 0, slots := 0, locals := 22 } : Room) [.ref (A 0), .int j1, .int j2] (wM A cI tt) (wM A cI out.2) out.1 := by
  intro sz
  refine Met.ofW (cc := cX2_pays) (maxL := 5) (ret := (some .int)) (by decide) rfl ?_
  intro p e s m args below meth c s₁ Bd hml hv
  obtain ⟨rfl, hsz, hP, hK, hD0, hN⟩ := hv
  have hx := Bd.exec
  have hb := Bd.bytes
  have hr := Bd.returns
  have hts := atoms_spec (ws := wsX2_pays) Bd.pre
  have hown : s.vm.findClass RX2 = some m.cls := findClass_of_methodNamed Bd.named
  have hlocks := Bd.notSynchronized
  subst hsz
  have hD := hD0.self (sz := s.heap.size)
  generalize hAe : va_A (wM A cI tt) s.heap.size = G at hD ⊢
  have hA : ∀ q : Nat, s.heap.size ≤ q → G q := fun q h => by rw [← hAe]; exact Or.inr h
  have hS : va_S G s.heap s.heap [] := va_S.rf
  have hP : va_P D vwCl (wM A cI tt) s.heap := hP
  have hl := lv_entry ([.ref (A 0), .int j1, .int j2]) (n := 5) (Nat.le_of_ble_eq_true rfl)
  rw [lg_entry_eq]
  generalize (lg_sl ([.ref (A 0), .int j1, .int j2]) ++ List.replicate (5 - (lg_sl ([.ref (A 0), .int j1, .int j2])).length) Slot.unset).toArray = ls at hl ⊢
  have hl : lv_has ls 5 [(0, .ref (A 0)), (1, .int j1), (2, .int j2)] := hl
  have hinM : ∀ w ∈ wsX20, w ∈ wsX2_pays := by decide +kernel
  have lk0 := hts (.fieldLink RX2 37 "LiesBoughtBackModel" "purse" "[I") (by decide +kernel)
  refine W_in ?_
  intro WW hWW
  refine (hWW _ _ _).mpr ?_
  unfold f_X2_pays at hf
  refine lv_aload_n hx hb dX2_pays_0 rfl (lv_at hl 0 rfl) ?_
  refine lv_iload_n hx hb dX2_pays_1 rfl (lv_at hl 1 rfl) ?_
  refine qV_i (As := [.int j1]) (rest := []) ⟨hx, hb, hml, hown, hts⟩ hK hN hA hP hD hS (c_X2_isBidder l D cI A j1 tt (f_X2_isBidder j1 tt) rfl) (cwV 1 hts gX2_pays_X2_isBidder rfl rfl rfl hd_X2_isBidder ⟨Nat.le_of_ble_eq_true rfl, Nat.le_of_ble_eq_true rfl⟩) (va_recv hK hP (ci := 2) (q0 := 0) rfl rfl) (bq_X2_X2_t A cI tt) rfl hl.1 rfl (Nat.le_of_ble_eq_true rfl) dX2_pays_2 ⟨Nat.le_of_ble_eq_true rfl, Nat.le_of_ble_eq_true rfl⟩ (fun H locs hP hD hS => ?_)
  refine lv_if_ne (tgt := 12) hx hb dX2_pays_5 (by decide) (fun c1 => ?_) (fun c1 => ?_)
  · have hf := hF hf c1
    refine lv_iload_n hx hb dX2_pays_12 rfl (lv_at hl 2 rfl) ?_
    refine lv_iconst (v := (0 : Int32)) hx hb dX2_pays_13 (by decide) ?_
    refine lv_sipush (v := (999 : Int32)) hx hb dX2_pays_14 (by decide) ?_
    refine qS_i (As := [.int j2, .int (0 : Int32), .int (999 : Int32)]) (rest := []) ⟨hx, hb, hml, hown, hts⟩ hK hN hA hP hD hS (c_X2_bound l D cI j2 (0 : Int32) (999 : Int32) (f_X2_bound j2 (0 : Int32) (999 : Int32)) rfl) (va_cwS 3 hts gX2_pays_X2_bound rfl rfl rfl hd_X2_bound.2 ⟨Nat.le_of_ble_eq_true rfl, Nat.le_of_ble_eq_true rfl⟩) Bp_e rfl hl.1 rfl (Nat.le_of_ble_eq_true rfl) dX2_pays_17 ⟨Nat.le_of_ble_eq_true rfl, Nat.le_of_ble_eq_true rfl⟩ (fun H locs hP hD hS => ?_)
    refine lv_istore_n (lv' := [(3, .int (f_X2_bound j2 (0 : Int32) (999 : Int32))), (0, .ref (A 0)), (1, .int j1), (2, .int j2)]) hx hb dX2_pays_20 rfl hl (by decide) rfl (fun ls hl => ?_)
    refine lv_iload_n hx hb dX2_pays_21 rfl (lv_at hl 0 rfl) ?_
    refine lv_if_eq (tgt := 31) hx hb dX2_pays_22 (by decide) (fun c2 => ?_) (fun c2 => ?_)
    · have hf := hT hf c2
      refine lv_aload_n hx hb dX2_pays_31 rfl (lv_at hl 1 rfl) ?_
      refine va_get (D := D) (ci := 2) (v := .ref (A 10)) (C := RX2) (T := TX2) (N := 31) hx hb hts hinM hown hK hP 0 rfl rfl 9 (by decide) lk0 (fun _ h9 => h9) rfl dX2_pays_32 ?_
      refine lv_iload_n hx hb dX2_pays_35 rfl (lv_at hl 2 rfl) ?_
      obtain ⟨v3, he, hf⟩ := bS hf
      refine x_iald hx hb hK hP 10 (n := 6) rfl he dX2_pays_36 ?_
      refine lv_istore (lv' := [(4, .int v3), (3, .int (f_X2_bound j2 (0 : Int32) (999 : Int32))), (0, .ref (A 0)), (1, .int j1), (2, .int j2)]) hx hb dX2_pays_37 hl (by decide) rfl (fun ls hl => ?_)
      refine lv_aload_n hx hb dX2_pays_39 rfl (lv_at hl 2 rfl) ?_
      refine va_get (D := D) (ci := 2) (v := .ref (A 10)) (C := RX2) (T := TX2) (N := 31) hx hb hts hinM hown hK hP 0 rfl rfl 9 (by decide) lk0 (fun _ h9 => h9) rfl dX2_pays_40 ?_
      refine lv_iload_n hx hb dX2_pays_43 rfl (lv_at hl 3 rfl) ?_
      refine lv_iload_n hx hb dX2_pays_44 rfl (lv_at hl 4 rfl) ?_
      obtain ⟨v4, he, hf⟩ := bS hf
      obtain ⟨tt_v5, ett_v5, hf⟩ := jnS hf
      refine x_iast (ws' := (wM A cI tt_v5)) hx hb hK hP hD hS 10 (n := 6) rfl he ((sa_X2_t_9 A cI tt v4).trans (congrArg (fun z => wM A cI z) ett_v5.symm)) dX2_pays_45 (fun H locs hP hD hS => ?_)
      refine lv_iload hx hb dX2_pays_46 (lv_at hl 0 rfl) ?_
      obtain rfl := Option.some.inj hf
      exact W.iret (v := v3) hx hb hr (fun t ht hW => ⟨⟨v3, (), rfl, rfl, hPt ht hP⟩, hS.F ht⟩) hS.2.2 dX2_pays_48
    · have hf := hF hf c2
      refine lv_aload_n hx hb dX2_pays_25 rfl (lv_at hl 1 rfl) ?_
      refine lv_iload_n hx hb dX2_pays_26 rfl (lv_at hl 0 rfl) ?_
      obtain ⟨v6, hev6, hf⟩ := bS hf
      refine qV_i (ws' := (wM A cI v6.2)) (As := [.int (f_X2_bound j2 (0 : Int32) (999 : Int32))]) (rest := []) ⟨hx, hb, hml, hown, hts⟩ hK hN hA hP hD hS (c_X2_no l D cI A (f_X2_bound j2 (0 : Int32) (999 : Int32)) tt v6 hev6) (cwV 1 hts gX2_pays_X2_no rfl rfl rfl hd_X2_no ⟨Nat.le_of_ble_eq_true rfl, Nat.le_of_ble_eq_true rfl⟩) (va_recv hK hP (ci := 2) (q0 := 0) rfl rfl) (bp_X2_X2_t_t A cI tt v6.2) rfl hl.1 rfl (Nat.le_of_ble_eq_true rfl) dX2_pays_27 ⟨Nat.le_of_ble_eq_true rfl, Nat.le_of_ble_eq_true rfl⟩ (fun H locs hP hD hS => ?_)
      have hP : va_P D vwCl (wM A cI v6.2) H := hP
      obtain rfl := Option.some.inj hf
      exact W.iret (v := v6.1) hx hb hr (fun t ht hW => ⟨⟨v6.1, (), rfl, rfl, hPt ht hP⟩, hS.F ht⟩) hS.2.2 dX2_pays_30
  · have hf := hT hf c1
    refine lv_iconst (v := (-1 : Int32)) hx hb dX2_pays_8 (by decide) ?_
    refine lv_goto (tgt := 20) hx hb dX2_pays_9 (by decide) ?_
    refine lv_istore_n (lv' := [(3, .int (-1 : Int32)), (0, .ref (A 0)), (1, .int j1), (2, .int j2)]) hx hb dX2_pays_20 rfl hl (by decide) rfl (fun ls hl => ?_)
    refine lv_iload_n hx hb dX2_pays_21 rfl (lv_at hl 0 rfl) ?_
    refine lv_if_eq (tgt := 31) hx hb dX2_pays_22 (by decide) (fun c7 => ?_) (fun c7 => ?_)
    · exact absurd c7 (by decide)
    · refine lv_aload_n hx hb dX2_pays_25 rfl (lv_at hl 1 rfl) ?_
      refine lv_iload_n hx hb dX2_pays_26 rfl (lv_at hl 0 rfl) ?_
      obtain ⟨v8, hev8, hf⟩ := bS hf
      refine qV_i (ws' := (wM A cI v8.2)) (As := [.int (-1 : Int32)]) (rest := []) ⟨hx, hb, hml, hown, hts⟩ hK hN hA hP hD hS (c_X2_no l D cI A (-1 : Int32) tt v8 hev8) (cwV 1 hts gX2_pays_X2_no rfl rfl rfl hd_X2_no ⟨Nat.le_of_ble_eq_true rfl, Nat.le_of_ble_eq_true rfl⟩) (va_recv hK hP (ci := 2) (q0 := 0) rfl rfl) (bp_X2_X2_t_t A cI tt v8.2) rfl hl.1 rfl (Nat.le_of_ble_eq_true rfl) dX2_pays_27 ⟨Nat.le_of_ble_eq_true rfl, Nat.le_of_ble_eq_true rfl⟩ (fun H locs hP hD hS => ?_)
      have hP : va_P D vwCl (wM A cI v8.2) H := hP
      obtain rfl := Option.some.inj hf
      exact W.iret (v := v8.1) hx hb hr (fun t ht hW => ⟨⟨v8.1, (), rfl, rfl, hPt ht hP⟩, hS.F ht⟩) hS.2.2 dX2_pays_30
set_option maxHeartbeats 4000000 in
set_option maxRecDepth 100000 in
theorem c_X2_returns (l : Launch) (D : va_G) (cI : ClassId) (A : Nat → Nat) (j1 : Int32) (tt : HS) (out : Int32 × HS) (hf : f_X2_returns j1 tt = some out) : uI l D cI yX2_returns wsX2_returns ({ frames := 1, cells := 0, slots := 0, locals := 21 } : Room) [.ref (A 0), .int j1] (wM A cI tt) (wM A cI out.2) out.1 := by
  intro sz
  refine Met.ofW (cc := cX2_returns) (maxL := 4) (ret := (some .int)) (by decide) rfl ?_
  intro p e s m args below meth c s₁ Bd hml hv
  obtain ⟨rfl, hsz, hP, hK, hD0, hN⟩ := hv
  have hx := Bd.exec
  have hb := Bd.bytes
  have hr := Bd.returns
  have hts := atoms_spec (ws := wsX2_returns) Bd.pre
  have hown : s.vm.findClass RX2 = some m.cls := findClass_of_methodNamed Bd.named
  have hlocks := Bd.notSynchronized
  subst hsz
  have hD := hD0.self (sz := s.heap.size)
  generalize hAe : va_A (wM A cI tt) s.heap.size = G at hD ⊢
  have hA : ∀ q : Nat, s.heap.size ≤ q → G q := fun q h => by rw [← hAe]; exact Or.inr h
  have hS : va_S G s.heap s.heap [] := va_S.rf
  have hP : va_P D vwCl (wM A cI tt) s.heap := hP
  have hl := lv_entry ([.ref (A 0), .int j1]) (n := 4) (Nat.le_of_ble_eq_true rfl)
  rw [lg_entry_eq]
  generalize (lg_sl ([.ref (A 0), .int j1]) ++ List.replicate (4 - (lg_sl ([.ref (A 0), .int j1])).length) Slot.unset).toArray = ls at hl ⊢
  have hl : lv_has ls 4 [(0, .ref (A 0)), (1, .int j1)] := hl
  have hinM : ∀ w ∈ wsX20, w ∈ wsX2_returns := by decide +kernel
  have lk0 := hts (.fieldLink RX2 25 "LiesBoughtBackModel" "holder" "[I") (by decide +kernel)
  refine W_in ?_
  intro WW hWW
  refine (hWW _ _ _).mpr ?_
  unfold f_X2_returns at hf
  refine lv_aload_n hx hb dX2_returns_0 rfl (lv_at hl 0 rfl) ?_
  refine lv_iload_n hx hb dX2_returns_1 rfl (lv_at hl 1 rfl) ?_
  refine qV_i (As := [.int j1]) (rest := []) ⟨hx, hb, hml, hown, hts⟩ hK hN hA hP hD hS (c_X2_isCard l D cI A j1 tt (f_X2_isCard j1 tt) rfl) (cwV 1 hts gX2_returns_X2_isCard rfl rfl rfl hd_X2_isCard ⟨Nat.le_of_ble_eq_true rfl, Nat.le_of_ble_eq_true rfl⟩) (va_recv hK hP (ci := 2) (q0 := 0) rfl rfl) (bq_X2_X2_t A cI tt) rfl hl.1 rfl (Nat.le_of_ble_eq_true rfl) dX2_returns_2 ⟨Nat.le_of_ble_eq_true rfl, Nat.le_of_ble_eq_true rfl⟩ (fun H locs hP hD hS => ?_)
  refine lv_if_ne (tgt := 12) hx hb dX2_returns_5 (by decide) (fun c1 => ?_) (fun c1 => ?_)
  · have hf := hF hf c1
    refine lv_aload_n hx hb dX2_returns_12 rfl (lv_at hl 0 rfl) ?_
    refine va_get (D := D) (ci := 2) (v := .ref (A 6)) (C := RX2) (T := TX2) (N := 31) hx hb hts hinM hown hK hP 0 rfl rfl 5 (by decide) lk0 (fun _ h9 => h9) rfl dX2_returns_13 ?_
    refine lv_iload_n hx hb dX2_returns_16 rfl (lv_at hl 1 rfl) ?_
    obtain ⟨v2, he, hf⟩ := bS hf
    refine x_iald hx hb hK hP 6 (n := 8) rfl he dX2_returns_17 ?_
    refine lv_if_ne (tgt := 26) hx hb dX2_returns_18 (by decide) (fun c3 => ?_) (fun c3 => ?_)
    · have hf := hF hf c3
      refine lv_iconst (v := (0 : Int32)) hx hb dX2_returns_26 (by decide) ?_
      refine lv_istore_n (lv' := [(2, .int (0 : Int32)), (0, .ref (A 0)), (1, .int j1)]) hx hb dX2_returns_27 rfl hl (by decide) rfl (fun ls hl => ?_)
      refine lv_iload_n hx hb dX2_returns_28 rfl (lv_at hl 0 rfl) ?_
      refine lv_if_eq (tgt := 38) hx hb dX2_returns_29 (by decide) (fun c4 => ?_) (fun c4 => ?_)
      · refine lv_aload_n hx hb dX2_returns_38 rfl (lv_at hl 1 rfl) ?_
        refine lv_iload_n hx hb dX2_returns_39 rfl (lv_at hl 2 rfl) ?_
        obtain ⟨v5, hev5, hf⟩ := bS hf
        refine qV_i (As := [.int j1]) (rest := []) ⟨hx, hb, hml, hown, hts⟩ hK hN hA hP hD hS (c_X2_holderOf l D cI A j1 tt v5 hev5) (cwV 1 hts gX2_returns_X2_holderOf rfl rfl rfl hd_X2_holderOf ⟨Nat.le_of_ble_eq_true rfl, Nat.le_of_ble_eq_true rfl⟩) (va_recv hK hP (ci := 2) (q0 := 0) rfl rfl) (bq_X2_X2_t A cI tt) rfl hl.1 rfl (Nat.le_of_ble_eq_true rfl) dX2_returns_40 ⟨Nat.le_of_ble_eq_true rfl, Nat.le_of_ble_eq_true rfl⟩ (fun H locs hP hD hS => ?_)
        refine lv_istore_n (lv' := [(3, .int v5), (2, .int (0 : Int32)), (0, .ref (A 0)), (1, .int j1)]) hx hb dX2_returns_43 rfl hl (by decide) rfl (fun ls hl => ?_)
        refine lv_aload_n hx hb dX2_returns_44 rfl (lv_at hl 2 rfl) ?_
        refine va_get (D := D) (ci := 2) (v := .ref (A 6)) (C := RX2) (T := TX2) (N := 31) hx hb hts hinM hown hK hP 0 rfl rfl 5 (by decide) lk0 (fun _ h9 => h9) rfl dX2_returns_45 ?_
        refine lv_iload_n hx hb dX2_returns_48 rfl (lv_at hl 3 rfl) ?_
        refine lv_iconst (v := (0 : Int32)) hx hb dX2_returns_49 (by decide) ?_
        obtain ⟨v6, he, hf⟩ := bS hf
        obtain ⟨tt_v7, ett_v7, hf⟩ := jnS hf
        refine x_iast (ws' := (wM A cI tt_v7)) hx hb hK hP hD hS 6 (n := 8) rfl he ((sa_X2_t_5 A cI tt v6).trans (congrArg (fun z => wM A cI z) ett_v7.symm)) dX2_returns_50 (fun H locs hP hD hS => ?_)
        refine lv_iload_n hx hb dX2_returns_51 rfl (lv_at hl 0 rfl) ?_
        obtain rfl := Option.some.inj hf
        exact W.iret (v := v5) hx hb hr (fun t ht hW => ⟨⟨v5, (), rfl, rfl, hPt ht hP⟩, hS.F ht⟩) hS.2.2 dX2_returns_52
      · exact absurd c4 (by decide)
    · have hf := hT hf c3
      refine lv_bipush (v := (-3 : Int32)) hx hb dX2_returns_21 (by decide) ?_
      refine lv_goto (tgt := 27) hx hb dX2_returns_23 (by decide) ?_
      refine lv_istore_n (lv' := [(2, .int (-3 : Int32)), (0, .ref (A 0)), (1, .int j1)]) hx hb dX2_returns_27 rfl hl (by decide) rfl (fun ls hl => ?_)
      refine lv_iload_n hx hb dX2_returns_28 rfl (lv_at hl 0 rfl) ?_
      refine lv_if_eq (tgt := 38) hx hb dX2_returns_29 (by decide) (fun c8 => ?_) (fun c8 => ?_)
      · exact absurd c8 (by decide)
      · refine lv_aload_n hx hb dX2_returns_32 rfl (lv_at hl 1 rfl) ?_
        refine lv_iload_n hx hb dX2_returns_33 rfl (lv_at hl 0 rfl) ?_
        obtain ⟨v9, hev9, hf⟩ := bS hf
        refine qV_i (ws' := (wM A cI v9.2)) (As := [.int (-3 : Int32)]) (rest := []) ⟨hx, hb, hml, hown, hts⟩ hK hN hA hP hD hS (c_X2_no l D cI A (-3 : Int32) tt v9 hev9) (cwV 1 hts gX2_returns_X2_no rfl rfl rfl hd_X2_no ⟨Nat.le_of_ble_eq_true rfl, Nat.le_of_ble_eq_true rfl⟩) (va_recv hK hP (ci := 2) (q0 := 0) rfl rfl) (bp_X2_X2_t_t A cI tt v9.2) rfl hl.1 rfl (Nat.le_of_ble_eq_true rfl) dX2_returns_34 ⟨Nat.le_of_ble_eq_true rfl, Nat.le_of_ble_eq_true rfl⟩ (fun H locs hP hD hS => ?_)
        have hP : va_P D vwCl (wM A cI v9.2) H := hP
        obtain rfl := Option.some.inj hf
        exact W.iret (v := v9.1) hx hb hr (fun t ht hW => ⟨⟨v9.1, (), rfl, rfl, hPt ht hP⟩, hS.F ht⟩) hS.2.2 dX2_returns_37
  · have hf := hT hf c1
    refine lv_iconst (v := (-1 : Int32)) hx hb dX2_returns_8 (by decide) ?_
    refine lv_goto (tgt := 27) hx hb dX2_returns_9 (by decide) ?_
    refine lv_istore_n (lv' := [(2, .int (-1 : Int32)), (0, .ref (A 0)), (1, .int j1)]) hx hb dX2_returns_27 rfl hl (by decide) rfl (fun ls hl => ?_)
    refine lv_iload_n hx hb dX2_returns_28 rfl (lv_at hl 0 rfl) ?_
    refine lv_if_eq (tgt := 38) hx hb dX2_returns_29 (by decide) (fun c10 => ?_) (fun c10 => ?_)
    · exact absurd c10 (by decide)
    · refine lv_aload_n hx hb dX2_returns_32 rfl (lv_at hl 1 rfl) ?_
      refine lv_iload_n hx hb dX2_returns_33 rfl (lv_at hl 0 rfl) ?_
      obtain ⟨v11, hev11, hf⟩ := bS hf
      refine qV_i (ws' := (wM A cI v11.2)) (As := [.int (-1 : Int32)]) (rest := []) ⟨hx, hb, hml, hown, hts⟩ hK hN hA hP hD hS (c_X2_no l D cI A (-1 : Int32) tt v11 hev11) (cwV 1 hts gX2_returns_X2_no rfl rfl rfl hd_X2_no ⟨Nat.le_of_ble_eq_true rfl, Nat.le_of_ble_eq_true rfl⟩) (va_recv hK hP (ci := 2) (q0 := 0) rfl rfl) (bp_X2_X2_t_t A cI tt v11.2) rfl hl.1 rfl (Nat.le_of_ble_eq_true rfl) dX2_returns_34 ⟨Nat.le_of_ble_eq_true rfl, Nat.le_of_ble_eq_true rfl⟩ (fun H locs hP hD hS => ?_)
      have hP : va_P D vwCl (wM A cI v11.2) H := hP
      obtain rfl := Option.some.inj hf
      exact W.iret (v := v11.1) hx hb hr (fun t ht hW => ⟨⟨v11.1, (), rfl, rfl, hPt ht hP⟩, hS.F ht⟩) hS.2.2 dX2_returns_37
set_option maxHeartbeats 4000000 in
set_option maxRecDepth 100000 in
theorem c_X2_gives (l : Launch) (D : va_G) (cI : ClassId) (A : Nat → Nat) (j1 : Int32) (j2 : Int32) (tt : HS) (out : Int32 × HS) (hf : f_X2_gives j1 j2 tt = some out) : uI l D cI yX2_gives wsX2_gives ({ frames := 2, cells := 0, slots := 0, locals := 43 } : Room) [.ref (A 0), .int j1, .int j2] (wM A cI tt) (wM A cI out.2) out.1 := by
  intro sz
  refine Met.ofW (cc := cX2_gives) (maxL := 4) (ret := (some .int)) (by decide) rfl ?_
  intro p e s m args below meth c s₁ Bd hml hv
  obtain ⟨rfl, hsz, hP, hK, hD0, hN⟩ := hv
  have hx := Bd.exec
  have hb := Bd.bytes
  have hr := Bd.returns
  have hts := atoms_spec (ws := wsX2_gives) Bd.pre
  have hown : s.vm.findClass RX2 = some m.cls := findClass_of_methodNamed Bd.named
  have hlocks := Bd.notSynchronized
  subst hsz
  have hD := hD0.self (sz := s.heap.size)
  generalize hAe : va_A (wM A cI tt) s.heap.size = G at hD ⊢
  have hA : ∀ q : Nat, s.heap.size ≤ q → G q := fun q h => by rw [← hAe]; exact Or.inr h
  have hS : va_S G s.heap s.heap [] := va_S.rf
  have hP : va_P D vwCl (wM A cI tt) s.heap := hP
  have hl := lv_entry ([.ref (A 0), .int j1, .int j2]) (n := 4) (Nat.le_of_ble_eq_true rfl)
  rw [lg_entry_eq]
  generalize (lg_sl ([.ref (A 0), .int j1, .int j2]) ++ List.replicate (4 - (lg_sl ([.ref (A 0), .int j1, .int j2])).length) Slot.unset).toArray = ls at hl ⊢
  have hl : lv_has ls 4 [(0, .ref (A 0)), (1, .int j1), (2, .int j2)] := hl
  have hinM : ∀ w ∈ wsX20, w ∈ wsX2_gives := by decide +kernel
  have lk0 := hts (.fieldLink RX2 25 "LiesBoughtBackModel" "holder" "[I") (by decide +kernel)
  refine W_in ?_
  intro WW hWW
  refine (hWW _ _ _).mpr ?_
  unfold f_X2_gives at hf
  refine lv_aload_n hx hb dX2_gives_0 rfl (lv_at hl 0 rfl) ?_
  refine lv_iload_n hx hb dX2_gives_1 rfl (lv_at hl 2 rfl) ?_
  refine lv_iload_n hx hb dX2_gives_2 rfl (lv_at hl 1 rfl) ?_
  refine qV_i (As := [.int j2, .int j1]) (rest := []) ⟨hx, hb, hml, hown, hts⟩ hK hN hA hP hD hS (c_X2_areTold l D cI A j2 j1 tt (f_X2_areTold j2 j1 tt) rfl) (cwV 2 hts gX2_gives_X2_areTold rfl rfl rfl hd_X2_areTold ⟨Nat.le_of_ble_eq_true rfl, Nat.le_of_ble_eq_true rfl⟩) (va_recv hK hP (ci := 2) (q0 := 0) rfl rfl) (bq_X2_X2_t A cI tt) rfl hl.1 rfl (Nat.le_of_ble_eq_true rfl) dX2_gives_3 ⟨Nat.le_of_ble_eq_true rfl, Nat.le_of_ble_eq_true rfl⟩ (fun H locs hP hD hS => ?_)
  refine lv_if_ne (tgt := 15) hx hb dX2_gives_6 (by decide) (fun c1 => ?_) (fun c1 => ?_)
  · have hf := hF hf c1
    refine lv_aload_n hx hb dX2_gives_15 rfl (lv_at hl 0 rfl) ?_
    refine lv_iload_n hx hb dX2_gives_16 rfl (lv_at hl 1 rfl) ?_
    obtain ⟨v2, hev2, hf⟩ := bS hf
    refine qV_i (As := [.int j1]) (rest := []) ⟨hx, hb, hml, hown, hts⟩ hK hN hA hP hD hS (c_X2_holderOf l D cI A j1 tt v2 hev2) (cwV 1 hts gX2_gives_X2_holderOf rfl rfl rfl hd_X2_holderOf ⟨Nat.le_of_ble_eq_true rfl, Nat.le_of_ble_eq_true rfl⟩) (va_recv hK hP (ci := 2) (q0 := 0) rfl rfl) (bq_X2_X2_t A cI tt) rfl hl.1 rfl (Nat.le_of_ble_eq_true rfl) dX2_gives_17 ⟨Nat.le_of_ble_eq_true rfl, Nat.le_of_ble_eq_true rfl⟩ (fun H locs hP hD hS => ?_)
    refine lv_istore_n (lv' := [(3, .int v2), (0, .ref (A 0)), (1, .int j1), (2, .int j2)]) hx hb dX2_gives_20 rfl hl (by decide) rfl (fun ls hl => ?_)
    refine lv_aload_n hx hb dX2_gives_21 rfl (lv_at hl 1 rfl) ?_
    refine va_get (D := D) (ci := 2) (v := .ref (A 6)) (C := RX2) (T := TX2) (N := 31) hx hb hts hinM hown hK hP 0 rfl rfl 5 (by decide) lk0 (fun _ h9 => h9) rfl dX2_gives_22 ?_
    refine lv_iload_n hx hb dX2_gives_25 rfl (lv_at hl 2 rfl) ?_
    refine lv_iload_n hx hb dX2_gives_26 rfl (lv_at hl 3 rfl) ?_
    refine lv_iconst (v := (1 : Int32)) hx hb dX2_gives_27 (by decide) ?_
    refine lv_iadd hx hb dX2_gives_28 ?_
    obtain ⟨v3, he, hf⟩ := bS hf
    obtain ⟨tt_v4, ett_v4, hf⟩ := jnS hf
    refine x_iast (ws' := (wM A cI tt_v4)) hx hb hK hP hD hS 6 (n := 8) rfl he ((sa_X2_t_5 A cI tt v3).trans (congrArg (fun z => wM A cI z) ett_v4.symm)) dX2_gives_29 (fun H locs hP hD hS => ?_)
    refine lv_iload_n hx hb dX2_gives_30 rfl (lv_at hl 0 rfl) ?_
    obtain rfl := Option.some.inj hf
    exact W.iret (v := v2) hx hb hr (fun t ht hW => ⟨⟨v2, (), rfl, rfl, hPt ht hP⟩, hS.F ht⟩) hS.2.2 dX2_gives_31
  · have hf := hT hf c1
    refine lv_aload_n hx hb dX2_gives_9 rfl (lv_at hl 0 rfl) ?_
    refine lv_iconst (v := (-1 : Int32)) hx hb dX2_gives_10 (by decide) ?_
    obtain ⟨v5, hev5, hf⟩ := bS hf
    refine qV_i (ws' := (wM A cI v5.2)) (As := [.int (-1 : Int32)]) (rest := []) ⟨hx, hb, hml, hown, hts⟩ hK hN hA hP hD hS (c_X2_no l D cI A (-1 : Int32) tt v5 hev5) (cwV 1 hts gX2_gives_X2_no rfl rfl rfl hd_X2_no ⟨Nat.le_of_ble_eq_true rfl, Nat.le_of_ble_eq_true rfl⟩) (va_recv hK hP (ci := 2) (q0 := 0) rfl rfl) (bp_X2_X2_t_t A cI tt v5.2) rfl hl.1 rfl (Nat.le_of_ble_eq_true rfl) dX2_gives_11 ⟨Nat.le_of_ble_eq_true rfl, Nat.le_of_ble_eq_true rfl⟩ (fun H locs hP hD hS => ?_)
    have hP : va_P D vwCl (wM A cI v5.2) H := hP
    obtain rfl := Option.some.inj hf
    exact W.iret (v := v5.1) hx hb hr (fun t ht hW => ⟨⟨v5.1, (), rfl, rfl, hPt ht hP⟩, hS.F ht⟩) hS.2.2 dX2_gives_14
set_option maxHeartbeats 4000000 in
set_option maxRecDepth 100000 in
theorem c_X2_swaps (l : Launch) (D : va_G) (cI : ClassId) (A : Nat → Nat) (j1 : Int32) (j2 : Int32) (tt : HS) (out : Int32 × HS) (hf : f_X2_swaps j1 j2 tt = some out) : uI l D cI yX2_swaps wsX2_swaps ({ frames := 2, cells := 0, slots := 0, locals := 46 } : Room) [.ref (A 0), .int j1, .int j2] (wM A cI tt) (wM A cI out.2) out.1 := by
  intro sz
  refine Met.ofW (cc := cX2_swaps) (maxL := 3) (ret := (some .int)) (by decide) rfl ?_
  intro p e s m args below meth c s₁ Bd hml hv
  obtain ⟨rfl, hsz, hP, hK, hD0, hN⟩ := hv
  have hx := Bd.exec
  have hb := Bd.bytes
  have hr := Bd.returns
  have hts := atoms_spec (ws := wsX2_swaps) Bd.pre
  have hown : s.vm.findClass RX2 = some m.cls := findClass_of_methodNamed Bd.named
  have hlocks := Bd.notSynchronized
  subst hsz
  have hD := hD0.self (sz := s.heap.size)
  generalize hAe : va_A (wM A cI tt) s.heap.size = G at hD ⊢
  have hA : ∀ q : Nat, s.heap.size ≤ q → G q := fun q h => by rw [← hAe]; exact Or.inr h
  have hS : va_S G s.heap s.heap [] := va_S.rf
  have hP : va_P D vwCl (wM A cI tt) s.heap := hP
  have hl := lv_entry ([.ref (A 0), .int j1, .int j2]) (n := 3) (Nat.le_of_ble_eq_true rfl)
  rw [lg_entry_eq]
  generalize (lg_sl ([.ref (A 0), .int j1, .int j2]) ++ List.replicate (3 - (lg_sl ([.ref (A 0), .int j1, .int j2])).length) Slot.unset).toArray = ls at hl ⊢
  have hl : lv_has ls 3 [(0, .ref (A 0)), (1, .int j1), (2, .int j2)] := hl
  refine W_in ?_
  intro WW hWW
  refine (hWW _ _ _).mpr ?_
  unfold f_X2_swaps at hf
  refine lv_aload_n hx hb dX2_swaps_0 rfl (lv_at hl 0 rfl) ?_
  refine lv_iload_n hx hb dX2_swaps_1 rfl (lv_at hl 1 rfl) ?_
  refine qV_i (As := [.int j1]) (rest := []) ⟨hx, hb, hml, hown, hts⟩ hK hN hA hP hD hS (c_X2_isCard l D cI A j1 tt (f_X2_isCard j1 tt) rfl) (cwV 1 hts gX2_swaps_X2_isCard rfl rfl rfl hd_X2_isCard ⟨Nat.le_of_ble_eq_true rfl, Nat.le_of_ble_eq_true rfl⟩) (va_recv hK hP (ci := 2) (q0 := 0) rfl rfl) (bq_X2_X2_t A cI tt) rfl hl.1 rfl (Nat.le_of_ble_eq_true rfl) dX2_swaps_2 ⟨Nat.le_of_ble_eq_true rfl, Nat.le_of_ble_eq_true rfl⟩ (fun H locs hP hD hS => ?_)
  refine lv_if_eq (tgt := 21) hx hb dX2_swaps_5 (by decide) (fun c1 => ?_) (fun c1 => ?_)
  · have hf := hT hf c1
    refine lv_aload_n hx hb dX2_swaps_21 rfl (lv_at hl 0 rfl) ?_
    refine lv_iconst (v := (-1 : Int32)) hx hb dX2_swaps_22 (by decide) ?_
    obtain ⟨v2, hev2, hf⟩ := bS hf
    refine qV_i (ws' := (wM A cI v2.2)) (As := [.int (-1 : Int32)]) (rest := []) ⟨hx, hb, hml, hown, hts⟩ hK hN hA hP hD hS (c_X2_no l D cI A (-1 : Int32) tt v2 hev2) (cwV 1 hts gX2_swaps_X2_no rfl rfl rfl hd_X2_no ⟨Nat.le_of_ble_eq_true rfl, Nat.le_of_ble_eq_true rfl⟩) (va_recv hK hP (ci := 2) (q0 := 0) rfl rfl) (bp_X2_X2_t_t A cI tt v2.2) rfl hl.1 rfl (Nat.le_of_ble_eq_true rfl) dX2_swaps_23 ⟨Nat.le_of_ble_eq_true rfl, Nat.le_of_ble_eq_true rfl⟩ (fun H locs hP hD hS => ?_)
    have hP : va_P D vwCl (wM A cI v2.2) H := hP
    obtain rfl := Option.some.inj hf
    exact W.iret (v := v2.1) hx hb hr (fun t ht hW => ⟨⟨v2.1, (), rfl, rfl, hPt ht hP⟩, hS.F ht⟩) hS.2.2 dX2_swaps_26
  · have hf := hF hf c1
    refine lv_aload_n hx hb dX2_swaps_8 rfl (lv_at hl 0 rfl) ?_
    refine lv_iload_n hx hb dX2_swaps_9 rfl (lv_at hl 2 rfl) ?_
    refine qV_i (As := [.int j2]) (rest := []) ⟨hx, hb, hml, hown, hts⟩ hK hN hA hP hD hS (c_X2_isCard l D cI A j2 tt (f_X2_isCard j2 tt) rfl) (cwV 1 hts gX2_swaps_X2_isCard rfl rfl rfl hd_X2_isCard ⟨Nat.le_of_ble_eq_true rfl, Nat.le_of_ble_eq_true rfl⟩) (va_recv hK hP (ci := 2) (q0 := 0) rfl rfl) (bq_X2_X2_t A cI tt) rfl hl.1 rfl (Nat.le_of_ble_eq_true rfl) dX2_swaps_10 ⟨Nat.le_of_ble_eq_true rfl, Nat.le_of_ble_eq_true rfl⟩ (fun H locs hP hD hS => ?_)
    refine lv_if_eq (tgt := 21) hx hb dX2_swaps_13 (by decide) (fun c3 => ?_) (fun c3 => ?_)
    · have hf := hT hf c3
      refine lv_aload_n hx hb dX2_swaps_21 rfl (lv_at hl 0 rfl) ?_
      refine lv_iconst (v := (-1 : Int32)) hx hb dX2_swaps_22 (by decide) ?_
      obtain ⟨v4, hev4, hf⟩ := bS hf
      refine qV_i (ws' := (wM A cI v4.2)) (As := [.int (-1 : Int32)]) (rest := []) ⟨hx, hb, hml, hown, hts⟩ hK hN hA hP hD hS (c_X2_no l D cI A (-1 : Int32) tt v4 hev4) (cwV 1 hts gX2_swaps_X2_no rfl rfl rfl hd_X2_no ⟨Nat.le_of_ble_eq_true rfl, Nat.le_of_ble_eq_true rfl⟩) (va_recv hK hP (ci := 2) (q0 := 0) rfl rfl) (bp_X2_X2_t_t A cI tt v4.2) rfl hl.1 rfl (Nat.le_of_ble_eq_true rfl) dX2_swaps_23 ⟨Nat.le_of_ble_eq_true rfl, Nat.le_of_ble_eq_true rfl⟩ (fun H locs hP hD hS => ?_)
      have hP : va_P D vwCl (wM A cI v4.2) H := hP
      obtain rfl := Option.some.inj hf
      exact W.iret (v := v4.1) hx hb hr (fun t ht hW => ⟨⟨v4.1, (), rfl, rfl, hPt ht hP⟩, hS.F ht⟩) hS.2.2 dX2_swaps_26
    · have hf := hF hf c3
      refine lv_iload_n hx hb dX2_swaps_16 rfl (lv_at hl 1 rfl) ?_
      refine lv_iload_n hx hb dX2_swaps_17 rfl (lv_at hl 2 rfl) ?_
      refine lv_icmp_ne (tgt := 27) hx hb dX2_swaps_18 (by decide) (fun c5 => ?_) (fun c5 => ?_)
      · have hf := hF hf c5
        refine lv_aload_n hx hb dX2_swaps_27 rfl (lv_at hl 0 rfl) ?_
        refine lv_iload_n hx hb dX2_swaps_28 rfl (lv_at hl 1 rfl) ?_
        refine lv_iload_n hx hb dX2_swaps_29 rfl (lv_at hl 2 rfl) ?_
        obtain ⟨v6, hev6, hf⟩ := bS hf
        refine qV_v (ws' := (wM A cI v6)) (As := [.int j1, .int j2]) (rest := []) ⟨hx, hb, hml, hown, hts⟩ hK hN hA hP hD hS (c_X2_changesPlaces l D cI A j1 j2 tt v6 hev6) (cwV 2 hts gX2_swaps_X2_changesPlaces rfl rfl rfl hd_X2_changesPlaces ⟨Nat.le_of_ble_eq_true rfl, Nat.le_of_ble_eq_true rfl⟩) (va_recv hK hP (ci := 2) (q0 := 0) rfl rfl) (bp_X2_X2_t_t A cI tt v6) rfl hl.1 rfl (Nat.le_of_ble_eq_true rfl) dX2_swaps_30 ⟨Nat.le_of_ble_eq_true rfl, Nat.le_of_ble_eq_true rfl⟩ (fun H locs hP hD hS => ?_)
        have hP : va_P D vwCl (wM A cI v6) H := hP
        refine lv_aload_n hx hb dX2_swaps_33 rfl (lv_at hl 0 rfl) ?_
        refine lv_iload_n hx hb dX2_swaps_34 rfl (lv_at hl 1 rfl) ?_
        obtain ⟨v7, hev7, hf⟩ := bS hf
        refine qV_i (As := [.int j1]) (rest := []) ⟨hx, hb, hml, hown, hts⟩ hK hN hA hP hD hS (c_X2_placeOf l D cI A j1 v6 v7 hev7) (cwV 1 hts gX2_swaps_X2_placeOf rfl rfl rfl hd_X2_placeOf ⟨Nat.le_of_ble_eq_true rfl, Nat.le_of_ble_eq_true rfl⟩) (va_recv hK hP (ci := 2) (q0 := 0) rfl rfl) (bq_X2_X2_t A cI v6) rfl hl.1 rfl (Nat.le_of_ble_eq_true rfl) dX2_swaps_35 ⟨Nat.le_of_ble_eq_true rfl, Nat.le_of_ble_eq_true rfl⟩ (fun H locs hP hD hS => ?_)
        obtain rfl := Option.some.inj hf
        exact W.iret (v := v7) hx hb hr (fun t ht hW => ⟨⟨v7, (), rfl, rfl, hPt ht hP⟩, hS.F ht⟩) hS.2.2 dX2_swaps_38
      · have hf := hT hf c5
        refine lv_aload_n hx hb dX2_swaps_21 rfl (lv_at hl 0 rfl) ?_
        refine lv_iconst (v := (-1 : Int32)) hx hb dX2_swaps_22 (by decide) ?_
        obtain ⟨v8, hev8, hf⟩ := bS hf
        refine qV_i (ws' := (wM A cI v8.2)) (As := [.int (-1 : Int32)]) (rest := []) ⟨hx, hb, hml, hown, hts⟩ hK hN hA hP hD hS (c_X2_no l D cI A (-1 : Int32) tt v8 hev8) (cwV 1 hts gX2_swaps_X2_no rfl rfl rfl hd_X2_no ⟨Nat.le_of_ble_eq_true rfl, Nat.le_of_ble_eq_true rfl⟩) (va_recv hK hP (ci := 2) (q0 := 0) rfl rfl) (bp_X2_X2_t_t A cI tt v8.2) rfl hl.1 rfl (Nat.le_of_ble_eq_true rfl) dX2_swaps_23 ⟨Nat.le_of_ble_eq_true rfl, Nat.le_of_ble_eq_true rfl⟩ (fun H locs hP hD hS => ?_)
        have hP : va_P D vwCl (wM A cI v8.2) H := hP
        obtain rfl := Option.some.inj hf
        exact W.iret (v := v8.1) hx hb hr (fun t ht hW => ⟨⟨v8.1, (), rfl, rfl, hPt ht hP⟩, hS.F ht⟩) hS.2.2 dX2_swaps_26
set_option maxHeartbeats 4000000 in
set_option maxRecDepth 100000 in
theorem c_X2_sells (l : Launch) (D : va_G) (cI : ClassId) (A : Nat → Nat) (j1 : Int32) (tt : HS) (out : Int32 × HS) (hf : f_X2_sells j1 tt = some out) : uI l D cI yX2_sells wsX2_sells ({ frames := 7, cells := 0, slots := 0, locals := 160 } : Room) [.ref (A 0), .int j1] (wM A cI tt) (wM A cI out.2) out.1 := by
  intro sz
  refine Met.ofW (cc := cX2_sells) (maxL := 3) (ret := (some .int)) (by decide) rfl ?_
  intro p e s m args below meth c s₁ Bd hml hv
  obtain ⟨rfl, hsz, hP, hK, hD0, hN⟩ := hv
  have hx := Bd.exec
  have hb := Bd.bytes
  have hr := Bd.returns
  have hts := atoms_spec (ws := wsX2_sells) Bd.pre
  have hown : s.vm.findClass RX2 = some m.cls := findClass_of_methodNamed Bd.named
  have hlocks := Bd.notSynchronized
  subst hsz
  have hD := hD0.self (sz := s.heap.size)
  generalize hAe : va_A (wM A cI tt) s.heap.size = G at hD ⊢
  have hA : ∀ q : Nat, s.heap.size ≤ q → G q := fun q h => by rw [← hAe]; exact Or.inr h
  have hS : va_S G s.heap s.heap [] := va_S.rf
  have hP : va_P D vwCl (wM A cI tt) s.heap := hP
  have hl := lv_entry ([.ref (A 0), .int j1]) (n := 3) (Nat.le_of_ble_eq_true rfl)
  rw [lg_entry_eq]
  generalize (lg_sl ([.ref (A 0), .int j1]) ++ List.replicate (3 - (lg_sl ([.ref (A 0), .int j1])).length) Slot.unset).toArray = ls at hl ⊢
  have hl : lv_has ls 3 [(0, .ref (A 0)), (1, .int j1)] := hl
  have hinM : ∀ w ∈ wsX20, w ∈ wsX2_sells := by decide +kernel
  have lk0 := hts (.fieldLink RX2 25 "LiesBoughtBackModel" "holder" "[I") (by decide +kernel)
  refine W_in ?_
  intro WW hWW
  refine (hWW _ _ _).mpr ?_
  unfold f_X2_sells at hf
  refine lv_aload_n hx hb dX2_sells_0 rfl (lv_at hl 0 rfl) ?_
  refine lv_iload_n hx hb dX2_sells_1 rfl (lv_at hl 1 rfl) ?_
  refine qV_i (As := [.int j1]) (rest := []) ⟨hx, hb, hml, hown, hts⟩ hK hN hA hP hD hS (c_X2_isCard l D cI A j1 tt (f_X2_isCard j1 tt) rfl) (cwV 1 hts gX2_sells_X2_isCard rfl rfl rfl hd_X2_isCard ⟨Nat.le_of_ble_eq_true rfl, Nat.le_of_ble_eq_true rfl⟩) (va_recv hK hP (ci := 2) (q0 := 0) rfl rfl) (bq_X2_X2_t A cI tt) rfl hl.1 rfl (Nat.le_of_ble_eq_true rfl) dX2_sells_2 ⟨Nat.le_of_ble_eq_true rfl, Nat.le_of_ble_eq_true rfl⟩ (fun H locs hP hD hS => ?_)
  refine lv_if_ne (tgt := 12) hx hb dX2_sells_5 (by decide) (fun c1 => ?_) (fun c1 => ?_)
  · have hf := hF hf c1
    refine lv_aload_n hx hb dX2_sells_12 rfl (lv_at hl 0 rfl) ?_
    refine va_get (D := D) (ci := 2) (v := .ref (A 6)) (C := RX2) (T := TX2) (N := 31) hx hb hts hinM hown hK hP 0 rfl rfl 5 (by decide) lk0 (fun _ h9 => h9) rfl dX2_sells_13 ?_
    refine lv_iload_n hx hb dX2_sells_16 rfl (lv_at hl 1 rfl) ?_
    obtain ⟨v2, he, hf⟩ := bS hf
    refine x_iald hx hb hK hP 6 (n := 8) rfl he dX2_sells_17 ?_
    refine lv_if_eq (tgt := 26) hx hb dX2_sells_18 (by decide) (fun c3 => ?_) (fun c3 => ?_)
    · have hf := hT hf c3
      refine lv_iconst (v := (0 : Int32)) hx hb dX2_sells_26 (by decide) ?_
      refine lv_istore_n (lv' := [(2, .int (0 : Int32)), (0, .ref (A 0)), (1, .int j1)]) hx hb dX2_sells_27 rfl hl (by decide) rfl (fun ls hl => ?_)
      refine lv_iload_n hx hb dX2_sells_28 rfl (lv_at hl 0 rfl) ?_
      refine lv_if_eq (tgt := 40) hx hb dX2_sells_29 (by decide) (fun c4 => ?_) (fun c4 => ?_)
      · refine lv_aload_n hx hb dX2_sells_40 rfl (lv_at hl 1 rfl) ?_
        refine lv_iload_n hx hb dX2_sells_41 rfl (lv_at hl 2 rfl) ?_
        obtain ⟨v5, hev5, hf⟩ := bS hf
        refine qV_i (ws' := (wM A cI v5.2)) (As := [.int j1]) (rest := []) ⟨hx, hb, hml, hown, hts⟩ hK hN hA hP hD hS (c_X2_sellsOne l D cI A j1 tt v5 hev5) (cwV 1 hts gX2_sells_X2_sellsOne rfl rfl rfl hd_X2_sellsOne ⟨Nat.le_of_ble_eq_true rfl, Nat.le_of_ble_eq_true rfl⟩) (va_recv hK hP (ci := 2) (q0 := 0) rfl rfl) (bp_X2_X2_t_t A cI tt v5.2) rfl hl.1 rfl (Nat.le_of_ble_eq_true rfl) dX2_sells_42 ⟨Nat.le_of_ble_eq_true rfl, Nat.le_of_ble_eq_true rfl⟩ (fun H locs hP hD hS => ?_)
        have hP : va_P D vwCl (wM A cI v5.2) H := hP
        obtain rfl := Option.some.inj hf
        exact W.iret (v := v5.1) hx hb hr (fun t ht hW => ⟨⟨v5.1, (), rfl, rfl, hPt ht hP⟩, hS.F ht⟩) hS.2.2 dX2_sells_45
      · exact absurd c4 (by decide)
    · have hf := hF hf c3
      refine lv_bipush (v := (-3 : Int32)) hx hb dX2_sells_21 (by decide) ?_
      refine lv_goto (tgt := 27) hx hb dX2_sells_23 (by decide) ?_
      refine lv_istore_n (lv' := [(2, .int (-3 : Int32)), (0, .ref (A 0)), (1, .int j1)]) hx hb dX2_sells_27 rfl hl (by decide) rfl (fun ls hl => ?_)
      refine lv_iload_n hx hb dX2_sells_28 rfl (lv_at hl 0 rfl) ?_
      refine lv_if_eq (tgt := 40) hx hb dX2_sells_29 (by decide) (fun c6 => ?_) (fun c6 => ?_)
      · exact absurd c6 (by decide)
      · refine lv_aload_n hx hb dX2_sells_32 rfl (lv_at hl 1 rfl) ?_
        refine lv_iload_n hx hb dX2_sells_33 rfl (lv_at hl 0 rfl) ?_
        obtain ⟨v7, hev7, hf⟩ := bS hf
        refine qV_i (ws' := (wM A cI v7.2)) (As := [.int (-3 : Int32)]) (rest := []) ⟨hx, hb, hml, hown, hts⟩ hK hN hA hP hD hS (c_X2_no l D cI A (-3 : Int32) tt v7 hev7) (cwV 1 hts gX2_sells_X2_no rfl rfl rfl hd_X2_no ⟨Nat.le_of_ble_eq_true rfl, Nat.le_of_ble_eq_true rfl⟩) (va_recv hK hP (ci := 2) (q0 := 0) rfl rfl) (bp_X2_X2_t_t A cI tt v7.2) rfl hl.1 rfl (Nat.le_of_ble_eq_true rfl) dX2_sells_34 ⟨Nat.le_of_ble_eq_true rfl, Nat.le_of_ble_eq_true rfl⟩ (fun H locs hP hD hS => ?_)
        have hP : va_P D vwCl (wM A cI v7.2) H := hP
        refine lv_goto (tgt := 45) hx hb dX2_sells_37 (by decide) ?_
        obtain rfl := Option.some.inj hf
        exact W.iret (v := v7.1) hx hb hr (fun t ht hW => ⟨⟨v7.1, (), rfl, rfl, hPt ht hP⟩, hS.F ht⟩) hS.2.2 dX2_sells_45
  · have hf := hT hf c1
    refine lv_iconst (v := (-1 : Int32)) hx hb dX2_sells_8 (by decide) ?_
    refine lv_goto (tgt := 27) hx hb dX2_sells_9 (by decide) ?_
    refine lv_istore_n (lv' := [(2, .int (-1 : Int32)), (0, .ref (A 0)), (1, .int j1)]) hx hb dX2_sells_27 rfl hl (by decide) rfl (fun ls hl => ?_)
    refine lv_iload_n hx hb dX2_sells_28 rfl (lv_at hl 0 rfl) ?_
    refine lv_if_eq (tgt := 40) hx hb dX2_sells_29 (by decide) (fun c8 => ?_) (fun c8 => ?_)
    · exact absurd c8 (by decide)
    · refine lv_aload_n hx hb dX2_sells_32 rfl (lv_at hl 1 rfl) ?_
      refine lv_iload_n hx hb dX2_sells_33 rfl (lv_at hl 0 rfl) ?_
      obtain ⟨v9, hev9, hf⟩ := bS hf
      refine qV_i (ws' := (wM A cI v9.2)) (As := [.int (-1 : Int32)]) (rest := []) ⟨hx, hb, hml, hown, hts⟩ hK hN hA hP hD hS (c_X2_no l D cI A (-1 : Int32) tt v9 hev9) (cwV 1 hts gX2_sells_X2_no rfl rfl rfl hd_X2_no ⟨Nat.le_of_ble_eq_true rfl, Nat.le_of_ble_eq_true rfl⟩) (va_recv hK hP (ci := 2) (q0 := 0) rfl rfl) (bp_X2_X2_t_t A cI tt v9.2) rfl hl.1 rfl (Nat.le_of_ble_eq_true rfl) dX2_sells_34 ⟨Nat.le_of_ble_eq_true rfl, Nat.le_of_ble_eq_true rfl⟩ (fun H locs hP hD hS => ?_)
      have hP : va_P D vwCl (wM A cI v9.2) H := hP
      refine lv_goto (tgt := 45) hx hb dX2_sells_37 (by decide) ?_
      obtain rfl := Option.some.inj hf
      exact W.iret (v := v9.1) hx hb hr (fun t ht hW => ⟨⟨v9.1, (), rfl, rfl, hPt ht hP⟩, hS.F ht⟩) hS.2.2 dX2_sells_45
set_option maxHeartbeats 4000000 in
set_option maxRecDepth 100000 in
theorem c_X2_turn (l : Launch) (D : va_G) (cI : ClassId) (A : Nat → Nat) (j1 : Int32) (j2 : Int32) (j3 : Int32) (tt : HS) (out : Int32 × HS) (hf : f_X2_turn j1 j2 j3 tt = some out) : uI l D cI yX2_turn wsX2_turn ({ frames := 1, cells := 0, slots := 0, locals := 22 } : Room) [.ref (A 0), .int j1, .int j2, .int j3] (wM A cI tt) (wM A cI out.2) out.1 := by
  intro sz
  refine Met.ofW (cc := cX2_turn) (maxL := 6) (ret := (some .int)) (by decide) rfl ?_
  intro p e s m args below meth c s₁ Bd hml hv
  obtain ⟨rfl, hsz, hP, hK, hD0, hN⟩ := hv
  have hx := Bd.exec
  have hb := Bd.bytes
  have hr := Bd.returns
  have hts := atoms_spec (ws := wsX2_turn) Bd.pre
  have hown : s.vm.findClass RX2 = some m.cls := findClass_of_methodNamed Bd.named
  have hlocks := Bd.notSynchronized
  subst hsz
  have hD := hD0.self (sz := s.heap.size)
  generalize hAe : va_A (wM A cI tt) s.heap.size = G at hD ⊢
  have hA : ∀ q : Nat, s.heap.size ≤ q → G q := fun q h => by rw [← hAe]; exact Or.inr h
  have hS : va_S G s.heap s.heap [] := va_S.rf
  have hP : va_P D vwCl (wM A cI tt) s.heap := hP
  have hl := lv_entry ([.ref (A 0), .int j1, .int j2, .int j3]) (n := 6) (Nat.le_of_ble_eq_true rfl)
  rw [lg_entry_eq]
  generalize (lg_sl ([.ref (A 0), .int j1, .int j2, .int j3]) ++ List.replicate (6 - (lg_sl ([.ref (A 0), .int j1, .int j2, .int j3])).length) Slot.unset).toArray = ls at hl ⊢
  have hl : lv_has ls 6 [(0, .ref (A 0)), (1, .int j1), (2, .int j2), (3, .int j3)] := hl
  have hinM : ∀ w ∈ wsX20, w ∈ wsX2_turn := by decide +kernel
  have lk0 := hts (.fieldLink RX2 31 "LiesBoughtBackModel" "kind" "[I") (by decide +kernel)
  have lk1 := hts (.fieldLink RX2 34 "LiesBoughtBackModel" "figure" "[I") (by decide +kernel)
  refine W_in ?_
  intro WW hWW
  refine (hWW _ _ _).mpr ?_
  unfold f_X2_turn at hf
  refine lv_aload_n hx hb dX2_turn_0 rfl (lv_at hl 0 rfl) ?_
  refine lv_iload_n hx hb dX2_turn_1 rfl (lv_at hl 1 rfl) ?_
  refine qV_i (As := [.int j1]) (rest := []) ⟨hx, hb, hml, hown, hts⟩ hK hN hA hP hD hS (c_X2_isBidder l D cI A j1 tt (f_X2_isBidder j1 tt) rfl) (cwV 1 hts gX2_turn_X2_isBidder rfl rfl rfl hd_X2_isBidder ⟨Nat.le_of_ble_eq_true rfl, Nat.le_of_ble_eq_true rfl⟩) (va_recv hK hP (ci := 2) (q0 := 0) rfl rfl) (bq_X2_X2_t A cI tt) rfl hl.1 rfl (Nat.le_of_ble_eq_true rfl) dX2_turn_2 ⟨Nat.le_of_ble_eq_true rfl, Nat.le_of_ble_eq_true rfl⟩ (fun H locs hP hD hS => ?_)
  refine lv_if_ne (tgt := 12) hx hb dX2_turn_5 (by decide) (fun c1 => ?_) (fun c1 => ?_)
  · have hf := hF hf c1
    refine lv_iload_n hx hb dX2_turn_12 rfl (lv_at hl 2 rfl) ?_
    refine lv_iconst (v := (0 : Int32)) hx hb dX2_turn_13 (by decide) ?_
    refine lv_iconst (v := (5 : Int32)) hx hb dX2_turn_14 (by decide) ?_
    refine qS_i (As := [.int j2, .int (0 : Int32), .int (5 : Int32)]) (rest := []) ⟨hx, hb, hml, hown, hts⟩ hK hN hA hP hD hS (c_X2_isIn l D cI j2 (0 : Int32) (5 : Int32) (f_X2_isIn j2 (0 : Int32) (5 : Int32)) rfl) (va_cwS 3 hts gX2_turn_X2_isIn rfl rfl rfl hd_X2_isIn.2 ⟨Nat.le_of_ble_eq_true rfl, Nat.le_of_ble_eq_true rfl⟩) Bp_e rfl hl.1 rfl (Nat.le_of_ble_eq_true rfl) dX2_turn_15 ⟨Nat.le_of_ble_eq_true rfl, Nat.le_of_ble_eq_true rfl⟩ (fun H locs hP hD hS => ?_)
    refine lv_if_ne (tgt := 26) hx hb dX2_turn_18 (by decide) (fun c2 => ?_) (fun c2 => ?_)
    · have hf := hF hf c2
      refine lv_iload_n hx hb dX2_turn_26 rfl (lv_at hl 3 rfl) ?_
      refine lv_iconst (v := (0 : Int32)) hx hb dX2_turn_27 (by decide) ?_
      refine lv_bipush (v := (9 : Int32)) hx hb dX2_turn_28 (by decide) ?_
      refine qS_i (As := [.int j3, .int (0 : Int32), .int (9 : Int32)]) (rest := []) ⟨hx, hb, hml, hown, hts⟩ hK hN hA hP hD hS (c_X2_bound l D cI j3 (0 : Int32) (9 : Int32) (f_X2_bound j3 (0 : Int32) (9 : Int32)) rfl) (va_cwS 3 hts gX2_turn_X2_bound rfl rfl rfl hd_X2_bound.2 ⟨Nat.le_of_ble_eq_true rfl, Nat.le_of_ble_eq_true rfl⟩) Bp_e rfl hl.1 rfl (Nat.le_of_ble_eq_true rfl) dX2_turn_30 ⟨Nat.le_of_ble_eq_true rfl, Nat.le_of_ble_eq_true rfl⟩ (fun H locs hP hD hS => ?_)
      refine lv_istore (lv' := [(4, .int (f_X2_bound j3 (0 : Int32) (9 : Int32))), (0, .ref (A 0)), (1, .int j1), (2, .int j2), (3, .int j3)]) hx hb dX2_turn_33 hl (by decide) rfl (fun ls hl => ?_)
      refine lv_iload hx hb dX2_turn_35 (lv_at hl 0 rfl) ?_
      refine lv_if_eq (tgt := 47) hx hb dX2_turn_37 (by decide) (fun c3 => ?_) (fun c3 => ?_)
      · have hf := hT hf c3
        refine lv_bipush (v := (10 : Int32)) hx hb dX2_turn_47 (by decide) ?_
        refine lv_aload_n hx hb dX2_turn_49 rfl (lv_at hl 1 rfl) ?_
        refine va_get (D := D) (ci := 2) (v := .ref (A 8)) (C := RX2) (T := TX2) (N := 31) hx hb hts hinM hown hK hP 0 rfl rfl 7 (by decide) lk0 (fun _ h9 => h9) rfl dX2_turn_50 ?_
        refine lv_iload_n hx hb dX2_turn_53 rfl (lv_at hl 2 rfl) ?_
        obtain ⟨v4, he, hf⟩ := bS hf
        refine x_iald hx hb hK hP 8 (n := 6) rfl he dX2_turn_54 ?_
        refine lv_imul hx hb dX2_turn_55 ?_
        refine lv_aload_n hx hb dX2_turn_56 rfl (lv_at hl 1 rfl) ?_
        refine va_get (D := D) (ci := 2) (v := .ref (A 9)) (C := RX2) (T := TX2) (N := 31) hx hb hts hinM hown hK hP 0 rfl rfl 8 (by decide) lk1 (fun _ h9 => h9) rfl dX2_turn_57 ?_
        refine lv_iload_n hx hb dX2_turn_60 rfl (lv_at hl 2 rfl) ?_
        obtain ⟨v5, he, hf⟩ := bS hf
        refine x_iald hx hb hK hP 9 (n := 6) rfl he dX2_turn_61 ?_
        refine lv_iadd hx hb dX2_turn_62 ?_
        refine lv_istore (lv' := [(5, .int (((10 : Int32) * v4) + v5)), (4, .int (f_X2_bound j3 (0 : Int32) (9 : Int32))), (0, .ref (A 0)), (1, .int j1), (2, .int j2), (3, .int j3)]) hx hb dX2_turn_63 hl (by decide) rfl (fun ls hl => ?_)
        refine lv_aload_n hx hb dX2_turn_65 rfl (lv_at hl 2 rfl) ?_
        refine va_get (D := D) (ci := 2) (v := .ref (A 8)) (C := RX2) (T := TX2) (N := 31) hx hb hts hinM hown hK hP 0 rfl rfl 7 (by decide) lk0 (fun _ h9 => h9) rfl dX2_turn_66 ?_
        refine lv_iload_n hx hb dX2_turn_69 rfl (lv_at hl 3 rfl) ?_
        refine lv_iload_n hx hb dX2_turn_70 rfl (lv_at hl 4 rfl) ?_
        obtain ⟨v6, he, hf⟩ := bS hf
        obtain ⟨tt_v7, ett_v7, hf⟩ := jnS hf
        refine x_iast (ws' := (wM A cI tt_v7)) hx hb hK hP hD hS 8 (n := 6) rfl he ((sa_X2_t_7 A cI tt v6).trans (congrArg (fun z => wM A cI z) ett_v7.symm)) dX2_turn_71 (fun H locs hP hD hS => ?_)
        refine lv_aload_n hx hb dX2_turn_72 rfl (lv_at hl 2 rfl) ?_
        refine va_get (D := D) (ci := 2) (v := .ref (A 9)) (C := RX2) (T := TX2) (N := 31) hx hb hts hinM hown hK hP 0 rfl rfl 8 (by decide) lk1 (fun _ h9 => h9) rfl dX2_turn_73 ?_
        refine lv_iload_n hx hb dX2_turn_76 rfl (lv_at hl 3 rfl) ?_
        refine lv_iload_n hx hb dX2_turn_77 rfl (lv_at hl 5 rfl) ?_
        obtain ⟨v8, he, hf⟩ := bS hf
        obtain ⟨tt_v9, ett_v9, hf⟩ := jnS hf
        refine x_iast (ws' := (wM A cI tt_v9)) hx hb hK hP hD hS 9 (n := 6) rfl he ((sa_X2_t_8 A cI tt_v7 v8).trans (congrArg (fun z => wM A cI z) ett_v9.symm)) dX2_turn_78 (fun H locs hP hD hS => ?_)
        refine lv_iload hx hb dX2_turn_79 (lv_at hl 0 rfl) ?_
        obtain rfl := Option.some.inj hf
        exact W.iret (v := (((10 : Int32) * v4) + v5)) hx hb hr (fun t ht hW => ⟨⟨(((10 : Int32) * v4) + v5), (), rfl, rfl, hPt ht hP⟩, hS.F ht⟩) hS.2.2 dX2_turn_81
      · have hf := hF hf c3
        refine lv_aload_n hx hb dX2_turn_40 rfl (lv_at hl 1 rfl) ?_
        refine lv_iload hx hb dX2_turn_41 (lv_at hl 0 rfl) ?_
        obtain ⟨v10, hev10, hf⟩ := bS hf
        refine qV_i (ws' := (wM A cI v10.2)) (As := [.int (f_X2_bound j3 (0 : Int32) (9 : Int32))]) (rest := []) ⟨hx, hb, hml, hown, hts⟩ hK hN hA hP hD hS (c_X2_no l D cI A (f_X2_bound j3 (0 : Int32) (9 : Int32)) tt v10 hev10) (cwV 1 hts gX2_turn_X2_no rfl rfl rfl hd_X2_no ⟨Nat.le_of_ble_eq_true rfl, Nat.le_of_ble_eq_true rfl⟩) (va_recv hK hP (ci := 2) (q0 := 0) rfl rfl) (bp_X2_X2_t_t A cI tt v10.2) rfl hl.1 rfl (Nat.le_of_ble_eq_true rfl) dX2_turn_43 ⟨Nat.le_of_ble_eq_true rfl, Nat.le_of_ble_eq_true rfl⟩ (fun H locs hP hD hS => ?_)
        have hP : va_P D vwCl (wM A cI v10.2) H := hP
        obtain rfl := Option.some.inj hf
        exact W.iret (v := v10.1) hx hb hr (fun t ht hW => ⟨⟨v10.1, (), rfl, rfl, hPt ht hP⟩, hS.F ht⟩) hS.2.2 dX2_turn_46
    · have hf := hT hf c2
      refine lv_bipush (v := (-2 : Int32)) hx hb dX2_turn_21 (by decide) ?_
      refine lv_goto (tgt := 33) hx hb dX2_turn_23 (by decide) ?_
      refine lv_istore (lv' := [(4, .int (-2 : Int32)), (0, .ref (A 0)), (1, .int j1), (2, .int j2), (3, .int j3)]) hx hb dX2_turn_33 hl (by decide) rfl (fun ls hl => ?_)
      refine lv_iload hx hb dX2_turn_35 (lv_at hl 0 rfl) ?_
      refine lv_if_eq (tgt := 47) hx hb dX2_turn_37 (by decide) (fun c11 => ?_) (fun c11 => ?_)
      · exact absurd c11 (by decide)
      · refine lv_aload_n hx hb dX2_turn_40 rfl (lv_at hl 1 rfl) ?_
        refine lv_iload hx hb dX2_turn_41 (lv_at hl 0 rfl) ?_
        obtain ⟨v12, hev12, hf⟩ := bS hf
        refine qV_i (ws' := (wM A cI v12.2)) (As := [.int (-2 : Int32)]) (rest := []) ⟨hx, hb, hml, hown, hts⟩ hK hN hA hP hD hS (c_X2_no l D cI A (-2 : Int32) tt v12 hev12) (cwV 1 hts gX2_turn_X2_no rfl rfl rfl hd_X2_no ⟨Nat.le_of_ble_eq_true rfl, Nat.le_of_ble_eq_true rfl⟩) (va_recv hK hP (ci := 2) (q0 := 0) rfl rfl) (bp_X2_X2_t_t A cI tt v12.2) rfl hl.1 rfl (Nat.le_of_ble_eq_true rfl) dX2_turn_43 ⟨Nat.le_of_ble_eq_true rfl, Nat.le_of_ble_eq_true rfl⟩ (fun H locs hP hD hS => ?_)
        have hP : va_P D vwCl (wM A cI v12.2) H := hP
        obtain rfl := Option.some.inj hf
        exact W.iret (v := v12.1) hx hb hr (fun t ht hW => ⟨⟨v12.1, (), rfl, rfl, hPt ht hP⟩, hS.F ht⟩) hS.2.2 dX2_turn_46
  · have hf := hT hf c1
    refine lv_iconst (v := (-1 : Int32)) hx hb dX2_turn_8 (by decide) ?_
    refine lv_goto (tgt := 33) hx hb dX2_turn_9 (by decide) ?_
    refine lv_istore (lv' := [(4, .int (-1 : Int32)), (0, .ref (A 0)), (1, .int j1), (2, .int j2), (3, .int j3)]) hx hb dX2_turn_33 hl (by decide) rfl (fun ls hl => ?_)
    refine lv_iload hx hb dX2_turn_35 (lv_at hl 0 rfl) ?_
    refine lv_if_eq (tgt := 47) hx hb dX2_turn_37 (by decide) (fun c13 => ?_) (fun c13 => ?_)
    · exact absurd c13 (by decide)
    · refine lv_aload_n hx hb dX2_turn_40 rfl (lv_at hl 1 rfl) ?_
      refine lv_iload hx hb dX2_turn_41 (lv_at hl 0 rfl) ?_
      obtain ⟨v14, hev14, hf⟩ := bS hf
      refine qV_i (ws' := (wM A cI v14.2)) (As := [.int (-1 : Int32)]) (rest := []) ⟨hx, hb, hml, hown, hts⟩ hK hN hA hP hD hS (c_X2_no l D cI A (-1 : Int32) tt v14 hev14) (cwV 1 hts gX2_turn_X2_no rfl rfl rfl hd_X2_no ⟨Nat.le_of_ble_eq_true rfl, Nat.le_of_ble_eq_true rfl⟩) (va_recv hK hP (ci := 2) (q0 := 0) rfl rfl) (bp_X2_X2_t_t A cI tt v14.2) rfl hl.1 rfl (Nat.le_of_ble_eq_true rfl) dX2_turn_43 ⟨Nat.le_of_ble_eq_true rfl, Nat.le_of_ble_eq_true rfl⟩ (fun H locs hP hD hS => ?_)
      have hP : va_P D vwCl (wM A cI v14.2) H := hP
      obtain rfl := Option.some.inj hf
      exact W.iret (v := v14.1) hx hb hr (fun t ht hW => ⟨⟨v14.1, (), rfl, rfl, hPt ht hP⟩, hS.F ht⟩) hS.2.2 dX2_turn_46
set_option maxHeartbeats 4000000 in
set_option maxRecDepth 100000 in
theorem c_X2_months (l : Launch) (D : va_G) (cI : ClassId) (A : Nat → Nat) (j1 : Int32) (tt : HS) (out : Int32 × HS) (hf : f_X2_months j1 tt = some out) : uI l D cI yX2_months wsX2_months ({ frames := 9, cells := 0, slots := 0, locals := 204 } : Room) [.ref (A 0), .int j1] (wM A cI tt) (wM A cI out.2) out.1 := by
  intro sz
  refine Met.ofW (cc := cX2_months) (maxL := 3) (ret := (some .int)) (by decide) rfl ?_
  intro p e s m args below meth c s₁ Bd hml hv
  obtain ⟨rfl, hsz, hP, hK, hD0, hN⟩ := hv
  have hx := Bd.exec
  have hb := Bd.bytes
  have hr := Bd.returns
  have hts := atoms_spec (ws := wsX2_months) Bd.pre
  have hown : s.vm.findClass RX2 = some m.cls := findClass_of_methodNamed Bd.named
  have hlocks := Bd.notSynchronized
  subst hsz
  have hD := hD0.self (sz := s.heap.size)
  generalize hAe : va_A (wM A cI tt) s.heap.size = G at hD ⊢
  have hA : ∀ q : Nat, s.heap.size ≤ q → G q := fun q h => by rw [← hAe]; exact Or.inr h
  have hS : va_S G s.heap s.heap [] := va_S.rf
  have hP : va_P D vwCl (wM A cI tt) s.heap := hP
  have hl := lv_entry ([.ref (A 0), .int j1]) (n := 3) (Nat.le_of_ble_eq_true rfl)
  rw [lg_entry_eq]
  generalize (lg_sl ([.ref (A 0), .int j1]) ++ List.replicate (3 - (lg_sl ([.ref (A 0), .int j1])).length) Slot.unset).toArray = ls at hl ⊢
  have hl : lv_has ls 3 [(0, .ref (A 0)), (1, .int j1)] := hl
  have hinM : ∀ w ∈ wsX20, w ∈ wsX2_months := by decide +kernel
  have lk0 := hts (.fieldLink RX2 67 "LiesBoughtBackModel" "cards" "I") (by decide +kernel)
  have lk1 := hts (.fieldLink RX2 129 "LiesBoughtBackModel" "month" "I") (by decide +kernel)
  refine W_in ?_
  intro WW hWW
  refine (hWW _ _ _).mpr ?_
  unfold f_X2_months at hf
  refine lv_iload_n hx hb dX2_months_0 rfl (lv_at hl 1 rfl) ?_
  refine lv_iconst (v := (1 : Int32)) hx hb dX2_months_1 (by decide) ?_
  refine lv_bipush (v := (60 : Int32)) hx hb dX2_months_2 (by decide) ?_
  refine qS_i (As := [.int j1, .int (1 : Int32), .int (60 : Int32)]) (rest := []) ⟨hx, hb, hml, hown, hts⟩ hK hN hA hP hD hS (c_X2_bound l D cI j1 (1 : Int32) (60 : Int32) (f_X2_bound j1 (1 : Int32) (60 : Int32)) rfl) (va_cwS 3 hts gX2_months_X2_bound rfl rfl rfl hd_X2_bound.2 ⟨Nat.le_of_ble_eq_true rfl, Nat.le_of_ble_eq_true rfl⟩) Bp_e rfl hl.1 rfl (Nat.le_of_ble_eq_true rfl) dX2_months_4 ⟨Nat.le_of_ble_eq_true rfl, Nat.le_of_ble_eq_true rfl⟩ (fun H locs hP hD hS => ?_)
  refine lv_istore_n (lv' := [(2, .int (f_X2_bound j1 (1 : Int32) (60 : Int32))), (0, .ref (A 0)), (1, .int j1)]) hx hb dX2_months_7 rfl hl (by decide) rfl (fun ls hl => ?_)
  refine lv_iload_n hx hb dX2_months_8 rfl (lv_at hl 0 rfl) ?_
  obtain ⟨K27, hK27, hf⟩ := jnS hf
  have J27 : ∀ (j2_27 : Int32) (tt_27 : HS) (H : Heap) (locs : List Loc) (ls : Array Slot), K27 j2_27 tt_27 = some out → va_P D vwCl (wM A cI tt_27) H → va_D G (wM A cI tt_27) → va_S G s.heap H locs → lv_has ls 3 [(0, .ref (A 0)), (1, .int j1), (2, .int j2_27)] → WW H locs (F0 m 27 ls []) := by
    intro j2_27 tt_27 H locs ls hf hP hD hS hl
    subst hK27
    refine (hWW _ _ _).mpr ?_
    refine lv_iload_n hx hb dX2_months_27 rfl (lv_at hl 2 rfl) ?_
    refine lv_if_eq (tgt := 37) hx hb dX2_months_28 (by decide) (fun c1 => ?_) (fun c1 => ?_)
    · have hf := hT hf c1
      refine lv_aload_n hx hb dX2_months_37 rfl (lv_at hl 0 rfl) ?_
      refine lv_iload_n hx hb dX2_months_38 rfl (lv_at hl 1 rfl) ?_
      obtain ⟨v2, hev2, hf⟩ := bS hf
      refine qV_v (ws' := (wM A cI v2)) (As := [.int j1]) (rest := []) ⟨hx, hb, hml, hown, hts⟩ hK hN hA hP hD hS (c_X2_goes l D cI A j1 tt_27 v2 hev2) (cwV 1 hts gX2_months_X2_goes rfl rfl rfl hd_X2_goes ⟨Nat.le_of_ble_eq_true rfl, Nat.le_of_ble_eq_true rfl⟩) (va_recv hK hP (ci := 2) (q0 := 0) rfl rfl) (bp_X2_X2_t_t A cI tt_27 v2) rfl hl.1 rfl (Nat.le_of_ble_eq_true rfl) dX2_months_39 ⟨Nat.le_of_ble_eq_true rfl, Nat.le_of_ble_eq_true rfl⟩ (fun H locs hP hD hS => ?_)
      have hP : va_P D vwCl (wM A cI v2) H := hP
      refine lv_aload_n hx hb dX2_months_42 rfl (lv_at hl 0 rfl) ?_
      refine va_get (D := D) (ci := 2) (v := .int (v2 20 0)) (C := RX2) (T := TX2) (N := 31) hx hb hts hinM hown hK hP 0 rfl rfl 11 (by decide) lk0 (fun _ h9 => h9) rfl dX2_months_43 ?_
      refine lv_aload_n hx hb dX2_months_46 rfl (lv_at hl 0 rfl) ?_
      obtain ⟨v3, hev3, hf⟩ := bS hf
      refine qV_i (As := []) (rest := [.int (v2 20 0)]) ⟨hx, hb, hml, hown, hts⟩ hK hN hA hP hD hS (c_X2_pile l D cI A v2 v3 hev3) (cwV 0 hts gX2_months_X2_pile rfl rfl rfl hd_X2_pile ⟨Nat.le_of_ble_eq_true rfl, Nat.le_of_ble_eq_true rfl⟩) (va_recv hK hP (ci := 2) (q0 := 0) rfl rfl) (bq_X2_X2_t A cI v2) rfl hl.1 rfl (Nat.le_of_ble_eq_true rfl) dX2_months_47 ⟨Nat.le_of_ble_eq_true rfl, Nat.le_of_ble_eq_true rfl⟩ (fun H locs hP hD hS => ?_)
      obtain ⟨v4, hev4, hf⟩ := bS hf
      refine qS_i (As := [.int v3]) (rest := [.int (v2 20 0)]) ⟨hx, hb, hml, hown, hts⟩ hK hN hA hP hD hS (c_X2_bits l D cI v3 v4 hev4) (va_cwS 1 hts gX2_months_X2_bits rfl rfl rfl hd_X2_bits.2 ⟨Nat.le_of_ble_eq_true rfl, Nat.le_of_ble_eq_true rfl⟩) Bp_e rfl hl.1 rfl (Nat.le_of_ble_eq_true rfl) dX2_months_50 ⟨Nat.le_of_ble_eq_true rfl, Nat.le_of_ble_eq_true rfl⟩ (fun H locs hP hD hS => ?_)
      refine lv_isub hx hb dX2_months_53 ?_
      obtain rfl := Option.some.inj hf
      exact W.iret (v := ((v2 20 0) - v4)) hx hb hr (fun t ht hW => ⟨⟨((v2 20 0) - v4), (), rfl, rfl, hPt ht hP⟩, hS.F ht⟩) hS.2.2 dX2_months_54
    · have hf := hF hf c1
      refine lv_aload_n hx hb dX2_months_31 rfl (lv_at hl 0 rfl) ?_
      refine lv_iload_n hx hb dX2_months_32 rfl (lv_at hl 2 rfl) ?_
      obtain ⟨v5, hev5, hf⟩ := bS hf
      refine qV_i (ws' := (wM A cI v5.2)) (As := [.int j2_27]) (rest := []) ⟨hx, hb, hml, hown, hts⟩ hK hN hA hP hD hS (c_X2_no l D cI A j2_27 tt_27 v5 hev5) (cwV 1 hts gX2_months_X2_no rfl rfl rfl hd_X2_no ⟨Nat.le_of_ble_eq_true rfl, Nat.le_of_ble_eq_true rfl⟩) (va_recv hK hP (ci := 2) (q0 := 0) rfl rfl) (bp_X2_X2_t_t A cI tt_27 v5.2) rfl hl.1 rfl (Nat.le_of_ble_eq_true rfl) dX2_months_33 ⟨Nat.le_of_ble_eq_true rfl, Nat.le_of_ble_eq_true rfl⟩ (fun H locs hP hD hS => ?_)
      have hP : va_P D vwCl (wM A cI v5.2) H := hP
      obtain rfl := Option.some.inj hf
      exact W.iret (v := v5.1) hx hb hr (fun t ht hW => ⟨⟨v5.1, (), rfl, rfl, hPt ht hP⟩, hS.F ht⟩) hS.2.2 dX2_months_36
  refine lv_if_ne (tgt := 27) hx hb dX2_months_9 (by decide) (fun c6 => ?_) (fun c6 => ?_)
  · have hf := hF hf c6
    exact (hWW _ _ _).mp (J27 _ _ _ _ _ hf hP hD hS (lv_sub hl [1, 2, 0] rfl))
  · have hf := hT hf c6
    refine lv_aload_n hx hb dX2_months_12 rfl (lv_at hl 1 rfl) ?_
    refine va_get (D := D) (ci := 2) (v := .int (tt 22 0)) (C := RX2) (T := TX2) (N := 31) hx hb hts hinM hown hK hP 0 rfl rfl 13 (by decide) lk1 (fun _ h9 => h9) rfl dX2_months_13 ?_
    refine lv_iload_n hx hb dX2_months_16 rfl (lv_at hl 2 rfl) ?_
    refine lv_iadd hx hb dX2_months_17 ?_
    refine lv_sipush (v := (999 : Int32)) hx hb dX2_months_18 (by decide) ?_
    refine lv_icmp_le (tgt := 27) hx hb dX2_months_21 (by decide) (fun c7 => ?_) (fun c7 => ?_)
    · have hf := hT hf c7
      exact (hWW _ _ _).mp (J27 _ _ _ _ _ hf hP hD hS (lv_sub hl [1, 2, 0] rfl))
    · have hf := hF hf c7
      refine lv_bipush (v := (-6 : Int32)) hx hb dX2_months_24 (by decide) ?_
      refine lv_istore_n (lv' := [(2, .int (-6 : Int32)), (0, .ref (A 0)), (1, .int j1)]) hx hb dX2_months_26 rfl hl (by decide) rfl (fun ls hl => ?_)
      exact (hWW _ _ _).mp (J27 _ _ _ _ _ hf hP hD hS (lv_sub hl [1, 2, 0] rfl))
set_option maxHeartbeats 4000000 in
set_option maxRecDepth 100000 in
theorem c_X2_cardThen (l : Launch) (D : va_G) (cI : ClassId) (A : Nat → Nat) (j1 : Int32) (j2 : Int32) (tt : HS) (out : Int32 × HS) (hf : f_X2_cardThen j1 j2 tt = some out) : uI l D cI yX2_cardThen wsX2_cardThen ({ frames := 9, cells := 0, slots := 0, locals := 204 } : Room) [.ref (A 0), .int j1, .int j2] (wM A cI tt) (wM A cI out.2) out.1 := by
  intro sz
  refine Met.ofW (cc := cX2_cardThen) (maxL := 5) (ret := (some .int)) (by decide) rfl ?_
  intro p e s m args below meth c s₁ Bd hml hv
  obtain ⟨rfl, hsz, hP, hK, hD0, hN⟩ := hv
  have hx := Bd.exec
  have hb := Bd.bytes
  have hr := Bd.returns
  have hts := atoms_spec (ws := wsX2_cardThen) Bd.pre
  have hown : s.vm.findClass RX2 = some m.cls := findClass_of_methodNamed Bd.named
  have hlocks := Bd.notSynchronized
  subst hsz
  have hD := hD0.self (sz := s.heap.size)
  generalize hAe : va_A (wM A cI tt) s.heap.size = G at hD ⊢
  have hA : ∀ q : Nat, s.heap.size ≤ q → G q := fun q h => by rw [← hAe]; exact Or.inr h
  have hS : va_S G s.heap s.heap [] := va_S.rf
  have hP : va_P D vwCl (wM A cI tt) s.heap := hP
  have hl := lv_entry ([.ref (A 0), .int j1, .int j2]) (n := 5) (Nat.le_of_ble_eq_true rfl)
  rw [lg_entry_eq]
  generalize (lg_sl ([.ref (A 0), .int j1, .int j2]) ++ List.replicate (5 - (lg_sl ([.ref (A 0), .int j1, .int j2])).length) Slot.unset).toArray = ls at hl ⊢
  have hl : lv_has ls 5 [(0, .ref (A 0)), (1, .int j1), (2, .int j2)] := hl
  refine W_in ?_
  intro WW hWW
  refine (hWW _ _ _).mpr ?_
  unfold f_X2_cardThen at hf
  refine lv_aload_n hx hb dX2_cardThen_0 rfl (lv_at hl 0 rfl) ?_
  refine lv_iload_n hx hb dX2_cardThen_1 rfl (lv_at hl 1 rfl) ?_
  refine qV_i (As := [.int j1]) (rest := []) ⟨hx, hb, hml, hown, hts⟩ hK hN hA hP hD hS (c_X2_isCard l D cI A j1 tt (f_X2_isCard j1 tt) rfl) (cwV 1 hts gX2_cardThen_X2_isCard rfl rfl rfl hd_X2_isCard ⟨Nat.le_of_ble_eq_true rfl, Nat.le_of_ble_eq_true rfl⟩) (va_recv hK hP (ci := 2) (q0 := 0) rfl rfl) (bq_X2_X2_t A cI tt) rfl hl.1 rfl (Nat.le_of_ble_eq_true rfl) dX2_cardThen_2 ⟨Nat.le_of_ble_eq_true rfl, Nat.le_of_ble_eq_true rfl⟩ (fun H locs hP hD hS => ?_)
  refine lv_if_ne (tgt := 12) hx hb dX2_cardThen_5 (by decide) (fun c1 => ?_) (fun c1 => ?_)
  · have hf := hF hf c1
    refine lv_iload_n hx hb dX2_cardThen_12 rfl (lv_at hl 2 rfl) ?_
    refine lv_iconst (v := (0 : Int32)) hx hb dX2_cardThen_13 (by decide) ?_
    refine lv_bipush (v := (60 : Int32)) hx hb dX2_cardThen_14 (by decide) ?_
    refine qS_i (As := [.int j2, .int (0 : Int32), .int (60 : Int32)]) (rest := []) ⟨hx, hb, hml, hown, hts⟩ hK hN hA hP hD hS (c_X2_bound l D cI j2 (0 : Int32) (60 : Int32) (f_X2_bound j2 (0 : Int32) (60 : Int32)) rfl) (va_cwS 3 hts gX2_cardThen_X2_bound rfl rfl rfl hd_X2_bound.2 ⟨Nat.le_of_ble_eq_true rfl, Nat.le_of_ble_eq_true rfl⟩) Bp_e rfl hl.1 rfl (Nat.le_of_ble_eq_true rfl) dX2_cardThen_16 ⟨Nat.le_of_ble_eq_true rfl, Nat.le_of_ble_eq_true rfl⟩ (fun H locs hP hD hS => ?_)
    refine lv_istore_n (lv' := [(3, .int (f_X2_bound j2 (0 : Int32) (60 : Int32))), (0, .ref (A 0)), (1, .int j1), (2, .int j2)]) hx hb dX2_cardThen_19 rfl hl (by decide) rfl (fun ls hl => ?_)
    refine lv_iload_n hx hb dX2_cardThen_20 rfl (lv_at hl 0 rfl) ?_
    refine lv_if_eq (tgt := 30) hx hb dX2_cardThen_21 (by decide) (fun c2 => ?_) (fun c2 => ?_)
    · have hf := hT hf c2
      refine lv_aload_n hx hb dX2_cardThen_30 rfl (lv_at hl 1 rfl) ?_
      obtain ⟨v3, hev3, hf⟩ := bS hf
      refine qV_v (ws' := (wM A cI v3)) (As := []) (rest := []) ⟨hx, hb, hml, hown, hts⟩ hK hN hA hP hD hS (c_X2_thinks l D cI A tt v3 hev3) (cwV 0 hts gX2_cardThen_X2_thinks rfl rfl rfl hd_X2_thinks ⟨Nat.le_of_ble_eq_true rfl, Nat.le_of_ble_eq_true rfl⟩) (va_recv hK hP (ci := 2) (q0 := 0) rfl rfl) (bp_X2_X2_t_t A cI tt v3) rfl hl.1 rfl (Nat.le_of_ble_eq_true rfl) dX2_cardThen_31 ⟨Nat.le_of_ble_eq_true rfl, Nat.le_of_ble_eq_true rfl⟩ (fun H locs hP hD hS => ?_)
      have hP : va_P D vwCl (wM A cI v3) H := hP
      refine lv_aload_n hx hb dX2_cardThen_34 rfl (lv_at hl 1 rfl) ?_
      refine lv_iload_n hx hb dX2_cardThen_35 rfl (lv_at hl 3 rfl) ?_
      obtain ⟨v4, hev4, hf⟩ := bS hf
      refine qV_v (ws' := (wM A cI v4)) (As := [.int j2]) (rest := []) ⟨hx, hb, hml, hown, hts⟩ hK hN hA hP hD hS (c_X2_goes l D cI A j2 v3 v4 hev4) (cwV 1 hts gX2_cardThen_X2_goes rfl rfl rfl hd_X2_goes ⟨Nat.le_of_ble_eq_true rfl, Nat.le_of_ble_eq_true rfl⟩) (va_recv hK hP (ci := 2) (q0 := 0) rfl rfl) (bp_X2_X2_t_t A cI v3 v4) rfl hl.1 rfl (Nat.le_of_ble_eq_true rfl) dX2_cardThen_36 ⟨Nat.le_of_ble_eq_true rfl, Nat.le_of_ble_eq_true rfl⟩ (fun H locs hP hD hS => ?_)
      have hP : va_P D vwCl (wM A cI v4) H := hP
      refine lv_aload_n hx hb dX2_cardThen_39 rfl (lv_at hl 1 rfl) ?_
      refine lv_iload_n hx hb dX2_cardThen_40 rfl (lv_at hl 2 rfl) ?_
      obtain ⟨v5, hev5, hf⟩ := bS hf
      refine qV_i (As := [.int j1]) (rest := []) ⟨hx, hb, hml, hown, hts⟩ hK hN hA hP hD hS (c_X2_holderOf l D cI A j1 v4 v5 hev5) (cwV 1 hts gX2_cardThen_X2_holderOf rfl rfl rfl hd_X2_holderOf ⟨Nat.le_of_ble_eq_true rfl, Nat.le_of_ble_eq_true rfl⟩) (va_recv hK hP (ci := 2) (q0 := 0) rfl rfl) (bq_X2_X2_t A cI v4) rfl hl.1 rfl (Nat.le_of_ble_eq_true rfl) dX2_cardThen_41 ⟨Nat.le_of_ble_eq_true rfl, Nat.le_of_ble_eq_true rfl⟩ (fun H locs hP hD hS => ?_)
      refine lv_istore (lv' := [(4, .int v5), (3, .int (f_X2_bound j2 (0 : Int32) (60 : Int32))), (0, .ref (A 0)), (1, .int j1), (2, .int j2)]) hx hb dX2_cardThen_44 hl (by decide) rfl (fun ls hl => ?_)
      refine lv_aload_n hx hb dX2_cardThen_46 rfl (lv_at hl 2 rfl) ?_
      obtain ⟨v6, hev6, hf⟩ := bS hf
      refine qV_v (ws' := (wM A cI v6)) (As := []) (rest := []) ⟨hx, hb, hml, hown, hts⟩ hK hN hA hP hD hS (c_X2_forgets l D cI A v4 v6 hev6) (cwV 0 hts gX2_cardThen_X2_forgets rfl rfl rfl hd_X2_forgets ⟨Nat.le_of_ble_eq_true rfl, Nat.le_of_ble_eq_true rfl⟩) (va_recv hK hP (ci := 2) (q0 := 0) rfl rfl) (bp_X2_X2_t_t A cI v4 v6) rfl hl.1 rfl (Nat.le_of_ble_eq_true rfl) dX2_cardThen_47 ⟨Nat.le_of_ble_eq_true rfl, Nat.le_of_ble_eq_true rfl⟩ (fun H locs hP hD hS => ?_)
      have hP : va_P D vwCl (wM A cI v6) H := hP
      refine lv_iload hx hb dX2_cardThen_50 (lv_at hl 0 rfl) ?_
      obtain rfl := Option.some.inj hf
      exact W.iret (v := v5) hx hb hr (fun t ht hW => ⟨⟨v5, (), rfl, rfl, hPt ht hP⟩, hS.F ht⟩) hS.2.2 dX2_cardThen_52
    · have hf := hF hf c2
      refine lv_aload_n hx hb dX2_cardThen_24 rfl (lv_at hl 1 rfl) ?_
      refine lv_iload_n hx hb dX2_cardThen_25 rfl (lv_at hl 0 rfl) ?_
      obtain ⟨v7, hev7, hf⟩ := bS hf
      refine qV_i (ws' := (wM A cI v7.2)) (As := [.int (f_X2_bound j2 (0 : Int32) (60 : Int32))]) (rest := []) ⟨hx, hb, hml, hown, hts⟩ hK hN hA hP hD hS (c_X2_no l D cI A (f_X2_bound j2 (0 : Int32) (60 : Int32)) tt v7 hev7) (cwV 1 hts gX2_cardThen_X2_no rfl rfl rfl hd_X2_no ⟨Nat.le_of_ble_eq_true rfl, Nat.le_of_ble_eq_true rfl⟩) (va_recv hK hP (ci := 2) (q0 := 0) rfl rfl) (bp_X2_X2_t_t A cI tt v7.2) rfl hl.1 rfl (Nat.le_of_ble_eq_true rfl) dX2_cardThen_26 ⟨Nat.le_of_ble_eq_true rfl, Nat.le_of_ble_eq_true rfl⟩ (fun H locs hP hD hS => ?_)
      have hP : va_P D vwCl (wM A cI v7.2) H := hP
      obtain rfl := Option.some.inj hf
      exact W.iret (v := v7.1) hx hb hr (fun t ht hW => ⟨⟨v7.1, (), rfl, rfl, hPt ht hP⟩, hS.F ht⟩) hS.2.2 dX2_cardThen_29
  · have hf := hT hf c1
    refine lv_iconst (v := (-1 : Int32)) hx hb dX2_cardThen_8 (by decide) ?_
    refine lv_goto (tgt := 19) hx hb dX2_cardThen_9 (by decide) ?_
    refine lv_istore_n (lv' := [(3, .int (-1 : Int32)), (0, .ref (A 0)), (1, .int j1), (2, .int j2)]) hx hb dX2_cardThen_19 rfl hl (by decide) rfl (fun ls hl => ?_)
    refine lv_iload_n hx hb dX2_cardThen_20 rfl (lv_at hl 0 rfl) ?_
    refine lv_if_eq (tgt := 30) hx hb dX2_cardThen_21 (by decide) (fun c8 => ?_) (fun c8 => ?_)
    · exact absurd c8 (by decide)
    · refine lv_aload_n hx hb dX2_cardThen_24 rfl (lv_at hl 1 rfl) ?_
      refine lv_iload_n hx hb dX2_cardThen_25 rfl (lv_at hl 0 rfl) ?_
      obtain ⟨v9, hev9, hf⟩ := bS hf
      refine qV_i (ws' := (wM A cI v9.2)) (As := [.int (-1 : Int32)]) (rest := []) ⟨hx, hb, hml, hown, hts⟩ hK hN hA hP hD hS (c_X2_no l D cI A (-1 : Int32) tt v9 hev9) (cwV 1 hts gX2_cardThen_X2_no rfl rfl rfl hd_X2_no ⟨Nat.le_of_ble_eq_true rfl, Nat.le_of_ble_eq_true rfl⟩) (va_recv hK hP (ci := 2) (q0 := 0) rfl rfl) (bp_X2_X2_t_t A cI tt v9.2) rfl hl.1 rfl (Nat.le_of_ble_eq_true rfl) dX2_cardThen_26 ⟨Nat.le_of_ble_eq_true rfl, Nat.le_of_ble_eq_true rfl⟩ (fun H locs hP hD hS => ?_)
      have hP : va_P D vwCl (wM A cI v9.2) H := hP
      obtain rfl := Option.some.inj hf
      exact W.iret (v := v9.1) hx hb hr (fun t ht hW => ⟨⟨v9.1, (), rfl, rfl, hPt ht hP⟩, hS.F ht⟩) hS.2.2 dX2_cardThen_29
set_option maxHeartbeats 4000000 in
set_option maxRecDepth 100000 in
theorem c_X2_bidderThen (l : Launch) (D : va_G) (cI : ClassId) (A : Nat → Nat) (j1 : Int32) (j2 : Int32) (j3 : Int32) (tt : HS) (out : Int32 × HS) (hf : f_X2_bidderThen j1 j2 j3 tt = some out) : uI l D cI yX2_bidderThen wsX2_bidderThen ({ frames := 9, cells := 0, slots := 0, locals := 204 } : Room) [.ref (A 0), .int j1, .int j2, .int j3] (wM A cI tt) (wM A cI out.2) out.1 := by
  intro sz
  refine Met.ofW (cc := cX2_bidderThen) (maxL := 6) (ret := (some .int)) (by decide) rfl ?_
  intro p e s m args below meth c s₁ Bd hml hv
  obtain ⟨rfl, hsz, hP, hK, hD0, hN⟩ := hv
  have hx := Bd.exec
  have hb := Bd.bytes
  have hr := Bd.returns
  have hts := atoms_spec (ws := wsX2_bidderThen) Bd.pre
  have hown : s.vm.findClass RX2 = some m.cls := findClass_of_methodNamed Bd.named
  have hlocks := Bd.notSynchronized
  subst hsz
  have hD := hD0.self (sz := s.heap.size)
  generalize hAe : va_A (wM A cI tt) s.heap.size = G at hD ⊢
  have hA : ∀ q : Nat, s.heap.size ≤ q → G q := fun q h => by rw [← hAe]; exact Or.inr h
  have hS : va_S G s.heap s.heap [] := va_S.rf
  have hP : va_P D vwCl (wM A cI tt) s.heap := hP
  have hl := lv_entry ([.ref (A 0), .int j1, .int j2, .int j3]) (n := 6) (Nat.le_of_ble_eq_true rfl)
  rw [lg_entry_eq]
  generalize (lg_sl ([.ref (A 0), .int j1, .int j2, .int j3]) ++ List.replicate (6 - (lg_sl ([.ref (A 0), .int j1, .int j2, .int j3])).length) Slot.unset).toArray = ls at hl ⊢
  have hl : lv_has ls 6 [(0, .ref (A 0)), (1, .int j1), (2, .int j2), (3, .int j3)] := hl
  have hinM : ∀ w ∈ wsX20, w ∈ wsX2_bidderThen := by decide +kernel
  have lk0 := hts (.fieldLink RX2 40 "LiesBoughtBackModel" "belief" "[I") (by decide +kernel)
  have lk1 := hts (.fieldLink RX2 37 "LiesBoughtBackModel" "purse" "[I") (by decide +kernel)
  refine W_in ?_
  intro WW hWW
  refine (hWW _ _ _).mpr ?_
  unfold f_X2_bidderThen at hf
  refine lv_aload_n hx hb dX2_bidderThen_0 rfl (lv_at hl 0 rfl) ?_
  refine lv_iload_n hx hb dX2_bidderThen_1 rfl (lv_at hl 1 rfl) ?_
  refine qV_i (As := [.int j1]) (rest := []) ⟨hx, hb, hml, hown, hts⟩ hK hN hA hP hD hS (c_X2_isBidder l D cI A j1 tt (f_X2_isBidder j1 tt) rfl) (cwV 1 hts gX2_bidderThen_X2_isBidder rfl rfl rfl hd_X2_isBidder ⟨Nat.le_of_ble_eq_true rfl, Nat.le_of_ble_eq_true rfl⟩) (va_recv hK hP (ci := 2) (q0 := 0) rfl rfl) (bq_X2_X2_t A cI tt) rfl hl.1 rfl (Nat.le_of_ble_eq_true rfl) dX2_bidderThen_2 ⟨Nat.le_of_ble_eq_true rfl, Nat.le_of_ble_eq_true rfl⟩ (fun H locs hP hD hS => ?_)
  refine lv_if_ne (tgt := 12) hx hb dX2_bidderThen_5 (by decide) (fun c1 => ?_) (fun c1 => ?_)
  · have hf := hF hf c1
    refine lv_iload_n hx hb dX2_bidderThen_12 rfl (lv_at hl 2 rfl) ?_
    refine lv_iconst (v := (0 : Int32)) hx hb dX2_bidderThen_13 (by decide) ?_
    refine lv_bipush (v := (60 : Int32)) hx hb dX2_bidderThen_14 (by decide) ?_
    refine qS_i (As := [.int j2, .int (0 : Int32), .int (60 : Int32)]) (rest := []) ⟨hx, hb, hml, hown, hts⟩ hK hN hA hP hD hS (c_X2_bound l D cI j2 (0 : Int32) (60 : Int32) (f_X2_bound j2 (0 : Int32) (60 : Int32)) rfl) (va_cwS 3 hts gX2_bidderThen_X2_bound rfl rfl rfl hd_X2_bound.2 ⟨Nat.le_of_ble_eq_true rfl, Nat.le_of_ble_eq_true rfl⟩) Bp_e rfl hl.1 rfl (Nat.le_of_ble_eq_true rfl) dX2_bidderThen_16 ⟨Nat.le_of_ble_eq_true rfl, Nat.le_of_ble_eq_true rfl⟩ (fun H locs hP hD hS => ?_)
    refine lv_istore (lv' := [(4, .int (f_X2_bound j2 (0 : Int32) (60 : Int32))), (0, .ref (A 0)), (1, .int j1), (2, .int j2), (3, .int j3)]) hx hb dX2_bidderThen_19 hl (by decide) rfl (fun ls hl => ?_)
    refine lv_iload hx hb dX2_bidderThen_21 (lv_at hl 0 rfl) ?_
    obtain ⟨K39, hK39, hf⟩ := jnS hf
    have J39 : ∀ (j4_39 : Int32) (tt_39 : HS) (H : Heap) (locs : List Loc) (ls : Array Slot), K39 j4_39 tt_39 = some out → va_P D vwCl (wM A cI tt_39) H → va_D G (wM A cI tt_39) → va_S G s.heap H locs → lv_has ls 6 [(0, .ref (A 0)), (1, .int j1), (2, .int j2), (3, .int j3), (4, .int j4_39)] → WW H locs (F0 m 39 ls []) := by
      intro j4_39 tt_39 H locs ls hf hP hD hS hl
      subst hK39
      refine (hWW _ _ _).mpr ?_
      refine lv_iload hx hb dX2_bidderThen_39 (lv_at hl 4 rfl) ?_
      refine lv_if_eq (tgt := 51) hx hb dX2_bidderThen_41 (by decide) (fun c2 => ?_) (fun c2 => ?_)
      · have hf := hT hf c2
        refine lv_aload_n hx hb dX2_bidderThen_51 rfl (lv_at hl 0 rfl) ?_
        obtain ⟨v3, hev3, hf⟩ := bS hf
        refine qV_v (ws' := (wM A cI v3)) (As := []) (rest := []) ⟨hx, hb, hml, hown, hts⟩ hK hN hA hP hD hS (c_X2_thinks l D cI A tt_39 v3 hev3) (cwV 0 hts gX2_bidderThen_X2_thinks rfl rfl rfl hd_X2_thinks ⟨Nat.le_of_ble_eq_true rfl, Nat.le_of_ble_eq_true rfl⟩) (va_recv hK hP (ci := 2) (q0 := 0) rfl rfl) (bp_X2_X2_t_t A cI tt_39 v3) rfl hl.1 rfl (Nat.le_of_ble_eq_true rfl) dX2_bidderThen_52 ⟨Nat.le_of_ble_eq_true rfl, Nat.le_of_ble_eq_true rfl⟩ (fun H locs hP hD hS => ?_)
        have hP : va_P D vwCl (wM A cI v3) H := hP
        refine lv_aload_n hx hb dX2_bidderThen_55 rfl (lv_at hl 0 rfl) ?_
        refine lv_iload_n hx hb dX2_bidderThen_56 rfl (lv_at hl 2 rfl) ?_
        obtain ⟨v4, hev4, hf⟩ := bS hf
        refine qV_v (ws' := (wM A cI v4)) (As := [.int j2]) (rest := []) ⟨hx, hb, hml, hown, hts⟩ hK hN hA hP hD hS (c_X2_goes l D cI A j2 v3 v4 hev4) (cwV 1 hts gX2_bidderThen_X2_goes rfl rfl rfl hd_X2_goes ⟨Nat.le_of_ble_eq_true rfl, Nat.le_of_ble_eq_true rfl⟩) (va_recv hK hP (ci := 2) (q0 := 0) rfl rfl) (bp_X2_X2_t_t A cI v3 v4) rfl hl.1 rfl (Nat.le_of_ble_eq_true rfl) dX2_bidderThen_57 ⟨Nat.le_of_ble_eq_true rfl, Nat.le_of_ble_eq_true rfl⟩ (fun H locs hP hD hS => ?_)
        have hP : va_P D vwCl (wM A cI v4) H := hP
        refine lv_iload_n hx hb dX2_bidderThen_60 rfl (lv_at hl 3 rfl) ?_
        refine lv_if_ne (tgt := 73) hx hb dX2_bidderThen_61 (by decide) (fun c5 => ?_) (fun c5 => ?_)
        · have hf := hF hf c5
          refine lv_aload_n hx hb dX2_bidderThen_73 rfl (lv_at hl 0 rfl) ?_
          refine va_get (D := D) (ci := 2) (v := .ref (A 11)) (C := RX2) (T := TX2) (N := 31) hx hb hts hinM hown hK hP 0 rfl rfl 10 (by decide) lk0 (fun _ h9 => h9) rfl dX2_bidderThen_74 ?_
          refine lv_iload_n hx hb dX2_bidderThen_77 rfl (lv_at hl 1 rfl) ?_
          obtain ⟨v6, he, hf⟩ := bS hf
          refine x_iald hx hb hK hP 11 (n := 6) rfl he dX2_bidderThen_78 ?_
          refine lv_istore (lv' := [(5, .int v6), (0, .ref (A 0)), (1, .int j1), (2, .int j2), (3, .int j3), (4, .int j4_39)]) hx hb dX2_bidderThen_79 hl (by decide) rfl (fun ls hl => ?_)
          refine lv_aload_n hx hb dX2_bidderThen_81 rfl (lv_at hl 1 rfl) ?_
          obtain ⟨v7, hev7, hf⟩ := bS hf
          refine qV_v (ws' := (wM A cI v7)) (As := []) (rest := []) ⟨hx, hb, hml, hown, hts⟩ hK hN hA hP hD hS (c_X2_forgets l D cI A v4 v7 hev7) (cwV 0 hts gX2_bidderThen_X2_forgets rfl rfl rfl hd_X2_forgets ⟨Nat.le_of_ble_eq_true rfl, Nat.le_of_ble_eq_true rfl⟩) (va_recv hK hP (ci := 2) (q0 := 0) rfl rfl) (bp_X2_X2_t_t A cI v4 v7) rfl hl.1 rfl (Nat.le_of_ble_eq_true rfl) dX2_bidderThen_82 ⟨Nat.le_of_ble_eq_true rfl, Nat.le_of_ble_eq_true rfl⟩ (fun H locs hP hD hS => ?_)
          have hP : va_P D vwCl (wM A cI v7) H := hP
          refine lv_iload hx hb dX2_bidderThen_85 (lv_at hl 0 rfl) ?_
          obtain rfl := Option.some.inj hf
          exact W.iret (v := v6) hx hb hr (fun t ht hW => ⟨⟨v6, (), rfl, rfl, hPt ht hP⟩, hS.F ht⟩) hS.2.2 dX2_bidderThen_87
        · have hf := hT hf c5
          refine lv_aload_n hx hb dX2_bidderThen_64 rfl (lv_at hl 0 rfl) ?_
          refine va_get (D := D) (ci := 2) (v := .ref (A 10)) (C := RX2) (T := TX2) (N := 31) hx hb hts hinM hown hK hP 0 rfl rfl 9 (by decide) lk1 (fun _ h9 => h9) rfl dX2_bidderThen_65 ?_
          refine lv_iload_n hx hb dX2_bidderThen_68 rfl (lv_at hl 1 rfl) ?_
          obtain ⟨v8, he, hf⟩ := bS hf
          refine x_iald hx hb hK hP 10 (n := 6) rfl he dX2_bidderThen_69 ?_
          refine lv_goto (tgt := 79) hx hb dX2_bidderThen_70 (by decide) ?_
          refine lv_istore (lv' := [(5, .int v8), (0, .ref (A 0)), (1, .int j1), (2, .int j2), (3, .int j3), (4, .int j4_39)]) hx hb dX2_bidderThen_79 hl (by decide) rfl (fun ls hl => ?_)
          refine lv_aload_n hx hb dX2_bidderThen_81 rfl (lv_at hl 1 rfl) ?_
          obtain ⟨v9, hev9, hf⟩ := bS hf
          refine qV_v (ws' := (wM A cI v9)) (As := []) (rest := []) ⟨hx, hb, hml, hown, hts⟩ hK hN hA hP hD hS (c_X2_forgets l D cI A v4 v9 hev9) (cwV 0 hts gX2_bidderThen_X2_forgets rfl rfl rfl hd_X2_forgets ⟨Nat.le_of_ble_eq_true rfl, Nat.le_of_ble_eq_true rfl⟩) (va_recv hK hP (ci := 2) (q0 := 0) rfl rfl) (bp_X2_X2_t_t A cI v4 v9) rfl hl.1 rfl (Nat.le_of_ble_eq_true rfl) dX2_bidderThen_82 ⟨Nat.le_of_ble_eq_true rfl, Nat.le_of_ble_eq_true rfl⟩ (fun H locs hP hD hS => ?_)
          have hP : va_P D vwCl (wM A cI v9) H := hP
          refine lv_iload hx hb dX2_bidderThen_85 (lv_at hl 0 rfl) ?_
          obtain rfl := Option.some.inj hf
          exact W.iret (v := v8) hx hb hr (fun t ht hW => ⟨⟨v8, (), rfl, rfl, hPt ht hP⟩, hS.F ht⟩) hS.2.2 dX2_bidderThen_87
      · have hf := hF hf c2
        refine lv_aload_n hx hb dX2_bidderThen_44 rfl (lv_at hl 0 rfl) ?_
        refine lv_iload hx hb dX2_bidderThen_45 (lv_at hl 4 rfl) ?_
        obtain ⟨v10, hev10, hf⟩ := bS hf
        refine qV_i (ws' := (wM A cI v10.2)) (As := [.int j4_39]) (rest := []) ⟨hx, hb, hml, hown, hts⟩ hK hN hA hP hD hS (c_X2_no l D cI A j4_39 tt_39 v10 hev10) (cwV 1 hts gX2_bidderThen_X2_no rfl rfl rfl hd_X2_no ⟨Nat.le_of_ble_eq_true rfl, Nat.le_of_ble_eq_true rfl⟩) (va_recv hK hP (ci := 2) (q0 := 0) rfl rfl) (bp_X2_X2_t_t A cI tt_39 v10.2) rfl hl.1 rfl (Nat.le_of_ble_eq_true rfl) dX2_bidderThen_47 ⟨Nat.le_of_ble_eq_true rfl, Nat.le_of_ble_eq_true rfl⟩ (fun H locs hP hD hS => ?_)
        have hP : va_P D vwCl (wM A cI v10.2) H := hP
        obtain rfl := Option.some.inj hf
        exact W.iret (v := v10.1) hx hb hr (fun t ht hW => ⟨⟨v10.1, (), rfl, rfl, hPt ht hP⟩, hS.F ht⟩) hS.2.2 dX2_bidderThen_50
    refine lv_if_ne (tgt := 39) hx hb dX2_bidderThen_23 (by decide) (fun c11 => ?_) (fun c11 => ?_)
    · have hf := hF hf c11
      exact (hWW _ _ _).mp (J39 _ _ _ _ _ hf hP hD hS (lv_sub hl [1, 2, 3, 4, 0] rfl))
    · have hf := hT hf c11
      refine lv_iload_n hx hb dX2_bidderThen_26 rfl (lv_at hl 4 rfl) ?_
      refine lv_iconst (v := (0 : Int32)) hx hb dX2_bidderThen_27 (by decide) ?_
      refine lv_iconst (v := (1 : Int32)) hx hb dX2_bidderThen_28 (by decide) ?_
      refine qS_i (As := [.int j3, .int (0 : Int32), .int (1 : Int32)]) (rest := []) ⟨hx, hb, hml, hown, hts⟩ hK hN hA hP hD hS (c_X2_isIn l D cI j3 (0 : Int32) (1 : Int32) (f_X2_isIn j3 (0 : Int32) (1 : Int32)) rfl) (va_cwS 3 hts gX2_bidderThen_X2_isIn rfl rfl rfl hd_X2_isIn.2 ⟨Nat.le_of_ble_eq_true rfl, Nat.le_of_ble_eq_true rfl⟩) Bp_e rfl hl.1 rfl (Nat.le_of_ble_eq_true rfl) dX2_bidderThen_29 ⟨Nat.le_of_ble_eq_true rfl, Nat.le_of_ble_eq_true rfl⟩ (fun H locs hP hD hS => ?_)
      refine lv_if_ne (tgt := 39) hx hb dX2_bidderThen_32 (by decide) (fun c12 => ?_) (fun c12 => ?_)
      · have hf := hF hf c12
        exact (hWW _ _ _).mp (J39 _ _ _ _ _ hf hP hD hS (lv_sub hl [1, 2, 3, 4, 0] rfl))
      · have hf := hT hf c12
        refine lv_bipush (v := (-2 : Int32)) hx hb dX2_bidderThen_35 (by decide) ?_
        refine lv_istore (lv' := [(4, .int (-2 : Int32)), (0, .ref (A 0)), (1, .int j1), (2, .int j2), (3, .int j3)]) hx hb dX2_bidderThen_37 hl (by decide) rfl (fun ls hl => ?_)
        exact (hWW _ _ _).mp (J39 _ _ _ _ _ hf hP hD hS (lv_sub hl [1, 2, 3, 4, 0] rfl))
  · have hf := hT hf c1
    refine lv_iconst (v := (-1 : Int32)) hx hb dX2_bidderThen_8 (by decide) ?_
    refine lv_goto (tgt := 19) hx hb dX2_bidderThen_9 (by decide) ?_
    refine lv_istore (lv' := [(4, .int (-1 : Int32)), (0, .ref (A 0)), (1, .int j1), (2, .int j2), (3, .int j3)]) hx hb dX2_bidderThen_19 hl (by decide) rfl (fun ls hl => ?_)
    refine lv_iload hx hb dX2_bidderThen_21 (lv_at hl 0 rfl) ?_
    obtain ⟨K39, hK39, hf⟩ := jnS hf
    have J39 : ∀ (j4_39 : Int32) (tt_39 : HS) (H : Heap) (locs : List Loc) (ls : Array Slot), K39 j4_39 tt_39 = some out → va_P D vwCl (wM A cI tt_39) H → va_D G (wM A cI tt_39) → va_S G s.heap H locs → lv_has ls 6 [(0, .ref (A 0)), (1, .int j1), (2, .int j2), (3, .int j3), (4, .int j4_39)] → WW H locs (F0 m 39 ls []) := by
      intro j4_39 tt_39 H locs ls hf hP hD hS hl
      subst hK39
      refine (hWW _ _ _).mpr ?_
      refine lv_iload hx hb dX2_bidderThen_39 (lv_at hl 4 rfl) ?_
      refine lv_if_eq (tgt := 51) hx hb dX2_bidderThen_41 (by decide) (fun c13 => ?_) (fun c13 => ?_)
      · have hf := hT hf c13
        refine lv_aload_n hx hb dX2_bidderThen_51 rfl (lv_at hl 0 rfl) ?_
        obtain ⟨v14, hev14, hf⟩ := bS hf
        refine qV_v (ws' := (wM A cI v14)) (As := []) (rest := []) ⟨hx, hb, hml, hown, hts⟩ hK hN hA hP hD hS (c_X2_thinks l D cI A tt_39 v14 hev14) (cwV 0 hts gX2_bidderThen_X2_thinks rfl rfl rfl hd_X2_thinks ⟨Nat.le_of_ble_eq_true rfl, Nat.le_of_ble_eq_true rfl⟩) (va_recv hK hP (ci := 2) (q0 := 0) rfl rfl) (bp_X2_X2_t_t A cI tt_39 v14) rfl hl.1 rfl (Nat.le_of_ble_eq_true rfl) dX2_bidderThen_52 ⟨Nat.le_of_ble_eq_true rfl, Nat.le_of_ble_eq_true rfl⟩ (fun H locs hP hD hS => ?_)
        have hP : va_P D vwCl (wM A cI v14) H := hP
        refine lv_aload_n hx hb dX2_bidderThen_55 rfl (lv_at hl 0 rfl) ?_
        refine lv_iload_n hx hb dX2_bidderThen_56 rfl (lv_at hl 2 rfl) ?_
        obtain ⟨v15, hev15, hf⟩ := bS hf
        refine qV_v (ws' := (wM A cI v15)) (As := [.int j2]) (rest := []) ⟨hx, hb, hml, hown, hts⟩ hK hN hA hP hD hS (c_X2_goes l D cI A j2 v14 v15 hev15) (cwV 1 hts gX2_bidderThen_X2_goes rfl rfl rfl hd_X2_goes ⟨Nat.le_of_ble_eq_true rfl, Nat.le_of_ble_eq_true rfl⟩) (va_recv hK hP (ci := 2) (q0 := 0) rfl rfl) (bp_X2_X2_t_t A cI v14 v15) rfl hl.1 rfl (Nat.le_of_ble_eq_true rfl) dX2_bidderThen_57 ⟨Nat.le_of_ble_eq_true rfl, Nat.le_of_ble_eq_true rfl⟩ (fun H locs hP hD hS => ?_)
        have hP : va_P D vwCl (wM A cI v15) H := hP
        refine lv_iload_n hx hb dX2_bidderThen_60 rfl (lv_at hl 3 rfl) ?_
        refine lv_if_ne (tgt := 73) hx hb dX2_bidderThen_61 (by decide) (fun c16 => ?_) (fun c16 => ?_)
        · have hf := hF hf c16
          refine lv_aload_n hx hb dX2_bidderThen_73 rfl (lv_at hl 0 rfl) ?_
          refine va_get (D := D) (ci := 2) (v := .ref (A 11)) (C := RX2) (T := TX2) (N := 31) hx hb hts hinM hown hK hP 0 rfl rfl 10 (by decide) lk0 (fun _ h9 => h9) rfl dX2_bidderThen_74 ?_
          refine lv_iload_n hx hb dX2_bidderThen_77 rfl (lv_at hl 1 rfl) ?_
          obtain ⟨v17, he, hf⟩ := bS hf
          refine x_iald hx hb hK hP 11 (n := 6) rfl he dX2_bidderThen_78 ?_
          refine lv_istore (lv' := [(5, .int v17), (0, .ref (A 0)), (1, .int j1), (2, .int j2), (3, .int j3), (4, .int j4_39)]) hx hb dX2_bidderThen_79 hl (by decide) rfl (fun ls hl => ?_)
          refine lv_aload_n hx hb dX2_bidderThen_81 rfl (lv_at hl 1 rfl) ?_
          obtain ⟨v18, hev18, hf⟩ := bS hf
          refine qV_v (ws' := (wM A cI v18)) (As := []) (rest := []) ⟨hx, hb, hml, hown, hts⟩ hK hN hA hP hD hS (c_X2_forgets l D cI A v15 v18 hev18) (cwV 0 hts gX2_bidderThen_X2_forgets rfl rfl rfl hd_X2_forgets ⟨Nat.le_of_ble_eq_true rfl, Nat.le_of_ble_eq_true rfl⟩) (va_recv hK hP (ci := 2) (q0 := 0) rfl rfl) (bp_X2_X2_t_t A cI v15 v18) rfl hl.1 rfl (Nat.le_of_ble_eq_true rfl) dX2_bidderThen_82 ⟨Nat.le_of_ble_eq_true rfl, Nat.le_of_ble_eq_true rfl⟩ (fun H locs hP hD hS => ?_)
          have hP : va_P D vwCl (wM A cI v18) H := hP
          refine lv_iload hx hb dX2_bidderThen_85 (lv_at hl 0 rfl) ?_
          obtain rfl := Option.some.inj hf
          exact W.iret (v := v17) hx hb hr (fun t ht hW => ⟨⟨v17, (), rfl, rfl, hPt ht hP⟩, hS.F ht⟩) hS.2.2 dX2_bidderThen_87
        · have hf := hT hf c16
          refine lv_aload_n hx hb dX2_bidderThen_64 rfl (lv_at hl 0 rfl) ?_
          refine va_get (D := D) (ci := 2) (v := .ref (A 10)) (C := RX2) (T := TX2) (N := 31) hx hb hts hinM hown hK hP 0 rfl rfl 9 (by decide) lk1 (fun _ h9 => h9) rfl dX2_bidderThen_65 ?_
          refine lv_iload_n hx hb dX2_bidderThen_68 rfl (lv_at hl 1 rfl) ?_
          obtain ⟨v19, he, hf⟩ := bS hf
          refine x_iald hx hb hK hP 10 (n := 6) rfl he dX2_bidderThen_69 ?_
          refine lv_goto (tgt := 79) hx hb dX2_bidderThen_70 (by decide) ?_
          refine lv_istore (lv' := [(5, .int v19), (0, .ref (A 0)), (1, .int j1), (2, .int j2), (3, .int j3), (4, .int j4_39)]) hx hb dX2_bidderThen_79 hl (by decide) rfl (fun ls hl => ?_)
          refine lv_aload_n hx hb dX2_bidderThen_81 rfl (lv_at hl 1 rfl) ?_
          obtain ⟨v20, hev20, hf⟩ := bS hf
          refine qV_v (ws' := (wM A cI v20)) (As := []) (rest := []) ⟨hx, hb, hml, hown, hts⟩ hK hN hA hP hD hS (c_X2_forgets l D cI A v15 v20 hev20) (cwV 0 hts gX2_bidderThen_X2_forgets rfl rfl rfl hd_X2_forgets ⟨Nat.le_of_ble_eq_true rfl, Nat.le_of_ble_eq_true rfl⟩) (va_recv hK hP (ci := 2) (q0 := 0) rfl rfl) (bp_X2_X2_t_t A cI v15 v20) rfl hl.1 rfl (Nat.le_of_ble_eq_true rfl) dX2_bidderThen_82 ⟨Nat.le_of_ble_eq_true rfl, Nat.le_of_ble_eq_true rfl⟩ (fun H locs hP hD hS => ?_)
          have hP : va_P D vwCl (wM A cI v20) H := hP
          refine lv_iload hx hb dX2_bidderThen_85 (lv_at hl 0 rfl) ?_
          obtain rfl := Option.some.inj hf
          exact W.iret (v := v19) hx hb hr (fun t ht hW => ⟨⟨v19, (), rfl, rfl, hPt ht hP⟩, hS.F ht⟩) hS.2.2 dX2_bidderThen_87
      · have hf := hF hf c13
        refine lv_aload_n hx hb dX2_bidderThen_44 rfl (lv_at hl 0 rfl) ?_
        refine lv_iload hx hb dX2_bidderThen_45 (lv_at hl 4 rfl) ?_
        obtain ⟨v21, hev21, hf⟩ := bS hf
        refine qV_i (ws' := (wM A cI v21.2)) (As := [.int j4_39]) (rest := []) ⟨hx, hb, hml, hown, hts⟩ hK hN hA hP hD hS (c_X2_no l D cI A j4_39 tt_39 v21 hev21) (cwV 1 hts gX2_bidderThen_X2_no rfl rfl rfl hd_X2_no ⟨Nat.le_of_ble_eq_true rfl, Nat.le_of_ble_eq_true rfl⟩) (va_recv hK hP (ci := 2) (q0 := 0) rfl rfl) (bp_X2_X2_t_t A cI tt_39 v21.2) rfl hl.1 rfl (Nat.le_of_ble_eq_true rfl) dX2_bidderThen_47 ⟨Nat.le_of_ble_eq_true rfl, Nat.le_of_ble_eq_true rfl⟩ (fun H locs hP hD hS => ?_)
        have hP : va_P D vwCl (wM A cI v21.2) H := hP
        obtain rfl := Option.some.inj hf
        exact W.iret (v := v21.1) hx hb hr (fun t ht hW => ⟨⟨v21.1, (), rfl, rfl, hPt ht hP⟩, hS.F ht⟩) hS.2.2 dX2_bidderThen_50
    refine lv_if_ne (tgt := 39) hx hb dX2_bidderThen_23 (by decide) (fun c22 => ?_) (fun c22 => ?_)
    · exact (hWW _ _ _).mp (J39 _ _ _ _ _ hf hP hD hS (lv_sub hl [1, 2, 3, 4, 0] rfl))
    · exact absurd c22 (by decide)
set_option maxHeartbeats 4000000 in
set_option maxRecDepth 100000 in
theorem c_X2_pileThen (l : Launch) (D : va_G) (cI : ClassId) (A : Nat → Nat) (j1 : Int32) (tt : HS) (out : Int32 × HS) (hf : f_X2_pileThen j1 tt = some out) : uI l D cI yX2_pileThen wsX2_pileThen ({ frames := 9, cells := 0, slots := 0, locals := 204 } : Room) [.ref (A 0), .int j1] (wM A cI tt) (wM A cI out.2) out.1 := by
  intro sz
  refine Met.ofW (cc := cX2_pileThen) (maxL := 4) (ret := (some .int)) (by decide) rfl ?_
  intro p e s m args below meth c s₁ Bd hml hv
  obtain ⟨rfl, hsz, hP, hK, hD0, hN⟩ := hv
  have hx := Bd.exec
  have hb := Bd.bytes
  have hr := Bd.returns
  have hts := atoms_spec (ws := wsX2_pileThen) Bd.pre
  have hown : s.vm.findClass RX2 = some m.cls := findClass_of_methodNamed Bd.named
  have hlocks := Bd.notSynchronized
  subst hsz
  have hD := hD0.self (sz := s.heap.size)
  generalize hAe : va_A (wM A cI tt) s.heap.size = G at hD ⊢
  have hA : ∀ q : Nat, s.heap.size ≤ q → G q := fun q h => by rw [← hAe]; exact Or.inr h
  have hS : va_S G s.heap s.heap [] := va_S.rf
  have hP : va_P D vwCl (wM A cI tt) s.heap := hP
  have hl := lv_entry ([.ref (A 0), .int j1]) (n := 4) (Nat.le_of_ble_eq_true rfl)
  rw [lg_entry_eq]
  generalize (lg_sl ([.ref (A 0), .int j1]) ++ List.replicate (4 - (lg_sl ([.ref (A 0), .int j1])).length) Slot.unset).toArray = ls at hl ⊢
  have hl : lv_has ls 4 [(0, .ref (A 0)), (1, .int j1)] := hl
  refine W_in ?_
  intro WW hWW
  refine (hWW _ _ _).mpr ?_
  unfold f_X2_pileThen at hf
  refine lv_iload_n hx hb dX2_pileThen_0 rfl (lv_at hl 1 rfl) ?_
  refine lv_iconst (v := (0 : Int32)) hx hb dX2_pileThen_1 (by decide) ?_
  refine lv_bipush (v := (60 : Int32)) hx hb dX2_pileThen_2 (by decide) ?_
  refine qS_i (As := [.int j1, .int (0 : Int32), .int (60 : Int32)]) (rest := []) ⟨hx, hb, hml, hown, hts⟩ hK hN hA hP hD hS (c_X2_bound l D cI j1 (0 : Int32) (60 : Int32) (f_X2_bound j1 (0 : Int32) (60 : Int32)) rfl) (va_cwS 3 hts gX2_pileThen_X2_bound rfl rfl rfl hd_X2_bound.2 ⟨Nat.le_of_ble_eq_true rfl, Nat.le_of_ble_eq_true rfl⟩) Bp_e rfl hl.1 rfl (Nat.le_of_ble_eq_true rfl) dX2_pileThen_4 ⟨Nat.le_of_ble_eq_true rfl, Nat.le_of_ble_eq_true rfl⟩ (fun H locs hP hD hS => ?_)
  refine lv_istore_n (lv' := [(2, .int (f_X2_bound j1 (0 : Int32) (60 : Int32))), (0, .ref (A 0)), (1, .int j1)]) hx hb dX2_pileThen_7 rfl hl (by decide) rfl (fun ls hl => ?_)
  refine lv_iload_n hx hb dX2_pileThen_8 rfl (lv_at hl 0 rfl) ?_
  refine lv_if_eq (tgt := 18) hx hb dX2_pileThen_9 (by decide) (fun c1 => ?_) (fun c1 => ?_)
  · have hf := hT hf c1
    refine lv_aload_n hx hb dX2_pileThen_18 rfl (lv_at hl 1 rfl) ?_
    obtain ⟨v2, hev2, hf⟩ := bS hf
    refine qV_v (ws' := (wM A cI v2)) (As := []) (rest := []) ⟨hx, hb, hml, hown, hts⟩ hK hN hA hP hD hS (c_X2_thinks l D cI A tt v2 hev2) (cwV 0 hts gX2_pileThen_X2_thinks rfl rfl rfl hd_X2_thinks ⟨Nat.le_of_ble_eq_true rfl, Nat.le_of_ble_eq_true rfl⟩) (va_recv hK hP (ci := 2) (q0 := 0) rfl rfl) (bp_X2_X2_t_t A cI tt v2) rfl hl.1 rfl (Nat.le_of_ble_eq_true rfl) dX2_pileThen_19 ⟨Nat.le_of_ble_eq_true rfl, Nat.le_of_ble_eq_true rfl⟩ (fun H locs hP hD hS => ?_)
    have hP : va_P D vwCl (wM A cI v2) H := hP
    refine lv_aload_n hx hb dX2_pileThen_22 rfl (lv_at hl 1 rfl) ?_
    refine lv_iload_n hx hb dX2_pileThen_23 rfl (lv_at hl 2 rfl) ?_
    obtain ⟨v3, hev3, hf⟩ := bS hf
    refine qV_v (ws' := (wM A cI v3)) (As := [.int j1]) (rest := []) ⟨hx, hb, hml, hown, hts⟩ hK hN hA hP hD hS (c_X2_goes l D cI A j1 v2 v3 hev3) (cwV 1 hts gX2_pileThen_X2_goes rfl rfl rfl hd_X2_goes ⟨Nat.le_of_ble_eq_true rfl, Nat.le_of_ble_eq_true rfl⟩) (va_recv hK hP (ci := 2) (q0 := 0) rfl rfl) (bp_X2_X2_t_t A cI v2 v3) rfl hl.1 rfl (Nat.le_of_ble_eq_true rfl) dX2_pileThen_24 ⟨Nat.le_of_ble_eq_true rfl, Nat.le_of_ble_eq_true rfl⟩ (fun H locs hP hD hS => ?_)
    have hP : va_P D vwCl (wM A cI v3) H := hP
    refine lv_aload_n hx hb dX2_pileThen_27 rfl (lv_at hl 1 rfl) ?_
    obtain ⟨v4, hev4, hf⟩ := bS hf
    refine qV_i (As := []) (rest := []) ⟨hx, hb, hml, hown, hts⟩ hK hN hA hP hD hS (c_X2_pile l D cI A v3 v4 hev4) (cwV 0 hts gX2_pileThen_X2_pile rfl rfl rfl hd_X2_pile ⟨Nat.le_of_ble_eq_true rfl, Nat.le_of_ble_eq_true rfl⟩) (va_recv hK hP (ci := 2) (q0 := 0) rfl rfl) (bq_X2_X2_t A cI v3) rfl hl.1 rfl (Nat.le_of_ble_eq_true rfl) dX2_pileThen_28 ⟨Nat.le_of_ble_eq_true rfl, Nat.le_of_ble_eq_true rfl⟩ (fun H locs hP hD hS => ?_)
    refine lv_istore_n (lv' := [(3, .int v4), (2, .int (f_X2_bound j1 (0 : Int32) (60 : Int32))), (0, .ref (A 0)), (1, .int j1)]) hx hb dX2_pileThen_31 rfl hl (by decide) rfl (fun ls hl => ?_)
    refine lv_aload_n hx hb dX2_pileThen_32 rfl (lv_at hl 2 rfl) ?_
    obtain ⟨v5, hev5, hf⟩ := bS hf
    refine qV_v (ws' := (wM A cI v5)) (As := []) (rest := []) ⟨hx, hb, hml, hown, hts⟩ hK hN hA hP hD hS (c_X2_forgets l D cI A v3 v5 hev5) (cwV 0 hts gX2_pileThen_X2_forgets rfl rfl rfl hd_X2_forgets ⟨Nat.le_of_ble_eq_true rfl, Nat.le_of_ble_eq_true rfl⟩) (va_recv hK hP (ci := 2) (q0 := 0) rfl rfl) (bp_X2_X2_t_t A cI v3 v5) rfl hl.1 rfl (Nat.le_of_ble_eq_true rfl) dX2_pileThen_33 ⟨Nat.le_of_ble_eq_true rfl, Nat.le_of_ble_eq_true rfl⟩ (fun H locs hP hD hS => ?_)
    have hP : va_P D vwCl (wM A cI v5) H := hP
    refine lv_iload_n hx hb dX2_pileThen_36 rfl (lv_at hl 0 rfl) ?_
    obtain rfl := Option.some.inj hf
    exact W.iret (v := v4) hx hb hr (fun t ht hW => ⟨⟨v4, (), rfl, rfl, hPt ht hP⟩, hS.F ht⟩) hS.2.2 dX2_pileThen_37
  · have hf := hF hf c1
    refine lv_aload_n hx hb dX2_pileThen_12 rfl (lv_at hl 1 rfl) ?_
    refine lv_iload_n hx hb dX2_pileThen_13 rfl (lv_at hl 0 rfl) ?_
    obtain ⟨v6, hev6, hf⟩ := bS hf
    refine qV_i (ws' := (wM A cI v6.2)) (As := [.int (f_X2_bound j1 (0 : Int32) (60 : Int32))]) (rest := []) ⟨hx, hb, hml, hown, hts⟩ hK hN hA hP hD hS (c_X2_no l D cI A (f_X2_bound j1 (0 : Int32) (60 : Int32)) tt v6 hev6) (cwV 1 hts gX2_pileThen_X2_no rfl rfl rfl hd_X2_no ⟨Nat.le_of_ble_eq_true rfl, Nat.le_of_ble_eq_true rfl⟩) (va_recv hK hP (ci := 2) (q0 := 0) rfl rfl) (bp_X2_X2_t_t A cI tt v6.2) rfl hl.1 rfl (Nat.le_of_ble_eq_true rfl) dX2_pileThen_14 ⟨Nat.le_of_ble_eq_true rfl, Nat.le_of_ble_eq_true rfl⟩ (fun H locs hP hD hS => ?_)
    have hP : va_P D vwCl (wM A cI v6.2) H := hP
    obtain rfl := Option.some.inj hf
    exact W.iret (v := v6.1) hx hb hr (fun t ht hW => ⟨⟨v6.1, (), rfl, rfl, hPt ht hP⟩, hS.F ht⟩) hS.2.2 dX2_pileThen_17
set_option maxHeartbeats 4000000 in
set_option maxRecDepth 100000 in
theorem c_X2_sold (l : Launch) (D : va_G) (cI : ClassId) (A : Nat → Nat) (j1 : Int32) (tt : HS) (out : Int32 × HS) (hf : f_X2_sold j1 tt = some out) : uI l D cI yX2_sold wsX2_sold ({ frames := 8, cells := 0, slots := 0, locals := 182 } : Room) [.ref (A 0), .int j1] (wM A cI tt) (wM A cI out.2) out.1 := by
  intro sz
  refine Met.ofW (cc := cX2_sold) (maxL := 4) (ret := (some .int)) (by decide) rfl ?_
  intro p e s m args below meth c s₁ Bd hml hv
  obtain ⟨rfl, hsz, hP, hK, hD0, hN⟩ := hv
  have hx := Bd.exec
  have hb := Bd.bytes
  have hr := Bd.returns
  have hts := atoms_spec (ws := wsX2_sold) Bd.pre
  have hown : s.vm.findClass RX2 = some m.cls := findClass_of_methodNamed Bd.named
  have hlocks := Bd.notSynchronized
  subst hsz
  have hD := hD0.self (sz := s.heap.size)
  generalize hAe : va_A (wM A cI tt) s.heap.size = G at hD ⊢
  have hA : ∀ q : Nat, s.heap.size ≤ q → G q := fun q h => by rw [← hAe]; exact Or.inr h
  have hS : va_S G s.heap s.heap [] := va_S.rf
  have hP : va_P D vwCl (wM A cI tt) s.heap := hP
  have hl := lv_entry ([.ref (A 0), .int j1]) (n := 4) (Nat.le_of_ble_eq_true rfl)
  rw [lg_entry_eq]
  generalize (lg_sl ([.ref (A 0), .int j1]) ++ List.replicate (4 - (lg_sl ([.ref (A 0), .int j1])).length) Slot.unset).toArray = ls at hl ⊢
  have hl : lv_has ls 4 [(0, .ref (A 0)), (1, .int j1)] := hl
  have hinM : ∀ w ∈ wsX20, w ∈ wsX2_sold := by decide +kernel
  have lk0 := hts (.fieldLink RX2 25 "LiesBoughtBackModel" "holder" "[I") (by decide +kernel)
  refine W_in ?_
  intro WW hWW
  refine (hWW _ _ _).mpr ?_
  unfold f_X2_sold at hf
  refine lv_aload_n hx hb dX2_sold_0 rfl (lv_at hl 0 rfl) ?_
  refine lv_iload_n hx hb dX2_sold_1 rfl (lv_at hl 1 rfl) ?_
  refine qV_i (As := [.int j1]) (rest := []) ⟨hx, hb, hml, hown, hts⟩ hK hN hA hP hD hS (c_X2_isCard l D cI A j1 tt (f_X2_isCard j1 tt) rfl) (cwV 1 hts gX2_sold_X2_isCard rfl rfl rfl hd_X2_isCard ⟨Nat.le_of_ble_eq_true rfl, Nat.le_of_ble_eq_true rfl⟩) (va_recv hK hP (ci := 2) (q0 := 0) rfl rfl) (bq_X2_X2_t A cI tt) rfl hl.1 rfl (Nat.le_of_ble_eq_true rfl) dX2_sold_2 ⟨Nat.le_of_ble_eq_true rfl, Nat.le_of_ble_eq_true rfl⟩ (fun H locs hP hD hS => ?_)
  refine lv_if_ne (tgt := 14) hx hb dX2_sold_5 (by decide) (fun c1 => ?_) (fun c1 => ?_)
  · have hf := hF hf c1
    refine lv_aload_n hx hb dX2_sold_14 rfl (lv_at hl 0 rfl) ?_
    obtain ⟨v2, hev2, hf⟩ := bS hf
    refine qV_v (ws' := (wM A cI v2)) (As := []) (rest := []) ⟨hx, hb, hml, hown, hts⟩ hK hN hA hP hD hS (c_X2_thinks l D cI A tt v2 hev2) (cwV 0 hts gX2_sold_X2_thinks rfl rfl rfl hd_X2_thinks ⟨Nat.le_of_ble_eq_true rfl, Nat.le_of_ble_eq_true rfl⟩) (va_recv hK hP (ci := 2) (q0 := 0) rfl rfl) (bp_X2_X2_t_t A cI tt v2) rfl hl.1 rfl (Nat.le_of_ble_eq_true rfl) dX2_sold_15 ⟨Nat.le_of_ble_eq_true rfl, Nat.le_of_ble_eq_true rfl⟩ (fun H locs hP hD hS => ?_)
    have hP : va_P D vwCl (wM A cI v2) H := hP
    refine lv_bipush (v := (-9 : Int32)) hx hb dX2_sold_18 (by decide) ?_
    refine lv_istore_n (lv' := [(2, .int (-9 : Int32)), (0, .ref (A 0)), (1, .int j1)]) hx hb dX2_sold_20 rfl hl (by decide) rfl (fun ls hl => ?_)
    refine lv_iconst (v := (0 : Int32)) hx hb dX2_sold_21 (by decide) ?_
    refine lv_istore_n (lv' := [(3, .int (0 : Int32)), (2, .int (-9 : Int32)), (0, .ref (A 0)), (1, .int j1)]) hx hb dX2_sold_22 rfl hl (by decide) rfl (fun ls hl => ?_)
    obtain ⟨K60, hK60, hf⟩ := jnS hf
    have J60 : ∀ (j2_60 : Int32) (tt_60 : HS) (H : Heap) (locs : List Loc) (ls : Array Slot), K60 j2_60 tt_60 = some out → va_P D vwCl (wM A cI tt_60) H → va_D G (wM A cI tt_60) → va_S G s.heap H locs → lv_has ls 4 [(0, .ref (A 0)), (2, .int j2_60)] → WW H locs (F0 m 60 ls []) := by
      intro j2_60 tt_60 H locs ls hf hP hD hS hl
      subst hK60
      refine (hWW _ _ _).mpr ?_
      refine lv_aload_n hx hb dX2_sold_60 rfl (lv_at hl 0 rfl) ?_
      obtain ⟨v3, hev3, hf⟩ := bS hf
      refine qV_v (ws' := (wM A cI v3)) (As := []) (rest := []) ⟨hx, hb, hml, hown, hts⟩ hK hN hA hP hD hS (c_X2_forgets l D cI A tt_60 v3 hev3) (cwV 0 hts gX2_sold_X2_forgets rfl rfl rfl hd_X2_forgets ⟨Nat.le_of_ble_eq_true rfl, Nat.le_of_ble_eq_true rfl⟩) (va_recv hK hP (ci := 2) (q0 := 0) rfl rfl) (bp_X2_X2_t_t A cI tt_60 v3) rfl hl.1 rfl (Nat.le_of_ble_eq_true rfl) dX2_sold_61 ⟨Nat.le_of_ble_eq_true rfl, Nat.le_of_ble_eq_true rfl⟩ (fun H locs hP hD hS => ?_)
      have hP : va_P D vwCl (wM A cI v3) H := hP
      refine lv_iload_n hx hb dX2_sold_64 rfl (lv_at hl 1 rfl) ?_
      obtain rfl := Option.some.inj hf
      exact W.iret (v := j2_60) hx hb hr (fun t ht hW => ⟨⟨j2_60, (), rfl, rfl, hPt ht hP⟩, hS.F ht⟩) hS.2.2 dX2_sold_65
    have P23 : ∀ (n' : Nat) (j2_23 : Int32) (j3_23 : Int32) (tt_23 : HS) (H : Heap) (locs : List Loc) (ls : Array Slot), L_X2_sold_23 j1 K60 n' j2_23 j3_23 tt_23 = some out → va_P D vwCl (wM A cI tt_23) H → va_D G (wM A cI tt_23) → va_S G s.heap H locs → lv_has ls 4 [(0, .ref (A 0)), (1, .int j1), (2, .int j2_23), (3, .int j3_23)] → WW H locs (F0 m 23 ls []) := by
      intro n'
      induction n' with
      | zero => intro j2_23 j3_23 tt_23 H locs ls hf; exact absurd (show (none : Option (Int32 × HS)) = some out from hf) (fun q => by cases q)
      | succ n' ih =>
        intro j2_23 j3_23 tt_23 H locs ls hf hP hD hS hl
        rw [L_X2_sold_23] at hf
        refine (hWW _ _ _).mpr ?_
        refine lv_iload_n hx hb dX2_sold_23 rfl (lv_at hl 3 rfl) ?_
        refine lv_bipush (v := (60 : Int32)) hx hb dX2_sold_24 (by decide) ?_
        refine lv_icmp_gt (tgt := 60) hx hb dX2_sold_26 (by decide) (fun c4 => ?_) (fun c4 => ?_)
        · have hf := hT hf c4
          exact (hWW _ _ _).mp (J60 _ _ _ _ _ hf hP hD hS (lv_sub hl [0, 2] rfl))
        · have hf := hF hf c4
          refine lv_iload_n hx hb dX2_sold_29 rfl (lv_at hl 2 rfl) ?_
          refine lv_if_ge (tgt := 60) hx hb dX2_sold_30 (by decide) (fun c5 => ?_) (fun c5 => ?_)
          · have hf := hT hf c5
            exact (hWW _ _ _).mp (J60 _ _ _ _ _ hf hP hD hS (lv_sub hl [0, 2] rfl))
          · have hf := hF hf c5
            refine lv_aload_n hx hb dX2_sold_33 rfl (lv_at hl 0 rfl) ?_
            refine va_get (D := D) (ci := 2) (v := .ref (A 6)) (C := RX2) (T := TX2) (N := 31) hx hb hts hinM hown hK hP 0 rfl rfl 5 (by decide) lk0 (fun _ h9 => h9) rfl dX2_sold_34 ?_
            refine lv_iload_n hx hb dX2_sold_37 rfl (lv_at hl 1 rfl) ?_
            obtain ⟨v6, he, hf⟩ := bS hf
            refine x_iald hx hb hK hP 6 (n := 8) rfl he dX2_sold_38 ?_
            refine lv_if_eq (tgt := 46) hx hb dX2_sold_39 (by decide) (fun c7 => ?_) (fun c7 => ?_)
            · have hf := hT hf c7
              refine lv_bipush (v := (-9 : Int32)) hx hb dX2_sold_46 (by decide) ?_
              refine lv_istore_n (lv' := [(2, .int (-9 : Int32)), (0, .ref (A 0)), (1, .int j1), (3, .int j3_23)]) hx hb dX2_sold_48 rfl hl (by decide) rfl (fun ls hl => ?_)
              refine lv_aload_n hx hb dX2_sold_49 rfl (lv_at hl 1 rfl) ?_
              refine lv_iconst (v := (0 : Int32)) hx hb dX2_sold_50 (by decide) ?_
              obtain ⟨v8, hev8, hf⟩ := bS hf
              refine qV_v (ws' := (wM A cI v8)) (As := [.int (0 : Int32)]) (rest := []) ⟨hx, hb, hml, hown, hts⟩ hK hN hA hP hD hS (c_X2_goesMonth l D cI A (0 : Int32) tt_23 v8 hev8) (cwV 1 hts gX2_sold_X2_goesMonth rfl rfl rfl hd_X2_goesMonth ⟨Nat.le_of_ble_eq_true rfl, Nat.le_of_ble_eq_true rfl⟩) (va_recv hK hP (ci := 2) (q0 := 0) rfl rfl) (bp_X2_X2_t_t A cI tt_23 v8) rfl hl.1 rfl (Nat.le_of_ble_eq_true rfl) dX2_sold_51 ⟨Nat.le_of_ble_eq_true rfl, Nat.le_of_ble_eq_true rfl⟩ (fun H locs hP hD hS => ?_)
              have hP : va_P D vwCl (wM A cI v8) H := hP
              refine lv_iinc (v := (j3_23 + (1 : Int32))) (lv' := [(3, .int (j3_23 + (1 : Int32))), (2, .int (-9 : Int32)), (0, .ref (A 0)), (1, .int j1)]) hx hb dX2_sold_54 hl (k := 3) rfl rfl (by decide) rfl (fun ls hl => ?_)
              refine lv_goto (tgt := 23) hx hb dX2_sold_57 (by decide) ?_
              exact (hWW _ _ _).mp (ih _ _ _ _ _ _ hf hP hD hS (lv_sub hl [2, 3, 1, 0] rfl))
            · have hf := hF hf c7
              refine lv_iload_n hx hb dX2_sold_42 rfl (lv_at hl 3 rfl) ?_
              refine lv_goto (tgt := 48) hx hb dX2_sold_43 (by decide) ?_
              refine lv_istore_n (lv' := [(2, .int j3_23), (0, .ref (A 0)), (1, .int j1), (3, .int j3_23)]) hx hb dX2_sold_48 rfl hl (by decide) rfl (fun ls hl => ?_)
              refine lv_aload_n hx hb dX2_sold_49 rfl (lv_at hl 1 rfl) ?_
              refine lv_iconst (v := (0 : Int32)) hx hb dX2_sold_50 (by decide) ?_
              obtain ⟨v9, hev9, hf⟩ := bS hf
              refine qV_v (ws' := (wM A cI v9)) (As := [.int (0 : Int32)]) (rest := []) ⟨hx, hb, hml, hown, hts⟩ hK hN hA hP hD hS (c_X2_goesMonth l D cI A (0 : Int32) tt_23 v9 hev9) (cwV 1 hts gX2_sold_X2_goesMonth rfl rfl rfl hd_X2_goesMonth ⟨Nat.le_of_ble_eq_true rfl, Nat.le_of_ble_eq_true rfl⟩) (va_recv hK hP (ci := 2) (q0 := 0) rfl rfl) (bp_X2_X2_t_t A cI tt_23 v9) rfl hl.1 rfl (Nat.le_of_ble_eq_true rfl) dX2_sold_51 ⟨Nat.le_of_ble_eq_true rfl, Nat.le_of_ble_eq_true rfl⟩ (fun H locs hP hD hS => ?_)
              have hP : va_P D vwCl (wM A cI v9) H := hP
              refine lv_iinc (v := (j3_23 + (1 : Int32))) (lv' := [(3, .int (j3_23 + (1 : Int32))), (2, .int j3_23), (0, .ref (A 0)), (1, .int j1)]) hx hb dX2_sold_54 hl (k := 3) rfl rfl (by decide) rfl (fun ls hl => ?_)
              refine lv_goto (tgt := 23) hx hb dX2_sold_57 (by decide) ?_
              exact (hWW _ _ _).mp (ih _ _ _ _ _ _ hf hP hD hS (lv_sub hl [2, 3, 1, 0] rfl))
    exact (hWW _ _ _).mp (P23 _ _ _ _ _ _ _ hf hP hD hS (lv_sub hl [2, 3, 1, 0] rfl))
  · have hf := hT hf c1
    refine lv_aload_n hx hb dX2_sold_8 rfl (lv_at hl 0 rfl) ?_
    refine lv_iconst (v := (-1 : Int32)) hx hb dX2_sold_9 (by decide) ?_
    obtain ⟨v10, hev10, hf⟩ := bS hf
    refine qV_i (ws' := (wM A cI v10.2)) (As := [.int (-1 : Int32)]) (rest := []) ⟨hx, hb, hml, hown, hts⟩ hK hN hA hP hD hS (c_X2_no l D cI A (-1 : Int32) tt v10 hev10) (cwV 1 hts gX2_sold_X2_no rfl rfl rfl hd_X2_no ⟨Nat.le_of_ble_eq_true rfl, Nat.le_of_ble_eq_true rfl⟩) (va_recv hK hP (ci := 2) (q0 := 0) rfl rfl) (bp_X2_X2_t_t A cI tt v10.2) rfl hl.1 rfl (Nat.le_of_ble_eq_true rfl) dX2_sold_10 ⟨Nat.le_of_ble_eq_true rfl, Nat.le_of_ble_eq_true rfl⟩ (fun H locs hP hD hS => ?_)
    have hP : va_P D vwCl (wM A cI v10.2) H := hP
    obtain rfl := Option.some.inj hf
    exact W.iret (v := v10.1) hx hb hr (fun t ht hW => ⟨⟨v10.1, (), rfl, rfl, hPt ht hP⟩, hS.F ht⟩) hS.2.2 dX2_sold_13
set_option maxHeartbeats 4000000 in
set_option maxRecDepth 100000 in
theorem c_X2_gets (l : Launch) (D : va_G) (cI : ClassId) (A : Nat → Nat) (j1 : Int32) (j2 : Int32) (tt : HS) (out : Int32 × HS) (hf : f_X2_gets j1 j2 tt = some out) : uI l D cI yX2_gets wsX2_gets ({ frames := 6, cells := 0, slots := 0, locals := 136 } : Room) [.ref (A 0), .int j1, .int j2] (wM A cI tt) (wM A cI out.2) out.1 := by
  intro sz
  refine Met.ofW (cc := cX2_gets) (maxL := 5) (ret := (some .int)) (by decide) rfl ?_
  intro p e s m args below meth c s₁ Bd hml hv
  obtain ⟨rfl, hsz, hP, hK, hD0, hN⟩ := hv
  have hx := Bd.exec
  have hb := Bd.bytes
  have hr := Bd.returns
  have hts := atoms_spec (ws := wsX2_gets) Bd.pre
  have hown : s.vm.findClass RX2 = some m.cls := findClass_of_methodNamed Bd.named
  have hlocks := Bd.notSynchronized
  subst hsz
  have hD := hD0.self (sz := s.heap.size)
  generalize hAe : va_A (wM A cI tt) s.heap.size = G at hD ⊢
  have hA : ∀ q : Nat, s.heap.size ≤ q → G q := fun q h => by rw [← hAe]; exact Or.inr h
  have hS : va_S G s.heap s.heap [] := va_S.rf
  have hP : va_P D vwCl (wM A cI tt) s.heap := hP
  have hl := lv_entry ([.ref (A 0), .int j1, .int j2]) (n := 5) (Nat.le_of_ble_eq_true rfl)
  rw [lg_entry_eq]
  generalize (lg_sl ([.ref (A 0), .int j1, .int j2]) ++ List.replicate (5 - (lg_sl ([.ref (A 0), .int j1, .int j2])).length) Slot.unset).toArray = ls at hl ⊢
  have hl : lv_has ls 5 [(0, .ref (A 0)), (1, .int j1), (2, .int j2)] := hl
  refine W_in ?_
  intro WW hWW
  refine (hWW _ _ _).mpr ?_
  unfold f_X2_gets at hf
  refine lv_aload_n hx hb dX2_gets_0 rfl (lv_at hl 0 rfl) ?_
  refine lv_iload_n hx hb dX2_gets_1 rfl (lv_at hl 1 rfl) ?_
  refine qV_i (As := [.int j1]) (rest := []) ⟨hx, hb, hml, hown, hts⟩ hK hN hA hP hD hS (c_X2_isCard l D cI A j1 tt (f_X2_isCard j1 tt) rfl) (cwV 1 hts gX2_gets_X2_isCard rfl rfl rfl hd_X2_isCard ⟨Nat.le_of_ble_eq_true rfl, Nat.le_of_ble_eq_true rfl⟩) (va_recv hK hP (ci := 2) (q0 := 0) rfl rfl) (bq_X2_X2_t A cI tt) rfl hl.1 rfl (Nat.le_of_ble_eq_true rfl) dX2_gets_2 ⟨Nat.le_of_ble_eq_true rfl, Nat.le_of_ble_eq_true rfl⟩ (fun H locs hP hD hS => ?_)
  refine lv_if_ne (tgt := 12) hx hb dX2_gets_5 (by decide) (fun c1 => ?_) (fun c1 => ?_)
  · have hf := hF hf c1
    refine lv_iload_n hx hb dX2_gets_12 rfl (lv_at hl 2 rfl) ?_
    refine lv_iconst (v := (0 : Int32)) hx hb dX2_gets_13 (by decide) ?_
    refine lv_iconst (v := (1 : Int32)) hx hb dX2_gets_14 (by decide) ?_
    refine qS_i (As := [.int j2, .int (0 : Int32), .int (1 : Int32)]) (rest := []) ⟨hx, hb, hml, hown, hts⟩ hK hN hA hP hD hS (c_X2_isIn l D cI j2 (0 : Int32) (1 : Int32) (f_X2_isIn j2 (0 : Int32) (1 : Int32)) rfl) (va_cwS 3 hts gX2_gets_X2_isIn rfl rfl rfl hd_X2_isIn.2 ⟨Nat.le_of_ble_eq_true rfl, Nat.le_of_ble_eq_true rfl⟩) Bp_e rfl hl.1 rfl (Nat.le_of_ble_eq_true rfl) dX2_gets_15 ⟨Nat.le_of_ble_eq_true rfl, Nat.le_of_ble_eq_true rfl⟩ (fun H locs hP hD hS => ?_)
    refine lv_if_ne (tgt := 26) hx hb dX2_gets_18 (by decide) (fun c2 => ?_) (fun c2 => ?_)
    · have hf := hF hf c2
      refine lv_iconst (v := (0 : Int32)) hx hb dX2_gets_26 (by decide) ?_
      refine lv_istore_n (lv' := [(3, .int (0 : Int32)), (0, .ref (A 0)), (1, .int j1), (2, .int j2)]) hx hb dX2_gets_27 rfl hl (by decide) rfl (fun ls hl => ?_)
      refine lv_iload_n hx hb dX2_gets_28 rfl (lv_at hl 0 rfl) ?_
      refine lv_if_eq (tgt := 38) hx hb dX2_gets_29 (by decide) (fun c3 => ?_) (fun c3 => ?_)
      · refine lv_aload_n hx hb dX2_gets_38 rfl (lv_at hl 1 rfl) ?_
        refine lv_iload_n hx hb dX2_gets_39 rfl (lv_at hl 2 rfl) ?_
        obtain ⟨v4, hev4, hf⟩ := bS hf
        refine qV_i (As := [.int j1]) (rest := []) ⟨hx, hb, hml, hown, hts⟩ hK hN hA hP hD hS (c_X2_getter l D cI A j1 tt v4 hev4) (cwV 1 hts gX2_gets_X2_getter rfl rfl rfl hd_X2_getter ⟨Nat.le_of_ble_eq_true rfl, Nat.le_of_ble_eq_true rfl⟩) (va_recv hK hP (ci := 2) (q0 := 0) rfl rfl) (bq_X2_X2_t A cI tt) rfl hl.1 rfl (Nat.le_of_ble_eq_true rfl) dX2_gets_40 ⟨Nat.le_of_ble_eq_true rfl, Nat.le_of_ble_eq_true rfl⟩ (fun H locs hP hD hS => ?_)
        refine lv_istore (lv' := [(4, .int v4), (3, .int (0 : Int32)), (0, .ref (A 0)), (1, .int j1), (2, .int j2)]) hx hb dX2_gets_43 hl (by decide) rfl (fun ls hl => ?_)
        refine lv_iload_n hx hb dX2_gets_45 rfl (lv_at hl 4 rfl) ?_
        refine lv_if_eq (tgt := 54) hx hb dX2_gets_46 (by decide) (fun c5 => ?_) (fun c5 => ?_)
        · have hf := hT hf c5
          refine lv_iload hx hb dX2_gets_54 (lv_at hl 0 rfl) ?_
          refine lv_goto (tgt := 66) hx hb dX2_gets_56 (by decide) ?_
          obtain rfl := Option.some.inj hf
          exact W.iret (v := v4) hx hb hr (fun t ht hW => ⟨⟨v4, (), rfl, rfl, hPt ht hP⟩, hS.F ht⟩) hS.2.2 dX2_gets_66
        · have hf := hF hf c5
          refine lv_iload hx hb dX2_gets_49 (lv_at hl 0 rfl) ?_
          refine lv_if_ge (tgt := 59) hx hb dX2_gets_51 (by decide) (fun c6 => ?_) (fun c6 => ?_)
          · have hf := hT hf c6
            refine lv_aload_n hx hb dX2_gets_59 rfl (lv_at hl 2 rfl) ?_
            refine lv_iload hx hb dX2_gets_60 (lv_at hl 0 rfl) ?_
            refine lv_iload_n hx hb dX2_gets_62 rfl (lv_at hl 3 rfl) ?_
            obtain ⟨v7, hev7, hf⟩ := bS hf
            refine qV_i (As := [.int v4, .int j1]) (rest := []) ⟨hx, hb, hml, hown, hts⟩ hK hN hA hP hD hS (c_X2_priceFor l D cI A v4 j1 tt v7 hev7) (cwV 2 hts gX2_gets_X2_priceFor rfl rfl rfl hd_X2_priceFor ⟨Nat.le_of_ble_eq_true rfl, Nat.le_of_ble_eq_true rfl⟩) (va_recv hK hP (ci := 2) (q0 := 0) rfl rfl) (bq_X2_X2_t A cI tt) rfl hl.1 rfl (Nat.le_of_ble_eq_true rfl) dX2_gets_63 ⟨Nat.le_of_ble_eq_true rfl, Nat.le_of_ble_eq_true rfl⟩ (fun H locs hP hD hS => ?_)
            obtain rfl := Option.some.inj hf
            exact W.iret (v := v7) hx hb hr (fun t ht hW => ⟨⟨v7, (), rfl, rfl, hPt ht hP⟩, hS.F ht⟩) hS.2.2 dX2_gets_66
          · have hf := hF hf c6
            refine lv_iload hx hb dX2_gets_54 (lv_at hl 0 rfl) ?_
            refine lv_goto (tgt := 66) hx hb dX2_gets_56 (by decide) ?_
            obtain rfl := Option.some.inj hf
            exact W.iret (v := v4) hx hb hr (fun t ht hW => ⟨⟨v4, (), rfl, rfl, hPt ht hP⟩, hS.F ht⟩) hS.2.2 dX2_gets_66
      · exact absurd c3 (by decide)
    · have hf := hT hf c2
      refine lv_bipush (v := (-2 : Int32)) hx hb dX2_gets_21 (by decide) ?_
      refine lv_goto (tgt := 27) hx hb dX2_gets_23 (by decide) ?_
      refine lv_istore_n (lv' := [(3, .int (-2 : Int32)), (0, .ref (A 0)), (1, .int j1), (2, .int j2)]) hx hb dX2_gets_27 rfl hl (by decide) rfl (fun ls hl => ?_)
      refine lv_iload_n hx hb dX2_gets_28 rfl (lv_at hl 0 rfl) ?_
      refine lv_if_eq (tgt := 38) hx hb dX2_gets_29 (by decide) (fun c8 => ?_) (fun c8 => ?_)
      · exact absurd c8 (by decide)
      · refine lv_aload_n hx hb dX2_gets_32 rfl (lv_at hl 1 rfl) ?_
        refine lv_iload_n hx hb dX2_gets_33 rfl (lv_at hl 0 rfl) ?_
        obtain ⟨v9, hev9, hf⟩ := bS hf
        refine qV_i (ws' := (wM A cI v9.2)) (As := [.int (-2 : Int32)]) (rest := []) ⟨hx, hb, hml, hown, hts⟩ hK hN hA hP hD hS (c_X2_no l D cI A (-2 : Int32) tt v9 hev9) (cwV 1 hts gX2_gets_X2_no rfl rfl rfl hd_X2_no ⟨Nat.le_of_ble_eq_true rfl, Nat.le_of_ble_eq_true rfl⟩) (va_recv hK hP (ci := 2) (q0 := 0) rfl rfl) (bp_X2_X2_t_t A cI tt v9.2) rfl hl.1 rfl (Nat.le_of_ble_eq_true rfl) dX2_gets_34 ⟨Nat.le_of_ble_eq_true rfl, Nat.le_of_ble_eq_true rfl⟩ (fun H locs hP hD hS => ?_)
        have hP : va_P D vwCl (wM A cI v9.2) H := hP
        obtain rfl := Option.some.inj hf
        exact W.iret (v := v9.1) hx hb hr (fun t ht hW => ⟨⟨v9.1, (), rfl, rfl, hPt ht hP⟩, hS.F ht⟩) hS.2.2 dX2_gets_37
  · have hf := hT hf c1
    refine lv_iconst (v := (-1 : Int32)) hx hb dX2_gets_8 (by decide) ?_
    refine lv_goto (tgt := 27) hx hb dX2_gets_9 (by decide) ?_
    refine lv_istore_n (lv' := [(3, .int (-1 : Int32)), (0, .ref (A 0)), (1, .int j1), (2, .int j2)]) hx hb dX2_gets_27 rfl hl (by decide) rfl (fun ls hl => ?_)
    refine lv_iload_n hx hb dX2_gets_28 rfl (lv_at hl 0 rfl) ?_
    refine lv_if_eq (tgt := 38) hx hb dX2_gets_29 (by decide) (fun c10 => ?_) (fun c10 => ?_)
    · exact absurd c10 (by decide)
    · refine lv_aload_n hx hb dX2_gets_32 rfl (lv_at hl 1 rfl) ?_
      refine lv_iload_n hx hb dX2_gets_33 rfl (lv_at hl 0 rfl) ?_
      obtain ⟨v11, hev11, hf⟩ := bS hf
      refine qV_i (ws' := (wM A cI v11.2)) (As := [.int (-1 : Int32)]) (rest := []) ⟨hx, hb, hml, hown, hts⟩ hK hN hA hP hD hS (c_X2_no l D cI A (-1 : Int32) tt v11 hev11) (cwV 1 hts gX2_gets_X2_no rfl rfl rfl hd_X2_no ⟨Nat.le_of_ble_eq_true rfl, Nat.le_of_ble_eq_true rfl⟩) (va_recv hK hP (ci := 2) (q0 := 0) rfl rfl) (bp_X2_X2_t_t A cI tt v11.2) rfl hl.1 rfl (Nat.le_of_ble_eq_true rfl) dX2_gets_34 ⟨Nat.le_of_ble_eq_true rfl, Nat.le_of_ble_eq_true rfl⟩ (fun H locs hP hD hS => ?_)
      have hP : va_P D vwCl (wM A cI v11.2) H := hP
      obtain rfl := Option.some.inj hf
      exact W.iret (v := v11.1) hx hb hr (fun t ht hW => ⟨⟨v11.1, (), rfl, rfl, hPt ht hP⟩, hS.F ht⟩) hS.2.2 dX2_gets_37
set_option maxHeartbeats 4000000 in
set_option maxRecDepth 100000 in
theorem c_X2_out (l : Launch) (D : va_G) (cI : ClassId) (A : Nat → Nat) (tt : HS) (out : Int32 × HS) (hf : f_X2_out tt = some out) : uI l D cI yX2_out wsX2_out ({ frames := 8, cells := 0, slots := 0, locals := 182 } : Room) [.ref (A 0)] (wM A cI tt) (wM A cI out.2) out.1 := by
  intro sz
  refine Met.ofW (cc := cX2_out) (maxL := 3) (ret := (some .int)) (by decide) rfl ?_
  intro p e s m args below meth c s₁ Bd hml hv
  obtain ⟨rfl, hsz, hP, hK, hD0, hN⟩ := hv
  have hx := Bd.exec
  have hb := Bd.bytes
  have hr := Bd.returns
  have hts := atoms_spec (ws := wsX2_out) Bd.pre
  have hown : s.vm.findClass RX2 = some m.cls := findClass_of_methodNamed Bd.named
  have hlocks := Bd.notSynchronized
  subst hsz
  have hD := hD0.self (sz := s.heap.size)
  generalize hAe : va_A (wM A cI tt) s.heap.size = G at hD ⊢
  have hA : ∀ q : Nat, s.heap.size ≤ q → G q := fun q h => by rw [← hAe]; exact Or.inr h
  have hS : va_S G s.heap s.heap [] := va_S.rf
  have hP : va_P D vwCl (wM A cI tt) s.heap := hP
  have hl := lv_entry ([.ref (A 0)]) (n := 3) (Nat.le_of_ble_eq_true rfl)
  rw [lg_entry_eq]
  generalize (lg_sl ([.ref (A 0)]) ++ List.replicate (3 - (lg_sl ([.ref (A 0)])).length) Slot.unset).toArray = ls at hl ⊢
  have hl : lv_has ls 3 [(0, .ref (A 0))] := hl
  refine W_in ?_
  intro WW hWW
  refine (hWW _ _ _).mpr ?_
  unfold f_X2_out at hf
  refine lv_aload_n hx hb dX2_out_0 rfl (lv_at hl 0 rfl) ?_
  obtain ⟨v1, hev1, hf⟩ := bS hf
  refine qV_v (ws' := (wM A cI v1)) (As := []) (rest := []) ⟨hx, hb, hml, hown, hts⟩ hK hN hA hP hD hS (c_X2_thinks l D cI A tt v1 hev1) (cwV 0 hts gX2_out_X2_thinks rfl rfl rfl hd_X2_thinks ⟨Nat.le_of_ble_eq_true rfl, Nat.le_of_ble_eq_true rfl⟩) (va_recv hK hP (ci := 2) (q0 := 0) rfl rfl) (bp_X2_X2_t_t A cI tt v1) rfl hl.1 rfl (Nat.le_of_ble_eq_true rfl) dX2_out_1 ⟨Nat.le_of_ble_eq_true rfl, Nat.le_of_ble_eq_true rfl⟩ (fun H locs hP hD hS => ?_)
  have hP : va_P D vwCl (wM A cI v1) H := hP
  refine lv_bipush (v := (-9 : Int32)) hx hb dX2_out_4 (by decide) ?_
  refine lv_istore_n (lv' := [(1, .int (-9 : Int32)), (0, .ref (A 0))]) hx hb dX2_out_6 rfl hl (by decide) rfl (fun ls hl => ?_)
  refine lv_iconst (v := (0 : Int32)) hx hb dX2_out_7 (by decide) ?_
  refine lv_istore_n (lv' := [(2, .int (0 : Int32)), (1, .int (-9 : Int32)), (0, .ref (A 0))]) hx hb dX2_out_8 rfl hl (by decide) rfl (fun ls hl => ?_)
  obtain ⟨K44, hK44, hf⟩ := jnS hf
  have J44 : ∀ (j1_44 : Int32) (tt_44 : HS) (H : Heap) (locs : List Loc) (ls : Array Slot), K44 j1_44 tt_44 = some out → va_P D vwCl (wM A cI tt_44) H → va_D G (wM A cI tt_44) → va_S G s.heap H locs → lv_has ls 3 [(0, .ref (A 0)), (1, .int j1_44)] → WW H locs (F0 m 44 ls []) := by
    intro j1_44 tt_44 H locs ls hf hP hD hS hl
    subst hK44
    refine (hWW _ _ _).mpr ?_
    refine lv_aload_n hx hb dX2_out_44 rfl (lv_at hl 0 rfl) ?_
    obtain ⟨v2, hev2, hf⟩ := bS hf
    refine qV_v (ws' := (wM A cI v2)) (As := []) (rest := []) ⟨hx, hb, hml, hown, hts⟩ hK hN hA hP hD hS (c_X2_forgets l D cI A tt_44 v2 hev2) (cwV 0 hts gX2_out_X2_forgets rfl rfl rfl hd_X2_forgets ⟨Nat.le_of_ble_eq_true rfl, Nat.le_of_ble_eq_true rfl⟩) (va_recv hK hP (ci := 2) (q0 := 0) rfl rfl) (bp_X2_X2_t_t A cI tt_44 v2) rfl hl.1 rfl (Nat.le_of_ble_eq_true rfl) dX2_out_45 ⟨Nat.le_of_ble_eq_true rfl, Nat.le_of_ble_eq_true rfl⟩ (fun H locs hP hD hS => ?_)
    have hP : va_P D vwCl (wM A cI v2) H := hP
    refine lv_iload_n hx hb dX2_out_48 rfl (lv_at hl 1 rfl) ?_
    obtain rfl := Option.some.inj hf
    exact W.iret (v := j1_44) hx hb hr (fun t ht hW => ⟨⟨j1_44, (), rfl, rfl, hPt ht hP⟩, hS.F ht⟩) hS.2.2 dX2_out_49
  have P9 : ∀ (n' : Nat) (j1_9 : Int32) (j2_9 : Int32) (tt_9 : HS) (H : Heap) (locs : List Loc) (ls : Array Slot), L_X2_out_9  K44 n' j1_9 j2_9 tt_9 = some out → va_P D vwCl (wM A cI tt_9) H → va_D G (wM A cI tt_9) → va_S G s.heap H locs → lv_has ls 3 [(0, .ref (A 0)), (1, .int j1_9), (2, .int j2_9)] → WW H locs (F0 m 9 ls []) := by
    intro n'
    induction n' with
    | zero => intro j1_9 j2_9 tt_9 H locs ls hf; exact absurd (show (none : Option (Int32 × HS)) = some out from hf) (fun q => by cases q)
    | succ n' ih =>
      intro j1_9 j2_9 tt_9 H locs ls hf hP hD hS hl
      rw [L_X2_out_9] at hf
      refine (hWW _ _ _).mpr ?_
      refine lv_iload_n hx hb dX2_out_9 rfl (lv_at hl 2 rfl) ?_
      refine lv_bipush (v := (60 : Int32)) hx hb dX2_out_10 (by decide) ?_
      refine lv_icmp_gt (tgt := 44) hx hb dX2_out_12 (by decide) (fun c3 => ?_) (fun c3 => ?_)
      · have hf := hT hf c3
        exact (hWW _ _ _).mp (J44 _ _ _ _ _ hf hP hD hS (lv_sub hl [0, 1] rfl))
      · have hf := hF hf c3
        refine lv_iload_n hx hb dX2_out_15 rfl (lv_at hl 1 rfl) ?_
        refine lv_if_ge (tgt := 44) hx hb dX2_out_16 (by decide) (fun c4 => ?_) (fun c4 => ?_)
        · have hf := hT hf c4
          exact (hWW _ _ _).mp (J44 _ _ _ _ _ hf hP hD hS (lv_sub hl [0, 1] rfl))
        · have hf := hF hf c4
          refine lv_aload_n hx hb dX2_out_19 rfl (lv_at hl 0 rfl) ?_
          obtain ⟨v5, hev5, hf⟩ := bS hf
          refine qV_i (As := []) (rest := []) ⟨hx, hb, hml, hown, hts⟩ hK hN hA hP hD hS (c_X2_pile l D cI A tt_9 v5 hev5) (cwV 0 hts gX2_out_X2_pile rfl rfl rfl hd_X2_pile ⟨Nat.le_of_ble_eq_true rfl, Nat.le_of_ble_eq_true rfl⟩) (va_recv hK hP (ci := 2) (q0 := 0) rfl rfl) (bq_X2_X2_t A cI tt_9) rfl hl.1 rfl (Nat.le_of_ble_eq_true rfl) dX2_out_20 ⟨Nat.le_of_ble_eq_true rfl, Nat.le_of_ble_eq_true rfl⟩ (fun H locs hP hD hS => ?_)
          refine lv_if_ne (tgt := 30) hx hb dX2_out_23 (by decide) (fun c6 => ?_) (fun c6 => ?_)
          · have hf := hF hf c6
            refine lv_bipush (v := (-9 : Int32)) hx hb dX2_out_30 (by decide) ?_
            refine lv_istore_n (lv' := [(1, .int (-9 : Int32)), (0, .ref (A 0)), (2, .int j2_9)]) hx hb dX2_out_32 rfl hl (by decide) rfl (fun ls hl => ?_)
            refine lv_aload_n hx hb dX2_out_33 rfl (lv_at hl 1 rfl) ?_
            refine lv_iconst (v := (0 : Int32)) hx hb dX2_out_34 (by decide) ?_
            obtain ⟨v7, hev7, hf⟩ := bS hf
            refine qV_v (ws' := (wM A cI v7)) (As := [.int (0 : Int32)]) (rest := []) ⟨hx, hb, hml, hown, hts⟩ hK hN hA hP hD hS (c_X2_goesMonth l D cI A (0 : Int32) tt_9 v7 hev7) (cwV 1 hts gX2_out_X2_goesMonth rfl rfl rfl hd_X2_goesMonth ⟨Nat.le_of_ble_eq_true rfl, Nat.le_of_ble_eq_true rfl⟩) (va_recv hK hP (ci := 2) (q0 := 0) rfl rfl) (bp_X2_X2_t_t A cI tt_9 v7) rfl hl.1 rfl (Nat.le_of_ble_eq_true rfl) dX2_out_35 ⟨Nat.le_of_ble_eq_true rfl, Nat.le_of_ble_eq_true rfl⟩ (fun H locs hP hD hS => ?_)
            have hP : va_P D vwCl (wM A cI v7) H := hP
            refine lv_iinc (v := (j2_9 + (1 : Int32))) (lv' := [(2, .int (j2_9 + (1 : Int32))), (1, .int (-9 : Int32)), (0, .ref (A 0))]) hx hb dX2_out_38 hl (k := 2) rfl rfl (by decide) rfl (fun ls hl => ?_)
            refine lv_goto (tgt := 9) hx hb dX2_out_41 (by decide) ?_
            exact (hWW _ _ _).mp (ih _ _ _ _ _ _ hf hP hD hS (lv_sub hl [2, 1, 0] rfl))
          · have hf := hT hf c6
            refine lv_iload_n hx hb dX2_out_26 rfl (lv_at hl 2 rfl) ?_
            refine lv_goto (tgt := 32) hx hb dX2_out_27 (by decide) ?_
            refine lv_istore_n (lv' := [(1, .int j2_9), (0, .ref (A 0)), (2, .int j2_9)]) hx hb dX2_out_32 rfl hl (by decide) rfl (fun ls hl => ?_)
            refine lv_aload_n hx hb dX2_out_33 rfl (lv_at hl 1 rfl) ?_
            refine lv_iconst (v := (0 : Int32)) hx hb dX2_out_34 (by decide) ?_
            obtain ⟨v8, hev8, hf⟩ := bS hf
            refine qV_v (ws' := (wM A cI v8)) (As := [.int (0 : Int32)]) (rest := []) ⟨hx, hb, hml, hown, hts⟩ hK hN hA hP hD hS (c_X2_goesMonth l D cI A (0 : Int32) tt_9 v8 hev8) (cwV 1 hts gX2_out_X2_goesMonth rfl rfl rfl hd_X2_goesMonth ⟨Nat.le_of_ble_eq_true rfl, Nat.le_of_ble_eq_true rfl⟩) (va_recv hK hP (ci := 2) (q0 := 0) rfl rfl) (bp_X2_X2_t_t A cI tt_9 v8) rfl hl.1 rfl (Nat.le_of_ble_eq_true rfl) dX2_out_35 ⟨Nat.le_of_ble_eq_true rfl, Nat.le_of_ble_eq_true rfl⟩ (fun H locs hP hD hS => ?_)
            have hP : va_P D vwCl (wM A cI v8) H := hP
            refine lv_iinc (v := (j2_9 + (1 : Int32))) (lv' := [(2, .int (j2_9 + (1 : Int32))), (1, .int j2_9), (0, .ref (A 0))]) hx hb dX2_out_38 hl (k := 2) rfl rfl (by decide) rfl (fun ls hl => ?_)
            refine lv_goto (tgt := 9) hx hb dX2_out_41 (by decide) ?_
            exact (hWW _ _ _).mp (ih _ _ _ _ _ _ hf hP hD hS (lv_sub hl [2, 1, 0] rfl))
  exact (hWW _ _ _).mp (P9 _ _ _ _ _ _ _ hf hP hD hS (lv_sub hl [2, 1, 0] rfl))
set_option maxHeartbeats 4000000 in
set_option maxRecDepth 100000 in
theorem c_X2_ruined (l : Launch) (D : va_G) (cI : ClassId) (A : Nat → Nat) (j1 : Int32) (tt : HS) (out : Int32 × HS) (hf : f_X2_ruined j1 tt = some out) : uI l D cI yX2_ruined wsX2_ruined ({ frames := 8, cells := 0, slots := 0, locals := 182 } : Room) [.ref (A 0), .int j1] (wM A cI tt) (wM A cI out.2) out.1 := by
  intro sz
  refine Met.ofW (cc := cX2_ruined) (maxL := 4) (ret := (some .int)) (by decide) rfl ?_
  intro p e s m args below meth c s₁ Bd hml hv
  obtain ⟨rfl, hsz, hP, hK, hD0, hN⟩ := hv
  have hx := Bd.exec
  have hb := Bd.bytes
  have hr := Bd.returns
  have hts := atoms_spec (ws := wsX2_ruined) Bd.pre
  have hown : s.vm.findClass RX2 = some m.cls := findClass_of_methodNamed Bd.named
  have hlocks := Bd.notSynchronized
  subst hsz
  have hD := hD0.self (sz := s.heap.size)
  generalize hAe : va_A (wM A cI tt) s.heap.size = G at hD ⊢
  have hA : ∀ q : Nat, s.heap.size ≤ q → G q := fun q h => by rw [← hAe]; exact Or.inr h
  have hS : va_S G s.heap s.heap [] := va_S.rf
  have hP : va_P D vwCl (wM A cI tt) s.heap := hP
  have hl := lv_entry ([.ref (A 0), .int j1]) (n := 4) (Nat.le_of_ble_eq_true rfl)
  rw [lg_entry_eq]
  generalize (lg_sl ([.ref (A 0), .int j1]) ++ List.replicate (4 - (lg_sl ([.ref (A 0), .int j1])).length) Slot.unset).toArray = ls at hl ⊢
  have hl : lv_has ls 4 [(0, .ref (A 0)), (1, .int j1)] := hl
  have hinM : ∀ w ∈ wsX20, w ∈ wsX2_ruined := by decide +kernel
  have lk0 := hts (.fieldLink RX2 40 "LiesBoughtBackModel" "belief" "[I") (by decide +kernel)
  refine W_in ?_
  intro WW hWW
  refine (hWW _ _ _).mpr ?_
  unfold f_X2_ruined at hf
  refine lv_aload_n hx hb dX2_ruined_0 rfl (lv_at hl 0 rfl) ?_
  refine lv_iload_n hx hb dX2_ruined_1 rfl (lv_at hl 1 rfl) ?_
  refine qV_i (As := [.int j1]) (rest := []) ⟨hx, hb, hml, hown, hts⟩ hK hN hA hP hD hS (c_X2_isBidder l D cI A j1 tt (f_X2_isBidder j1 tt) rfl) (cwV 1 hts gX2_ruined_X2_isBidder rfl rfl rfl hd_X2_isBidder ⟨Nat.le_of_ble_eq_true rfl, Nat.le_of_ble_eq_true rfl⟩) (va_recv hK hP (ci := 2) (q0 := 0) rfl rfl) (bq_X2_X2_t A cI tt) rfl hl.1 rfl (Nat.le_of_ble_eq_true rfl) dX2_ruined_2 ⟨Nat.le_of_ble_eq_true rfl, Nat.le_of_ble_eq_true rfl⟩ (fun H locs hP hD hS => ?_)
  refine lv_if_ne (tgt := 14) hx hb dX2_ruined_5 (by decide) (fun c1 => ?_) (fun c1 => ?_)
  · have hf := hF hf c1
    refine lv_aload_n hx hb dX2_ruined_14 rfl (lv_at hl 0 rfl) ?_
    obtain ⟨v2, hev2, hf⟩ := bS hf
    refine qV_v (ws' := (wM A cI v2)) (As := []) (rest := []) ⟨hx, hb, hml, hown, hts⟩ hK hN hA hP hD hS (c_X2_thinks l D cI A tt v2 hev2) (cwV 0 hts gX2_ruined_X2_thinks rfl rfl rfl hd_X2_thinks ⟨Nat.le_of_ble_eq_true rfl, Nat.le_of_ble_eq_true rfl⟩) (va_recv hK hP (ci := 2) (q0 := 0) rfl rfl) (bp_X2_X2_t_t A cI tt v2) rfl hl.1 rfl (Nat.le_of_ble_eq_true rfl) dX2_ruined_15 ⟨Nat.le_of_ble_eq_true rfl, Nat.le_of_ble_eq_true rfl⟩ (fun H locs hP hD hS => ?_)
    have hP : va_P D vwCl (wM A cI v2) H := hP
    refine lv_bipush (v := (-9 : Int32)) hx hb dX2_ruined_18 (by decide) ?_
    refine lv_istore_n (lv' := [(2, .int (-9 : Int32)), (0, .ref (A 0)), (1, .int j1)]) hx hb dX2_ruined_20 rfl hl (by decide) rfl (fun ls hl => ?_)
    refine lv_iconst (v := (0 : Int32)) hx hb dX2_ruined_21 (by decide) ?_
    refine lv_istore_n (lv' := [(3, .int (0 : Int32)), (2, .int (-9 : Int32)), (0, .ref (A 0)), (1, .int j1)]) hx hb dX2_ruined_22 rfl hl (by decide) rfl (fun ls hl => ?_)
    obtain ⟨K60, hK60, hf⟩ := jnS hf
    have J60 : ∀ (j2_60 : Int32) (tt_60 : HS) (H : Heap) (locs : List Loc) (ls : Array Slot), K60 j2_60 tt_60 = some out → va_P D vwCl (wM A cI tt_60) H → va_D G (wM A cI tt_60) → va_S G s.heap H locs → lv_has ls 4 [(0, .ref (A 0)), (2, .int j2_60)] → WW H locs (F0 m 60 ls []) := by
      intro j2_60 tt_60 H locs ls hf hP hD hS hl
      subst hK60
      refine (hWW _ _ _).mpr ?_
      refine lv_aload_n hx hb dX2_ruined_60 rfl (lv_at hl 0 rfl) ?_
      obtain ⟨v3, hev3, hf⟩ := bS hf
      refine qV_v (ws' := (wM A cI v3)) (As := []) (rest := []) ⟨hx, hb, hml, hown, hts⟩ hK hN hA hP hD hS (c_X2_forgets l D cI A tt_60 v3 hev3) (cwV 0 hts gX2_ruined_X2_forgets rfl rfl rfl hd_X2_forgets ⟨Nat.le_of_ble_eq_true rfl, Nat.le_of_ble_eq_true rfl⟩) (va_recv hK hP (ci := 2) (q0 := 0) rfl rfl) (bp_X2_X2_t_t A cI tt_60 v3) rfl hl.1 rfl (Nat.le_of_ble_eq_true rfl) dX2_ruined_61 ⟨Nat.le_of_ble_eq_true rfl, Nat.le_of_ble_eq_true rfl⟩ (fun H locs hP hD hS => ?_)
      have hP : va_P D vwCl (wM A cI v3) H := hP
      refine lv_iload_n hx hb dX2_ruined_64 rfl (lv_at hl 1 rfl) ?_
      obtain rfl := Option.some.inj hf
      exact W.iret (v := j2_60) hx hb hr (fun t ht hW => ⟨⟨j2_60, (), rfl, rfl, hPt ht hP⟩, hS.F ht⟩) hS.2.2 dX2_ruined_65
    have P23 : ∀ (n' : Nat) (j2_23 : Int32) (j3_23 : Int32) (tt_23 : HS) (H : Heap) (locs : List Loc) (ls : Array Slot), L_X2_ruined_23 j1 K60 n' j2_23 j3_23 tt_23 = some out → va_P D vwCl (wM A cI tt_23) H → va_D G (wM A cI tt_23) → va_S G s.heap H locs → lv_has ls 4 [(0, .ref (A 0)), (1, .int j1), (2, .int j2_23), (3, .int j3_23)] → WW H locs (F0 m 23 ls []) := by
      intro n'
      induction n' with
      | zero => intro j2_23 j3_23 tt_23 H locs ls hf; exact absurd (show (none : Option (Int32 × HS)) = some out from hf) (fun q => by cases q)
      | succ n' ih =>
        intro j2_23 j3_23 tt_23 H locs ls hf hP hD hS hl
        rw [L_X2_ruined_23] at hf
        refine (hWW _ _ _).mpr ?_
        refine lv_iload_n hx hb dX2_ruined_23 rfl (lv_at hl 3 rfl) ?_
        refine lv_bipush (v := (60 : Int32)) hx hb dX2_ruined_24 (by decide) ?_
        refine lv_icmp_gt (tgt := 60) hx hb dX2_ruined_26 (by decide) (fun c4 => ?_) (fun c4 => ?_)
        · have hf := hT hf c4
          exact (hWW _ _ _).mp (J60 _ _ _ _ _ hf hP hD hS (lv_sub hl [0, 2] rfl))
        · have hf := hF hf c4
          refine lv_iload_n hx hb dX2_ruined_29 rfl (lv_at hl 2 rfl) ?_
          refine lv_if_ge (tgt := 60) hx hb dX2_ruined_30 (by decide) (fun c5 => ?_) (fun c5 => ?_)
          · have hf := hT hf c5
            exact (hWW _ _ _).mp (J60 _ _ _ _ _ hf hP hD hS (lv_sub hl [0, 2] rfl))
          · have hf := hF hf c5
            refine lv_aload_n hx hb dX2_ruined_33 rfl (lv_at hl 0 rfl) ?_
            refine va_get (D := D) (ci := 2) (v := .ref (A 11)) (C := RX2) (T := TX2) (N := 31) hx hb hts hinM hown hK hP 0 rfl rfl 10 (by decide) lk0 (fun _ h9 => h9) rfl dX2_ruined_34 ?_
            refine lv_iload_n hx hb dX2_ruined_37 rfl (lv_at hl 1 rfl) ?_
            obtain ⟨v6, he, hf⟩ := bS hf
            refine x_iald hx hb hK hP 11 (n := 6) rfl he dX2_ruined_38 ?_
            refine lv_if_ne (tgt := 46) hx hb dX2_ruined_39 (by decide) (fun c7 => ?_) (fun c7 => ?_)
            · have hf := hF hf c7
              refine lv_bipush (v := (-9 : Int32)) hx hb dX2_ruined_46 (by decide) ?_
              refine lv_istore_n (lv' := [(2, .int (-9 : Int32)), (0, .ref (A 0)), (1, .int j1), (3, .int j3_23)]) hx hb dX2_ruined_48 rfl hl (by decide) rfl (fun ls hl => ?_)
              refine lv_aload_n hx hb dX2_ruined_49 rfl (lv_at hl 1 rfl) ?_
              refine lv_iconst (v := (0 : Int32)) hx hb dX2_ruined_50 (by decide) ?_
              obtain ⟨v8, hev8, hf⟩ := bS hf
              refine qV_v (ws' := (wM A cI v8)) (As := [.int (0 : Int32)]) (rest := []) ⟨hx, hb, hml, hown, hts⟩ hK hN hA hP hD hS (c_X2_goesMonth l D cI A (0 : Int32) tt_23 v8 hev8) (cwV 1 hts gX2_ruined_X2_goesMonth rfl rfl rfl hd_X2_goesMonth ⟨Nat.le_of_ble_eq_true rfl, Nat.le_of_ble_eq_true rfl⟩) (va_recv hK hP (ci := 2) (q0 := 0) rfl rfl) (bp_X2_X2_t_t A cI tt_23 v8) rfl hl.1 rfl (Nat.le_of_ble_eq_true rfl) dX2_ruined_51 ⟨Nat.le_of_ble_eq_true rfl, Nat.le_of_ble_eq_true rfl⟩ (fun H locs hP hD hS => ?_)
              have hP : va_P D vwCl (wM A cI v8) H := hP
              refine lv_iinc (v := (j3_23 + (1 : Int32))) (lv' := [(3, .int (j3_23 + (1 : Int32))), (2, .int (-9 : Int32)), (0, .ref (A 0)), (1, .int j1)]) hx hb dX2_ruined_54 hl (k := 3) rfl rfl (by decide) rfl (fun ls hl => ?_)
              refine lv_goto (tgt := 23) hx hb dX2_ruined_57 (by decide) ?_
              exact (hWW _ _ _).mp (ih _ _ _ _ _ _ hf hP hD hS (lv_sub hl [2, 3, 1, 0] rfl))
            · have hf := hT hf c7
              refine lv_iload_n hx hb dX2_ruined_42 rfl (lv_at hl 3 rfl) ?_
              refine lv_goto (tgt := 48) hx hb dX2_ruined_43 (by decide) ?_
              refine lv_istore_n (lv' := [(2, .int j3_23), (0, .ref (A 0)), (1, .int j1), (3, .int j3_23)]) hx hb dX2_ruined_48 rfl hl (by decide) rfl (fun ls hl => ?_)
              refine lv_aload_n hx hb dX2_ruined_49 rfl (lv_at hl 1 rfl) ?_
              refine lv_iconst (v := (0 : Int32)) hx hb dX2_ruined_50 (by decide) ?_
              obtain ⟨v9, hev9, hf⟩ := bS hf
              refine qV_v (ws' := (wM A cI v9)) (As := [.int (0 : Int32)]) (rest := []) ⟨hx, hb, hml, hown, hts⟩ hK hN hA hP hD hS (c_X2_goesMonth l D cI A (0 : Int32) tt_23 v9 hev9) (cwV 1 hts gX2_ruined_X2_goesMonth rfl rfl rfl hd_X2_goesMonth ⟨Nat.le_of_ble_eq_true rfl, Nat.le_of_ble_eq_true rfl⟩) (va_recv hK hP (ci := 2) (q0 := 0) rfl rfl) (bp_X2_X2_t_t A cI tt_23 v9) rfl hl.1 rfl (Nat.le_of_ble_eq_true rfl) dX2_ruined_51 ⟨Nat.le_of_ble_eq_true rfl, Nat.le_of_ble_eq_true rfl⟩ (fun H locs hP hD hS => ?_)
              have hP : va_P D vwCl (wM A cI v9) H := hP
              refine lv_iinc (v := (j3_23 + (1 : Int32))) (lv' := [(3, .int (j3_23 + (1 : Int32))), (2, .int j3_23), (0, .ref (A 0)), (1, .int j1)]) hx hb dX2_ruined_54 hl (k := 3) rfl rfl (by decide) rfl (fun ls hl => ?_)
              refine lv_goto (tgt := 23) hx hb dX2_ruined_57 (by decide) ?_
              exact (hWW _ _ _).mp (ih _ _ _ _ _ _ hf hP hD hS (lv_sub hl [2, 3, 1, 0] rfl))
    exact (hWW _ _ _).mp (P23 _ _ _ _ _ _ _ hf hP hD hS (lv_sub hl [2, 3, 1, 0] rfl))
  · have hf := hT hf c1
    refine lv_aload_n hx hb dX2_ruined_8 rfl (lv_at hl 0 rfl) ?_
    refine lv_iconst (v := (-1 : Int32)) hx hb dX2_ruined_9 (by decide) ?_
    obtain ⟨v10, hev10, hf⟩ := bS hf
    refine qV_i (ws' := (wM A cI v10.2)) (As := [.int (-1 : Int32)]) (rest := []) ⟨hx, hb, hml, hown, hts⟩ hK hN hA hP hD hS (c_X2_no l D cI A (-1 : Int32) tt v10 hev10) (cwV 1 hts gX2_ruined_X2_no rfl rfl rfl hd_X2_no ⟨Nat.le_of_ble_eq_true rfl, Nat.le_of_ble_eq_true rfl⟩) (va_recv hK hP (ci := 2) (q0 := 0) rfl rfl) (bp_X2_X2_t_t A cI tt v10.2) rfl hl.1 rfl (Nat.le_of_ble_eq_true rfl) dX2_ruined_10 ⟨Nat.le_of_ble_eq_true rfl, Nat.le_of_ble_eq_true rfl⟩ (fun H locs hP hD hS => ?_)
    have hP : va_P D vwCl (wM A cI v10.2) H := hP
    obtain rfl := Option.some.inj hf
    exact W.iret (v := v10.1) hx hb hr (fun t ht hW => ⟨⟨v10.1, (), rfl, rfl, hPt ht hP⟩, hS.F ht⟩) hS.2.2 dX2_ruined_13
set_option maxHeartbeats 4000000 in
set_option maxRecDepth 100000 in
theorem c_X2_isHisBy (l : Launch) (D : va_G) (cI : ClassId) (A : Nat → Nat) (j1 : Int32) (j2 : Int32) (j3 : Int32) (tt : HS) (out : Int32 × HS) (hf : f_X2_isHisBy j1 j2 j3 tt = some out) : uI l D cI yX2_isHisBy wsX2_isHisBy ({ frames := 8, cells := 0, slots := 0, locals := 182 } : Room) [.ref (A 0), .int j1, .int j2, .int j3] (wM A cI tt) (wM A cI out.2) out.1 := by
  intro sz
  refine Met.ofW (cc := cX2_isHisBy) (maxL := 5) (ret := (some .boolean)) (by decide) rfl ?_
  intro p e s m args below meth c s₁ Bd hml hv
  obtain ⟨rfl, hsz, hP, hK, hD0, hN⟩ := hv
  have hx := Bd.exec
  have hb := Bd.bytes
  have hr := Bd.returns
  have hts := atoms_spec (ws := wsX2_isHisBy) Bd.pre
  have hown : s.vm.findClass RX2 = some m.cls := findClass_of_methodNamed Bd.named
  have hlocks := Bd.notSynchronized
  subst hsz
  have hD := hD0.self (sz := s.heap.size)
  generalize hAe : va_A (wM A cI tt) s.heap.size = G at hD ⊢
  have hA : ∀ q : Nat, s.heap.size ≤ q → G q := fun q h => by rw [← hAe]; exact Or.inr h
  have hS : va_S G s.heap s.heap [] := va_S.rf
  have hP : va_P D vwCl (wM A cI tt) s.heap := hP
  have hl := lv_entry ([.ref (A 0), .int j1, .int j2, .int j3]) (n := 5) (Nat.le_of_ble_eq_true rfl)
  rw [lg_entry_eq]
  generalize (lg_sl ([.ref (A 0), .int j1, .int j2, .int j3]) ++ List.replicate (5 - (lg_sl ([.ref (A 0), .int j1, .int j2, .int j3])).length) Slot.unset).toArray = ls at hl ⊢
  have hl : lv_has ls 5 [(0, .ref (A 0)), (1, .int j1), (2, .int j2), (3, .int j3)] := hl
  have hinM : ∀ w ∈ wsX20, w ∈ wsX2_isHisBy := by decide +kernel
  have lk0 := hts (.fieldLink RX2 37 "LiesBoughtBackModel" "purse" "[I") (by decide +kernel)
  have lk1 := hts (.fieldLink RX2 25 "LiesBoughtBackModel" "holder" "[I") (by decide +kernel)
  refine W_in ?_
  intro WW hWW
  refine (hWW _ _ _).mpr ?_
  unfold f_X2_isHisBy at hf
  refine lv_aload_n hx hb dX2_isHisBy_0 rfl (lv_at hl 0 rfl) ?_
  obtain ⟨v1, hev1, hf⟩ := bS hf
  refine qV_v (ws' := (wM A cI v1)) (As := []) (rest := []) ⟨hx, hb, hml, hown, hts⟩ hK hN hA hP hD hS (c_X2_thinks l D cI A tt v1 hev1) (cwV 0 hts gX2_isHisBy_X2_thinks rfl rfl rfl hd_X2_thinks ⟨Nat.le_of_ble_eq_true rfl, Nat.le_of_ble_eq_true rfl⟩) (va_recv hK hP (ci := 2) (q0 := 0) rfl rfl) (bp_X2_X2_t_t A cI tt v1) rfl hl.1 rfl (Nat.le_of_ble_eq_true rfl) dX2_isHisBy_1 ⟨Nat.le_of_ble_eq_true rfl, Nat.le_of_ble_eq_true rfl⟩ (fun H locs hP hD hS => ?_)
  have hP : va_P D vwCl (wM A cI v1) H := hP
  refine lv_aload_n hx hb dX2_isHisBy_4 rfl (lv_at hl 0 rfl) ?_
  refine va_get (D := D) (ci := 2) (v := .ref (A 10)) (C := RX2) (T := TX2) (N := 31) hx hb hts hinM hown hK hP 0 rfl rfl 9 (by decide) lk0 (fun _ h9 => h9) rfl dX2_isHisBy_5 ?_
  refine lv_iload_n hx hb dX2_isHisBy_8 rfl (lv_at hl 1 rfl) ?_
  refine lv_iload_n hx hb dX2_isHisBy_9 rfl (lv_at hl 3 rfl) ?_
  obtain ⟨v2, he, hf⟩ := bS hf
  obtain ⟨tt_v3, ett_v3, hf⟩ := jnS hf
  refine x_iast (ws' := (wM A cI tt_v3)) hx hb hK hP hD hS 10 (n := 6) rfl he ((sa_X2_t_9 A cI v1 v2).trans (congrArg (fun z => wM A cI z) ett_v3.symm)) dX2_isHisBy_10 (fun H locs hP hD hS => ?_)
  refine lv_aload_n hx hb dX2_isHisBy_11 rfl (lv_at hl 0 rfl) ?_
  refine lv_iconst (v := (0 : Int32)) hx hb dX2_isHisBy_12 (by decide) ?_
  obtain ⟨v4, hev4, hf⟩ := bS hf
  refine qV_v (ws' := (wM A cI v4)) (As := [.int (0 : Int32)]) (rest := []) ⟨hx, hb, hml, hown, hts⟩ hK hN hA hP hD hS (c_X2_goesMonth l D cI A (0 : Int32) tt_v3 v4 hev4) (cwV 1 hts gX2_isHisBy_X2_goesMonth rfl rfl rfl hd_X2_goesMonth ⟨Nat.le_of_ble_eq_true rfl, Nat.le_of_ble_eq_true rfl⟩) (va_recv hK hP (ci := 2) (q0 := 0) rfl rfl) (bp_X2_X2_t_t A cI tt_v3 v4) rfl hl.1 rfl (Nat.le_of_ble_eq_true rfl) dX2_isHisBy_13 ⟨Nat.le_of_ble_eq_true rfl, Nat.le_of_ble_eq_true rfl⟩ (fun H locs hP hD hS => ?_)
  have hP : va_P D vwCl (wM A cI v4) H := hP
  refine lv_aload_n hx hb dX2_isHisBy_16 rfl (lv_at hl 0 rfl) ?_
  refine va_get (D := D) (ci := 2) (v := .ref (A 6)) (C := RX2) (T := TX2) (N := 31) hx hb hts hinM hown hK hP 0 rfl rfl 5 (by decide) lk1 (fun _ h9 => h9) rfl dX2_isHisBy_17 ?_
  refine lv_iload_n hx hb dX2_isHisBy_20 rfl (lv_at hl 2 rfl) ?_
  obtain ⟨v5, he, hf⟩ := bS hf
  refine x_iald hx hb hK hP 6 (n := 8) rfl he dX2_isHisBy_21 ?_
  refine lv_iload_n hx hb dX2_isHisBy_22 rfl (lv_at hl 1 rfl) ?_
  refine lv_iconst (v := (1 : Int32)) hx hb dX2_isHisBy_23 (by decide) ?_
  refine lv_iadd hx hb dX2_isHisBy_24 ?_
  refine lv_icmp_ne (tgt := 32) hx hb dX2_isHisBy_25 (by decide) (fun c6 => ?_) (fun c6 => ?_)
  · have hf := hF hf c6
    refine lv_iconst (v := (0 : Int32)) hx hb dX2_isHisBy_32 (by decide) ?_
    refine lv_istore (lv' := [(4, .int (0 : Int32)), (0, .ref (A 0)), (1, .int j1), (2, .int j2), (3, .int j3)]) hx hb dX2_isHisBy_33 hl (by decide) rfl (fun ls hl => ?_)
    refine lv_aload_n hx hb dX2_isHisBy_35 rfl (lv_at hl 1 rfl) ?_
    obtain ⟨v7, hev7, hf⟩ := bS hf
    refine qV_v (ws' := (wM A cI v7)) (As := []) (rest := []) ⟨hx, hb, hml, hown, hts⟩ hK hN hA hP hD hS (c_X2_forgets l D cI A v4 v7 hev7) (cwV 0 hts gX2_isHisBy_X2_forgets rfl rfl rfl hd_X2_forgets ⟨Nat.le_of_ble_eq_true rfl, Nat.le_of_ble_eq_true rfl⟩) (va_recv hK hP (ci := 2) (q0 := 0) rfl rfl) (bp_X2_X2_t_t A cI v4 v7) rfl hl.1 rfl (Nat.le_of_ble_eq_true rfl) dX2_isHisBy_36 ⟨Nat.le_of_ble_eq_true rfl, Nat.le_of_ble_eq_true rfl⟩ (fun H locs hP hD hS => ?_)
    have hP : va_P D vwCl (wM A cI v7) H := hP
    refine lv_iload hx hb dX2_isHisBy_39 (lv_at hl 0 rfl) ?_
    obtain rfl := Option.some.inj hf
    exact W.zret (ty := .boolean) (v := (0 : Int32)) hx hb hr rfl (fun t ht hW => ⟨⟨(0 : Int32), (), rfl, rfl, hPt ht hP⟩, hS.F ht⟩) hS.2.2 dX2_isHisBy_41
  · have hf := hT hf c6
    refine lv_iconst (v := (1 : Int32)) hx hb dX2_isHisBy_28 (by decide) ?_
    refine lv_goto (tgt := 33) hx hb dX2_isHisBy_29 (by decide) ?_
    refine lv_istore (lv' := [(4, .int (1 : Int32)), (0, .ref (A 0)), (1, .int j1), (2, .int j2), (3, .int j3)]) hx hb dX2_isHisBy_33 hl (by decide) rfl (fun ls hl => ?_)
    refine lv_aload_n hx hb dX2_isHisBy_35 rfl (lv_at hl 1 rfl) ?_
    obtain ⟨v8, hev8, hf⟩ := bS hf
    refine qV_v (ws' := (wM A cI v8)) (As := []) (rest := []) ⟨hx, hb, hml, hown, hts⟩ hK hN hA hP hD hS (c_X2_forgets l D cI A v4 v8 hev8) (cwV 0 hts gX2_isHisBy_X2_forgets rfl rfl rfl hd_X2_forgets ⟨Nat.le_of_ble_eq_true rfl, Nat.le_of_ble_eq_true rfl⟩) (va_recv hK hP (ci := 2) (q0 := 0) rfl rfl) (bp_X2_X2_t_t A cI v4 v8) rfl hl.1 rfl (Nat.le_of_ble_eq_true rfl) dX2_isHisBy_36 ⟨Nat.le_of_ble_eq_true rfl, Nat.le_of_ble_eq_true rfl⟩ (fun H locs hP hD hS => ?_)
    have hP : va_P D vwCl (wM A cI v8) H := hP
    refine lv_iload hx hb dX2_isHisBy_39 (lv_at hl 0 rfl) ?_
    obtain rfl := Option.some.inj hf
    exact W.zret (ty := .boolean) (v := (1 : Int32)) hx hb hr rfl (fun t ht hW => ⟨⟨(1 : Int32), (), rfl, rfl, hPt ht hP⟩, hS.F ht⟩) hS.2.2 dX2_isHisBy_41
set_option maxHeartbeats 4000000 in
set_option maxRecDepth 100000 in
theorem c_X2_purseFor (l : Launch) (D : va_G) (cI : ClassId) (A : Nat → Nat) (j1 : Int32) (j2 : Int32) (tt : HS) (out : Int32 × HS) (hf : f_X2_purseFor j1 j2 tt = some out) : uI l D cI yX2_purseFor wsX2_purseFor ({ frames := 9, cells := 0, slots := 0, locals := 206 } : Room) [.ref (A 0), .int j1, .int j2] (wM A cI tt) (wM A cI out.2) out.1 := by
  intro sz
  refine Met.ofW (cc := cX2_purseFor) (maxL := 5) (ret := (some .int)) (by decide) rfl ?_
  intro p e s m args below meth c s₁ Bd hml hv
  obtain ⟨rfl, hsz, hP, hK, hD0, hN⟩ := hv
  have hx := Bd.exec
  have hb := Bd.bytes
  have hr := Bd.returns
  have hts := atoms_spec (ws := wsX2_purseFor) Bd.pre
  have hown : s.vm.findClass RX2 = some m.cls := findClass_of_methodNamed Bd.named
  have hlocks := Bd.notSynchronized
  subst hsz
  have hD := hD0.self (sz := s.heap.size)
  generalize hAe : va_A (wM A cI tt) s.heap.size = G at hD ⊢
  have hA : ∀ q : Nat, s.heap.size ≤ q → G q := fun q h => by rw [← hAe]; exact Or.inr h
  have hS : va_S G s.heap s.heap [] := va_S.rf
  have hP : va_P D vwCl (wM A cI tt) s.heap := hP
  have hl := lv_entry ([.ref (A 0), .int j1, .int j2]) (n := 5) (Nat.le_of_ble_eq_true rfl)
  rw [lg_entry_eq]
  generalize (lg_sl ([.ref (A 0), .int j1, .int j2]) ++ List.replicate (5 - (lg_sl ([.ref (A 0), .int j1, .int j2])).length) Slot.unset).toArray = ls at hl ⊢
  have hl : lv_has ls 5 [(0, .ref (A 0)), (1, .int j1), (2, .int j2)] := hl
  have hinM : ∀ w ∈ wsX20, w ∈ wsX2_purseFor := by decide +kernel
  have lk0 := hts (.fieldLink RX2 25 "LiesBoughtBackModel" "holder" "[I") (by decide +kernel)
  refine W_in ?_
  intro WW hWW
  refine (hWW _ _ _).mpr ?_
  unfold f_X2_purseFor at hf
  refine lv_aload_n hx hb dX2_purseFor_0 rfl (lv_at hl 0 rfl) ?_
  refine lv_iload_n hx hb dX2_purseFor_1 rfl (lv_at hl 1 rfl) ?_
  refine lv_iload_n hx hb dX2_purseFor_2 rfl (lv_at hl 2 rfl) ?_
  refine qV_i (As := [.int j1, .int j2]) (rest := []) ⟨hx, hb, hml, hown, hts⟩ hK hN hA hP hD hS (c_X2_areTold l D cI A j1 j2 tt (f_X2_areTold j1 j2 tt) rfl) (cwV 2 hts gX2_purseFor_X2_areTold rfl rfl rfl hd_X2_areTold ⟨Nat.le_of_ble_eq_true rfl, Nat.le_of_ble_eq_true rfl⟩) (va_recv hK hP (ci := 2) (q0 := 0) rfl rfl) (bq_X2_X2_t A cI tt) rfl hl.1 rfl (Nat.le_of_ble_eq_true rfl) dX2_purseFor_3 ⟨Nat.le_of_ble_eq_true rfl, Nat.le_of_ble_eq_true rfl⟩ (fun H locs hP hD hS => ?_)
  refine lv_if_ne (tgt := 13) hx hb dX2_purseFor_6 (by decide) (fun c1 => ?_) (fun c1 => ?_)
  · have hf := hF hf c1
    refine lv_aload_n hx hb dX2_purseFor_13 rfl (lv_at hl 0 rfl) ?_
    refine va_get (D := D) (ci := 2) (v := .ref (A 6)) (C := RX2) (T := TX2) (N := 31) hx hb hts hinM hown hK hP 0 rfl rfl 5 (by decide) lk0 (fun _ h9 => h9) rfl dX2_purseFor_14 ?_
    refine lv_iload_n hx hb dX2_purseFor_17 rfl (lv_at hl 2 rfl) ?_
    obtain ⟨v2, he, hf⟩ := bS hf
    refine x_iald hx hb hK hP 6 (n := 8) rfl he dX2_purseFor_18 ?_
    refine lv_if_eq (tgt := 27) hx hb dX2_purseFor_19 (by decide) (fun c3 => ?_) (fun c3 => ?_)
    · have hf := hT hf c3
      refine lv_iconst (v := (0 : Int32)) hx hb dX2_purseFor_27 (by decide) ?_
      refine lv_istore_n (lv' := [(3, .int (0 : Int32)), (0, .ref (A 0)), (1, .int j1), (2, .int j2)]) hx hb dX2_purseFor_28 rfl hl (by decide) rfl (fun ls hl => ?_)
      refine lv_iload_n hx hb dX2_purseFor_29 rfl (lv_at hl 0 rfl) ?_
      refine lv_if_eq (tgt := 39) hx hb dX2_purseFor_30 (by decide) (fun c4 => ?_) (fun c4 => ?_)
      · refine lv_iconst (v := (0 : Int32)) hx hb dX2_purseFor_39 (by decide) ?_
        refine lv_istore (lv' := [(4, .int (0 : Int32)), (3, .int (0 : Int32)), (0, .ref (A 0)), (1, .int j1), (2, .int j2)]) hx hb dX2_purseFor_40 hl (by decide) rfl (fun ls hl => ?_)
        obtain ⟨K69, hK69, hf⟩ := jnS hf
        have J69 : ∀ (tt_69 : HS) (H : Heap) (locs : List Loc) (ls : Array Slot), K69 tt_69 = some out → va_P D vwCl (wM A cI tt_69) H → va_D G (wM A cI tt_69) → va_S G s.heap H locs → lv_has ls 5 [] → WW H locs (F0 m 69 ls []) := by
          intro tt_69 H locs ls hf hP hD hS hl
          subst hK69
          refine (hWW _ _ _).mpr ?_
          refine lv_bipush (v := (-9 : Int32)) hx hb dX2_purseFor_69 (by decide) ?_
          obtain rfl := Option.some.inj hf
          exact W.iret (v := (-9 : Int32)) hx hb hr (fun t ht hW => ⟨⟨(-9 : Int32), (), rfl, rfl, hPt ht hP⟩, hS.F ht⟩) hS.2.2 dX2_purseFor_71
        have P42 : ∀ (n' : Nat) (j4_42 : Int32) (tt_42 : HS) (H : Heap) (locs : List Loc) (ls : Array Slot), L_X2_purseFor_42 j1 j2 K69 n' j4_42 tt_42 = some out → va_P D vwCl (wM A cI tt_42) H → va_D G (wM A cI tt_42) → va_S G s.heap H locs → lv_has ls 5 [(0, .ref (A 0)), (1, .int j1), (2, .int j2), (4, .int j4_42)] → WW H locs (F0 m 42 ls []) := by
          intro n'
          induction n' with
          | zero => intro j4_42 tt_42 H locs ls hf; exact absurd (show (none : Option (Int32 × HS)) = some out from hf) (fun q => by cases q)
          | succ n' ih =>
            intro j4_42 tt_42 H locs ls hf hP hD hS hl
            rw [L_X2_purseFor_42] at hf
            refine (hWW _ _ _).mpr ?_
            refine lv_iload hx hb dX2_purseFor_42 (lv_at hl 3 rfl) ?_
            refine lv_bipush (v := (99 : Int32)) hx hb dX2_purseFor_44 (by decide) ?_
            refine lv_icmp_gt (tgt := 69) hx hb dX2_purseFor_46 (by decide) (fun c5 => ?_) (fun c5 => ?_)
            · have hf := hT hf c5
              exact (hWW _ _ _).mp (J69 _ _ _ _ hf hP hD hS (lv_sub hl [] rfl))
            · have hf := hF hf c5
              refine lv_aload_n hx hb dX2_purseFor_49 rfl (lv_at hl 0 rfl) ?_
              refine lv_iload_n hx hb dX2_purseFor_50 rfl (lv_at hl 1 rfl) ?_
              refine lv_iload_n hx hb dX2_purseFor_51 rfl (lv_at hl 2 rfl) ?_
              refine lv_iload hx hb dX2_purseFor_52 (lv_at hl 3 rfl) ?_
              obtain ⟨v6, hev6, hf⟩ := bS hf
              refine qV_i (ws' := (wM A cI v6.2)) (As := [.int j1, .int j2, .int j4_42]) (rest := []) ⟨hx, hb, hml, hown, hts⟩ hK hN hA hP hD hS (c_X2_isHisBy l D cI A j1 j2 j4_42 tt_42 v6 hev6) (cwV 3 hts gX2_purseFor_X2_isHisBy rfl rfl rfl hd_X2_isHisBy ⟨Nat.le_of_ble_eq_true rfl, Nat.le_of_ble_eq_true rfl⟩) (va_recv hK hP (ci := 2) (q0 := 0) rfl rfl) (bp_X2_X2_t_t A cI tt_42 v6.2) rfl hl.1 rfl (Nat.le_of_ble_eq_true rfl) dX2_purseFor_54 ⟨Nat.le_of_ble_eq_true rfl, Nat.le_of_ble_eq_true rfl⟩ (fun H locs hP hD hS => ?_)
              have hP : va_P D vwCl (wM A cI v6.2) H := hP
              refine lv_if_eq (tgt := 63) hx hb dX2_purseFor_57 (by decide) (fun c7 => ?_) (fun c7 => ?_)
              · have hf := hT hf c7
                refine lv_iinc (v := (j4_42 + (1 : Int32))) (lv' := [(4, .int (j4_42 + (1 : Int32))), (0, .ref (A 0)), (1, .int j1), (2, .int j2)]) hx hb dX2_purseFor_63 hl (k := 3) rfl rfl (by decide) rfl (fun ls hl => ?_)
                refine lv_goto (tgt := 42) hx hb dX2_purseFor_66 (by decide) ?_
                exact (hWW _ _ _).mp (ih _ _ _ _ _ hf hP hD hS (lv_sub hl [1, 2, 3, 0] rfl))
              · have hf := hF hf c7
                refine lv_iload hx hb dX2_purseFor_60 (lv_at hl 3 rfl) ?_
                obtain rfl := Option.some.inj hf
                exact W.iret (v := j4_42) hx hb hr (fun t ht hW => ⟨⟨j4_42, (), rfl, rfl, hPt ht hP⟩, hS.F ht⟩) hS.2.2 dX2_purseFor_62
        exact (hWW _ _ _).mp (P42 _ _ _ _ _ _ hf hP hD hS (lv_sub hl [2, 3, 4, 0] rfl))
      · exact absurd c4 (by decide)
    · have hf := hF hf c3
      refine lv_bipush (v := (-3 : Int32)) hx hb dX2_purseFor_22 (by decide) ?_
      refine lv_goto (tgt := 28) hx hb dX2_purseFor_24 (by decide) ?_
      refine lv_istore_n (lv' := [(3, .int (-3 : Int32)), (0, .ref (A 0)), (1, .int j1), (2, .int j2)]) hx hb dX2_purseFor_28 rfl hl (by decide) rfl (fun ls hl => ?_)
      refine lv_iload_n hx hb dX2_purseFor_29 rfl (lv_at hl 0 rfl) ?_
      refine lv_if_eq (tgt := 39) hx hb dX2_purseFor_30 (by decide) (fun c8 => ?_) (fun c8 => ?_)
      · exact absurd c8 (by decide)
      · refine lv_aload_n hx hb dX2_purseFor_33 rfl (lv_at hl 1 rfl) ?_
        refine lv_iload_n hx hb dX2_purseFor_34 rfl (lv_at hl 0 rfl) ?_
        obtain ⟨v9, hev9, hf⟩ := bS hf
        refine qV_i (ws' := (wM A cI v9.2)) (As := [.int (-3 : Int32)]) (rest := []) ⟨hx, hb, hml, hown, hts⟩ hK hN hA hP hD hS (c_X2_no l D cI A (-3 : Int32) tt v9 hev9) (cwV 1 hts gX2_purseFor_X2_no rfl rfl rfl hd_X2_no ⟨Nat.le_of_ble_eq_true rfl, Nat.le_of_ble_eq_true rfl⟩) (va_recv hK hP (ci := 2) (q0 := 0) rfl rfl) (bp_X2_X2_t_t A cI tt v9.2) rfl hl.1 rfl (Nat.le_of_ble_eq_true rfl) dX2_purseFor_35 ⟨Nat.le_of_ble_eq_true rfl, Nat.le_of_ble_eq_true rfl⟩ (fun H locs hP hD hS => ?_)
        have hP : va_P D vwCl (wM A cI v9.2) H := hP
        obtain rfl := Option.some.inj hf
        exact W.iret (v := v9.1) hx hb hr (fun t ht hW => ⟨⟨v9.1, (), rfl, rfl, hPt ht hP⟩, hS.F ht⟩) hS.2.2 dX2_purseFor_38
  · have hf := hT hf c1
    refine lv_iconst (v := (-1 : Int32)) hx hb dX2_purseFor_9 (by decide) ?_
    refine lv_goto (tgt := 28) hx hb dX2_purseFor_10 (by decide) ?_
    refine lv_istore_n (lv' := [(3, .int (-1 : Int32)), (0, .ref (A 0)), (1, .int j1), (2, .int j2)]) hx hb dX2_purseFor_28 rfl hl (by decide) rfl (fun ls hl => ?_)
    refine lv_iload_n hx hb dX2_purseFor_29 rfl (lv_at hl 0 rfl) ?_
    refine lv_if_eq (tgt := 39) hx hb dX2_purseFor_30 (by decide) (fun c10 => ?_) (fun c10 => ?_)
    · exact absurd c10 (by decide)
    · refine lv_aload_n hx hb dX2_purseFor_33 rfl (lv_at hl 1 rfl) ?_
      refine lv_iload_n hx hb dX2_purseFor_34 rfl (lv_at hl 0 rfl) ?_
      obtain ⟨v11, hev11, hf⟩ := bS hf
      refine qV_i (ws' := (wM A cI v11.2)) (As := [.int (-1 : Int32)]) (rest := []) ⟨hx, hb, hml, hown, hts⟩ hK hN hA hP hD hS (c_X2_no l D cI A (-1 : Int32) tt v11 hev11) (cwV 1 hts gX2_purseFor_X2_no rfl rfl rfl hd_X2_no ⟨Nat.le_of_ble_eq_true rfl, Nat.le_of_ble_eq_true rfl⟩) (va_recv hK hP (ci := 2) (q0 := 0) rfl rfl) (bp_X2_X2_t_t A cI tt v11.2) rfl hl.1 rfl (Nat.le_of_ble_eq_true rfl) dX2_purseFor_35 ⟨Nat.le_of_ble_eq_true rfl, Nat.le_of_ble_eq_true rfl⟩ (fun H locs hP hD hS => ?_)
      have hP : va_P D vwCl (wM A cI v11.2) H := hP
      obtain rfl := Option.some.inj hf
      exact W.iret (v := v11.1) hx hb hr (fun t ht hW => ⟨⟨v11.1, (), rfl, rfl, hPt ht hP⟩, hS.F ht⟩) hS.2.2 dX2_purseFor_38
set_option maxHeartbeats 4000000 in
set_option maxRecDepth 100000 in
theorem c_X2_manyIn (l : Launch) (D : va_G) (cI : ClassId) (A : Nat → Nat) (j1 : Int32) (j2 : Int32) (tt : HS) (out : Int32 × HS) (hf : f_X2_manyIn j1 j2 tt = some out) : uI l D cI yX2_manyIn wsX2_manyIn ({ frames := 9, cells := 0, slots := 0, locals := 204 } : Room) [.ref (A 0), .int j1, .int j2] (wM A cI tt) (wM A cI out.2) out.1 := by
  intro sz
  refine Met.ofW (cc := cX2_manyIn) (maxL := 4) (ret := (some .int)) (by decide) rfl ?_
  intro p e s m args below meth c s₁ Bd hml hv
  obtain ⟨rfl, hsz, hP, hK, hD0, hN⟩ := hv
  have hx := Bd.exec
  have hb := Bd.bytes
  have hr := Bd.returns
  have hts := atoms_spec (ws := wsX2_manyIn) Bd.pre
  have hown : s.vm.findClass RX2 = some m.cls := findClass_of_methodNamed Bd.named
  have hlocks := Bd.notSynchronized
  subst hsz
  have hD := hD0.self (sz := s.heap.size)
  generalize hAe : va_A (wM A cI tt) s.heap.size = G at hD ⊢
  have hA : ∀ q : Nat, s.heap.size ≤ q → G q := fun q h => by rw [← hAe]; exact Or.inr h
  have hS : va_S G s.heap s.heap [] := va_S.rf
  have hP : va_P D vwCl (wM A cI tt) s.heap := hP
  have hl := lv_entry ([.ref (A 0), .int j1, .int j2]) (n := 4) (Nat.le_of_ble_eq_true rfl)
  rw [lg_entry_eq]
  generalize (lg_sl ([.ref (A 0), .int j1, .int j2]) ++ List.replicate (4 - (lg_sl ([.ref (A 0), .int j1, .int j2])).length) Slot.unset).toArray = ls at hl ⊢
  have hl : lv_has ls 4 [(0, .ref (A 0)), (1, .int j1), (2, .int j2)] := hl
  refine W_in ?_
  intro WW hWW
  refine (hWW _ _ _).mpr ?_
  unfold f_X2_manyIn at hf
  refine lv_aload_n hx hb dX2_manyIn_0 rfl (lv_at hl 0 rfl) ?_
  obtain ⟨v1, hev1, hf⟩ := bS hf
  refine qV_v (ws' := (wM A cI v1)) (As := []) (rest := []) ⟨hx, hb, hml, hown, hts⟩ hK hN hA hP hD hS (c_X2_thinks l D cI A tt v1 hev1) (cwV 0 hts gX2_manyIn_X2_thinks rfl rfl rfl hd_X2_thinks ⟨Nat.le_of_ble_eq_true rfl, Nat.le_of_ble_eq_true rfl⟩) (va_recv hK hP (ci := 2) (q0 := 0) rfl rfl) (bp_X2_X2_t_t A cI tt v1) rfl hl.1 rfl (Nat.le_of_ble_eq_true rfl) dX2_manyIn_1 ⟨Nat.le_of_ble_eq_true rfl, Nat.le_of_ble_eq_true rfl⟩ (fun H locs hP hD hS => ?_)
  have hP : va_P D vwCl (wM A cI v1) H := hP
  refine lv_aload_n hx hb dX2_manyIn_4 rfl (lv_at hl 0 rfl) ?_
  refine lv_iload_n hx hb dX2_manyIn_5 rfl (lv_at hl 2 rfl) ?_
  obtain ⟨v2, hev2, hf⟩ := bS hf
  refine qV_v (ws' := (wM A cI v2)) (As := [.int j2]) (rest := []) ⟨hx, hb, hml, hown, hts⟩ hK hN hA hP hD hS (c_X2_goes l D cI A j2 v1 v2 hev2) (cwV 1 hts gX2_manyIn_X2_goes rfl rfl rfl hd_X2_goes ⟨Nat.le_of_ble_eq_true rfl, Nat.le_of_ble_eq_true rfl⟩) (va_recv hK hP (ci := 2) (q0 := 0) rfl rfl) (bp_X2_X2_t_t A cI v1 v2) rfl hl.1 rfl (Nat.le_of_ble_eq_true rfl) dX2_manyIn_6 ⟨Nat.le_of_ble_eq_true rfl, Nat.le_of_ble_eq_true rfl⟩ (fun H locs hP hD hS => ?_)
  have hP : va_P D vwCl (wM A cI v2) H := hP
  refine lv_aload_n hx hb dX2_manyIn_9 rfl (lv_at hl 0 rfl) ?_
  refine lv_iload_n hx hb dX2_manyIn_10 rfl (lv_at hl 1 rfl) ?_
  obtain ⟨v3, hev3, hf⟩ := bS hf
  refine qV_i (As := [.int j1]) (rest := []) ⟨hx, hb, hml, hown, hts⟩ hK hN hA hP hD hS (c_X2_heldBy l D cI A j1 v2 v3 hev3) (cwV 1 hts gX2_manyIn_X2_heldBy rfl rfl rfl hd_X2_heldBy ⟨Nat.le_of_ble_eq_true rfl, Nat.le_of_ble_eq_true rfl⟩) (va_recv hK hP (ci := 2) (q0 := 0) rfl rfl) (bq_X2_X2_t A cI v2) rfl hl.1 rfl (Nat.le_of_ble_eq_true rfl) dX2_manyIn_11 ⟨Nat.le_of_ble_eq_true rfl, Nat.le_of_ble_eq_true rfl⟩ (fun H locs hP hD hS => ?_)
  obtain ⟨v4, hev4, hf⟩ := bS hf
  refine qS_i (As := [.int v3]) (rest := []) ⟨hx, hb, hml, hown, hts⟩ hK hN hA hP hD hS (c_X2_bits l D cI v3 v4 hev4) (va_cwS 1 hts gX2_manyIn_X2_bits rfl rfl rfl hd_X2_bits.2 ⟨Nat.le_of_ble_eq_true rfl, Nat.le_of_ble_eq_true rfl⟩) Bp_e rfl hl.1 rfl (Nat.le_of_ble_eq_true rfl) dX2_manyIn_14 ⟨Nat.le_of_ble_eq_true rfl, Nat.le_of_ble_eq_true rfl⟩ (fun H locs hP hD hS => ?_)
  refine lv_istore_n (lv' := [(3, .int v4), (0, .ref (A 0)), (1, .int j1), (2, .int j2)]) hx hb dX2_manyIn_17 rfl hl (by decide) rfl (fun ls hl => ?_)
  refine lv_aload_n hx hb dX2_manyIn_18 rfl (lv_at hl 1 rfl) ?_
  obtain ⟨v5, hev5, hf⟩ := bS hf
  refine qV_v (ws' := (wM A cI v5)) (As := []) (rest := []) ⟨hx, hb, hml, hown, hts⟩ hK hN hA hP hD hS (c_X2_forgets l D cI A v2 v5 hev5) (cwV 0 hts gX2_manyIn_X2_forgets rfl rfl rfl hd_X2_forgets ⟨Nat.le_of_ble_eq_true rfl, Nat.le_of_ble_eq_true rfl⟩) (va_recv hK hP (ci := 2) (q0 := 0) rfl rfl) (bp_X2_X2_t_t A cI v2 v5) rfl hl.1 rfl (Nat.le_of_ble_eq_true rfl) dX2_manyIn_19 ⟨Nat.le_of_ble_eq_true rfl, Nat.le_of_ble_eq_true rfl⟩ (fun H locs hP hD hS => ?_)
  have hP : va_P D vwCl (wM A cI v5) H := hP
  refine lv_iload_n hx hb dX2_manyIn_22 rfl (lv_at hl 0 rfl) ?_
  obtain rfl := Option.some.inj hf
  exact W.iret (v := v4) hx hb hr (fun t ht hW => ⟨⟨v4, (), rfl, rfl, hPt ht hP⟩, hS.F ht⟩) hS.2.2 dX2_manyIn_23
set_option maxHeartbeats 4000000 in
set_option maxRecDepth 100000 in
theorem c_X2_allOf_10 (l : Launch) (D : va_G) (cI : ClassId) (A : Nat → Nat) (j2 : Int32) (tt : HS) (out : Int32) (hf : f_X2_allOf_10 j2 tt = some out) : uI l D cI yX2_allOf wsX2_allOf ({ frames := 0, cells := 0, slots := 0, locals := 0 } : Room) [.ref (A 0), .ref (A 11), .int j2] (wM A cI tt) (wM A cI tt) out := by
  intro sz
  refine Met.ofW (cc := cX2_allOf) (maxL := 5) (ret := (some .int)) (by decide) rfl ?_
  intro p e s m args below meth c s₁ Bd hml hv
  obtain ⟨rfl, hsz, hP, hK, hD0, hN⟩ := hv
  have hx := Bd.exec
  have hb := Bd.bytes
  have hr := Bd.returns
  have hts := atoms_spec (ws := wsX2_allOf) Bd.pre
  have hown : s.vm.findClass RX2 = some m.cls := findClass_of_methodNamed Bd.named
  have hlocks := Bd.notSynchronized
  subst hsz
  have hD := hD0.self (sz := s.heap.size)
  generalize hAe : va_A (wM A cI tt) s.heap.size = G at hD ⊢
  have hA : ∀ q : Nat, s.heap.size ≤ q → G q := fun q h => by rw [← hAe]; exact Or.inr h
  have hS : va_S G s.heap s.heap [] := va_S.rf
  have hP : va_P D vwCl (wM A cI tt) s.heap := hP
  have hl := lv_entry ([.ref (A 0), .ref (A 11), .int j2]) (n := 5) (Nat.le_of_ble_eq_true rfl)
  rw [lg_entry_eq]
  generalize (lg_sl ([.ref (A 0), .ref (A 11), .int j2]) ++ List.replicate (5 - (lg_sl ([.ref (A 0), .ref (A 11), .int j2])).length) Slot.unset).toArray = ls at hl ⊢
  have hl : lv_has ls 5 [(0, .ref (A 0)), (1, .ref (A 11)), (2, .int j2)] := hl
  refine W_in ?_
  intro WW hWW
  refine (hWW _ _ _).mpr ?_
  unfold f_X2_allOf_10 at hf
  refine lv_iconst (v := (0 : Int32)) hx hb dX2_allOf_0 (by decide) ?_
  refine lv_istore_n (lv' := [(3, .int (0 : Int32)), (0, .ref (A 0)), (1, .ref (A 11)), (2, .int j2)]) hx hb dX2_allOf_1 rfl hl (by decide) rfl (fun ls hl => ?_)
  refine lv_iconst (v := (0 : Int32)) hx hb dX2_allOf_2 (by decide) ?_
  refine lv_istore (lv' := [(4, .int (0 : Int32)), (3, .int (0 : Int32)), (0, .ref (A 0)), (1, .ref (A 11)), (2, .int j2)]) hx hb dX2_allOf_3 hl (by decide) rfl (fun ls hl => ?_)
  obtain ⟨K24, hK24, hf⟩ := jnS hf
  have J24 : ∀ (j3_24 : Int32) (H : Heap) (locs : List Loc) (ls : Array Slot), K24 j3_24 = some out → va_P D vwCl (wM A cI tt) H → va_D G (wM A cI tt) → va_S G s.heap H locs → lv_has ls 5 [(3, .int j3_24)] → WW H locs (F0 m 24 ls []) := by
    intro j3_24 H locs ls hf hP hD hS hl
    subst hK24
    refine (hWW _ _ _).mpr ?_
    refine lv_iload_n hx hb dX2_allOf_24 rfl (lv_at hl 0 rfl) ?_
    obtain rfl := Option.some.inj hf
    exact W.iret (v := j3_24) hx hb hr (fun t ht hW => ⟨⟨j3_24, (), rfl, rfl, hPt ht hP⟩, hS.F ht⟩) hS.2.2 dX2_allOf_25
  have P5 : ∀ (n' : Nat) (j3_5 : Int32) (j4_5 : Int32) (H : Heap) (locs : List Loc) (ls : Array Slot), L_X2_allOf_10_5 j2 tt K24 n' j3_5 j4_5 = some out → va_P D vwCl (wM A cI tt) H → va_D G (wM A cI tt) → va_S G s.heap H locs → lv_has ls 5 [(1, .ref (A 11)), (2, .int j2), (3, .int j3_5), (4, .int j4_5)] → WW H locs (F0 m 5 ls []) := by
    intro n'
    induction n' with
    | zero => intro j3_5 j4_5 H locs ls hf; exact absurd (show (none : Option (Int32)) = some out from hf) (fun q => by cases q)
    | succ n' ih =>
      intro j3_5 j4_5 H locs ls hf hP hD hS hl
      rw [L_X2_allOf_10_5] at hf
      refine (hWW _ _ _).mpr ?_
      refine lv_iload hx hb dX2_allOf_5 (lv_at hl 3 rfl) ?_
      refine lv_iload_n hx hb dX2_allOf_7 rfl (lv_at hl 1 rfl) ?_
      refine lv_icmp_ge (tgt := 24) hx hb dX2_allOf_8 (by decide) (fun c1 => ?_) (fun c1 => ?_)
      · have hf := hT hf c1
        exact (hWW _ _ _).mp (J24 _ _ _ _ hf hP hD hS (lv_sub hl [2] rfl))
      · have hf := hF hf c1
        refine lv_iload_n hx hb dX2_allOf_11 rfl (lv_at hl 2 rfl) ?_
        refine lv_aload_n hx hb dX2_allOf_12 rfl (lv_at hl 0 rfl) ?_
        refine lv_iload hx hb dX2_allOf_13 (lv_at hl 3 rfl) ?_
        obtain ⟨v2, he, hf⟩ := bS hf
        refine x_iald hx hb hK hP 11 (n := 6) rfl he dX2_allOf_15 ?_
        refine lv_iadd hx hb dX2_allOf_16 ?_
        refine lv_istore_n (lv' := [(3, .int (j3_5 + v2)), (1, .ref (A 11)), (2, .int j2), (4, .int j4_5)]) hx hb dX2_allOf_17 rfl hl (by decide) rfl (fun ls hl => ?_)
        refine lv_iinc (v := (j4_5 + (1 : Int32))) (lv' := [(4, .int (j4_5 + (1 : Int32))), (3, .int (j3_5 + v2)), (1, .ref (A 11)), (2, .int j2)]) hx hb dX2_allOf_18 hl (k := 3) rfl rfl (by decide) rfl (fun ls hl => ?_)
        refine lv_goto (tgt := 5) hx hb dX2_allOf_21 (by decide) ?_
        exact (hWW _ _ _).mp (ih _ _ _ _ _ hf hP hD hS (lv_sub hl [2, 3, 1, 0] rfl))
  exact (hWW _ _ _).mp (P5 _ _ _ _ _ _ hf hP hD hS (lv_sub hl [3, 4, 1, 0] rfl))
