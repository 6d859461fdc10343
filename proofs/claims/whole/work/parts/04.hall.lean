theorem hd_J6_bitCount_0f7a4 : yJ6_bitCount_0f7a4.cls = RJ6 ∧ yJ6_bitCount_0f7a4.cls ≠ "java/lang/invoke/MethodHandle" ∧ yJ6_bitCount_0f7a4.cls ≠ "java/lang/invoke/VarHandle" ∧ (parseMethodDescriptor yJ6_bitCount_0f7a4.desc).map (fun d => d.parameters.length) = some 1 := by decide +kernel
theorem hd_X0_auction : yX0_auction.cls = RX0 ∧ yX0_auction.cls ≠ "java/lang/invoke/MethodHandle" ∧ yX0_auction.cls ≠ "java/lang/invoke/VarHandle" ∧ (parseMethodDescriptor yX0_auction.desc).map (fun d => d.parameters.length) = some 1 := by decide +kernel
theorem hd_X0_closeMonth : yX0_closeMonth.cls = RX0 ∧ yX0_closeMonth.cls ≠ "java/lang/invoke/MethodHandle" ∧ yX0_closeMonth.cls ≠ "java/lang/invoke/VarHandle" ∧ (parseMethodDescriptor yX0_closeMonth.desc).map (fun d => d.parameters.length) = some 0 := by decide +kernel
theorem hd_X0_deal : yX0_deal.cls = RX0 ∧ yX0_deal.cls ≠ "java/lang/invoke/MethodHandle" ∧ yX0_deal.cls ≠ "java/lang/invoke/VarHandle" ∧ (parseMethodDescriptor yX0_deal.desc).map (fun d => d.parameters.length) = some 2 := by decide +kernel
theorem hd_X0_hasBidder : yX0_hasBidder.cls = RX0 ∧ yX0_hasBidder.cls ≠ "java/lang/invoke/MethodHandle" ∧ yX0_hasBidder.cls ≠ "java/lang/invoke/VarHandle" ∧ (parseMethodDescriptor yX0_hasBidder.desc).map (fun d => d.parameters.length) = some 1 := by decide +kernel
theorem hd_X0_hasCard : yX0_hasCard.cls = RX0 ∧ yX0_hasCard.cls ≠ "java/lang/invoke/MethodHandle" ∧ yX0_hasCard.cls ≠ "java/lang/invoke/VarHandle" ∧ (parseMethodDescriptor yX0_hasCard.desc).map (fun d => d.parameters.length) = some 1 := by decide +kernel
theorem hd_X0_heldBits : yX0_heldBits.cls = RX0 ∧ yX0_heldBits.cls ≠ "java/lang/invoke/MethodHandle" ∧ yX0_heldBits.cls ≠ "java/lang/invoke/VarHandle" ∧ (parseMethodDescriptor yX0_heldBits.desc).map (fun d => d.parameters.length) = some 1 := by decide +kernel
theorem hd_X0_inPile : yX0_inPile.cls = RX0 ∧ yX0_inPile.cls ≠ "java/lang/invoke/MethodHandle" ∧ yX0_inPile.cls ≠ "java/lang/invoke/VarHandle" ∧ (parseMethodDescriptor yX0_inPile.desc).map (fun d => d.parameters.length) = some 1 := by decide +kernel
theorem hd_X0_most : yX0_most.cls = RX0 ∧ yX0_most.cls ≠ "java/lang/invoke/MethodHandle" ∧ yX0_most.cls ≠ "java/lang/invoke/VarHandle" ∧ (parseMethodDescriptor yX0_most.desc).map (fun d => d.parameters.length) = some 3 := by decide +kernel
theorem hd_X0_pileBits : yX0_pileBits.cls = RX0 ∧ yX0_pileBits.cls ≠ "java/lang/invoke/MethodHandle" ∧ yX0_pileBits.cls ≠ "java/lang/invoke/VarHandle" ∧ (parseMethodDescriptor yX0_pileBits.desc).map (fun d => d.parameters.length) = some 0 := by decide +kernel
theorem hd_X0_placeOf : yX0_placeOf.cls = RX0 ∧ yX0_placeOf.cls ≠ "java/lang/invoke/MethodHandle" ∧ yX0_placeOf.cls ≠ "java/lang/invoke/VarHandle" ∧ (parseMethodDescriptor yX0_placeOf.desc).map (fun d => d.parameters.length) = some 1 := by decide +kernel
theorem hd_X0_worth : yX0_worth.cls = RX0 ∧ yX0_worth.cls ≠ "java/lang/invoke/MethodHandle" ∧ yX0_worth.cls ≠ "java/lang/invoke/VarHandle" ∧ (parseMethodDescriptor yX0_worth.desc).map (fun d => d.parameters.length) = some 1 := by decide +kernel
theorem hd_X1_at : yX1_at.cls = RX1 ∧ yX1_at.cls ≠ "java/lang/invoke/MethodHandle" ∧ yX1_at.cls ≠ "java/lang/invoke/VarHandle" ∧ (parseMethodDescriptor yX1_at.desc).map (fun d => d.parameters.length) = some 2 := by decide +kernel
theorem hd_X1_copyRow : yX1_copyRow.cls = RX1 ∧ yX1_copyRow.cls ≠ "java/lang/invoke/MethodHandle" ∧ yX1_copyRow.cls ≠ "java/lang/invoke/VarHandle" ∧ (parseMethodDescriptor yX1_copyRow.desc).map (fun d => d.parameters.length) = some 2 := by decide +kernel
theorem hd_X1_put : yX1_put.cls = RX1 ∧ yX1_put.cls ≠ "java/lang/invoke/MethodHandle" ∧ yX1_put.cls ≠ "java/lang/invoke/VarHandle" ∧ (parseMethodDescriptor yX1_put.desc).map (fun d => d.parameters.length) = some 3 := by decide +kernel
set_option maxHeartbeats 4000000 in
set_option maxRecDepth 100000 in
theorem c_X0_worth (l : Launch) (D : va_G) (cI : ClassId) (A : Nat → Nat) (j1 : Int32) (hh : HS) (out : Int32) (hf : f_X0_worth j1 hh = out) : uI l D cI yX0_worth wsX0_worth ({ frames := 1, cells := 0, slots := 0, locals := 21 } : Room) [.ref (A 0), .int j1] (wH A cI hh) (wH A cI hh) out := by
  intro sz
  refine Met.ofW (cc := cX0_worth) (maxL := 4) (ret := (some .int)) (by decide) rfl ?_
  intro p e s m args below meth c s₁ Bd hml hv
  obtain ⟨rfl, hsz, hP, hK, hD0, hN⟩ := hv
  have hx := Bd.exec
  have hb := Bd.bytes
  have hr := Bd.returns
  have hts := atoms_spec (ws := wsX0_worth) Bd.pre
  have hown : s.vm.findClass RX0 = some m.cls := findClass_of_methodNamed Bd.named
  have hlocks := Bd.notSynchronized
  subst hsz
  have hD := hD0.self (sz := s.heap.size)
  generalize hAe : va_A (wH A cI hh) s.heap.size = G at hD ⊢
  have hA : ∀ q : Nat, s.heap.size ≤ q → G q := fun q h => by rw [← hAe]; exact Or.inr h
  have hS : va_S G s.heap s.heap [] := va_S.rf
  have hP : va_P D vwCl (wH A cI hh) s.heap := hP
  have hl := lv_entry ([.ref (A 0), .int j1]) (n := 4) (Nat.le_of_ble_eq_true rfl)
  rw [lg_entry_eq]
  generalize (lg_sl ([.ref (A 0), .int j1]) ++ List.replicate (4 - (lg_sl ([.ref (A 0), .int j1])).length) Slot.unset).toArray = ls at hl ⊢
  have hl : lv_has ls 4 [(0, .ref (A 0)), (1, .int j1)] := hl
  have hinH : ∀ w ∈ wsX00, w ∈ wsX0_worth := by decide +kernel
  have lk0 := hts (.fieldLink RX0 15 "LiesBoughtBack$Hall" "cardFigure" "[I") (by decide +kernel)
  have lk1 := hts (.initialized RX1) (by decide +kernel)
  have lk2 := hts (.static yX1_at) (by decide +kernel)
  have lk3 := hts (.fieldLink RX0 21 "LiesBoughtBack$Hall" "age" "[I") (by decide +kernel)
  have lk4 := hts (.methodLink RX0 75 Lib.Math.max.name) (by decide +kernel)
  have lk5 := hts (.static Lib.Math.max.name) (by decide +kernel)
  have lk6 := hts (.initialized "java/lang/Math") (by decide +kernel)
  have lk7 := hts (.code Lib.Math.max.name Lib.Math.max.code 2 (some .int)) (by decide +kernel)
  have lk8 := hts (.fieldLink RX0 9 "LiesBoughtBack$Hall" "cardKind" "[I") (by decide +kernel)
  refine W_in ?_
  intro WW hWW
  refine (hWW _ _ _).mpr ?_
  unfold f_X0_worth at hf
  refine lv_aload_n hx hb dX0_worth_0 rfl (lv_at hl 0 rfl) ?_
  refine va_get (D := D) (ci := 0) (v := .ref (A 2)) (C := RX0) (T := TX0) (N := 13) hx hb hts hinH hown hK hP 0 rfl rfl 4 (by decide) lk0 (fun _ h9 => h9) rfl dX0_worth_1 ?_
  refine lv_iload_n hx hb dX0_worth_4 rfl (lv_at hl 1 rfl) ?_
  refine rSN_io (As := [.ref (A 2), .int j1]) (rest := []) ⟨hx, hb, hml, hown, hts⟩ hK hN hA hP hD hS (c_X1_at l D cI 8 (by decide) (A 2) (hh 1) j1) ⟨va_cnB 2 hts gX0_worth_X1_at_n60 rfl rfl rfl (nW.m hN 8 rfl) lk1 hd_X1_at.2 ⟨Nat.le_of_ble_eq_true rfl, Nat.le_of_ble_eq_true rfl⟩, lk2, trivial⟩ [2] (by decide) rfl rfl hl.1 rfl (Nat.le_of_ble_eq_true rfl) dX0_worth_5 ⟨Nat.le_of_ble_eq_true rfl, Nat.le_of_ble_eq_true rfl⟩ (fun H locs hP hD hS => ?_)
  refine lv_iconst (v := (3 : Int32)) hx hb dX0_worth_8 (by decide) ?_
  refine lv_iadd hx hb dX0_worth_9 ?_
  refine lv_istore_n (lv' := [(2, .int ((atv 8 (hh 1) j1) + (3 : Int32))), (0, .ref (A 0)), (1, .int j1)]) hx hb dX0_worth_10 rfl hl (by decide) rfl (fun ls hl => ?_)
  refine lv_iconst (v := (0 : Int32)) hx hb dX0_worth_11 (by decide) ?_
  refine lv_iload_n hx hb dX0_worth_12 rfl (lv_at hl 0 rfl) ?_
  refine lv_aload_n hx hb dX0_worth_13 rfl (lv_at hl 1 rfl) ?_
  refine va_get (D := D) (ci := 0) (v := .ref (A 4)) (C := RX0) (T := TX0) (N := 13) hx hb hts hinH hown hK hP 0 rfl rfl 6 (by decide) lk3 (fun _ h9 => h9) rfl dX0_worth_14 ?_
  refine lv_iload_n hx hb dX0_worth_17 rfl (lv_at hl 2 rfl) ?_
  refine rSN_io (As := [.ref (A 4), .int j1]) (rest := [.int ((atv 8 (hh 1) j1) + (3 : Int32)), .int (0 : Int32)]) ⟨hx, hb, hml, hown, hts⟩ hK hN hA hP hD hS (c_X1_at l D cI 8 (by decide) (A 4) (hh 3) j1) ⟨va_cnB 2 hts gX0_worth_X1_at_n60 rfl rfl rfl (nW.m hN 8 rfl) lk1 hd_X1_at.2 ⟨Nat.le_of_ble_eq_true rfl, Nat.le_of_ble_eq_true rfl⟩, lk2, trivial⟩ [4] (by decide) rfl rfl hl.1 rfl (Nat.le_of_ble_eq_true rfl) dX0_worth_18 ⟨Nat.le_of_ble_eq_true rfl, Nat.le_of_ble_eq_true rfl⟩ (fun H locs hP hD hS => ?_)
  refine lv_iconst (v := (3 : Int32)) hx hb dX0_worth_21 (by decide) ?_
  refine lv_idiv hx hb dX0_worth_22 (by decide) ?_
  refine lv_isub hx hb dX0_worth_23 ?_
  refine va_mmax hx hb (hml.trans hl.1.symm) hown lk4 lk5 lk6 lk7 (Nat.le_of_ble_eq_true rfl) (Nat.le_of_ble_eq_true rfl) (Nat.le_of_ble_eq_true rfl) (Nat.le_of_ble_eq_true rfl) dX0_worth_24 ?_
  refine lv_istore_n (lv' := [(3, .int (mx (0 : Int32) (((atv 8 (hh 1) j1) + (3 : Int32)) - ((atv 8 (hh 3) j1) / (3 : Int32))))), (2, .int ((atv 8 (hh 1) j1) + (3 : Int32))), (0, .ref (A 0)), (1, .int j1)]) hx hb dX0_worth_27 rfl hl (by decide) rfl (fun ls hl => ?_)
  refine lv_aload_n hx hb dX0_worth_28 rfl (lv_at hl 2 rfl) ?_
  refine va_get (D := D) (ci := 0) (v := .ref (A 1)) (C := RX0) (T := TX0) (N := 13) hx hb hts hinH hown hK hP 0 rfl rfl 3 (by decide) lk8 (fun _ h9 => h9) rfl dX0_worth_29 ?_
  refine lv_iload_n hx hb dX0_worth_32 rfl (lv_at hl 3 rfl) ?_
  refine rSN_io (As := [.ref (A 1), .int j1]) (rest := []) ⟨hx, hb, hml, hown, hts⟩ hK hN hA hP hD hS (c_X1_at l D cI 8 (by decide) (A 1) (hh 0) j1) ⟨va_cnB 2 hts gX0_worth_X1_at_n60 rfl rfl rfl (nW.m hN 8 rfl) lk1 hd_X1_at.2 ⟨Nat.le_of_ble_eq_true rfl, Nat.le_of_ble_eq_true rfl⟩, lk2, trivial⟩ [1] (by decide) rfl rfl hl.1 rfl (Nat.le_of_ble_eq_true rfl) dX0_worth_33 ⟨Nat.le_of_ble_eq_true rfl, Nat.le_of_ble_eq_true rfl⟩ (fun H locs hP hD hS => ?_)
  by_cases c1 : (atv 8 (hh 0) j1) = (1 : Int32)
  · have hf := hT hf c1
    refine sw_in (v := 1) (off := 36) (tgt := 72) hx hb dX0_worth_36 ((congrArg Int32.toInt c1).trans (by decide)) (by decide) (by decide) (by decide) (by decide) ?_
    refine lv_iload_n hx hb dX0_worth_72 rfl (lv_at hl 1 rfl) ?_
    refine lv_iconst (v := (2 : Int32)) hx hb dX0_worth_73 (by decide) ?_
    refine lv_idiv hx hb dX0_worth_74 (by decide) ?_
    subst hf
    exact W.iret (v := (((atv 8 (hh 1) j1) + (3 : Int32)) / (2 : Int32))) hx hb hr (fun t ht hW => ⟨⟨(((atv 8 (hh 1) j1) + (3 : Int32)) / (2 : Int32)), (), rfl, rfl, hPt ht hP⟩, hS.F ht⟩) hS.2.2 dX0_worth_75
  have hf := hF hf c1
  by_cases c2 : (atv 8 (hh 0) j1) = (2 : Int32)
  · have hf := hT hf c2
    refine sw_in (v := 2) (off := 40) (tgt := 76) hx hb dX0_worth_36 ((congrArg Int32.toInt c2).trans (by decide)) (by decide) (by decide) (by decide) (by decide) ?_
    refine lv_iconst (v := (4 : Int32)) hx hb dX0_worth_76 (by decide) ?_
    refine lv_iload_n hx hb dX0_worth_77 rfl (lv_at hl 1 rfl) ?_
    refine lv_imul hx hb dX0_worth_78 ?_
    subst hf
    exact W.iret (v := ((4 : Int32) * ((atv 8 (hh 1) j1) + (3 : Int32)))) hx hb hr (fun t ht hW => ⟨⟨((4 : Int32) * ((atv 8 (hh 1) j1) + (3 : Int32))), (), rfl, rfl, hPt ht hP⟩, hS.F ht⟩) hS.2.2 dX0_worth_79
  have hf := hF hf c2
  by_cases c3 : (atv 8 (hh 0) j1) = (3 : Int32)
  · have hf := hT hf c3
    refine sw_in (v := 3) (off := 44) (tgt := 80) hx hb dX0_worth_36 ((congrArg Int32.toInt c3).trans (by decide)) (by decide) (by decide) (by decide) (by decide) ?_
    refine lv_iload_n hx hb dX0_worth_80 rfl (lv_at hl 0 rfl) ?_
    subst hf
    exact W.iret (v := (mx (0 : Int32) (((atv 8 (hh 1) j1) + (3 : Int32)) - ((atv 8 (hh 3) j1) / (3 : Int32))))) hx hb hr (fun t ht hW => ⟨⟨(mx (0 : Int32) (((atv 8 (hh 1) j1) + (3 : Int32)) - ((atv 8 (hh 3) j1) / (3 : Int32)))), (), rfl, rfl, hPt ht hP⟩, hS.F ht⟩) hS.2.2 dX0_worth_81
  have hf := hF hf c3
  by_cases c4 : (atv 8 (hh 0) j1) = (4 : Int32)
  · have hf := hT hf c4
    refine sw_in (v := 4) (off := 46) (tgt := 82) hx hb dX0_worth_36 ((congrArg Int32.toInt c4).trans (by decide)) (by decide) (by decide) (by decide) (by decide) ?_
    refine lv_iconst (v := (0 : Int32)) hx hb dX0_worth_82 (by decide) ?_
    subst hf
    exact W.iret (v := (0 : Int32)) hx hb hr (fun t ht hW => ⟨⟨(0 : Int32), (), rfl, rfl, hPt ht hP⟩, hS.F ht⟩) hS.2.2 dX0_worth_83
  have hf := hF hf c4
  by_cases c5 : (atv 8 (hh 0) j1) = (5 : Int32)
  · have hf := hT hf c5
    refine sw_in (v := 5) (off := 48) (tgt := 84) hx hb dX0_worth_36 ((congrArg Int32.toInt c5).trans (by decide)) (by decide) (by decide) (by decide) (by decide) ?_
    refine lv_iload_n hx hb dX0_worth_84 rfl (lv_at hl 0 rfl) ?_
    refine lv_iconst (v := (2 : Int32)) hx hb dX0_worth_85 (by decide) ?_
    refine lv_idiv hx hb dX0_worth_86 (by decide) ?_
    subst hf
    exact W.iret (v := ((mx (0 : Int32) (((atv 8 (hh 1) j1) + (3 : Int32)) - ((atv 8 (hh 3) j1) / (3 : Int32)))) / (2 : Int32))) hx hb hr (fun t ht hW => ⟨⟨((mx (0 : Int32) (((atv 8 (hh 1) j1) + (3 : Int32)) - ((atv 8 (hh 3) j1) / (3 : Int32)))) / (2 : Int32)), (), rfl, rfl, hPt ht hP⟩, hS.F ht⟩) hS.2.2 dX0_worth_87
  have hf := hF hf c5
  refine lv_tableOut (tgt := 88) hx hb dX0_worth_36 (by have z0 := lv_neT (a := 1) c1 (by decide); have z1 := lv_neT (a := 2) c2 (by decide); have z2 := lv_neT (a := 3) c3 (by decide); have z3 := lv_neT (a := 4) c4 (by decide); have z4 := lv_neT (a := 5) c5 (by decide); omega) (by decide) ?_
  refine lv_iload_n hx hb dX0_worth_88 rfl (lv_at hl 1 rfl) ?_
  subst hf
  exact W.iret (v := ((atv 8 (hh 1) j1) + (3 : Int32))) hx hb hr (fun t ht hW => ⟨⟨((atv 8 (hh 1) j1) + (3 : Int32)), (), rfl, rfl, hPt ht hP⟩, hS.F ht⟩) hS.2.2 dX0_worth_89
set_option maxHeartbeats 4000000 in
set_option maxRecDepth 100000 in
theorem c_X0_hasCard (l : Launch) (D : va_G) (cI : ClassId) (A : Nat → Nat) (j1 : Int32) (hh : HS) (out : Int32) (hf : f_X0_hasCard j1 hh = out) : uI l D cI yX0_hasCard wsX0_hasCard ({ frames := 0, cells := 0, slots := 0, locals := 0 } : Room) [.ref (A 0), .int j1] (wH A cI hh) (wH A cI hh) out := by
  intro sz
  refine Met.ofW (cc := cX0_hasCard) (maxL := 2) (ret := (some .boolean)) (by decide) rfl ?_
  intro p e s m args below meth c s₁ Bd hml hv
  obtain ⟨rfl, hsz, hP, hK, hD0, hN⟩ := hv
  have hx := Bd.exec
  have hb := Bd.bytes
  have hr := Bd.returns
  have hts := atoms_spec (ws := wsX0_hasCard) Bd.pre
  have hown : s.vm.findClass RX0 = some m.cls := findClass_of_methodNamed Bd.named
  have hlocks := Bd.notSynchronized
  subst hsz
  have hD := hD0.self (sz := s.heap.size)
  generalize hAe : va_A (wH A cI hh) s.heap.size = G at hD ⊢
  have hA : ∀ q : Nat, s.heap.size ≤ q → G q := fun q h => by rw [← hAe]; exact Or.inr h
  have hS : va_S G s.heap s.heap [] := va_S.rf
  have hP : va_P D vwCl (wH A cI hh) s.heap := hP
  have hl := lv_entry ([.ref (A 0), .int j1]) (n := 2) (Nat.le_of_ble_eq_true rfl)
  rw [lg_entry_eq]
  generalize (lg_sl ([.ref (A 0), .int j1]) ++ List.replicate (2 - (lg_sl ([.ref (A 0), .int j1])).length) Slot.unset).toArray = ls at hl ⊢
  have hl : lv_has ls 2 [(0, .ref (A 0)), (1, .int j1)] := hl
  have hinH : ∀ w ∈ wsX00, w ∈ wsX0_hasCard := by decide +kernel
  have lk0 := hts (.fieldLink RX0 42 "LiesBoughtBack$Hall" "cards" "I") (by decide +kernel)
  refine W_in ?_
  intro WW hWW
  refine (hWW _ _ _).mpr ?_
  unfold f_X0_hasCard at hf
  refine lv_iload_n hx hb dX0_hasCard_0 rfl (lv_at hl 1 rfl) ?_
  refine lv_if_lt (tgt := 16) hx hb dX0_hasCard_1 (by decide) (fun c1 => ?_) (fun c1 => ?_)
  · have hf := hT hf c1
    refine lv_iconst (v := (0 : Int32)) hx hb dX0_hasCard_16 (by decide) ?_
    subst hf
    exact W.zret (ty := .boolean) (v := (0 : Int32)) hx hb hr rfl (fun t ht hW => ⟨⟨(0 : Int32), (), rfl, rfl, hPt ht hP⟩, hS.F ht⟩) hS.2.2 dX0_hasCard_17
  · have hf := hF hf c1
    refine lv_iload_n hx hb dX0_hasCard_4 rfl (lv_at hl 1 rfl) ?_
    refine lv_aload_n hx hb dX0_hasCard_5 rfl (lv_at hl 0 rfl) ?_
    refine va_get (D := D) (ci := 0) (v := .int (hh 10 0)) (C := RX0) (T := TX0) (N := 13) hx hb hts hinH hown hK hP 0 rfl rfl 0 (by decide) lk0 (fun _ h9 => h9) rfl dX0_hasCard_6 ?_
    refine lv_icmp_ge (tgt := 16) hx hb dX0_hasCard_9 (by decide) (fun c2 => ?_) (fun c2 => ?_)
    · have hf := hT hf c2
      refine lv_iconst (v := (0 : Int32)) hx hb dX0_hasCard_16 (by decide) ?_
      subst hf
      exact W.zret (ty := .boolean) (v := (0 : Int32)) hx hb hr rfl (fun t ht hW => ⟨⟨(0 : Int32), (), rfl, rfl, hPt ht hP⟩, hS.F ht⟩) hS.2.2 dX0_hasCard_17
    · have hf := hF hf c2
      refine lv_iconst (v := (1 : Int32)) hx hb dX0_hasCard_12 (by decide) ?_
      refine lv_goto (tgt := 17) hx hb dX0_hasCard_13 (by decide) ?_
      subst hf
      exact W.zret (ty := .boolean) (v := (1 : Int32)) hx hb hr rfl (fun t ht hW => ⟨⟨(1 : Int32), (), rfl, rfl, hPt ht hP⟩, hS.F ht⟩) hS.2.2 dX0_hasCard_17
set_option maxHeartbeats 4000000 in
set_option maxRecDepth 100000 in
theorem c_X0_hasBidder (l : Launch) (D : va_G) (cI : ClassId) (A : Nat → Nat) (j1 : Int32) (hh : HS) (out : Int32) (hf : f_X0_hasBidder j1 hh = out) : uI l D cI yX0_hasBidder wsX0_hasBidder ({ frames := 0, cells := 0, slots := 0, locals := 0 } : Room) [.ref (A 0), .int j1] (wH A cI hh) (wH A cI hh) out := by
  intro sz
  refine Met.ofW (cc := cX0_hasBidder) (maxL := 2) (ret := (some .boolean)) (by decide) rfl ?_
  intro p e s m args below meth c s₁ Bd hml hv
  obtain ⟨rfl, hsz, hP, hK, hD0, hN⟩ := hv
  have hx := Bd.exec
  have hb := Bd.bytes
  have hr := Bd.returns
  have hts := atoms_spec (ws := wsX0_hasBidder) Bd.pre
  have hown : s.vm.findClass RX0 = some m.cls := findClass_of_methodNamed Bd.named
  have hlocks := Bd.notSynchronized
  subst hsz
  have hD := hD0.self (sz := s.heap.size)
  generalize hAe : va_A (wH A cI hh) s.heap.size = G at hD ⊢
  have hA : ∀ q : Nat, s.heap.size ≤ q → G q := fun q h => by rw [← hAe]; exact Or.inr h
  have hS : va_S G s.heap s.heap [] := va_S.rf
  have hP : va_P D vwCl (wH A cI hh) s.heap := hP
  have hl := lv_entry ([.ref (A 0), .int j1]) (n := 2) (Nat.le_of_ble_eq_true rfl)
  rw [lg_entry_eq]
  generalize (lg_sl ([.ref (A 0), .int j1]) ++ List.replicate (2 - (lg_sl ([.ref (A 0), .int j1])).length) Slot.unset).toArray = ls at hl ⊢
  have hl : lv_has ls 2 [(0, .ref (A 0)), (1, .int j1)] := hl
  have hinH : ∀ w ∈ wsX00, w ∈ wsX0_hasBidder := by decide +kernel
  have lk0 := hts (.fieldLink RX0 46 "LiesBoughtBack$Hall" "bidders" "I") (by decide +kernel)
  refine W_in ?_
  intro WW hWW
  refine (hWW _ _ _).mpr ?_
  unfold f_X0_hasBidder at hf
  refine lv_iload_n hx hb dX0_hasBidder_0 rfl (lv_at hl 1 rfl) ?_
  refine lv_if_lt (tgt := 16) hx hb dX0_hasBidder_1 (by decide) (fun c1 => ?_) (fun c1 => ?_)
  · have hf := hT hf c1
    refine lv_iconst (v := (0 : Int32)) hx hb dX0_hasBidder_16 (by decide) ?_
    subst hf
    exact W.zret (ty := .boolean) (v := (0 : Int32)) hx hb hr rfl (fun t ht hW => ⟨⟨(0 : Int32), (), rfl, rfl, hPt ht hP⟩, hS.F ht⟩) hS.2.2 dX0_hasBidder_17
  · have hf := hF hf c1
    refine lv_iload_n hx hb dX0_hasBidder_4 rfl (lv_at hl 1 rfl) ?_
    refine lv_aload_n hx hb dX0_hasBidder_5 rfl (lv_at hl 0 rfl) ?_
    refine va_get (D := D) (ci := 0) (v := .int (hh 11 0)) (C := RX0) (T := TX0) (N := 13) hx hb hts hinH hown hK hP 0 rfl rfl 1 (by decide) lk0 (fun _ h9 => h9) rfl dX0_hasBidder_6 ?_
    refine lv_icmp_ge (tgt := 16) hx hb dX0_hasBidder_9 (by decide) (fun c2 => ?_) (fun c2 => ?_)
    · have hf := hT hf c2
      refine lv_iconst (v := (0 : Int32)) hx hb dX0_hasBidder_16 (by decide) ?_
      subst hf
      exact W.zret (ty := .boolean) (v := (0 : Int32)) hx hb hr rfl (fun t ht hW => ⟨⟨(0 : Int32), (), rfl, rfl, hPt ht hP⟩, hS.F ht⟩) hS.2.2 dX0_hasBidder_17
    · have hf := hF hf c2
      refine lv_iconst (v := (1 : Int32)) hx hb dX0_hasBidder_12 (by decide) ?_
      refine lv_goto (tgt := 17) hx hb dX0_hasBidder_13 (by decide) ?_
      subst hf
      exact W.zret (ty := .boolean) (v := (1 : Int32)) hx hb hr rfl (fun t ht hW => ⟨⟨(1 : Int32), (), rfl, rfl, hPt ht hP⟩, hS.F ht⟩) hS.2.2 dX0_hasBidder_17
set_option maxHeartbeats 4000000 in
set_option maxRecDepth 100000 in
theorem c_X0_inPile (l : Launch) (D : va_G) (cI : ClassId) (A : Nat → Nat) (j1 : Int32) (hh : HS) (out : Int32) (hf : f_X0_inPile j1 hh = out) : uI l D cI yX0_inPile wsX0_inPile ({ frames := 1, cells := 0, slots := 0, locals := 21 } : Room) [.ref (A 0), .int j1] (wH A cI hh) (wH A cI hh) out := by
  intro sz
  refine Met.ofW (cc := cX0_inPile) (maxL := 2) (ret := (some .boolean)) (by decide) rfl ?_
  intro p e s m args below meth c s₁ Bd hml hv
  obtain ⟨rfl, hsz, hP, hK, hD0, hN⟩ := hv
  have hx := Bd.exec
  have hb := Bd.bytes
  have hr := Bd.returns
  have hts := atoms_spec (ws := wsX0_inPile) Bd.pre
  have hown : s.vm.findClass RX0 = some m.cls := findClass_of_methodNamed Bd.named
  have hlocks := Bd.notSynchronized
  subst hsz
  have hD := hD0.self (sz := s.heap.size)
  generalize hAe : va_A (wH A cI hh) s.heap.size = G at hD ⊢
  have hA : ∀ q : Nat, s.heap.size ≤ q → G q := fun q h => by rw [← hAe]; exact Or.inr h
  have hS : va_S G s.heap s.heap [] := va_S.rf
  have hP : va_P D vwCl (wH A cI hh) s.heap := hP
  have hl := lv_entry ([.ref (A 0), .int j1]) (n := 2) (Nat.le_of_ble_eq_true rfl)
  rw [lg_entry_eq]
  generalize (lg_sl ([.ref (A 0), .int j1]) ++ List.replicate (2 - (lg_sl ([.ref (A 0), .int j1])).length) Slot.unset).toArray = ls at hl ⊢
  have hl : lv_has ls 2 [(0, .ref (A 0)), (1, .int j1)] := hl
  have hinH : ∀ w ∈ wsX00, w ∈ wsX0_inPile := by decide +kernel
  have lk0 := hts (.fieldLink RX0 24 "LiesBoughtBack$Hall" "holder" "[I") (by decide +kernel)
  have lk1 := hts (.initialized RX1) (by decide +kernel)
  have lk2 := hts (.static yX1_at) (by decide +kernel)
  refine W_in ?_
  intro WW hWW
  refine (hWW _ _ _).mpr ?_
  unfold f_X0_inPile at hf
  refine lv_aload_n hx hb dX0_inPile_0 rfl (lv_at hl 0 rfl) ?_
  refine lv_iload_n hx hb dX0_inPile_1 rfl (lv_at hl 1 rfl) ?_
  refine rV_io (As := [.int j1]) (rest := []) ⟨hx, hb, hml, hown, hts⟩ hK hN hA hP hD hS (c_X0_hasCard l D cI A j1 hh (f_X0_hasCard j1 hh) rfl) (cwV 1 hts gX0_inPile_X0_hasCard rfl rfl rfl hd_X0_hasCard ⟨Nat.le_of_ble_eq_true rfl, Nat.le_of_ble_eq_true rfl⟩) (va_recv hK hP (ci := 0) (q0 := 0) rfl rfl) [0, 1, 2, 3, 4, 5, 6, 7, 8, 9, 10] (by decide) rfl rfl hl.1 rfl (Nat.le_of_ble_eq_true rfl) dX0_inPile_2 ⟨Nat.le_of_ble_eq_true rfl, Nat.le_of_ble_eq_true rfl⟩ (fun H locs hP hD hS => ?_)
  refine lv_if_eq (tgt := 23) hx hb dX0_inPile_5 (by decide) (fun c1 => ?_) (fun c1 => ?_)
  · have hf := hT hf c1
    refine lv_iconst (v := (0 : Int32)) hx hb dX0_inPile_23 (by decide) ?_
    subst hf
    exact W.zret (ty := .boolean) (v := (0 : Int32)) hx hb hr rfl (fun t ht hW => ⟨⟨(0 : Int32), (), rfl, rfl, hPt ht hP⟩, hS.F ht⟩) hS.2.2 dX0_inPile_24
  · have hf := hF hf c1
    refine lv_aload_n hx hb dX0_inPile_8 rfl (lv_at hl 0 rfl) ?_
    refine va_get (D := D) (ci := 0) (v := .ref (A 5)) (C := RX0) (T := TX0) (N := 13) hx hb hts hinH hown hK hP 0 rfl rfl 7 (by decide) lk0 (fun _ h9 => h9) rfl dX0_inPile_9 ?_
    refine lv_iload_n hx hb dX0_inPile_12 rfl (lv_at hl 1 rfl) ?_
    refine rSN_io (As := [.ref (A 5), .int j1]) (rest := []) ⟨hx, hb, hml, hown, hts⟩ hK hN hA hP hD hS (c_X1_at l D cI 8 (by decide) (A 5) (hh 4) j1) ⟨va_cnB 2 hts gX0_inPile_X1_at_n60 rfl rfl rfl (nW.m hN 8 rfl) lk1 hd_X1_at.2 ⟨Nat.le_of_ble_eq_true rfl, Nat.le_of_ble_eq_true rfl⟩, lk2, trivial⟩ [5] (by decide) rfl rfl hl.1 rfl (Nat.le_of_ble_eq_true rfl) dX0_inPile_13 ⟨Nat.le_of_ble_eq_true rfl, Nat.le_of_ble_eq_true rfl⟩ (fun H locs hP hD hS => ?_)
    refine lv_if_ge (tgt := 23) hx hb dX0_inPile_16 (by decide) (fun c2 => ?_) (fun c2 => ?_)
    · have hf := hT hf c2
      refine lv_iconst (v := (0 : Int32)) hx hb dX0_inPile_23 (by decide) ?_
      subst hf
      exact W.zret (ty := .boolean) (v := (0 : Int32)) hx hb hr rfl (fun t ht hW => ⟨⟨(0 : Int32), (), rfl, rfl, hPt ht hP⟩, hS.F ht⟩) hS.2.2 dX0_inPile_24
    · have hf := hF hf c2
      refine lv_iconst (v := (1 : Int32)) hx hb dX0_inPile_19 (by decide) ?_
      refine lv_goto (tgt := 24) hx hb dX0_inPile_20 (by decide) ?_
      subst hf
      exact W.zret (ty := .boolean) (v := (1 : Int32)) hx hb hr rfl (fun t ht hW => ⟨⟨(1 : Int32), (), rfl, rfl, hPt ht hP⟩, hS.F ht⟩) hS.2.2 dX0_inPile_24
set_option maxHeartbeats 4000000 in
set_option maxRecDepth 100000 in
theorem c_X0_placeOf (l : Launch) (D : va_G) (cI : ClassId) (A : Nat → Nat) (j1 : Int32) (hh : HS) (out : Int32) (hf : f_X0_placeOf j1 hh = some out) : uI l D cI yX0_placeOf wsX0_placeOf ({ frames := 1, cells := 0, slots := 0, locals := 21 } : Room) [.ref (A 0), .int j1] (wH A cI hh) (wH A cI hh) out := by
  intro sz
  refine Met.ofW (cc := cX0_placeOf) (maxL := 3) (ret := (some .int)) (by decide) rfl ?_
  intro p e s m args below meth c s₁ Bd hml hv
  obtain ⟨rfl, hsz, hP, hK, hD0, hN⟩ := hv
  have hx := Bd.exec
  have hb := Bd.bytes
  have hr := Bd.returns
  have hts := atoms_spec (ws := wsX0_placeOf) Bd.pre
  have hown : s.vm.findClass RX0 = some m.cls := findClass_of_methodNamed Bd.named
  have hlocks := Bd.notSynchronized
  subst hsz
  have hD := hD0.self (sz := s.heap.size)
  generalize hAe : va_A (wH A cI hh) s.heap.size = G at hD ⊢
  have hA : ∀ q : Nat, s.heap.size ≤ q → G q := fun q h => by rw [← hAe]; exact Or.inr h
  have hS : va_S G s.heap s.heap [] := va_S.rf
  have hP : va_P D vwCl (wH A cI hh) s.heap := hP
  have hl := lv_entry ([.ref (A 0), .int j1]) (n := 3) (Nat.le_of_ble_eq_true rfl)
  rw [lg_entry_eq]
  generalize (lg_sl ([.ref (A 0), .int j1]) ++ List.replicate (3 - (lg_sl ([.ref (A 0), .int j1])).length) Slot.unset).toArray = ls at hl ⊢
  have hl : lv_has ls 3 [(0, .ref (A 0)), (1, .int j1)] := hl
  have hinH : ∀ w ∈ wsX00, w ∈ wsX0_placeOf := by decide +kernel
  have lk0 := hts (.fieldLink RX0 42 "LiesBoughtBack$Hall" "cards" "I") (by decide +kernel)
  have lk1 := hts (.fieldLink RX0 27 "LiesBoughtBack$Hall" "order" "[I") (by decide +kernel)
  have lk2 := hts (.initialized RX1) (by decide +kernel)
  have lk3 := hts (.static yX1_at) (by decide +kernel)
  refine W_in ?_
  intro WW hWW
  refine (hWW _ _ _).mpr ?_
  unfold f_X0_placeOf at hf
  refine lv_iconst (v := (0 : Int32)) hx hb dX0_placeOf_0 (by decide) ?_
  refine lv_istore_n (lv' := [(2, .int (0 : Int32)), (0, .ref (A 0)), (1, .int j1)]) hx hb dX0_placeOf_1 rfl hl (by decide) rfl (fun ls hl => ?_)
  obtain ⟨K30, hK30, hf⟩ := jnS hf
  have J30 : ∀  (H : Heap) (locs : List Loc) (ls : Array Slot), K30 = some out → va_P D vwCl (wH A cI hh) H → va_D G (wH A cI hh) → va_S G s.heap H locs → lv_has ls 3 [] → WW H locs (F0 m 30 ls []) := by
    intro  H locs ls hf hP hD hS hl
    subst hK30
    refine (hWW _ _ _).mpr ?_
    refine lv_bipush (v := (-9 : Int32)) hx hb dX0_placeOf_30 (by decide) ?_
    obtain rfl := Option.some.inj hf
    exact W.iret (v := (-9 : Int32)) hx hb hr (fun t ht hW => ⟨⟨(-9 : Int32), (), rfl, rfl, hPt ht hP⟩, hS.F ht⟩) hS.2.2 dX0_placeOf_32
  have P2 : ∀ (n' : Nat) (j2_2 : Int32) (H : Heap) (locs : List Loc) (ls : Array Slot), L_X0_placeOf_2 j1 hh K30 n' j2_2 = some out → va_P D vwCl (wH A cI hh) H → va_D G (wH A cI hh) → va_S G s.heap H locs → lv_has ls 3 [(0, .ref (A 0)), (1, .int j1), (2, .int j2_2)] → WW H locs (F0 m 2 ls []) := by
    intro n'
    induction n' with
    | zero => intro j2_2 H locs ls hf; exact absurd (show (none : Option (Int32)) = some out from hf) (fun q => by cases q)
    | succ n' ih =>
      intro j2_2 H locs ls hf hP hD hS hl
      rw [L_X0_placeOf_2] at hf
      refine (hWW _ _ _).mpr ?_
      refine lv_iload_n hx hb dX0_placeOf_2 rfl (lv_at hl 2 rfl) ?_
      refine lv_aload_n hx hb dX0_placeOf_3 rfl (lv_at hl 0 rfl) ?_
      refine va_get (D := D) (ci := 0) (v := .int (hh 10 0)) (C := RX0) (T := TX0) (N := 13) hx hb hts hinH hown hK hP 0 rfl rfl 0 (by decide) lk0 (fun _ h9 => h9) rfl dX0_placeOf_4 ?_
      refine lv_icmp_ge (tgt := 30) hx hb dX0_placeOf_7 (by decide) (fun c1 => ?_) (fun c1 => ?_)
      · have hf := hT hf c1
        exact (hWW _ _ _).mp (J30  _ _ _ hf hP hD hS (lv_sub hl [] rfl))
      · have hf := hF hf c1
        refine lv_aload_n hx hb dX0_placeOf_10 rfl (lv_at hl 0 rfl) ?_
        refine va_get (D := D) (ci := 0) (v := .ref (A 6)) (C := RX0) (T := TX0) (N := 13) hx hb hts hinH hown hK hP 0 rfl rfl 8 (by decide) lk1 (fun _ h9 => h9) rfl dX0_placeOf_11 ?_
        refine lv_iload_n hx hb dX0_placeOf_14 rfl (lv_at hl 2 rfl) ?_
        refine rSN_io (As := [.ref (A 6), .int j2_2]) (rest := []) ⟨hx, hb, hml, hown, hts⟩ hK hN hA hP hD hS (c_X1_at l D cI 8 (by decide) (A 6) (hh 5) j2_2) ⟨va_cnB 2 hts gX0_placeOf_X1_at_n60 rfl rfl rfl (nW.m hN 8 rfl) lk2 hd_X1_at.2 ⟨Nat.le_of_ble_eq_true rfl, Nat.le_of_ble_eq_true rfl⟩, lk3, trivial⟩ [6] (by decide) rfl rfl hl.1 rfl (Nat.le_of_ble_eq_true rfl) dX0_placeOf_15 ⟨Nat.le_of_ble_eq_true rfl, Nat.le_of_ble_eq_true rfl⟩ (fun H locs hP hD hS => ?_)
        refine lv_iload_n hx hb dX0_placeOf_18 rfl (lv_at hl 1 rfl) ?_
        refine lv_icmp_ne (tgt := 24) hx hb dX0_placeOf_19 (by decide) (fun c2 => ?_) (fun c2 => ?_)
        · have hf := hF hf c2
          refine lv_iinc (v := (j2_2 + (1 : Int32))) (lv' := [(2, .int (j2_2 + (1 : Int32))), (0, .ref (A 0)), (1, .int j1)]) hx hb dX0_placeOf_24 hl (k := 2) rfl rfl (by decide) rfl (fun ls hl => ?_)
          refine lv_goto (tgt := 2) hx hb dX0_placeOf_27 (by decide) ?_
          exact (hWW _ _ _).mp (ih _ _ _ _ hf hP hD hS (lv_sub hl [1, 2, 0] rfl))
        · have hf := hT hf c2
          refine lv_iload_n hx hb dX0_placeOf_22 rfl (lv_at hl 2 rfl) ?_
          obtain rfl := Option.some.inj hf
          exact W.iret (v := j2_2) hx hb hr (fun t ht hW => ⟨⟨j2_2, (), rfl, rfl, hPt ht hP⟩, hS.F ht⟩) hS.2.2 dX0_placeOf_23
  exact (hWW _ _ _).mp (P2 _ _ _ _ _ hf hP hD hS (lv_sub hl [1, 2, 0] rfl))
set_option maxHeartbeats 4000000 in
set_option maxRecDepth 100000 in
theorem c_X0_changePlaces (l : Launch) (D : va_G) (cI : ClassId) (A : Nat → Nat) (j1 : Int32) (j2 : Int32) (hh : HS) (out : Int32 × HS) (hf : f_X0_changePlaces j1 j2 hh = some out) : uI l D cI yX0_changePlaces wsX0_changePlaces ({ frames := 2, cells := 0, slots := 0, locals := 43 } : Room) [.ref (A 0), .int j1, .int j2] (wH A cI hh) (wH A cI out.2) out.1 := by
  intro sz
  refine Met.ofW (cc := cX0_changePlaces) (maxL := 4) (ret := (some .boolean)) (by decide) rfl ?_
  intro p e s m args below meth c s₁ Bd hml hv
  obtain ⟨rfl, hsz, hP, hK, hD0, hN⟩ := hv
  have hx := Bd.exec
  have hb := Bd.bytes
  have hr := Bd.returns
  have hts := atoms_spec (ws := wsX0_changePlaces) Bd.pre
  have hown : s.vm.findClass RX0 = some m.cls := findClass_of_methodNamed Bd.named
  have hlocks := Bd.notSynchronized
  subst hsz
  have hD := hD0.self (sz := s.heap.size)
  generalize hAe : va_A (wH A cI hh) s.heap.size = G at hD ⊢
  have hA : ∀ q : Nat, s.heap.size ≤ q → G q := fun q h => by rw [← hAe]; exact Or.inr h
  have hS : va_S G s.heap s.heap [] := va_S.rf
  have hP : va_P D vwCl (wH A cI hh) s.heap := hP
  have hl := lv_entry ([.ref (A 0), .int j1, .int j2]) (n := 4) (Nat.le_of_ble_eq_true rfl)
  rw [lg_entry_eq]
  generalize (lg_sl ([.ref (A 0), .int j1, .int j2]) ++ List.replicate (4 - (lg_sl ([.ref (A 0), .int j1, .int j2])).length) Slot.unset).toArray = ls at hl ⊢
  have hl : lv_has ls 4 [(0, .ref (A 0)), (1, .int j1), (2, .int j2)] := hl
  have hinH : ∀ w ∈ wsX00, w ∈ wsX0_changePlaces := by decide +kernel
  have lk0 := hts (.fieldLink RX0 27 "LiesBoughtBack$Hall" "order" "[I") (by decide +kernel)
  have lk1 := hts (.initialized RX1) (by decide +kernel)
  have lk2 := hts (.static yX1_put) (by decide +kernel)
  refine W_in ?_
  intro WW hWW
  refine (hWW _ _ _).mpr ?_
  unfold f_X0_changePlaces at hf
  refine lv_aload_n hx hb dX0_changePlaces_0 rfl (lv_at hl 0 rfl) ?_
  refine lv_iload_n hx hb dX0_changePlaces_1 rfl (lv_at hl 1 rfl) ?_
  refine rV_io (As := [.int j1]) (rest := []) ⟨hx, hb, hml, hown, hts⟩ hK hN hA hP hD hS (c_X0_hasCard l D cI A j1 hh (f_X0_hasCard j1 hh) rfl) (cwV 1 hts gX0_changePlaces_X0_hasCard rfl rfl rfl hd_X0_hasCard ⟨Nat.le_of_ble_eq_true rfl, Nat.le_of_ble_eq_true rfl⟩) (va_recv hK hP (ci := 0) (q0 := 0) rfl rfl) [0, 1, 2, 3, 4, 5, 6, 7, 8, 9, 10] (by decide) rfl rfl hl.1 rfl (Nat.le_of_ble_eq_true rfl) dX0_changePlaces_2 ⟨Nat.le_of_ble_eq_true rfl, Nat.le_of_ble_eq_true rfl⟩ (fun H locs hP hD hS => ?_)
  refine lv_if_eq (tgt := 21) hx hb dX0_changePlaces_5 (by decide) (fun c1 => ?_) (fun c1 => ?_)
  · have hf := hT hf c1
    refine lv_iconst (v := (0 : Int32)) hx hb dX0_changePlaces_21 (by decide) ?_
    obtain rfl := Option.some.inj hf
    exact W.zret (ty := .boolean) (v := (0 : Int32)) hx hb hr rfl (fun t ht hW => ⟨⟨(0 : Int32), (), rfl, rfl, hPt ht hP⟩, hS.F ht⟩) hS.2.2 dX0_changePlaces_22
  · have hf := hF hf c1
    refine lv_aload_n hx hb dX0_changePlaces_8 rfl (lv_at hl 0 rfl) ?_
    refine lv_iload_n hx hb dX0_changePlaces_9 rfl (lv_at hl 2 rfl) ?_
    refine rV_io (As := [.int j2]) (rest := []) ⟨hx, hb, hml, hown, hts⟩ hK hN hA hP hD hS (c_X0_hasCard l D cI A j2 hh (f_X0_hasCard j2 hh) rfl) (cwV 1 hts gX0_changePlaces_X0_hasCard rfl rfl rfl hd_X0_hasCard ⟨Nat.le_of_ble_eq_true rfl, Nat.le_of_ble_eq_true rfl⟩) (va_recv hK hP (ci := 0) (q0 := 0) rfl rfl) [0, 1, 2, 3, 4, 5, 6, 7, 8, 9, 10] (by decide) rfl rfl hl.1 rfl (Nat.le_of_ble_eq_true rfl) dX0_changePlaces_10 ⟨Nat.le_of_ble_eq_true rfl, Nat.le_of_ble_eq_true rfl⟩ (fun H locs hP hD hS => ?_)
    refine lv_if_eq (tgt := 21) hx hb dX0_changePlaces_13 (by decide) (fun c2 => ?_) (fun c2 => ?_)
    · have hf := hT hf c2
      refine lv_iconst (v := (0 : Int32)) hx hb dX0_changePlaces_21 (by decide) ?_
      obtain rfl := Option.some.inj hf
      exact W.zret (ty := .boolean) (v := (0 : Int32)) hx hb hr rfl (fun t ht hW => ⟨⟨(0 : Int32), (), rfl, rfl, hPt ht hP⟩, hS.F ht⟩) hS.2.2 dX0_changePlaces_22
    · have hf := hF hf c2
      refine lv_iload_n hx hb dX0_changePlaces_16 rfl (lv_at hl 1 rfl) ?_
      refine lv_iload_n hx hb dX0_changePlaces_17 rfl (lv_at hl 2 rfl) ?_
      refine lv_icmp_ne (tgt := 23) hx hb dX0_changePlaces_18 (by decide) (fun c3 => ?_) (fun c3 => ?_)
      · have hf := hF hf c3
        refine lv_aload_n hx hb dX0_changePlaces_23 rfl (lv_at hl 0 rfl) ?_
        refine lv_iload_n hx hb dX0_changePlaces_24 rfl (lv_at hl 1 rfl) ?_
        obtain ⟨v4, hev4, hf⟩ := bS hf
        refine rV_io (As := [.int j1]) (rest := []) ⟨hx, hb, hml, hown, hts⟩ hK hN hA hP hD hS (c_X0_placeOf l D cI A j1 hh v4 hev4) (cwV 1 hts gX0_changePlaces_X0_placeOf rfl rfl rfl hd_X0_placeOf ⟨Nat.le_of_ble_eq_true rfl, Nat.le_of_ble_eq_true rfl⟩) (va_recv hK hP (ci := 0) (q0 := 0) rfl rfl) [0, 1, 2, 3, 4, 5, 6, 7, 8, 9, 10] (by decide) rfl rfl hl.1 rfl (Nat.le_of_ble_eq_true rfl) dX0_changePlaces_25 ⟨Nat.le_of_ble_eq_true rfl, Nat.le_of_ble_eq_true rfl⟩ (fun H locs hP hD hS => ?_)
        refine lv_istore_n (lv' := [(3, .int v4), (0, .ref (A 0)), (1, .int j1), (2, .int j2)]) hx hb dX0_changePlaces_28 rfl hl (by decide) rfl (fun ls hl => ?_)
        refine lv_aload_n hx hb dX0_changePlaces_29 rfl (lv_at hl 1 rfl) ?_
        refine va_get (D := D) (ci := 0) (v := .ref (A 6)) (C := RX0) (T := TX0) (N := 13) hx hb hts hinH hown hK hP 0 rfl rfl 8 (by decide) lk0 (fun _ h9 => h9) rfl dX0_changePlaces_30 ?_
        refine lv_aload_n hx hb dX0_changePlaces_33 rfl (lv_at hl 1 rfl) ?_
        refine lv_iload_n hx hb dX0_changePlaces_34 rfl (lv_at hl 3 rfl) ?_
        obtain ⟨v5, hev5, hf⟩ := bS hf
        refine rV_io (As := [.int j2]) (rest := [.ref (A 6)]) ⟨hx, hb, hml, hown, hts⟩ hK hN hA hP hD hS (c_X0_placeOf l D cI A j2 hh v5 hev5) (cwV 1 hts gX0_changePlaces_X0_placeOf rfl rfl rfl hd_X0_placeOf ⟨Nat.le_of_ble_eq_true rfl, Nat.le_of_ble_eq_true rfl⟩) (va_recv hK hP (ci := 0) (q0 := 0) rfl rfl) [0, 1, 2, 3, 4, 5, 6, 7, 8, 9, 10] (by decide) rfl rfl hl.1 rfl (Nat.le_of_ble_eq_true rfl) dX0_changePlaces_35 ⟨Nat.le_of_ble_eq_true rfl, Nat.le_of_ble_eq_true rfl⟩ (fun H locs hP hD hS => ?_)
        refine lv_iload_n hx hb dX0_changePlaces_38 rfl (lv_at hl 2 rfl) ?_
        obtain ⟨hh_v6, ehh_v6, hf⟩ := jnS hf
        refine rSN_v (ws' := (wH A cI hh_v6)) (As := [.ref (A 6), .int v5, .int j1]) (rest := []) ⟨hx, hb, hml, hown, hts⟩ hK hN hA hP hD hS (c_X1_put l D cI 8 (by decide) (A 6) (hh 5) v5 j1) ⟨va_cnB 3 hts gX0_changePlaces_X1_put_n64 rfl rfl rfl (nW.m hN 4 rfl) lk1 hd_X1_put.2 ⟨Nat.le_of_ble_eq_true rfl, Nat.le_of_ble_eq_true rfl⟩, lk2, trivial⟩ [6] (by decide) rfl rfl ((sa_X0_h_5 A cI hh (ptv 8 (hh 5) v5 j1)).trans (congrArg (fun z => wH A cI z) ehh_v6.symm)) rfl hl.1 rfl (Nat.le_of_ble_eq_true rfl) dX0_changePlaces_39 ⟨Nat.le_of_ble_eq_true rfl, Nat.le_of_ble_eq_true rfl⟩ (fun H locs hP hD hS => ?_)
        refine lv_aload_n hx hb dX0_changePlaces_42 rfl (lv_at hl 1 rfl) ?_
        refine va_get (D := D) (ci := 0) (v := .ref (A 6)) (C := RX0) (T := TX0) (N := 13) hx hb hts hinH hown hK hP 0 rfl rfl 8 (by decide) lk0 (fun _ h9 => h9) rfl dX0_changePlaces_43 ?_
        refine lv_iload_n hx hb dX0_changePlaces_46 rfl (lv_at hl 0 rfl) ?_
        refine lv_iload_n hx hb dX0_changePlaces_47 rfl (lv_at hl 3 rfl) ?_
        obtain ⟨hh_v7, ehh_v7, hf⟩ := jnS hf
        refine rSN_v (ws' := (wH A cI hh_v7)) (As := [.ref (A 6), .int v4, .int j2]) (rest := []) ⟨hx, hb, hml, hown, hts⟩ hK hN hA hP hD hS (c_X1_put l D cI 8 (by decide) (A 6) (hh_v6 5) v4 j2) ⟨va_cnB 3 hts gX0_changePlaces_X1_put_n64 rfl rfl rfl (nW.m hN 4 rfl) lk1 hd_X1_put.2 ⟨Nat.le_of_ble_eq_true rfl, Nat.le_of_ble_eq_true rfl⟩, lk2, trivial⟩ [6] (by decide) rfl rfl ((sa_X0_h_5 A cI hh_v6 (ptv 8 (hh_v6 5) v4 j2)).trans (congrArg (fun z => wH A cI z) ehh_v7.symm)) rfl hl.1 rfl (Nat.le_of_ble_eq_true rfl) dX0_changePlaces_48 ⟨Nat.le_of_ble_eq_true rfl, Nat.le_of_ble_eq_true rfl⟩ (fun H locs hP hD hS => ?_)
        refine lv_iconst (v := (1 : Int32)) hx hb dX0_changePlaces_51 (by decide) ?_
        obtain rfl := Option.some.inj hf
        exact W.zret (ty := .boolean) (v := (1 : Int32)) hx hb hr rfl (fun t ht hW => ⟨⟨(1 : Int32), (), rfl, rfl, hPt ht hP⟩, hS.F ht⟩) hS.2.2 dX0_changePlaces_52
      · have hf := hT hf c3
        refine lv_iconst (v := (0 : Int32)) hx hb dX0_changePlaces_21 (by decide) ?_
        obtain rfl := Option.some.inj hf
        exact W.zret (ty := .boolean) (v := (0 : Int32)) hx hb hr rfl (fun t ht hW => ⟨⟨(0 : Int32), (), rfl, rfl, hPt ht hP⟩, hS.F ht⟩) hS.2.2 dX0_changePlaces_22
set_option maxHeartbeats 4000000 in
set_option maxRecDepth 100000 in
theorem c_X0_toFront (l : Launch) (D : va_G) (cI : ClassId) (A : Nat → Nat) (j1 : Int32) (hh : HS) (out : HS) (hf : f_X0_toFront j1 hh = some out) : uV l D cI yX0_toFront wsX0_toFront ({ frames := 2, cells := 0, slots := 0, locals := 43 } : Room) [.ref (A 0), .int j1] (wH A cI hh) (wH A cI out) := by
  intro sz
  refine Met.ofW (cc := cX0_toFront) (maxL := 3) (ret := none) (by decide) rfl ?_
  intro p e s m args below meth c s₁ Bd hml hv
  obtain ⟨rfl, hsz, hP, hK, hD0, hN⟩ := hv
  have hx := Bd.exec
  have hb := Bd.bytes
  have hr := Bd.returns
  have hts := atoms_spec (ws := wsX0_toFront) Bd.pre
  have hown : s.vm.findClass RX0 = some m.cls := findClass_of_methodNamed Bd.named
  have hlocks := Bd.notSynchronized
  subst hsz
  have hD := hD0.self (sz := s.heap.size)
  generalize hAe : va_A (wH A cI hh) s.heap.size = G at hD ⊢
  have hA : ∀ q : Nat, s.heap.size ≤ q → G q := fun q h => by rw [← hAe]; exact Or.inr h
  have hS : va_S G s.heap s.heap [] := va_S.rf
  have hP : va_P D vwCl (wH A cI hh) s.heap := hP
  have hl := lv_entry ([.ref (A 0), .int j1]) (n := 3) (Nat.le_of_ble_eq_true rfl)
  rw [lg_entry_eq]
  generalize (lg_sl ([.ref (A 0), .int j1]) ++ List.replicate (3 - (lg_sl ([.ref (A 0), .int j1])).length) Slot.unset).toArray = ls at hl ⊢
  have hl : lv_has ls 3 [(0, .ref (A 0)), (1, .int j1)] := hl
  have hinH : ∀ w ∈ wsX00, w ∈ wsX0_toFront := by decide +kernel
  have lk0 := hts (.fieldLink RX0 27 "LiesBoughtBack$Hall" "order" "[I") (by decide +kernel)
  have lk1 := hts (.initialized RX1) (by decide +kernel)
  have lk2 := hts (.static yX1_put) (by decide +kernel)
  have lk3 := hts (.static yX1_at) (by decide +kernel)
  refine W_in ?_
  intro WW hWW
  refine (hWW _ _ _).mpr ?_
  unfold f_X0_toFront at hf
  refine lv_aload_n hx hb dX0_toFront_0 rfl (lv_at hl 0 rfl) ?_
  refine lv_iload_n hx hb dX0_toFront_1 rfl (lv_at hl 1 rfl) ?_
  obtain ⟨v1, hev1, hf⟩ := bS hf
  refine rV_io (As := [.int j1]) (rest := []) ⟨hx, hb, hml, hown, hts⟩ hK hN hA hP hD hS (c_X0_placeOf l D cI A j1 hh v1 hev1) (cwV 1 hts gX0_toFront_X0_placeOf rfl rfl rfl hd_X0_placeOf ⟨Nat.le_of_ble_eq_true rfl, Nat.le_of_ble_eq_true rfl⟩) (va_recv hK hP (ci := 0) (q0 := 0) rfl rfl) [0, 1, 2, 3, 4, 5, 6, 7, 8, 9, 10] (by decide) rfl rfl hl.1 rfl (Nat.le_of_ble_eq_true rfl) dX0_toFront_2 ⟨Nat.le_of_ble_eq_true rfl, Nat.le_of_ble_eq_true rfl⟩ (fun H locs hP hD hS => ?_)
  refine lv_istore_n (lv' := [(2, .int v1), (0, .ref (A 0)), (1, .int j1)]) hx hb dX0_toFront_5 rfl hl (by decide) rfl (fun ls hl => ?_)
  obtain ⟨K34, hK34, hf⟩ := jnS hf
  have J34 : ∀ (hh_34 : HS) (H : Heap) (locs : List Loc) (ls : Array Slot), K34 hh_34 = some out → va_P D vwCl (wH A cI hh_34) H → va_D G (wH A cI hh_34) → va_S G s.heap H locs → lv_has ls 3 [(0, .ref (A 0)), (1, .int j1)] → WW H locs (F0 m 34 ls []) := by
    intro hh_34 H locs ls hf hP hD hS hl
    subst hK34
    refine (hWW _ _ _).mpr ?_
    refine lv_aload_n hx hb dX0_toFront_34 rfl (lv_at hl 0 rfl) ?_
    refine va_get (D := D) (ci := 0) (v := .ref (A 6)) (C := RX0) (T := TX0) (N := 13) hx hb hts hinH hown hK hP 0 rfl rfl 8 (by decide) lk0 (fun _ h9 => h9) rfl dX0_toFront_35 ?_
    refine lv_iconst (v := (0 : Int32)) hx hb dX0_toFront_38 (by decide) ?_
    refine lv_iload_n hx hb dX0_toFront_39 rfl (lv_at hl 1 rfl) ?_
    obtain ⟨hh_v2, ehh_v2, hf⟩ := jnS hf
    refine rSN_v (ws' := (wH A cI hh_v2)) (As := [.ref (A 6), .int (0 : Int32), .int j1]) (rest := []) ⟨hx, hb, hml, hown, hts⟩ hK hN hA hP hD hS (c_X1_put l D cI 8 (by decide) (A 6) (hh_34 5) (0 : Int32) j1) ⟨va_cnB 3 hts gX0_toFront_X1_put_n64 rfl rfl rfl (nW.m hN 4 rfl) lk1 hd_X1_put.2 ⟨Nat.le_of_ble_eq_true rfl, Nat.le_of_ble_eq_true rfl⟩, lk2, trivial⟩ [6] (by decide) rfl rfl ((sa_X0_h_5 A cI hh_34 (ptv 8 (hh_34 5) (0 : Int32) j1)).trans (congrArg (fun z => wH A cI z) ehh_v2.symm)) rfl hl.1 rfl (Nat.le_of_ble_eq_true rfl) dX0_toFront_40 ⟨Nat.le_of_ble_eq_true rfl, Nat.le_of_ble_eq_true rfl⟩ (fun H locs hP hD hS => ?_)
    obtain rfl := Option.some.inj hf
    exact W.vret hx hb hr (fun t ht hW => ⟨⟨(), rfl, trivial, hPt ht hP⟩, hS.F ht⟩) hS.2.2 dX0_toFront_43
  have P6 : ∀ (n' : Nat) (j2_6 : Int32) (hh_6 : HS) (H : Heap) (locs : List Loc) (ls : Array Slot), L_X0_toFront_6 j1 K34 n' j2_6 hh_6 = some out → va_P D vwCl (wH A cI hh_6) H → va_D G (wH A cI hh_6) → va_S G s.heap H locs → lv_has ls 3 [(0, .ref (A 0)), (1, .int j1), (2, .int j2_6)] → WW H locs (F0 m 6 ls []) := by
    intro n'
    induction n' with
    | zero => intro j2_6 hh_6 H locs ls hf; exact absurd (show (none : Option (HS)) = some out from hf) (fun q => by cases q)
    | succ n' ih =>
      intro j2_6 hh_6 H locs ls hf hP hD hS hl
      rw [L_X0_toFront_6] at hf
      refine (hWW _ _ _).mpr ?_
      refine lv_iload_n hx hb dX0_toFront_6 rfl (lv_at hl 2 rfl) ?_
      refine lv_if_le (tgt := 34) hx hb dX0_toFront_7 (by decide) (fun c3 => ?_) (fun c3 => ?_)
      · have hf := hT hf c3
        exact (hWW _ _ _).mp (J34 _ _ _ _ hf hP hD hS (lv_sub hl [0, 1] rfl))
      · have hf := hF hf c3
        refine lv_aload_n hx hb dX0_toFront_10 rfl (lv_at hl 0 rfl) ?_
        refine va_get (D := D) (ci := 0) (v := .ref (A 6)) (C := RX0) (T := TX0) (N := 13) hx hb hts hinH hown hK hP 0 rfl rfl 8 (by decide) lk0 (fun _ h9 => h9) rfl dX0_toFront_11 ?_
        refine lv_iload_n hx hb dX0_toFront_14 rfl (lv_at hl 2 rfl) ?_
        refine lv_aload_n hx hb dX0_toFront_15 rfl (lv_at hl 0 rfl) ?_
        refine va_get (D := D) (ci := 0) (v := .ref (A 6)) (C := RX0) (T := TX0) (N := 13) hx hb hts hinH hown hK hP 0 rfl rfl 8 (by decide) lk0 (fun _ h9 => h9) rfl dX0_toFront_16 ?_
        refine lv_iload_n hx hb dX0_toFront_19 rfl (lv_at hl 2 rfl) ?_
        refine lv_iconst (v := (1 : Int32)) hx hb dX0_toFront_20 (by decide) ?_
        refine lv_isub hx hb dX0_toFront_21 ?_
        refine rSN_io (As := [.ref (A 6), .int (j2_6 - (1 : Int32))]) (rest := [.int j2_6, .ref (A 6)]) ⟨hx, hb, hml, hown, hts⟩ hK hN hA hP hD hS (c_X1_at l D cI 8 (by decide) (A 6) (hh_6 5) (j2_6 - (1 : Int32))) ⟨va_cnB 2 hts gX0_toFront_X1_at_n60 rfl rfl rfl (nW.m hN 8 rfl) lk1 hd_X1_at.2 ⟨Nat.le_of_ble_eq_true rfl, Nat.le_of_ble_eq_true rfl⟩, lk3, trivial⟩ [6] (by decide) rfl rfl hl.1 rfl (Nat.le_of_ble_eq_true rfl) dX0_toFront_22 ⟨Nat.le_of_ble_eq_true rfl, Nat.le_of_ble_eq_true rfl⟩ (fun H locs hP hD hS => ?_)
        obtain ⟨hh_v4, ehh_v4, hf⟩ := jnS hf
        refine rSN_v (ws' := (wH A cI hh_v4)) (As := [.ref (A 6), .int j2_6, .int (atv 8 (hh_6 5) (j2_6 - (1 : Int32)))]) (rest := []) ⟨hx, hb, hml, hown, hts⟩ hK hN hA hP hD hS (c_X1_put l D cI 8 (by decide) (A 6) (hh_6 5) j2_6 (atv 8 (hh_6 5) (j2_6 - (1 : Int32)))) ⟨va_cnB 3 hts gX0_toFront_X1_put_n64 rfl rfl rfl (nW.m hN 4 rfl) lk1 hd_X1_put.2 ⟨Nat.le_of_ble_eq_true rfl, Nat.le_of_ble_eq_true rfl⟩, lk2, trivial⟩ [6] (by decide) rfl rfl ((sa_X0_h_5 A cI hh_6 (ptv 8 (hh_6 5) j2_6 (atv 8 (hh_6 5) (j2_6 - (1 : Int32))))).trans (congrArg (fun z => wH A cI z) ehh_v4.symm)) rfl hl.1 rfl (Nat.le_of_ble_eq_true rfl) dX0_toFront_25 ⟨Nat.le_of_ble_eq_true rfl, Nat.le_of_ble_eq_true rfl⟩ (fun H locs hP hD hS => ?_)
        refine lv_iinc (v := (j2_6 + (-1 : Int32))) (lv' := [(2, .int (j2_6 + (-1 : Int32))), (0, .ref (A 0)), (1, .int j1)]) hx hb dX0_toFront_28 hl (k := 2) rfl (by rw [show Int32.ofInt (-1) = (-1 : Int32) from by decide]) (by decide) rfl (fun ls hl => ?_)
        refine lv_goto (tgt := 6) hx hb dX0_toFront_31 (by decide) ?_
        exact (hWW _ _ _).mp (ih _ _ _ _ _ hf hP hD hS (lv_sub hl [1, 2, 0] rfl))
  exact (hWW _ _ _).mp (P6 _ _ _ _ _ _ hf hP hD hS (lv_sub hl [1, 2, 0] rfl))
set_option maxHeartbeats 4000000 in
set_option maxRecDepth 100000 in
theorem c_X0_most (l : Launch) (D : va_G) (cI : ClassId) (A : Nat → Nat) (j1 : Int32) (j2 : Int32) (j3 : Int32) (hh : HS) (out : Int32) (hf : f_X0_most j1 j2 j3 hh = out) : uI l D cI yX0_most wsX0_most ({ frames := 1, cells := 0, slots := 0, locals := 21 } : Room) [.ref (A 0), .int j1, .int j2, .int j3] (wH A cI hh) (wH A cI hh) out := by
  intro sz
  refine Met.ofW (cc := cX0_most) (maxL := 9) (ret := (some .int)) (by decide) rfl ?_
  intro p e s m args below meth c s₁ Bd hml hv
  obtain ⟨rfl, hsz, hP, hK, hD0, hN⟩ := hv
  have hx := Bd.exec
  have hb := Bd.bytes
  have hr := Bd.returns
  have hts := atoms_spec (ws := wsX0_most) Bd.pre
  have hown : s.vm.findClass RX0 = some m.cls := findClass_of_methodNamed Bd.named
  have hlocks := Bd.notSynchronized
  subst hsz
  have hD := hD0.self (sz := s.heap.size)
  generalize hAe : va_A (wH A cI hh) s.heap.size = G at hD ⊢
  have hA : ∀ q : Nat, s.heap.size ≤ q → G q := fun q h => by rw [← hAe]; exact Or.inr h
  have hS : va_S G s.heap s.heap [] := va_S.rf
  have hP : va_P D vwCl (wH A cI hh) s.heap := hP
  have hl := lv_entry ([.ref (A 0), .int j1, .int j2, .int j3]) (n := 9) (Nat.le_of_ble_eq_true rfl)
  rw [lg_entry_eq]
  generalize (lg_sl ([.ref (A 0), .int j1, .int j2, .int j3]) ++ List.replicate (9 - (lg_sl ([.ref (A 0), .int j1, .int j2, .int j3])).length) Slot.unset).toArray = ls at hl ⊢
  have hl : lv_has ls 9 [(0, .ref (A 0)), (1, .int j1), (2, .int j2), (3, .int j3)] := hl
  have hinH : ∀ w ∈ wsX00, w ∈ wsX0_most := by decide +kernel
  have lk0 := hts (.fieldLink RX0 18 "LiesBoughtBack$Hall" "teller" "[I") (by decide +kernel)
  have lk1 := hts (.initialized RX1) (by decide +kernel)
  have lk2 := hts (.static yX1_at) (by decide +kernel)
  have lk3 := hts (.fieldLink RX0 30 "LiesBoughtBack$Hall" "bidderKind" "[I") (by decide +kernel)
  have lk4 := hts (.methodLink RX0 75 Lib.Math.max.name) (by decide +kernel)
  have lk5 := hts (.static Lib.Math.max.name) (by decide +kernel)
  have lk6 := hts (.initialized "java/lang/Math") (by decide +kernel)
  have lk7 := hts (.code Lib.Math.max.name Lib.Math.max.code 2 (some .int)) (by decide +kernel)
  have lk8 := hts (.fieldLink RX0 36 "LiesBoughtBack$Hall" "purse" "[I") (by decide +kernel)
  have lk9 := hts (.methodLink RX0 81 Lib.Math.min.name) (by decide +kernel)
  have lk10 := hts (.static Lib.Math.min.name) (by decide +kernel)
  have lk11 := hts (.code Lib.Math.min.name Lib.Math.min.code 2 (some .int)) (by decide +kernel)
  have lk12 := hts (.fieldLink RX0 39 "LiesBoughtBack$Hall" "believed" "[I") (by decide +kernel)
  have lk13 := hts (.fieldLink RX0 33 "LiesBoughtBack$Hall" "bidderFigure" "[I") (by decide +kernel)
  refine W_in ?_
  intro WW hWW
  refine (hWW _ _ _).mpr ?_
  unfold f_X0_most at hf
  refine lv_aload_n hx hb dX0_most_0 rfl (lv_at hl 0 rfl) ?_
  refine va_get (D := D) (ci := 0) (v := .ref (A 3)) (C := RX0) (T := TX0) (N := 13) hx hb hts hinH hown hK hP 0 rfl rfl 5 (by decide) lk0 (fun _ h9 => h9) rfl dX0_most_1 ?_
  refine lv_iload_n hx hb dX0_most_4 rfl (lv_at hl 2 rfl) ?_
  refine rSN_io (As := [.ref (A 3), .int j2]) (rest := []) ⟨hx, hb, hml, hown, hts⟩ hK hN hA hP hD hS (c_X1_at l D cI 8 (by decide) (A 3) (hh 2) j2) ⟨va_cnB 2 hts gX0_most_X1_at_n60 rfl rfl rfl (nW.m hN 8 rfl) lk1 hd_X1_at.2 ⟨Nat.le_of_ble_eq_true rfl, Nat.le_of_ble_eq_true rfl⟩, lk2, trivial⟩ [3] (by decide) rfl rfl hl.1 rfl (Nat.le_of_ble_eq_true rfl) dX0_most_5 ⟨Nat.le_of_ble_eq_true rfl, Nat.le_of_ble_eq_true rfl⟩ (fun H locs hP hD hS => ?_)
  refine lv_istore (lv' := [(4, .int (atv 8 (hh 2) j2)), (0, .ref (A 0)), (1, .int j1), (2, .int j2), (3, .int j3)]) hx hb dX0_most_8 hl (by decide) rfl (fun ls hl => ?_)
  refine lv_iload hx hb dX0_most_10 (lv_at hl 0 rfl) ?_
  refine lv_iload_n hx hb dX0_most_12 rfl (lv_at hl 2 rfl) ?_
  refine lv_icmp_ne (tgt := 20) hx hb dX0_most_13 (by decide) (fun c1 => ?_) (fun c1 => ?_)
  · have hf := hF hf c1
    refine lv_iconst (v := (0 : Int32)) hx hb dX0_most_20 (by decide) ?_
    refine lv_istore (lv' := [(5, .int (0 : Int32)), (4, .int (atv 8 (hh 2) j2)), (0, .ref (A 0)), (1, .int j1), (2, .int j2), (3, .int j3)]) hx hb dX0_most_21 hl (by decide) rfl (fun ls hl => ?_)
    refine lv_iload hx hb dX0_most_23 (lv_at hl 0 rfl) ?_
    refine lv_if_eq (tgt := 41) hx hb dX0_most_25 (by decide) (fun c2 => ?_) (fun c2 => ?_)
    · refine lv_iload_n hx hb dX0_most_41 rfl (lv_at hl 5 rfl) ?_
      refine lv_iconst (v := (2 : Int32)) hx hb dX0_most_42 (by decide) ?_
      refine lv_idiv hx hb dX0_most_43 (by decide) ?_
      refine lv_istore (lv' := [(6, .int (j3 / (2 : Int32))), (5, .int (0 : Int32)), (4, .int (atv 8 (hh 2) j2)), (0, .ref (A 0)), (1, .int j1), (2, .int j2), (3, .int j3)]) hx hb dX0_most_44 hl (by decide) rfl (fun ls hl => ?_)
      refine lv_aload_n hx hb dX0_most_46 rfl (lv_at hl 3 rfl) ?_
      refine va_get (D := D) (ci := 0) (v := .ref (A 7)) (C := RX0) (T := TX0) (N := 13) hx hb hts hinH hown hK hP 0 rfl rfl 9 (by decide) lk3 (fun _ h9 => h9) rfl dX0_most_47 ?_
      refine lv_iload_n hx hb dX0_most_50 rfl (lv_at hl 4 rfl) ?_
      refine rSN_io (As := [.ref (A 7), .int j1]) (rest := []) ⟨hx, hb, hml, hown, hts⟩ hK hN hA hP hD hS (c_X1_at l D cI 6 (by decide) (A 7) (hh 6) j1) ⟨va_cnB 2 hts gX0_most_X1_at_n60 rfl rfl rfl (nW.m hN 8 rfl) lk1 hd_X1_at.2 ⟨Nat.le_of_ble_eq_true rfl, Nat.le_of_ble_eq_true rfl⟩, lk2, trivial⟩ [7] (by decide) rfl rfl hl.1 rfl (Nat.le_of_ble_eq_true rfl) dX0_most_51 ⟨Nat.le_of_ble_eq_true rfl, Nat.le_of_ble_eq_true rfl⟩ (fun H locs hP hD hS => ?_)
      by_cases c3 : (atv 6 (hh 6) j1) = (1 : Int32)
      · have hf := hT hf c3
        refine sw_in (v := 1) (off := 34) (tgt := 88) hx hb dX0_most_54 ((congrArg Int32.toInt c3).trans (by decide)) (by decide) (by decide) (by decide) (by decide) ?_
        refine lv_iconst (v := (0 : Int32)) hx hb dX0_most_88 (by decide) ?_
        refine lv_iload hx hb dX0_most_89 (lv_at hl 0 rfl) ?_
        refine lv_iconst (v := (3 : Int32)) hx hb dX0_most_91 (by decide) ?_
        refine lv_isub hx hb dX0_most_92 ?_
        refine va_mmax hx hb (hml.trans hl.1.symm) hown lk4 lk5 lk6 lk7 (Nat.le_of_ble_eq_true rfl) (Nat.le_of_ble_eq_true rfl) (Nat.le_of_ble_eq_true rfl) (Nat.le_of_ble_eq_true rfl) dX0_most_93 ?_
        refine lv_istore (lv' := [(7, .int (mx (0 : Int32) ((j3 / (2 : Int32)) - (3 : Int32)))), (6, .int (j3 / (2 : Int32))), (5, .int (0 : Int32)), (4, .int (atv 8 (hh 2) j2)), (0, .ref (A 0)), (1, .int j1), (2, .int j2), (3, .int j3)]) hx hb dX0_most_96 hl (by decide) rfl (fun ls hl => ?_)
        refine lv_goto (tgt := 200) hx hb dX0_most_98 (by decide) ?_
        refine lv_iload hx hb dX0_most_200 (lv_at hl 0 rfl) ?_
        refine lv_aload_n hx hb dX0_most_202 rfl (lv_at hl 4 rfl) ?_
        refine va_get (D := D) (ci := 0) (v := .ref (A 9)) (C := RX0) (T := TX0) (N := 13) hx hb hts hinH hown hK hP 0 rfl rfl 11 (by decide) lk8 (fun _ h9 => h9) rfl dX0_most_203 ?_
        refine lv_iload_n hx hb dX0_most_206 rfl (lv_at hl 5 rfl) ?_
        refine rSN_io (As := [.ref (A 9), .int j1]) (rest := [.int (mx (0 : Int32) ((j3 / (2 : Int32)) - (3 : Int32)))]) ⟨hx, hb, hml, hown, hts⟩ hK hN hA hP hD hS (c_X1_at l D cI 6 (by decide) (A 9) (hh 8) j1) ⟨va_cnB 2 hts gX0_most_X1_at_n60 rfl rfl rfl (nW.m hN 8 rfl) lk1 hd_X1_at.2 ⟨Nat.le_of_ble_eq_true rfl, Nat.le_of_ble_eq_true rfl⟩, lk2, trivial⟩ [9] (by decide) rfl rfl hl.1 rfl (Nat.le_of_ble_eq_true rfl) dX0_most_207 ⟨Nat.le_of_ble_eq_true rfl, Nat.le_of_ble_eq_true rfl⟩ (fun H locs hP hD hS => ?_)
        refine va_mmin hx hb (hml.trans hl.1.symm) hown lk9 lk10 lk6 lk11 (Nat.le_of_ble_eq_true rfl) (Nat.le_of_ble_eq_true rfl) (Nat.le_of_ble_eq_true rfl) (Nat.le_of_ble_eq_true rfl) dX0_most_210 ?_
        subst hf
        exact W.iret (v := (mn (mx (0 : Int32) ((j3 / (2 : Int32)) - (3 : Int32))) (atv 6 (hh 8) j1))) hx hb hr (fun t ht hW => ⟨⟨(mn (mx (0 : Int32) ((j3 / (2 : Int32)) - (3 : Int32))) (atv 6 (hh 8) j1)), (), rfl, rfl, hPt ht hP⟩, hS.F ht⟩) hS.2.2 dX0_most_213
      have hf := hF hf c3
      by_cases c4 : (atv 6 (hh 6) j1) = (2 : Int32)
      · have hf := hT hf c4
        refine sw_in (v := 2) (off := 47) (tgt := 101) hx hb dX0_most_54 ((congrArg Int32.toInt c4).trans (by decide)) (by decide) (by decide) (by decide) (by decide) ?_
        refine lv_iload hx hb dX0_most_101 (lv_at hl 1 rfl) ?_
        obtain ⟨K139, hK139, hf⟩ := jnS hf
        have J139 : ∀ (j6_139 : Int32) (H : Heap) (locs : List Loc) (ls : Array Slot), K139 j6_139 = out → va_P D vwCl (wH A cI hh) H → va_D G (wH A cI hh) → va_S G s.heap H locs → lv_has ls 9 [(0, .ref (A 0)), (1, .int j1), (6, .int j6_139)] → WW H locs (F0 m 139 ls []) := by
          intro j6_139 H locs ls hf hP hD hS hl
          subst hK139
          refine (hWW _ _ _).mpr ?_
          refine lv_iconst (v := (0 : Int32)) hx hb dX0_most_139 (by decide) ?_
          refine lv_istore (lv' := [(8, .int (0 : Int32)), (0, .ref (A 0)), (1, .int j1), (6, .int j6_139)]) hx hb dX0_most_140 hl (by decide) rfl (fun ls hl => ?_)
          refine lv_iload hx hb dX0_most_142 (lv_at hl 0 rfl) ?_
          refine lv_if_eq (tgt := 154) hx hb dX0_most_144 (by decide) (fun c5 => ?_) (fun c5 => ?_)
          · refine lv_iload hx hb dX0_most_154 (lv_at hl 3 rfl) ?_
            refine lv_istore (lv' := [(7, .int j6_139), (8, .int (0 : Int32)), (0, .ref (A 0)), (1, .int j1), (6, .int j6_139)]) hx hb dX0_most_156 hl (by decide) rfl (fun ls hl => ?_)
            refine lv_goto (tgt := 200) hx hb dX0_most_158 (by decide) ?_
            refine lv_iload hx hb dX0_most_200 (lv_at hl 0 rfl) ?_
            refine lv_aload_n hx hb dX0_most_202 rfl (lv_at hl 2 rfl) ?_
            refine va_get (D := D) (ci := 0) (v := .ref (A 9)) (C := RX0) (T := TX0) (N := 13) hx hb hts hinH hown hK hP 0 rfl rfl 11 (by decide) lk8 (fun _ h9 => h9) rfl dX0_most_203 ?_
            refine lv_iload_n hx hb dX0_most_206 rfl (lv_at hl 3 rfl) ?_
            refine rSN_io (As := [.ref (A 9), .int j1]) (rest := [.int j6_139]) ⟨hx, hb, hml, hown, hts⟩ hK hN hA hP hD hS (c_X1_at l D cI 6 (by decide) (A 9) (hh 8) j1) ⟨va_cnB 2 hts gX0_most_X1_at_n60 rfl rfl rfl (nW.m hN 8 rfl) lk1 hd_X1_at.2 ⟨Nat.le_of_ble_eq_true rfl, Nat.le_of_ble_eq_true rfl⟩, lk2, trivial⟩ [9] (by decide) rfl rfl hl.1 rfl (Nat.le_of_ble_eq_true rfl) dX0_most_207 ⟨Nat.le_of_ble_eq_true rfl, Nat.le_of_ble_eq_true rfl⟩ (fun H locs hP hD hS => ?_)
            refine va_mmin hx hb (hml.trans hl.1.symm) hown lk9 lk10 lk6 lk11 (Nat.le_of_ble_eq_true rfl) (Nat.le_of_ble_eq_true rfl) (Nat.le_of_ble_eq_true rfl) (Nat.le_of_ble_eq_true rfl) dX0_most_210 ?_
            subst hf
            exact W.iret (v := (mn j6_139 (atv 6 (hh 8) j1))) hx hb hr (fun t ht hW => ⟨⟨(mn j6_139 (atv 6 (hh 8) j1)), (), rfl, rfl, hPt ht hP⟩, hS.F ht⟩) hS.2.2 dX0_most_213
          · exact absurd c5 (by decide)
        refine lv_if_ne (tgt := 139) hx hb dX0_most_103 (by decide) (fun c6 => ?_) (fun c6 => ?_)
        · exact absurd c6 (by decide)
        · refine lv_aload_n hx hb dX0_most_106 rfl (lv_at hl 3 rfl) ?_
          refine lv_iload hx hb dX0_most_107 (lv_at hl 2 rfl) ?_
          refine rV_io (As := [.int (atv 8 (hh 2) j2)]) (rest := []) ⟨hx, hb, hml, hown, hts⟩ hK hN hA hP hD hS (c_X0_hasBidder l D cI A (atv 8 (hh 2) j2) hh (f_X0_hasBidder (atv 8 (hh 2) j2) hh) rfl) (cwV 1 hts gX0_most_X0_hasBidder rfl rfl rfl hd_X0_hasBidder ⟨Nat.le_of_ble_eq_true rfl, Nat.le_of_ble_eq_true rfl⟩) (va_recv hK hP (ci := 0) (q0 := 0) rfl rfl) [0, 1, 2, 3, 4, 5, 6, 7, 8, 9, 10] (by decide) rfl rfl hl.1 rfl (Nat.le_of_ble_eq_true rfl) dX0_most_109 ⟨Nat.le_of_ble_eq_true rfl, Nat.le_of_ble_eq_true rfl⟩ (fun H locs hP hD hS => ?_)
          refine lv_if_eq (tgt := 139) hx hb dX0_most_112 (by decide) (fun c7 => ?_) (fun c7 => ?_)
          · have hf := hT hf c7
            exact (hWW _ _ _).mp (J139 _ _ _ _ hf hP hD hS (lv_sub hl [3, 4, 0] rfl))
          · have hf := hF hf c7
            refine lv_aload_n hx hb dX0_most_115 rfl (lv_at hl 3 rfl) ?_
            refine va_get (D := D) (ci := 0) (v := .ref (A 10)) (C := RX0) (T := TX0) (N := 13) hx hb hts hinH hown hK hP 0 rfl rfl 12 (by decide) lk12 (fun _ h9 => h9) rfl dX0_most_116 ?_
            refine lv_iload hx hb dX0_most_119 (lv_at hl 2 rfl) ?_
            refine rSN_io (As := [.ref (A 10), .int (atv 8 (hh 2) j2)]) (rest := []) ⟨hx, hb, hml, hown, hts⟩ hK hN hA hP hD hS (c_X1_at l D cI 6 (by decide) (A 10) (hh 9) (atv 8 (hh 2) j2)) ⟨va_cnB 2 hts gX0_most_X1_at_n60 rfl rfl rfl (nW.m hN 8 rfl) lk1 hd_X1_at.2 ⟨Nat.le_of_ble_eq_true rfl, Nat.le_of_ble_eq_true rfl⟩, lk2, trivial⟩ [10] (by decide) rfl rfl hl.1 rfl (Nat.le_of_ble_eq_true rfl) dX0_most_121 ⟨Nat.le_of_ble_eq_true rfl, Nat.le_of_ble_eq_true rfl⟩ (fun H locs hP hD hS => ?_)
            refine lv_aload_n hx hb dX0_most_124 rfl (lv_at hl 3 rfl) ?_
            refine va_get (D := D) (ci := 0) (v := .ref (A 10)) (C := RX0) (T := TX0) (N := 13) hx hb hts hinH hown hK hP 0 rfl rfl 12 (by decide) lk12 (fun _ h9 => h9) rfl dX0_most_125 ?_
            refine lv_iload_n hx hb dX0_most_128 rfl (lv_at hl 4 rfl) ?_
            refine rSN_io (As := [.ref (A 10), .int j1]) (rest := [.int (atv 6 (hh 9) (atv 8 (hh 2) j2))]) ⟨hx, hb, hml, hown, hts⟩ hK hN hA hP hD hS (c_X1_at l D cI 6 (by decide) (A 10) (hh 9) j1) ⟨va_cnB 2 hts gX0_most_X1_at_n60 rfl rfl rfl (nW.m hN 8 rfl) lk1 hd_X1_at.2 ⟨Nat.le_of_ble_eq_true rfl, Nat.le_of_ble_eq_true rfl⟩, lk2, trivial⟩ [10] (by decide) rfl rfl hl.1 rfl (Nat.le_of_ble_eq_true rfl) dX0_most_129 ⟨Nat.le_of_ble_eq_true rfl, Nat.le_of_ble_eq_true rfl⟩ (fun H locs hP hD hS => ?_)
            refine lv_icmp_le (tgt := 139) hx hb dX0_most_132 (by decide) (fun c8 => ?_) (fun c8 => ?_)
            · have hf := hT hf c8
              exact (hWW _ _ _).mp (J139 _ _ _ _ hf hP hD hS (lv_sub hl [3, 4, 0] rfl))
            · have hf := hF hf c8
              refine lv_iconst (v := (1 : Int32)) hx hb dX0_most_135 (by decide) ?_
              refine lv_goto (tgt := 140) hx hb dX0_most_136 (by decide) ?_
              refine lv_istore (lv' := [(8, .int (1 : Int32)), (6, .int (j3 / (2 : Int32))), (5, .int (0 : Int32)), (4, .int (atv 8 (hh 2) j2)), (0, .ref (A 0)), (1, .int j1), (2, .int j2), (3, .int j3)]) hx hb dX0_most_140 hl (by decide) rfl (fun ls hl => ?_)
              refine lv_iload hx hb dX0_most_142 (lv_at hl 0 rfl) ?_
              refine lv_if_eq (tgt := 154) hx hb dX0_most_144 (by decide) (fun c9 => ?_) (fun c9 => ?_)
              · exact absurd c9 (by decide)
              · refine lv_iconst (v := (2 : Int32)) hx hb dX0_most_147 (by decide) ?_
                refine lv_iload hx hb dX0_most_148 (lv_at hl 1 rfl) ?_
                refine lv_imul hx hb dX0_most_150 ?_
                refine lv_goto (tgt := 156) hx hb dX0_most_151 (by decide) ?_
                refine lv_istore (lv' := [(7, .int ((2 : Int32) * (j3 / (2 : Int32)))), (8, .int (1 : Int32)), (6, .int (j3 / (2 : Int32))), (5, .int (0 : Int32)), (4, .int (atv 8 (hh 2) j2)), (0, .ref (A 0)), (1, .int j1), (2, .int j2), (3, .int j3)]) hx hb dX0_most_156 hl (by decide) rfl (fun ls hl => ?_)
                refine lv_goto (tgt := 200) hx hb dX0_most_158 (by decide) ?_
                refine lv_iload hx hb dX0_most_200 (lv_at hl 0 rfl) ?_
                refine lv_aload_n hx hb dX0_most_202 rfl (lv_at hl 5 rfl) ?_
                refine va_get (D := D) (ci := 0) (v := .ref (A 9)) (C := RX0) (T := TX0) (N := 13) hx hb hts hinH hown hK hP 0 rfl rfl 11 (by decide) lk8 (fun _ h9 => h9) rfl dX0_most_203 ?_
                refine lv_iload_n hx hb dX0_most_206 rfl (lv_at hl 6 rfl) ?_
                refine rSN_io (As := [.ref (A 9), .int j1]) (rest := [.int ((2 : Int32) * (j3 / (2 : Int32)))]) ⟨hx, hb, hml, hown, hts⟩ hK hN hA hP hD hS (c_X1_at l D cI 6 (by decide) (A 9) (hh 8) j1) ⟨va_cnB 2 hts gX0_most_X1_at_n60 rfl rfl rfl (nW.m hN 8 rfl) lk1 hd_X1_at.2 ⟨Nat.le_of_ble_eq_true rfl, Nat.le_of_ble_eq_true rfl⟩, lk2, trivial⟩ [9] (by decide) rfl rfl hl.1 rfl (Nat.le_of_ble_eq_true rfl) dX0_most_207 ⟨Nat.le_of_ble_eq_true rfl, Nat.le_of_ble_eq_true rfl⟩ (fun H locs hP hD hS => ?_)
                refine va_mmin hx hb (hml.trans hl.1.symm) hown lk9 lk10 lk6 lk11 (Nat.le_of_ble_eq_true rfl) (Nat.le_of_ble_eq_true rfl) (Nat.le_of_ble_eq_true rfl) (Nat.le_of_ble_eq_true rfl) dX0_most_210 ?_
                subst hf
                exact W.iret (v := (mn ((2 : Int32) * (j3 / (2 : Int32))) (atv 6 (hh 8) j1))) hx hb hr (fun t ht hW => ⟨⟨(mn ((2 : Int32) * (j3 / (2 : Int32))) (atv 6 (hh 8) j1)), (), rfl, rfl, hPt ht hP⟩, hS.F ht⟩) hS.2.2 dX0_most_213
      have hf := hF hf c4
      by_cases c10 : (atv 6 (hh 6) j1) = (3 : Int32)
      · have hf := hT hf c10
        refine sw_in (v := 3) (off := 107) (tgt := 161) hx hb dX0_most_54 ((congrArg Int32.toInt c10).trans (by decide)) (by decide) (by decide) (by decide) (by decide) ?_
        refine lv_iload hx hb dX0_most_161 (lv_at hl 0 rfl) ?_
        refine lv_iconst (v := (5 : Int32)) hx hb dX0_most_163 (by decide) ?_
        refine lv_iadd hx hb dX0_most_164 ?_
        refine lv_istore (lv' := [(7, .int ((j3 / (2 : Int32)) + (5 : Int32))), (6, .int (j3 / (2 : Int32))), (5, .int (0 : Int32)), (4, .int (atv 8 (hh 2) j2)), (0, .ref (A 0)), (1, .int j1), (2, .int j2), (3, .int j3)]) hx hb dX0_most_165 hl (by decide) rfl (fun ls hl => ?_)
        refine lv_goto (tgt := 200) hx hb dX0_most_167 (by decide) ?_
        refine lv_iload hx hb dX0_most_200 (lv_at hl 0 rfl) ?_
        refine lv_aload_n hx hb dX0_most_202 rfl (lv_at hl 4 rfl) ?_
        refine va_get (D := D) (ci := 0) (v := .ref (A 9)) (C := RX0) (T := TX0) (N := 13) hx hb hts hinH hown hK hP 0 rfl rfl 11 (by decide) lk8 (fun _ h9 => h9) rfl dX0_most_203 ?_
        refine lv_iload_n hx hb dX0_most_206 rfl (lv_at hl 5 rfl) ?_
        refine rSN_io (As := [.ref (A 9), .int j1]) (rest := [.int ((j3 / (2 : Int32)) + (5 : Int32))]) ⟨hx, hb, hml, hown, hts⟩ hK hN hA hP hD hS (c_X1_at l D cI 6 (by decide) (A 9) (hh 8) j1) ⟨va_cnB 2 hts gX0_most_X1_at_n60 rfl rfl rfl (nW.m hN 8 rfl) lk1 hd_X1_at.2 ⟨Nat.le_of_ble_eq_true rfl, Nat.le_of_ble_eq_true rfl⟩, lk2, trivial⟩ [9] (by decide) rfl rfl hl.1 rfl (Nat.le_of_ble_eq_true rfl) dX0_most_207 ⟨Nat.le_of_ble_eq_true rfl, Nat.le_of_ble_eq_true rfl⟩ (fun H locs hP hD hS => ?_)
        refine va_mmin hx hb (hml.trans hl.1.symm) hown lk9 lk10 lk6 lk11 (Nat.le_of_ble_eq_true rfl) (Nat.le_of_ble_eq_true rfl) (Nat.le_of_ble_eq_true rfl) (Nat.le_of_ble_eq_true rfl) dX0_most_210 ?_
        subst hf
        exact W.iret (v := (mn ((j3 / (2 : Int32)) + (5 : Int32)) (atv 6 (hh 8) j1))) hx hb hr (fun t ht hW => ⟨⟨(mn ((j3 / (2 : Int32)) + (5 : Int32)) (atv 6 (hh 8) j1)), (), rfl, rfl, hPt ht hP⟩, hS.F ht⟩) hS.2.2 dX0_most_213
      have hf := hF hf c10
      by_cases c11 : (atv 6 (hh 6) j1) = (4 : Int32)
      · have hf := hT hf c11
        refine sw_in (v := 4) (off := 116) (tgt := 170) hx hb dX0_most_54 ((congrArg Int32.toInt c11).trans (by decide)) (by decide) (by decide) (by decide) (by decide) ?_
        refine lv_iload hx hb dX0_most_170 (lv_at hl 1 rfl) ?_
        refine lv_if_eq (tgt := 179) hx hb dX0_most_172 (by decide) (fun c12 => ?_) (fun c12 => ?_)
        · refine lv_iconst (v := (0 : Int32)) hx hb dX0_most_179 (by decide) ?_
          refine lv_istore (lv' := [(7, .int (0 : Int32)), (6, .int (j3 / (2 : Int32))), (5, .int (0 : Int32)), (4, .int (atv 8 (hh 2) j2)), (0, .ref (A 0)), (1, .int j1), (2, .int j2), (3, .int j3)]) hx hb dX0_most_180 hl (by decide) rfl (fun ls hl => ?_)
          refine lv_goto (tgt := 200) hx hb dX0_most_182 (by decide) ?_
          refine lv_iload hx hb dX0_most_200 (lv_at hl 0 rfl) ?_
          refine lv_aload_n hx hb dX0_most_202 rfl (lv_at hl 4 rfl) ?_
          refine va_get (D := D) (ci := 0) (v := .ref (A 9)) (C := RX0) (T := TX0) (N := 13) hx hb hts hinH hown hK hP 0 rfl rfl 11 (by decide) lk8 (fun _ h9 => h9) rfl dX0_most_203 ?_
          refine lv_iload_n hx hb dX0_most_206 rfl (lv_at hl 5 rfl) ?_
          refine rSN_io (As := [.ref (A 9), .int j1]) (rest := [.int (0 : Int32)]) ⟨hx, hb, hml, hown, hts⟩ hK hN hA hP hD hS (c_X1_at l D cI 6 (by decide) (A 9) (hh 8) j1) ⟨va_cnB 2 hts gX0_most_X1_at_n60 rfl rfl rfl (nW.m hN 8 rfl) lk1 hd_X1_at.2 ⟨Nat.le_of_ble_eq_true rfl, Nat.le_of_ble_eq_true rfl⟩, lk2, trivial⟩ [9] (by decide) rfl rfl hl.1 rfl (Nat.le_of_ble_eq_true rfl) dX0_most_207 ⟨Nat.le_of_ble_eq_true rfl, Nat.le_of_ble_eq_true rfl⟩ (fun H locs hP hD hS => ?_)
          refine va_mmin hx hb (hml.trans hl.1.symm) hown lk9 lk10 lk6 lk11 (Nat.le_of_ble_eq_true rfl) (Nat.le_of_ble_eq_true rfl) (Nat.le_of_ble_eq_true rfl) (Nat.le_of_ble_eq_true rfl) dX0_most_210 ?_
          subst hf
          exact W.iret (v := (mn (0 : Int32) (atv 6 (hh 8) j1))) hx hb hr (fun t ht hW => ⟨⟨(mn (0 : Int32) (atv 6 (hh 8) j1)), (), rfl, rfl, hPt ht hP⟩, hS.F ht⟩) hS.2.2 dX0_most_213
        · exact absurd c12 (by decide)
      have hf := hF hf c11
      by_cases c13 : (atv 6 (hh 6) j1) = (5 : Int32)
      · have hf := hT hf c13
        refine sw_in (v := 5) (off := 131) (tgt := 185) hx hb dX0_most_54 ((congrArg Int32.toInt c13).trans (by decide)) (by decide) (by decide) (by decide) (by decide) ?_
        refine lv_iconst (v := (2 : Int32)) hx hb dX0_most_185 (by decide) ?_
        refine lv_iload hx hb dX0_most_186 (lv_at hl 0 rfl) ?_
        refine lv_iconst (v := (5 : Int32)) hx hb dX0_most_188 (by decide) ?_
        refine lv_iadd hx hb dX0_most_189 ?_
        refine lv_imul hx hb dX0_most_190 ?_
        refine lv_istore (lv' := [(7, .int ((2 : Int32) * ((j3 / (2 : Int32)) + (5 : Int32)))), (6, .int (j3 / (2 : Int32))), (5, .int (0 : Int32)), (4, .int (atv 8 (hh 2) j2)), (0, .ref (A 0)), (1, .int j1), (2, .int j2), (3, .int j3)]) hx hb dX0_most_191 hl (by decide) rfl (fun ls hl => ?_)
        refine lv_goto (tgt := 200) hx hb dX0_most_193 (by decide) ?_
        refine lv_iload hx hb dX0_most_200 (lv_at hl 0 rfl) ?_
        refine lv_aload_n hx hb dX0_most_202 rfl (lv_at hl 4 rfl) ?_
        refine va_get (D := D) (ci := 0) (v := .ref (A 9)) (C := RX0) (T := TX0) (N := 13) hx hb hts hinH hown hK hP 0 rfl rfl 11 (by decide) lk8 (fun _ h9 => h9) rfl dX0_most_203 ?_
        refine lv_iload_n hx hb dX0_most_206 rfl (lv_at hl 5 rfl) ?_
        refine rSN_io (As := [.ref (A 9), .int j1]) (rest := [.int ((2 : Int32) * ((j3 / (2 : Int32)) + (5 : Int32)))]) ⟨hx, hb, hml, hown, hts⟩ hK hN hA hP hD hS (c_X1_at l D cI 6 (by decide) (A 9) (hh 8) j1) ⟨va_cnB 2 hts gX0_most_X1_at_n60 rfl rfl rfl (nW.m hN 8 rfl) lk1 hd_X1_at.2 ⟨Nat.le_of_ble_eq_true rfl, Nat.le_of_ble_eq_true rfl⟩, lk2, trivial⟩ [9] (by decide) rfl rfl hl.1 rfl (Nat.le_of_ble_eq_true rfl) dX0_most_207 ⟨Nat.le_of_ble_eq_true rfl, Nat.le_of_ble_eq_true rfl⟩ (fun H locs hP hD hS => ?_)
        refine va_mmin hx hb (hml.trans hl.1.symm) hown lk9 lk10 lk6 lk11 (Nat.le_of_ble_eq_true rfl) (Nat.le_of_ble_eq_true rfl) (Nat.le_of_ble_eq_true rfl) (Nat.le_of_ble_eq_true rfl) dX0_most_210 ?_
        subst hf
        exact W.iret (v := (mn ((2 : Int32) * ((j3 / (2 : Int32)) + (5 : Int32))) (atv 6 (hh 8) j1))) hx hb hr (fun t ht hW => ⟨⟨(mn ((2 : Int32) * ((j3 / (2 : Int32)) + (5 : Int32))) (atv 6 (hh 8) j1)), (), rfl, rfl, hPt ht hP⟩, hS.F ht⟩) hS.2.2 dX0_most_213
      have hf := hF hf c13
      refine lv_tableOut (tgt := 196) hx hb dX0_most_54 (by have z0 := lv_neT (a := 1) c3 (by decide); have z1 := lv_neT (a := 2) c4 (by decide); have z2 := lv_neT (a := 3) c10 (by decide); have z3 := lv_neT (a := 4) c11 (by decide); have z4 := lv_neT (a := 5) c13 (by decide); omega) (by decide) ?_
      refine lv_iload hx hb dX0_most_196 (lv_at hl 0 rfl) ?_
      refine lv_istore (lv' := [(7, .int (j3 / (2 : Int32))), (6, .int (j3 / (2 : Int32))), (5, .int (0 : Int32)), (4, .int (atv 8 (hh 2) j2)), (0, .ref (A 0)), (1, .int j1), (2, .int j2), (3, .int j3)]) hx hb dX0_most_198 hl (by decide) rfl (fun ls hl => ?_)
      refine lv_iload hx hb dX0_most_200 (lv_at hl 0 rfl) ?_
      refine lv_aload_n hx hb dX0_most_202 rfl (lv_at hl 4 rfl) ?_
      refine va_get (D := D) (ci := 0) (v := .ref (A 9)) (C := RX0) (T := TX0) (N := 13) hx hb hts hinH hown hK hP 0 rfl rfl 11 (by decide) lk8 (fun _ h9 => h9) rfl dX0_most_203 ?_
      refine lv_iload_n hx hb dX0_most_206 rfl (lv_at hl 5 rfl) ?_
      refine rSN_io (As := [.ref (A 9), .int j1]) (rest := [.int (j3 / (2 : Int32))]) ⟨hx, hb, hml, hown, hts⟩ hK hN hA hP hD hS (c_X1_at l D cI 6 (by decide) (A 9) (hh 8) j1) ⟨va_cnB 2 hts gX0_most_X1_at_n60 rfl rfl rfl (nW.m hN 8 rfl) lk1 hd_X1_at.2 ⟨Nat.le_of_ble_eq_true rfl, Nat.le_of_ble_eq_true rfl⟩, lk2, trivial⟩ [9] (by decide) rfl rfl hl.1 rfl (Nat.le_of_ble_eq_true rfl) dX0_most_207 ⟨Nat.le_of_ble_eq_true rfl, Nat.le_of_ble_eq_true rfl⟩ (fun H locs hP hD hS => ?_)
      refine va_mmin hx hb (hml.trans hl.1.symm) hown lk9 lk10 lk6 lk11 (Nat.le_of_ble_eq_true rfl) (Nat.le_of_ble_eq_true rfl) (Nat.le_of_ble_eq_true rfl) (Nat.le_of_ble_eq_true rfl) dX0_most_210 ?_
      subst hf
      exact W.iret (v := (mn (j3 / (2 : Int32)) (atv 6 (hh 8) j1))) hx hb hr (fun t ht hW => ⟨⟨(mn (j3 / (2 : Int32)) (atv 6 (hh 8) j1)), (), rfl, rfl, hPt ht hP⟩, hS.F ht⟩) hS.2.2 dX0_most_213
    · exact absurd c2 (by decide)
  · have hf := hT hf c1
    refine lv_iconst (v := (1 : Int32)) hx hb dX0_most_16 (by decide) ?_
    refine lv_goto (tgt := 21) hx hb dX0_most_17 (by decide) ?_
    refine lv_istore (lv' := [(5, .int (1 : Int32)), (4, .int (atv 8 (hh 2) j2)), (0, .ref (A 0)), (1, .int j1), (2, .int j2), (3, .int j3)]) hx hb dX0_most_21 hl (by decide) rfl (fun ls hl => ?_)
    refine lv_iload hx hb dX0_most_23 (lv_at hl 0 rfl) ?_
    refine lv_if_eq (tgt := 41) hx hb dX0_most_25 (by decide) (fun c14 => ?_) (fun c14 => ?_)
    · exact absurd c14 (by decide)
    · refine lv_iload_n hx hb dX0_most_28 rfl (lv_at hl 5 rfl) ?_
      refine lv_aload_n hx hb dX0_most_29 rfl (lv_at hl 2 rfl) ?_
      refine va_get (D := D) (ci := 0) (v := .ref (A 8)) (C := RX0) (T := TX0) (N := 13) hx hb hts hinH hown hK hP 0 rfl rfl 10 (by decide) lk13 (fun _ h9 => h9) rfl dX0_most_30 ?_
      refine lv_iload_n hx hb dX0_most_33 rfl (lv_at hl 3 rfl) ?_
      refine rSN_io (As := [.ref (A 8), .int j1]) (rest := [.int j3]) ⟨hx, hb, hml, hown, hts⟩ hK hN hA hP hD hS (c_X1_at l D cI 6 (by decide) (A 8) (hh 7) j1) ⟨va_cnB 2 hts gX0_most_X1_at_n60 rfl rfl rfl (nW.m hN 8 rfl) lk1 hd_X1_at.2 ⟨Nat.le_of_ble_eq_true rfl, Nat.le_of_ble_eq_true rfl⟩, lk2, trivial⟩ [8] (by decide) rfl rfl hl.1 rfl (Nat.le_of_ble_eq_true rfl) dX0_most_34 ⟨Nat.le_of_ble_eq_true rfl, Nat.le_of_ble_eq_true rfl⟩ (fun H locs hP hD hS => ?_)
      refine lv_iadd hx hb dX0_most_37 ?_
      refine lv_goto (tgt := 44) hx hb dX0_most_38 (by decide) ?_
      refine lv_istore (lv' := [(6, .int (j3 + (atv 6 (hh 7) j1))), (5, .int (1 : Int32)), (4, .int (atv 8 (hh 2) j2)), (0, .ref (A 0)), (1, .int j1), (2, .int j2), (3, .int j3)]) hx hb dX0_most_44 hl (by decide) rfl (fun ls hl => ?_)
      refine lv_aload_n hx hb dX0_most_46 rfl (lv_at hl 3 rfl) ?_
      refine va_get (D := D) (ci := 0) (v := .ref (A 7)) (C := RX0) (T := TX0) (N := 13) hx hb hts hinH hown hK hP 0 rfl rfl 9 (by decide) lk3 (fun _ h9 => h9) rfl dX0_most_47 ?_
      refine lv_iload_n hx hb dX0_most_50 rfl (lv_at hl 4 rfl) ?_
      refine rSN_io (As := [.ref (A 7), .int j1]) (rest := []) ⟨hx, hb, hml, hown, hts⟩ hK hN hA hP hD hS (c_X1_at l D cI 6 (by decide) (A 7) (hh 6) j1) ⟨va_cnB 2 hts gX0_most_X1_at_n60 rfl rfl rfl (nW.m hN 8 rfl) lk1 hd_X1_at.2 ⟨Nat.le_of_ble_eq_true rfl, Nat.le_of_ble_eq_true rfl⟩, lk2, trivial⟩ [7] (by decide) rfl rfl hl.1 rfl (Nat.le_of_ble_eq_true rfl) dX0_most_51 ⟨Nat.le_of_ble_eq_true rfl, Nat.le_of_ble_eq_true rfl⟩ (fun H locs hP hD hS => ?_)
      by_cases c15 : (atv 6 (hh 6) j1) = (1 : Int32)
      · have hf := hT hf c15
        refine sw_in (v := 1) (off := 34) (tgt := 88) hx hb dX0_most_54 ((congrArg Int32.toInt c15).trans (by decide)) (by decide) (by decide) (by decide) (by decide) ?_
        refine lv_iconst (v := (0 : Int32)) hx hb dX0_most_88 (by decide) ?_
        refine lv_iload hx hb dX0_most_89 (lv_at hl 0 rfl) ?_
        refine lv_iconst (v := (3 : Int32)) hx hb dX0_most_91 (by decide) ?_
        refine lv_isub hx hb dX0_most_92 ?_
        refine va_mmax hx hb (hml.trans hl.1.symm) hown lk4 lk5 lk6 lk7 (Nat.le_of_ble_eq_true rfl) (Nat.le_of_ble_eq_true rfl) (Nat.le_of_ble_eq_true rfl) (Nat.le_of_ble_eq_true rfl) dX0_most_93 ?_
        refine lv_istore (lv' := [(7, .int (mx (0 : Int32) ((j3 + (atv 6 (hh 7) j1)) - (3 : Int32)))), (6, .int (j3 + (atv 6 (hh 7) j1))), (5, .int (1 : Int32)), (4, .int (atv 8 (hh 2) j2)), (0, .ref (A 0)), (1, .int j1), (2, .int j2), (3, .int j3)]) hx hb dX0_most_96 hl (by decide) rfl (fun ls hl => ?_)
        refine lv_goto (tgt := 200) hx hb dX0_most_98 (by decide) ?_
        refine lv_iload hx hb dX0_most_200 (lv_at hl 0 rfl) ?_
        refine lv_aload_n hx hb dX0_most_202 rfl (lv_at hl 4 rfl) ?_
        refine va_get (D := D) (ci := 0) (v := .ref (A 9)) (C := RX0) (T := TX0) (N := 13) hx hb hts hinH hown hK hP 0 rfl rfl 11 (by decide) lk8 (fun _ h9 => h9) rfl dX0_most_203 ?_
        refine lv_iload_n hx hb dX0_most_206 rfl (lv_at hl 5 rfl) ?_
        refine rSN_io (As := [.ref (A 9), .int j1]) (rest := [.int (mx (0 : Int32) ((j3 + (atv 6 (hh 7) j1)) - (3 : Int32)))]) ⟨hx, hb, hml, hown, hts⟩ hK hN hA hP hD hS (c_X1_at l D cI 6 (by decide) (A 9) (hh 8) j1) ⟨va_cnB 2 hts gX0_most_X1_at_n60 rfl rfl rfl (nW.m hN 8 rfl) lk1 hd_X1_at.2 ⟨Nat.le_of_ble_eq_true rfl, Nat.le_of_ble_eq_true rfl⟩, lk2, trivial⟩ [9] (by decide) rfl rfl hl.1 rfl (Nat.le_of_ble_eq_true rfl) dX0_most_207 ⟨Nat.le_of_ble_eq_true rfl, Nat.le_of_ble_eq_true rfl⟩ (fun H locs hP hD hS => ?_)
        refine va_mmin hx hb (hml.trans hl.1.symm) hown lk9 lk10 lk6 lk11 (Nat.le_of_ble_eq_true rfl) (Nat.le_of_ble_eq_true rfl) (Nat.le_of_ble_eq_true rfl) (Nat.le_of_ble_eq_true rfl) dX0_most_210 ?_
        subst hf
        exact W.iret (v := (mn (mx (0 : Int32) ((j3 + (atv 6 (hh 7) j1)) - (3 : Int32))) (atv 6 (hh 8) j1))) hx hb hr (fun t ht hW => ⟨⟨(mn (mx (0 : Int32) ((j3 + (atv 6 (hh 7) j1)) - (3 : Int32))) (atv 6 (hh 8) j1)), (), rfl, rfl, hPt ht hP⟩, hS.F ht⟩) hS.2.2 dX0_most_213
      have hf := hF hf c15
      by_cases c16 : (atv 6 (hh 6) j1) = (2 : Int32)
      · have hf := hT hf c16
        refine sw_in (v := 2) (off := 47) (tgt := 101) hx hb dX0_most_54 ((congrArg Int32.toInt c16).trans (by decide)) (by decide) (by decide) (by decide) (by decide) ?_
        refine lv_iload hx hb dX0_most_101 (lv_at hl 1 rfl) ?_
        obtain ⟨K139, hK139, hf⟩ := jnS hf
        have J139 : ∀ (j6_139 : Int32) (H : Heap) (locs : List Loc) (ls : Array Slot), K139 j6_139 = out → va_P D vwCl (wH A cI hh) H → va_D G (wH A cI hh) → va_S G s.heap H locs → lv_has ls 9 [(0, .ref (A 0)), (1, .int j1), (6, .int j6_139)] → WW H locs (F0 m 139 ls []) := by
          intro j6_139 H locs ls hf hP hD hS hl
          subst hK139
          refine (hWW _ _ _).mpr ?_
          refine lv_iconst (v := (0 : Int32)) hx hb dX0_most_139 (by decide) ?_
          refine lv_istore (lv' := [(8, .int (0 : Int32)), (0, .ref (A 0)), (1, .int j1), (6, .int j6_139)]) hx hb dX0_most_140 hl (by decide) rfl (fun ls hl => ?_)
          refine lv_iload hx hb dX0_most_142 (lv_at hl 0 rfl) ?_
          refine lv_if_eq (tgt := 154) hx hb dX0_most_144 (by decide) (fun c17 => ?_) (fun c17 => ?_)
          · refine lv_iload hx hb dX0_most_154 (lv_at hl 3 rfl) ?_
            refine lv_istore (lv' := [(7, .int j6_139), (8, .int (0 : Int32)), (0, .ref (A 0)), (1, .int j1), (6, .int j6_139)]) hx hb dX0_most_156 hl (by decide) rfl (fun ls hl => ?_)
            refine lv_goto (tgt := 200) hx hb dX0_most_158 (by decide) ?_
            refine lv_iload hx hb dX0_most_200 (lv_at hl 0 rfl) ?_
            refine lv_aload_n hx hb dX0_most_202 rfl (lv_at hl 2 rfl) ?_
            refine va_get (D := D) (ci := 0) (v := .ref (A 9)) (C := RX0) (T := TX0) (N := 13) hx hb hts hinH hown hK hP 0 rfl rfl 11 (by decide) lk8 (fun _ h9 => h9) rfl dX0_most_203 ?_
            refine lv_iload_n hx hb dX0_most_206 rfl (lv_at hl 3 rfl) ?_
            refine rSN_io (As := [.ref (A 9), .int j1]) (rest := [.int j6_139]) ⟨hx, hb, hml, hown, hts⟩ hK hN hA hP hD hS (c_X1_at l D cI 6 (by decide) (A 9) (hh 8) j1) ⟨va_cnB 2 hts gX0_most_X1_at_n60 rfl rfl rfl (nW.m hN 8 rfl) lk1 hd_X1_at.2 ⟨Nat.le_of_ble_eq_true rfl, Nat.le_of_ble_eq_true rfl⟩, lk2, trivial⟩ [9] (by decide) rfl rfl hl.1 rfl (Nat.le_of_ble_eq_true rfl) dX0_most_207 ⟨Nat.le_of_ble_eq_true rfl, Nat.le_of_ble_eq_true rfl⟩ (fun H locs hP hD hS => ?_)
            refine va_mmin hx hb (hml.trans hl.1.symm) hown lk9 lk10 lk6 lk11 (Nat.le_of_ble_eq_true rfl) (Nat.le_of_ble_eq_true rfl) (Nat.le_of_ble_eq_true rfl) (Nat.le_of_ble_eq_true rfl) dX0_most_210 ?_
            subst hf
            exact W.iret (v := (mn j6_139 (atv 6 (hh 8) j1))) hx hb hr (fun t ht hW => ⟨⟨(mn j6_139 (atv 6 (hh 8) j1)), (), rfl, rfl, hPt ht hP⟩, hS.F ht⟩) hS.2.2 dX0_most_213
          · exact absurd c17 (by decide)
        refine lv_if_ne (tgt := 139) hx hb dX0_most_103 (by decide) (fun c18 => ?_) (fun c18 => ?_)
        · exact (hWW _ _ _).mp (J139 _ _ _ _ hf hP hD hS (lv_sub hl [3, 4, 0] rfl))
        · exact absurd c18 (by decide)
      have hf := hF hf c16
      by_cases c19 : (atv 6 (hh 6) j1) = (3 : Int32)
      · have hf := hT hf c19
        refine sw_in (v := 3) (off := 107) (tgt := 161) hx hb dX0_most_54 ((congrArg Int32.toInt c19).trans (by decide)) (by decide) (by decide) (by decide) (by decide) ?_
        refine lv_iload hx hb dX0_most_161 (lv_at hl 0 rfl) ?_
        refine lv_iconst (v := (5 : Int32)) hx hb dX0_most_163 (by decide) ?_
        refine lv_iadd hx hb dX0_most_164 ?_
        refine lv_istore (lv' := [(7, .int ((j3 + (atv 6 (hh 7) j1)) + (5 : Int32))), (6, .int (j3 + (atv 6 (hh 7) j1))), (5, .int (1 : Int32)), (4, .int (atv 8 (hh 2) j2)), (0, .ref (A 0)), (1, .int j1), (2, .int j2), (3, .int j3)]) hx hb dX0_most_165 hl (by decide) rfl (fun ls hl => ?_)
        refine lv_goto (tgt := 200) hx hb dX0_most_167 (by decide) ?_
        refine lv_iload hx hb dX0_most_200 (lv_at hl 0 rfl) ?_
        refine lv_aload_n hx hb dX0_most_202 rfl (lv_at hl 4 rfl) ?_
        refine va_get (D := D) (ci := 0) (v := .ref (A 9)) (C := RX0) (T := TX0) (N := 13) hx hb hts hinH hown hK hP 0 rfl rfl 11 (by decide) lk8 (fun _ h9 => h9) rfl dX0_most_203 ?_
        refine lv_iload_n hx hb dX0_most_206 rfl (lv_at hl 5 rfl) ?_
        refine rSN_io (As := [.ref (A 9), .int j1]) (rest := [.int ((j3 + (atv 6 (hh 7) j1)) + (5 : Int32))]) ⟨hx, hb, hml, hown, hts⟩ hK hN hA hP hD hS (c_X1_at l D cI 6 (by decide) (A 9) (hh 8) j1) ⟨va_cnB 2 hts gX0_most_X1_at_n60 rfl rfl rfl (nW.m hN 8 rfl) lk1 hd_X1_at.2 ⟨Nat.le_of_ble_eq_true rfl, Nat.le_of_ble_eq_true rfl⟩, lk2, trivial⟩ [9] (by decide) rfl rfl hl.1 rfl (Nat.le_of_ble_eq_true rfl) dX0_most_207 ⟨Nat.le_of_ble_eq_true rfl, Nat.le_of_ble_eq_true rfl⟩ (fun H locs hP hD hS => ?_)
        refine va_mmin hx hb (hml.trans hl.1.symm) hown lk9 lk10 lk6 lk11 (Nat.le_of_ble_eq_true rfl) (Nat.le_of_ble_eq_true rfl) (Nat.le_of_ble_eq_true rfl) (Nat.le_of_ble_eq_true rfl) dX0_most_210 ?_
        subst hf
        exact W.iret (v := (mn ((j3 + (atv 6 (hh 7) j1)) + (5 : Int32)) (atv 6 (hh 8) j1))) hx hb hr (fun t ht hW => ⟨⟨(mn ((j3 + (atv 6 (hh 7) j1)) + (5 : Int32)) (atv 6 (hh 8) j1)), (), rfl, rfl, hPt ht hP⟩, hS.F ht⟩) hS.2.2 dX0_most_213
      have hf := hF hf c19
      by_cases c20 : (atv 6 (hh 6) j1) = (4 : Int32)
      · have hf := hT hf c20
        refine sw_in (v := 4) (off := 116) (tgt := 170) hx hb dX0_most_54 ((congrArg Int32.toInt c20).trans (by decide)) (by decide) (by decide) (by decide) (by decide) ?_
        refine lv_iload hx hb dX0_most_170 (lv_at hl 1 rfl) ?_
        refine lv_if_eq (tgt := 179) hx hb dX0_most_172 (by decide) (fun c21 => ?_) (fun c21 => ?_)
        · exact absurd c21 (by decide)
        · refine lv_iload_n hx hb dX0_most_175 rfl (lv_at hl 6 rfl) ?_
          refine lv_goto (tgt := 180) hx hb dX0_most_176 (by decide) ?_
          refine lv_istore (lv' := [(7, .int j3), (6, .int (j3 + (atv 6 (hh 7) j1))), (5, .int (1 : Int32)), (4, .int (atv 8 (hh 2) j2)), (0, .ref (A 0)), (1, .int j1), (2, .int j2), (3, .int j3)]) hx hb dX0_most_180 hl (by decide) rfl (fun ls hl => ?_)
          refine lv_goto (tgt := 200) hx hb dX0_most_182 (by decide) ?_
          refine lv_iload hx hb dX0_most_200 (lv_at hl 0 rfl) ?_
          refine lv_aload_n hx hb dX0_most_202 rfl (lv_at hl 4 rfl) ?_
          refine va_get (D := D) (ci := 0) (v := .ref (A 9)) (C := RX0) (T := TX0) (N := 13) hx hb hts hinH hown hK hP 0 rfl rfl 11 (by decide) lk8 (fun _ h9 => h9) rfl dX0_most_203 ?_
          refine lv_iload_n hx hb dX0_most_206 rfl (lv_at hl 5 rfl) ?_
          refine rSN_io (As := [.ref (A 9), .int j1]) (rest := [.int j3]) ⟨hx, hb, hml, hown, hts⟩ hK hN hA hP hD hS (c_X1_at l D cI 6 (by decide) (A 9) (hh 8) j1) ⟨va_cnB 2 hts gX0_most_X1_at_n60 rfl rfl rfl (nW.m hN 8 rfl) lk1 hd_X1_at.2 ⟨Nat.le_of_ble_eq_true rfl, Nat.le_of_ble_eq_true rfl⟩, lk2, trivial⟩ [9] (by decide) rfl rfl hl.1 rfl (Nat.le_of_ble_eq_true rfl) dX0_most_207 ⟨Nat.le_of_ble_eq_true rfl, Nat.le_of_ble_eq_true rfl⟩ (fun H locs hP hD hS => ?_)
          refine va_mmin hx hb (hml.trans hl.1.symm) hown lk9 lk10 lk6 lk11 (Nat.le_of_ble_eq_true rfl) (Nat.le_of_ble_eq_true rfl) (Nat.le_of_ble_eq_true rfl) (Nat.le_of_ble_eq_true rfl) dX0_most_210 ?_
          subst hf
          exact W.iret (v := (mn j3 (atv 6 (hh 8) j1))) hx hb hr (fun t ht hW => ⟨⟨(mn j3 (atv 6 (hh 8) j1)), (), rfl, rfl, hPt ht hP⟩, hS.F ht⟩) hS.2.2 dX0_most_213
      have hf := hF hf c20
      by_cases c22 : (atv 6 (hh 6) j1) = (5 : Int32)
      · have hf := hT hf c22
        refine sw_in (v := 5) (off := 131) (tgt := 185) hx hb dX0_most_54 ((congrArg Int32.toInt c22).trans (by decide)) (by decide) (by decide) (by decide) (by decide) ?_
        refine lv_iconst (v := (2 : Int32)) hx hb dX0_most_185 (by decide) ?_
        refine lv_iload hx hb dX0_most_186 (lv_at hl 0 rfl) ?_
        refine lv_iconst (v := (5 : Int32)) hx hb dX0_most_188 (by decide) ?_
        refine lv_iadd hx hb dX0_most_189 ?_
        refine lv_imul hx hb dX0_most_190 ?_
        refine lv_istore (lv' := [(7, .int ((2 : Int32) * ((j3 + (atv 6 (hh 7) j1)) + (5 : Int32)))), (6, .int (j3 + (atv 6 (hh 7) j1))), (5, .int (1 : Int32)), (4, .int (atv 8 (hh 2) j2)), (0, .ref (A 0)), (1, .int j1), (2, .int j2), (3, .int j3)]) hx hb dX0_most_191 hl (by decide) rfl (fun ls hl => ?_)
        refine lv_goto (tgt := 200) hx hb dX0_most_193 (by decide) ?_
        refine lv_iload hx hb dX0_most_200 (lv_at hl 0 rfl) ?_
        refine lv_aload_n hx hb dX0_most_202 rfl (lv_at hl 4 rfl) ?_
        refine va_get (D := D) (ci := 0) (v := .ref (A 9)) (C := RX0) (T := TX0) (N := 13) hx hb hts hinH hown hK hP 0 rfl rfl 11 (by decide) lk8 (fun _ h9 => h9) rfl dX0_most_203 ?_
        refine lv_iload_n hx hb dX0_most_206 rfl (lv_at hl 5 rfl) ?_
        refine rSN_io (As := [.ref (A 9), .int j1]) (rest := [.int ((2 : Int32) * ((j3 + (atv 6 (hh 7) j1)) + (5 : Int32)))]) ⟨hx, hb, hml, hown, hts⟩ hK hN hA hP hD hS (c_X1_at l D cI 6 (by decide) (A 9) (hh 8) j1) ⟨va_cnB 2 hts gX0_most_X1_at_n60 rfl rfl rfl (nW.m hN 8 rfl) lk1 hd_X1_at.2 ⟨Nat.le_of_ble_eq_true rfl, Nat.le_of_ble_eq_true rfl⟩, lk2, trivial⟩ [9] (by decide) rfl rfl hl.1 rfl (Nat.le_of_ble_eq_true rfl) dX0_most_207 ⟨Nat.le_of_ble_eq_true rfl, Nat.le_of_ble_eq_true rfl⟩ (fun H locs hP hD hS => ?_)
        refine va_mmin hx hb (hml.trans hl.1.symm) hown lk9 lk10 lk6 lk11 (Nat.le_of_ble_eq_true rfl) (Nat.le_of_ble_eq_true rfl) (Nat.le_of_ble_eq_true rfl) (Nat.le_of_ble_eq_true rfl) dX0_most_210 ?_
        subst hf
        exact W.iret (v := (mn ((2 : Int32) * ((j3 + (atv 6 (hh 7) j1)) + (5 : Int32))) (atv 6 (hh 8) j1))) hx hb hr (fun t ht hW => ⟨⟨(mn ((2 : Int32) * ((j3 + (atv 6 (hh 7) j1)) + (5 : Int32))) (atv 6 (hh 8) j1)), (), rfl, rfl, hPt ht hP⟩, hS.F ht⟩) hS.2.2 dX0_most_213
      have hf := hF hf c22
      refine lv_tableOut (tgt := 196) hx hb dX0_most_54 (by have z0 := lv_neT (a := 1) c15 (by decide); have z1 := lv_neT (a := 2) c16 (by decide); have z2 := lv_neT (a := 3) c19 (by decide); have z3 := lv_neT (a := 4) c20 (by decide); have z4 := lv_neT (a := 5) c22 (by decide); omega) (by decide) ?_
      refine lv_iload hx hb dX0_most_196 (lv_at hl 0 rfl) ?_
      refine lv_istore (lv' := [(7, .int (j3 + (atv 6 (hh 7) j1))), (6, .int (j3 + (atv 6 (hh 7) j1))), (5, .int (1 : Int32)), (4, .int (atv 8 (hh 2) j2)), (0, .ref (A 0)), (1, .int j1), (2, .int j2), (3, .int j3)]) hx hb dX0_most_198 hl (by decide) rfl (fun ls hl => ?_)
      refine lv_iload hx hb dX0_most_200 (lv_at hl 0 rfl) ?_
      refine lv_aload_n hx hb dX0_most_202 rfl (lv_at hl 4 rfl) ?_
      refine va_get (D := D) (ci := 0) (v := .ref (A 9)) (C := RX0) (T := TX0) (N := 13) hx hb hts hinH hown hK hP 0 rfl rfl 11 (by decide) lk8 (fun _ h9 => h9) rfl dX0_most_203 ?_
      refine lv_iload_n hx hb dX0_most_206 rfl (lv_at hl 5 rfl) ?_
      refine rSN_io (As := [.ref (A 9), .int j1]) (rest := [.int (j3 + (atv 6 (hh 7) j1))]) ⟨hx, hb, hml, hown, hts⟩ hK hN hA hP hD hS (c_X1_at l D cI 6 (by decide) (A 9) (hh 8) j1) ⟨va_cnB 2 hts gX0_most_X1_at_n60 rfl rfl rfl (nW.m hN 8 rfl) lk1 hd_X1_at.2 ⟨Nat.le_of_ble_eq_true rfl, Nat.le_of_ble_eq_true rfl⟩, lk2, trivial⟩ [9] (by decide) rfl rfl hl.1 rfl (Nat.le_of_ble_eq_true rfl) dX0_most_207 ⟨Nat.le_of_ble_eq_true rfl, Nat.le_of_ble_eq_true rfl⟩ (fun H locs hP hD hS => ?_)
      refine va_mmin hx hb (hml.trans hl.1.symm) hown lk9 lk10 lk6 lk11 (Nat.le_of_ble_eq_true rfl) (Nat.le_of_ble_eq_true rfl) (Nat.le_of_ble_eq_true rfl) (Nat.le_of_ble_eq_true rfl) dX0_most_210 ?_
      subst hf
      exact W.iret (v := (mn (j3 + (atv 6 (hh 7) j1)) (atv 6 (hh 8) j1))) hx hb hr (fun t ht hW => ⟨⟨(mn (j3 + (atv 6 (hh 7) j1)) (atv 6 (hh 8) j1)), (), rfl, rfl, hPt ht hP⟩, hS.F ht⟩) hS.2.2 dX0_most_213
set_option maxHeartbeats 4000000 in
set_option maxRecDepth 100000 in
theorem c_X0_rivals (l : Launch) (D : va_G) (cI : ClassId) (A : Nat → Nat) (j1 : Int32) (hh : HS) (out : Int32) (hf : f_X0_rivals j1 hh = some out) : uI l D cI yX0_rivals wsX0_rivals ({ frames := 2, cells := 0, slots := 0, locals := 49 } : Room) [.ref (A 0), .int j1] (wH A cI hh) (wH A cI hh) out := by
  intro sz
  refine Met.ofW (cc := cX0_rivals) (maxL := 5) (ret := (some .int)) (by decide) rfl ?_
  intro p e s m args below meth c s₁ Bd hml hv
  obtain ⟨rfl, hsz, hP, hK, hD0, hN⟩ := hv
  have hx := Bd.exec
  have hb := Bd.bytes
  have hr := Bd.returns
  have hts := atoms_spec (ws := wsX0_rivals) Bd.pre
  have hown : s.vm.findClass RX0 = some m.cls := findClass_of_methodNamed Bd.named
  have hlocks := Bd.notSynchronized
  subst hsz
  have hD := hD0.self (sz := s.heap.size)
  generalize hAe : va_A (wH A cI hh) s.heap.size = G at hD ⊢
  have hA : ∀ q : Nat, s.heap.size ≤ q → G q := fun q h => by rw [← hAe]; exact Or.inr h
  have hS : va_S G s.heap s.heap [] := va_S.rf
  have hP : va_P D vwCl (wH A cI hh) s.heap := hP
  have hl := lv_entry ([.ref (A 0), .int j1]) (n := 5) (Nat.le_of_ble_eq_true rfl)
  rw [lg_entry_eq]
  generalize (lg_sl ([.ref (A 0), .int j1]) ++ List.replicate (5 - (lg_sl ([.ref (A 0), .int j1])).length) Slot.unset).toArray = ls at hl ⊢
  have hl : lv_has ls 5 [(0, .ref (A 0)), (1, .int j1)] := hl
  have hinH : ∀ w ∈ wsX00, w ∈ wsX0_rivals := by decide +kernel
  have lk0 := hts (.fieldLink RX0 46 "LiesBoughtBack$Hall" "bidders" "I") (by decide +kernel)
  refine W_in ?_
  intro WW hWW
  refine (hWW _ _ _).mpr ?_
  unfold f_X0_rivals at hf
  refine lv_aload_n hx hb dX0_rivals_0 rfl (lv_at hl 0 rfl) ?_
  refine lv_iload_n hx hb dX0_rivals_1 rfl (lv_at hl 1 rfl) ?_
  refine rV_io (As := [.int j1]) (rest := []) ⟨hx, hb, hml, hown, hts⟩ hK hN hA hP hD hS (c_X0_worth l D cI A j1 hh (f_X0_worth j1 hh) rfl) (cwV 1 hts gX0_rivals_X0_worth rfl rfl rfl hd_X0_worth ⟨Nat.le_of_ble_eq_true rfl, Nat.le_of_ble_eq_true rfl⟩) (va_recv hK hP (ci := 0) (q0 := 0) rfl rfl) [0, 1, 2, 3, 4, 5, 6, 7, 8, 9, 10] (by decide) rfl rfl hl.1 rfl (Nat.le_of_ble_eq_true rfl) dX0_rivals_2 ⟨Nat.le_of_ble_eq_true rfl, Nat.le_of_ble_eq_true rfl⟩ (fun H locs hP hD hS => ?_)
  refine lv_istore_n (lv' := [(2, .int (f_X0_worth j1 hh)), (0, .ref (A 0)), (1, .int j1)]) hx hb dX0_rivals_5 rfl hl (by decide) rfl (fun ls hl => ?_)
  refine lv_iconst (v := (0 : Int32)) hx hb dX0_rivals_6 (by decide) ?_
  refine lv_istore_n (lv' := [(3, .int (0 : Int32)), (2, .int (f_X0_worth j1 hh)), (0, .ref (A 0)), (1, .int j1)]) hx hb dX0_rivals_7 rfl hl (by decide) rfl (fun ls hl => ?_)
  refine lv_iconst (v := (0 : Int32)) hx hb dX0_rivals_8 (by decide) ?_
  refine lv_istore (lv' := [(4, .int (0 : Int32)), (3, .int (0 : Int32)), (2, .int (f_X0_worth j1 hh)), (0, .ref (A 0)), (1, .int j1)]) hx hb dX0_rivals_9 hl (by decide) rfl (fun ls hl => ?_)
  obtain ⟨K41, hK41, hf⟩ := jnS hf
  have J41 : ∀ (j3_41 : Int32) (H : Heap) (locs : List Loc) (ls : Array Slot), K41 j3_41 = some out → va_P D vwCl (wH A cI hh) H → va_D G (wH A cI hh) → va_S G s.heap H locs → lv_has ls 5 [(3, .int j3_41)] → WW H locs (F0 m 41 ls []) := by
    intro j3_41 H locs ls hf hP hD hS hl
    subst hK41
    refine (hWW _ _ _).mpr ?_
    refine lv_iload_n hx hb dX0_rivals_41 rfl (lv_at hl 0 rfl) ?_
    obtain rfl := Option.some.inj hf
    exact W.iret (v := j3_41) hx hb hr (fun t ht hW => ⟨⟨j3_41, (), rfl, rfl, hPt ht hP⟩, hS.F ht⟩) hS.2.2 dX0_rivals_42
  have P11 : ∀ (n' : Nat) (j2_11 : Int32) (j3_11 : Int32) (j4_11 : Int32) (H : Heap) (locs : List Loc) (ls : Array Slot), L_X0_rivals_11 j1 hh K41 n' j2_11 j3_11 j4_11 = some out → va_P D vwCl (wH A cI hh) H → va_D G (wH A cI hh) → va_S G s.heap H locs → lv_has ls 5 [(0, .ref (A 0)), (1, .int j1), (2, .int j2_11), (3, .int j3_11), (4, .int j4_11)] → WW H locs (F0 m 11 ls []) := by
    intro n'
    induction n' with
    | zero => intro j2_11 j3_11 j4_11 H locs ls hf; exact absurd (show (none : Option (Int32)) = some out from hf) (fun q => by cases q)
    | succ n' ih =>
      intro j2_11 j3_11 j4_11 H locs ls hf hP hD hS hl
      rw [L_X0_rivals_11] at hf
      refine (hWW _ _ _).mpr ?_
      refine lv_iload hx hb dX0_rivals_11 (lv_at hl 4 rfl) ?_
      refine lv_aload_n hx hb dX0_rivals_13 rfl (lv_at hl 0 rfl) ?_
      refine va_get (D := D) (ci := 0) (v := .int (hh 11 0)) (C := RX0) (T := TX0) (N := 13) hx hb hts hinH hown hK hP 0 rfl rfl 1 (by decide) lk0 (fun _ h9 => h9) rfl dX0_rivals_14 ?_
      refine lv_icmp_ge (tgt := 41) hx hb dX0_rivals_17 (by decide) (fun c1 => ?_) (fun c1 => ?_)
      · have hf := hT hf c1
        exact (hWW _ _ _).mp (J41 _ _ _ _ hf hP hD hS (lv_sub hl [3] rfl))
      · have hf := hF hf c1
        refine lv_aload_n hx hb dX0_rivals_20 rfl (lv_at hl 0 rfl) ?_
        refine lv_iload hx hb dX0_rivals_21 (lv_at hl 4 rfl) ?_
        refine lv_iload_n hx hb dX0_rivals_23 rfl (lv_at hl 1 rfl) ?_
        refine lv_iload_n hx hb dX0_rivals_24 rfl (lv_at hl 2 rfl) ?_
        refine rV_io (As := [.int j4_11, .int j1, .int j2_11]) (rest := []) ⟨hx, hb, hml, hown, hts⟩ hK hN hA hP hD hS (c_X0_most l D cI A j4_11 j1 j2_11 hh (f_X0_most j4_11 j1 j2_11 hh) rfl) (cwV 3 hts gX0_rivals_X0_most rfl rfl rfl hd_X0_most ⟨Nat.le_of_ble_eq_true rfl, Nat.le_of_ble_eq_true rfl⟩) (va_recv hK hP (ci := 0) (q0 := 0) rfl rfl) [0, 1, 2, 3, 4, 5, 6, 7, 8, 9, 10] (by decide) rfl rfl hl.1 rfl (Nat.le_of_ble_eq_true rfl) dX0_rivals_25 ⟨Nat.le_of_ble_eq_true rfl, Nat.le_of_ble_eq_true rfl⟩ (fun H locs hP hD hS => ?_)
        refine lv_iconst (v := (1 : Int32)) hx hb dX0_rivals_28 (by decide) ?_
        refine lv_icmp_lt (tgt := 35) hx hb dX0_rivals_29 (by decide) (fun c2 => ?_) (fun c2 => ?_)
        · have hf := hT hf c2
          refine lv_iinc (v := (j4_11 + (1 : Int32))) (lv' := [(4, .int (j4_11 + (1 : Int32))), (0, .ref (A 0)), (1, .int j1), (2, .int j2_11), (3, .int j3_11)]) hx hb dX0_rivals_35 hl (k := 4) rfl rfl (by decide) rfl (fun ls hl => ?_)
          refine lv_goto (tgt := 11) hx hb dX0_rivals_38 (by decide) ?_
          exact (hWW _ _ _).mp (ih _ _ _ _ _ _ hf hP hD hS (lv_sub hl [1, 2, 3, 4, 0] rfl))
        · have hf := hF hf c2
          refine lv_iinc (v := (j3_11 + (1 : Int32))) (lv' := [(3, .int (j3_11 + (1 : Int32))), (0, .ref (A 0)), (1, .int j1), (2, .int j2_11), (4, .int j4_11)]) hx hb dX0_rivals_32 hl (k := 3) rfl rfl (by decide) rfl (fun ls hl => ?_)
          refine lv_iinc (v := (j4_11 + (1 : Int32))) (lv' := [(4, .int (j4_11 + (1 : Int32))), (3, .int (j3_11 + (1 : Int32))), (0, .ref (A 0)), (1, .int j1), (2, .int j2_11)]) hx hb dX0_rivals_35 hl (k := 4) rfl rfl (by decide) rfl (fun ls hl => ?_)
          refine lv_goto (tgt := 11) hx hb dX0_rivals_38 (by decide) ?_
          exact (hWW _ _ _).mp (ih _ _ _ _ _ _ hf hP hD hS (lv_sub hl [2, 3, 4, 1, 0] rfl))
  exact (hWW _ _ _).mp (P11 _ _ _ _ _ _ _ hf hP hD hS (lv_sub hl [3, 4, 2, 1, 0] rfl))
set_option maxHeartbeats 4000000 in
set_option maxRecDepth 100000 in
theorem c_X0_deal (l : Launch) (D : va_G) (cI : ClassId) (A : Nat → Nat) (j1 : Int32) (j2 : Int32) (hh : HS) (out : Int32) (hf : f_X0_deal j1 j2 hh = some out) : uI l D cI yX0_deal wsX0_deal ({ frames := 2, cells := 0, slots := 0, locals := 49 } : Room) [.ref (A 0), .int j1, .int j2] (wH A cI hh) (wH A cI hh) out := by
  intro sz
  refine Met.ofW (cc := cX0_deal) (maxL := 9) (ret := (some .int)) (by decide) rfl ?_
  intro p e s m args below meth c s₁ Bd hml hv
  obtain ⟨rfl, hsz, hP, hK, hD0, hN⟩ := hv
  have hx := Bd.exec
  have hb := Bd.bytes
  have hr := Bd.returns
  have hts := atoms_spec (ws := wsX0_deal) Bd.pre
  have hown : s.vm.findClass RX0 = some m.cls := findClass_of_methodNamed Bd.named
  have hlocks := Bd.notSynchronized
  subst hsz
  have hD := hD0.self (sz := s.heap.size)
  generalize hAe : va_A (wH A cI hh) s.heap.size = G at hD ⊢
  have hA : ∀ q : Nat, s.heap.size ≤ q → G q := fun q h => by rw [← hAe]; exact Or.inr h
  have hS : va_S G s.heap s.heap [] := va_S.rf
  have hP : va_P D vwCl (wH A cI hh) s.heap := hP
  have hl := lv_entry ([.ref (A 0), .int j1, .int j2]) (n := 9) (Nat.le_of_ble_eq_true rfl)
  rw [lg_entry_eq]
  generalize (lg_sl ([.ref (A 0), .int j1, .int j2]) ++ List.replicate (9 - (lg_sl ([.ref (A 0), .int j1, .int j2])).length) Slot.unset).toArray = ls at hl ⊢
  have hl : lv_has ls 9 [(0, .ref (A 0)), (1, .int j1), (2, .int j2)] := hl
  have hinH : ∀ w ∈ wsX00, w ∈ wsX0_deal := by decide +kernel
  have lk0 := hts (.methodLink RX0 81 Lib.Math.min.name) (by decide +kernel)
  have lk1 := hts (.static Lib.Math.min.name) (by decide +kernel)
  have lk2 := hts (.initialized "java/lang/Math") (by decide +kernel)
  have lk3 := hts (.code Lib.Math.min.name Lib.Math.min.code 2 (some .int)) (by decide +kernel)
  have lk4 := hts (.fieldLink RX0 46 "LiesBoughtBack$Hall" "bidders" "I") (by decide +kernel)
  refine W_in ?_
  intro WW hWW
  refine (hWW _ _ _).mpr ?_
  unfold f_X0_deal at hf
  refine lv_aload_n hx hb dX0_deal_0 rfl (lv_at hl 0 rfl) ?_
  refine lv_iload_n hx hb dX0_deal_1 rfl (lv_at hl 1 rfl) ?_
  refine rV_io (As := [.int j1]) (rest := []) ⟨hx, hb, hml, hown, hts⟩ hK hN hA hP hD hS (c_X0_worth l D cI A j1 hh (f_X0_worth j1 hh) rfl) (cwV 1 hts gX0_deal_X0_worth rfl rfl rfl hd_X0_worth ⟨Nat.le_of_ble_eq_true rfl, Nat.le_of_ble_eq_true rfl⟩) (va_recv hK hP (ci := 0) (q0 := 0) rfl rfl) [0, 1, 2, 3, 4, 5, 6, 7, 8, 9, 10] (by decide) rfl rfl hl.1 rfl (Nat.le_of_ble_eq_true rfl) dX0_deal_2 ⟨Nat.le_of_ble_eq_true rfl, Nat.le_of_ble_eq_true rfl⟩ (fun H locs hP hD hS => ?_)
  refine lv_istore_n (lv' := [(3, .int (f_X0_worth j1 hh)), (0, .ref (A 0)), (1, .int j1), (2, .int j2)]) hx hb dX0_deal_5 rfl hl (by decide) rfl (fun ls hl => ?_)
  refine lv_iconst (v := (0 : Int32)) hx hb dX0_deal_6 (by decide) ?_
  refine lv_istore (lv' := [(4, .int (0 : Int32)), (3, .int (f_X0_worth j1 hh)), (0, .ref (A 0)), (1, .int j1), (2, .int j2)]) hx hb dX0_deal_7 hl (by decide) rfl (fun ls hl => ?_)
  refine lv_iconst (v := (0 : Int32)) hx hb dX0_deal_9 (by decide) ?_
  refine lv_istore (lv' := [(5, .int (0 : Int32)), (4, .int (0 : Int32)), (3, .int (f_X0_worth j1 hh)), (0, .ref (A 0)), (1, .int j1), (2, .int j2)]) hx hb dX0_deal_10 hl (by decide) rfl (fun ls hl => ?_)
  refine lv_bipush (v := (-9 : Int32)) hx hb dX0_deal_12 (by decide) ?_
  refine lv_istore (lv' := [(6, .int (-9 : Int32)), (5, .int (0 : Int32)), (4, .int (0 : Int32)), (3, .int (f_X0_worth j1 hh)), (0, .ref (A 0)), (1, .int j1), (2, .int j2)]) hx hb dX0_deal_14 hl (by decide) rfl (fun ls hl => ?_)
  refine lv_iconst (v := (0 : Int32)) hx hb dX0_deal_16 (by decide) ?_
  refine lv_istore (lv' := [(7, .int (0 : Int32)), (6, .int (-9 : Int32)), (5, .int (0 : Int32)), (4, .int (0 : Int32)), (3, .int (f_X0_worth j1 hh)), (0, .ref (A 0)), (1, .int j1), (2, .int j2)]) hx hb dX0_deal_17 hl (by decide) rfl (fun ls hl => ?_)
  obtain ⟨K91, hK91, hf⟩ := jnS hf
  have J91 : ∀ (j4_91 : Int32) (j5_91 : Int32) (j6_91 : Int32) (H : Heap) (locs : List Loc) (ls : Array Slot), K91 j4_91 j5_91 j6_91 = some out → va_P D vwCl (wH A cI hh) H → va_D G (wH A cI hh) → va_S G s.heap H locs → lv_has ls 9 [(4, .int j4_91), (5, .int j5_91), (6, .int j6_91)] → WW H locs (F0 m 91 ls []) := by
    intro j4_91 j5_91 j6_91 H locs ls hf hP hD hS hl
    subst hK91
    refine (hWW _ _ _).mpr ?_
    refine lv_iload hx hb dX0_deal_91 (lv_at hl 2 rfl) ?_
    refine lv_if_ge (tgt := 101) hx hb dX0_deal_93 (by decide) (fun c1 => ?_) (fun c1 => ?_)
    · have hf := hT hf c1
      refine lv_iload hx hb dX0_deal_101 (lv_at hl 2 rfl) ?_
      refine lv_sipush (v := (1000 : Int32)) hx hb dX0_deal_103 (by decide) ?_
      refine lv_imul hx hb dX0_deal_106 ?_
      refine lv_iload hx hb dX0_deal_107 (lv_at hl 0 rfl) ?_
      refine lv_iload hx hb dX0_deal_109 (lv_at hl 1 rfl) ?_
      refine lv_iconst (v := (1 : Int32)) hx hb dX0_deal_111 (by decide) ?_
      refine lv_iadd hx hb dX0_deal_112 ?_
      refine va_mmin hx hb (hml.trans hl.1.symm) hown lk0 lk1 lk2 lk3 (Nat.le_of_ble_eq_true rfl) (Nat.le_of_ble_eq_true rfl) (Nat.le_of_ble_eq_true rfl) (Nat.le_of_ble_eq_true rfl) dX0_deal_113 ?_
      refine lv_iadd hx hb dX0_deal_116 ?_
      obtain rfl := Option.some.inj hf
      exact W.iret (v := ((j6_91 * (1000 : Int32)) + (mn j4_91 (j5_91 + (1 : Int32))))) hx hb hr (fun t ht hW => ⟨⟨((j6_91 * (1000 : Int32)) + (mn j4_91 (j5_91 + (1 : Int32)))), (), rfl, rfl, hPt ht hP⟩, hS.F ht⟩) hS.2.2 dX0_deal_117
    · have hf := hF hf c1
      refine lv_bipush (v := (-9 : Int32)) hx hb dX0_deal_96 (by decide) ?_
      refine lv_goto (tgt := 117) hx hb dX0_deal_98 (by decide) ?_
      obtain rfl := Option.some.inj hf
      exact W.iret (v := (-9 : Int32)) hx hb hr (fun t ht hW => ⟨⟨(-9 : Int32), (), rfl, rfl, hPt ht hP⟩, hS.F ht⟩) hS.2.2 dX0_deal_117
  have P19 : ∀ (n' : Nat) (j3_19 : Int32) (j4_19 : Int32) (j5_19 : Int32) (j6_19 : Int32) (j7_19 : Int32) (H : Heap) (locs : List Loc) (ls : Array Slot), L_X0_deal_19 j1 j2 hh K91 n' j3_19 j4_19 j5_19 j6_19 j7_19 = some out → va_P D vwCl (wH A cI hh) H → va_D G (wH A cI hh) → va_S G s.heap H locs → lv_has ls 9 [(0, .ref (A 0)), (1, .int j1), (2, .int j2), (3, .int j3_19), (4, .int j4_19), (5, .int j5_19), (6, .int j6_19), (7, .int j7_19)] → WW H locs (F0 m 19 ls []) := by
    intro n'
    induction n' with
    | zero => intro j3_19 j4_19 j5_19 j6_19 j7_19 H locs ls hf; exact absurd (show (none : Option (Int32)) = some out from hf) (fun q => by cases q)
    | succ n' ih =>
      intro j3_19 j4_19 j5_19 j6_19 j7_19 H locs ls hf hP hD hS hl
      rw [L_X0_deal_19] at hf
      refine (hWW _ _ _).mpr ?_
      refine lv_iload hx hb dX0_deal_19 (lv_at hl 7 rfl) ?_
      refine lv_aload_n hx hb dX0_deal_21 rfl (lv_at hl 0 rfl) ?_
      refine va_get (D := D) (ci := 0) (v := .int (hh 11 0)) (C := RX0) (T := TX0) (N := 13) hx hb hts hinH hown hK hP 0 rfl rfl 1 (by decide) lk4 (fun _ h9 => h9) rfl dX0_deal_22 ?_
      refine lv_icmp_ge (tgt := 91) hx hb dX0_deal_25 (by decide) (fun c2 => ?_) (fun c2 => ?_)
      · have hf := hT hf c2
        exact (hWW _ _ _).mp (J91 _ _ _ _ _ _ hf hP hD hS (lv_sub hl [4, 5, 6] rfl))
      · have hf := hF hf c2
        refine lv_iload_n hx hb dX0_deal_28 rfl (lv_at hl 2 rfl) ?_
        refine lv_iload hx hb dX0_deal_29 (lv_at hl 7 rfl) ?_
        refine lv_ishr hx hb dX0_deal_31 ?_
        refine lv_iconst (v := (1 : Int32)) hx hb dX0_deal_32 (by decide) ?_
        refine lv_iand hx hb dX0_deal_33 ?_
        refine lv_iconst (v := (1 : Int32)) hx hb dX0_deal_34 (by decide) ?_
        refine lv_icmp_ne (tgt := 42) hx hb dX0_deal_35 (by decide) (fun c3 => ?_) (fun c3 => ?_)
        · have hf := hF hf c3
          refine lv_aload_n hx hb dX0_deal_42 rfl (lv_at hl 0 rfl) ?_
          refine lv_iload hx hb dX0_deal_43 (lv_at hl 7 rfl) ?_
          refine lv_iload_n hx hb dX0_deal_45 rfl (lv_at hl 1 rfl) ?_
          refine lv_iload_n hx hb dX0_deal_46 rfl (lv_at hl 3 rfl) ?_
          refine rV_io (As := [.int j7_19, .int j1, .int j3_19]) (rest := []) ⟨hx, hb, hml, hown, hts⟩ hK hN hA hP hD hS (c_X0_most l D cI A j7_19 j1 j3_19 hh (f_X0_most j7_19 j1 j3_19 hh) rfl) (cwV 3 hts gX0_deal_X0_most rfl rfl rfl hd_X0_most ⟨Nat.le_of_ble_eq_true rfl, Nat.le_of_ble_eq_true rfl⟩) (va_recv hK hP (ci := 0) (q0 := 0) rfl rfl) [0, 1, 2, 3, 4, 5, 6, 7, 8, 9, 10] (by decide) rfl rfl hl.1 rfl (Nat.le_of_ble_eq_true rfl) dX0_deal_47 ⟨Nat.le_of_ble_eq_true rfl, Nat.le_of_ble_eq_true rfl⟩ (fun H locs hP hD hS => ?_)
          refine lv_istore (lv' := [(8, .int (f_X0_most j7_19 j1 j3_19 hh)), (0, .ref (A 0)), (1, .int j1), (2, .int j2), (3, .int j3_19), (4, .int j4_19), (5, .int j5_19), (6, .int j6_19), (7, .int j7_19)]) hx hb dX0_deal_50 hl (by decide) rfl (fun ls hl => ?_)
          refine lv_iload hx hb dX0_deal_52 (lv_at hl 0 rfl) ?_
          refine lv_iload hx hb dX0_deal_54 (lv_at hl 5 rfl) ?_
          refine lv_icmp_le (tgt := 74) hx hb dX0_deal_56 (by decide) (fun c4 => ?_) (fun c4 => ?_)
          · have hf := hT hf c4
            refine lv_iload hx hb dX0_deal_74 (lv_at hl 0 rfl) ?_
            refine lv_iload hx hb dX0_deal_76 (lv_at hl 6 rfl) ?_
            refine lv_icmp_le (tgt := 85) hx hb dX0_deal_78 (by decide) (fun c5 => ?_) (fun c5 => ?_)
            · have hf := hT hf c5
              refine lv_iinc (v := (j7_19 + (1 : Int32))) (lv' := [(7, .int (j7_19 + (1 : Int32))), (8, .int (f_X0_most j7_19 j1 j3_19 hh)), (0, .ref (A 0)), (1, .int j1), (2, .int j2), (3, .int j3_19), (4, .int j4_19), (5, .int j5_19), (6, .int j6_19)]) hx hb dX0_deal_85 hl (k := 8) rfl rfl (by decide) rfl (fun ls hl => ?_)
              refine lv_goto (tgt := 19) hx hb dX0_deal_88 (by decide) ?_
              exact (hWW _ _ _).mp (ih _ _ _ _ _ _ _ _ hf hP hD hS (lv_sub hl [2, 3, 4, 5, 6, 7, 8, 0] rfl))
            · have hf := hF hf c5
              refine lv_iload hx hb dX0_deal_81 (lv_at hl 0 rfl) ?_
              refine lv_istore (lv' := [(5, .int (f_X0_most j7_19 j1 j3_19 hh)), (8, .int (f_X0_most j7_19 j1 j3_19 hh)), (0, .ref (A 0)), (1, .int j1), (2, .int j2), (3, .int j3_19), (4, .int j4_19), (6, .int j6_19), (7, .int j7_19)]) hx hb dX0_deal_83 hl (by decide) rfl (fun ls hl => ?_)
              refine lv_iinc (v := (j7_19 + (1 : Int32))) (lv' := [(7, .int (j7_19 + (1 : Int32))), (5, .int (f_X0_most j7_19 j1 j3_19 hh)), (8, .int (f_X0_most j7_19 j1 j3_19 hh)), (0, .ref (A 0)), (1, .int j1), (2, .int j2), (3, .int j3_19), (4, .int j4_19), (6, .int j6_19)]) hx hb dX0_deal_85 hl (k := 8) rfl rfl (by decide) rfl (fun ls hl => ?_)
              refine lv_goto (tgt := 19) hx hb dX0_deal_88 (by decide) ?_
              exact (hWW _ _ _).mp (ih _ _ _ _ _ _ _ _ hf hP hD hS (lv_sub hl [3, 4, 5, 6, 7, 1, 8, 0] rfl))
          · have hf := hF hf c4
            refine lv_iload hx hb dX0_deal_59 (lv_at hl 5 rfl) ?_
            refine lv_istore (lv' := [(5, .int j4_19), (8, .int (f_X0_most j7_19 j1 j3_19 hh)), (0, .ref (A 0)), (1, .int j1), (2, .int j2), (3, .int j3_19), (4, .int j4_19), (6, .int j6_19), (7, .int j7_19)]) hx hb dX0_deal_61 hl (by decide) rfl (fun ls hl => ?_)
            refine lv_iload hx hb dX0_deal_63 (lv_at hl 1 rfl) ?_
            refine lv_istore (lv' := [(4, .int (f_X0_most j7_19 j1 j3_19 hh)), (5, .int j4_19), (8, .int (f_X0_most j7_19 j1 j3_19 hh)), (0, .ref (A 0)), (1, .int j1), (2, .int j2), (3, .int j3_19), (6, .int j6_19), (7, .int j7_19)]) hx hb dX0_deal_65 hl (by decide) rfl (fun ls hl => ?_)
            refine lv_iload hx hb dX0_deal_67 (lv_at hl 8 rfl) ?_
            refine lv_istore (lv' := [(6, .int j7_19), (4, .int (f_X0_most j7_19 j1 j3_19 hh)), (5, .int j4_19), (8, .int (f_X0_most j7_19 j1 j3_19 hh)), (0, .ref (A 0)), (1, .int j1), (2, .int j2), (3, .int j3_19), (7, .int j7_19)]) hx hb dX0_deal_69 hl (by decide) rfl (fun ls hl => ?_)
            refine lv_goto (tgt := 85) hx hb dX0_deal_71 (by decide) ?_
            refine lv_iinc (v := (j7_19 + (1 : Int32))) (lv' := [(7, .int (j7_19 + (1 : Int32))), (6, .int j7_19), (4, .int (f_X0_most j7_19 j1 j3_19 hh)), (5, .int j4_19), (8, .int (f_X0_most j7_19 j1 j3_19 hh)), (0, .ref (A 0)), (1, .int j1), (2, .int j2), (3, .int j3_19)]) hx hb dX0_deal_85 hl (k := 8) rfl rfl (by decide) rfl (fun ls hl => ?_)
            refine lv_goto (tgt := 19) hx hb dX0_deal_88 (by decide) ?_
            exact (hWW _ _ _).mp (ih _ _ _ _ _ _ _ _ hf hP hD hS (lv_sub hl [5, 6, 7, 8, 2, 3, 1, 0] rfl))
        · have hf := hT hf c3
          refine lv_iconst (v := (0 : Int32)) hx hb dX0_deal_38 (by decide) ?_
          refine lv_goto (tgt := 50) hx hb dX0_deal_39 (by decide) ?_
          refine lv_istore (lv' := [(8, .int (0 : Int32)), (0, .ref (A 0)), (1, .int j1), (2, .int j2), (3, .int j3_19), (4, .int j4_19), (5, .int j5_19), (6, .int j6_19), (7, .int j7_19)]) hx hb dX0_deal_50 hl (by decide) rfl (fun ls hl => ?_)
          refine lv_iload hx hb dX0_deal_52 (lv_at hl 0 rfl) ?_
          refine lv_iload hx hb dX0_deal_54 (lv_at hl 5 rfl) ?_
          refine lv_icmp_le (tgt := 74) hx hb dX0_deal_56 (by decide) (fun c6 => ?_) (fun c6 => ?_)
          · have hf := hT hf c6
            refine lv_iload hx hb dX0_deal_74 (lv_at hl 0 rfl) ?_
            refine lv_iload hx hb dX0_deal_76 (lv_at hl 6 rfl) ?_
            refine lv_icmp_le (tgt := 85) hx hb dX0_deal_78 (by decide) (fun c7 => ?_) (fun c7 => ?_)
            · have hf := hT hf c7
              refine lv_iinc (v := (j7_19 + (1 : Int32))) (lv' := [(7, .int (j7_19 + (1 : Int32))), (8, .int (0 : Int32)), (0, .ref (A 0)), (1, .int j1), (2, .int j2), (3, .int j3_19), (4, .int j4_19), (5, .int j5_19), (6, .int j6_19)]) hx hb dX0_deal_85 hl (k := 8) rfl rfl (by decide) rfl (fun ls hl => ?_)
              refine lv_goto (tgt := 19) hx hb dX0_deal_88 (by decide) ?_
              exact (hWW _ _ _).mp (ih _ _ _ _ _ _ _ _ hf hP hD hS (lv_sub hl [2, 3, 4, 5, 6, 7, 8, 0] rfl))
            · have hf := hF hf c7
              refine lv_iload hx hb dX0_deal_81 (lv_at hl 0 rfl) ?_
              refine lv_istore (lv' := [(5, .int (0 : Int32)), (8, .int (0 : Int32)), (0, .ref (A 0)), (1, .int j1), (2, .int j2), (3, .int j3_19), (4, .int j4_19), (6, .int j6_19), (7, .int j7_19)]) hx hb dX0_deal_83 hl (by decide) rfl (fun ls hl => ?_)
              refine lv_iinc (v := (j7_19 + (1 : Int32))) (lv' := [(7, .int (j7_19 + (1 : Int32))), (5, .int (0 : Int32)), (8, .int (0 : Int32)), (0, .ref (A 0)), (1, .int j1), (2, .int j2), (3, .int j3_19), (4, .int j4_19), (6, .int j6_19)]) hx hb dX0_deal_85 hl (k := 8) rfl rfl (by decide) rfl (fun ls hl => ?_)
              refine lv_goto (tgt := 19) hx hb dX0_deal_88 (by decide) ?_
              exact (hWW _ _ _).mp (ih _ _ _ _ _ _ _ _ hf hP hD hS (lv_sub hl [3, 4, 5, 6, 7, 1, 8, 0] rfl))
          · have hf := hF hf c6
            refine lv_iload hx hb dX0_deal_59 (lv_at hl 5 rfl) ?_
            refine lv_istore (lv' := [(5, .int j4_19), (8, .int (0 : Int32)), (0, .ref (A 0)), (1, .int j1), (2, .int j2), (3, .int j3_19), (4, .int j4_19), (6, .int j6_19), (7, .int j7_19)]) hx hb dX0_deal_61 hl (by decide) rfl (fun ls hl => ?_)
            refine lv_iload hx hb dX0_deal_63 (lv_at hl 1 rfl) ?_
            refine lv_istore (lv' := [(4, .int (0 : Int32)), (5, .int j4_19), (8, .int (0 : Int32)), (0, .ref (A 0)), (1, .int j1), (2, .int j2), (3, .int j3_19), (6, .int j6_19), (7, .int j7_19)]) hx hb dX0_deal_65 hl (by decide) rfl (fun ls hl => ?_)
            refine lv_iload hx hb dX0_deal_67 (lv_at hl 8 rfl) ?_
            refine lv_istore (lv' := [(6, .int j7_19), (4, .int (0 : Int32)), (5, .int j4_19), (8, .int (0 : Int32)), (0, .ref (A 0)), (1, .int j1), (2, .int j2), (3, .int j3_19), (7, .int j7_19)]) hx hb dX0_deal_69 hl (by decide) rfl (fun ls hl => ?_)
            refine lv_goto (tgt := 85) hx hb dX0_deal_71 (by decide) ?_
            refine lv_iinc (v := (j7_19 + (1 : Int32))) (lv' := [(7, .int (j7_19 + (1 : Int32))), (6, .int j7_19), (4, .int (0 : Int32)), (5, .int j4_19), (8, .int (0 : Int32)), (0, .ref (A 0)), (1, .int j1), (2, .int j2), (3, .int j3_19)]) hx hb dX0_deal_85 hl (k := 8) rfl rfl (by decide) rfl (fun ls hl => ?_)
            refine lv_goto (tgt := 19) hx hb dX0_deal_88 (by decide) ?_
            exact (hWW _ _ _).mp (ih _ _ _ _ _ _ _ _ hf hP hD hS (lv_sub hl [5, 6, 7, 8, 2, 3, 1, 0] rfl))
  exact (hWW _ _ _).mp (P19 _ _ _ _ _ _ _ _ _ hf hP hD hS (lv_sub hl [5, 6, 7, 4, 3, 2, 1, 0] rfl))
set_option maxHeartbeats 4000000 in
set_option maxRecDepth 100000 in
theorem c_X0_auction (l : Launch) (D : va_G) (cI : ClassId) (A : Nat → Nat) (j1 : Int32) (hh : HS) (out : Int32 × HS) (hf : f_X0_auction j1 hh = some out) : uI l D cI yX0_auction wsX0_auction ({ frames := 3, cells := 0, slots := 0, locals := 77 } : Room) [.ref (A 0), .int j1] (wH A cI hh) (wH A cI out.2) out.1 := by
  intro sz
  refine Met.ofW (cc := cX0_auction) (maxL := 6) (ret := (some .int)) (by decide) rfl ?_
  intro p e s m args below meth c s₁ Bd hml hv
  obtain ⟨rfl, hsz, hP, hK, hD0, hN⟩ := hv
  have hx := Bd.exec
  have hb := Bd.bytes
  have hr := Bd.returns
  have hts := atoms_spec (ws := wsX0_auction) Bd.pre
  have hown : s.vm.findClass RX0 = some m.cls := findClass_of_methodNamed Bd.named
  have hlocks := Bd.notSynchronized
  subst hsz
  have hD := hD0.self (sz := s.heap.size)
  generalize hAe : va_A (wH A cI hh) s.heap.size = G at hD ⊢
  have hA : ∀ q : Nat, s.heap.size ≤ q → G q := fun q h => by rw [← hAe]; exact Or.inr h
  have hS : va_S G s.heap s.heap [] := va_S.rf
  have hP : va_P D vwCl (wH A cI hh) s.heap := hP
  have hl := lv_entry ([.ref (A 0), .int j1]) (n := 6) (Nat.le_of_ble_eq_true rfl)
  rw [lg_entry_eq]
  generalize (lg_sl ([.ref (A 0), .int j1]) ++ List.replicate (6 - (lg_sl ([.ref (A 0), .int j1])).length) Slot.unset).toArray = ls at hl ⊢
  have hl : lv_has ls 6 [(0, .ref (A 0)), (1, .int j1)] := hl
  have hinH : ∀ w ∈ wsX00, w ∈ wsX0_auction := by decide +kernel
  have lk0 := hts (.fieldLink RX0 18 "LiesBoughtBack$Hall" "teller" "[I") (by decide +kernel)
  have lk1 := hts (.initialized RX1) (by decide +kernel)
  have lk2 := hts (.static yX1_at) (by decide +kernel)
  have lk3 := hts (.fieldLink RX0 24 "LiesBoughtBack$Hall" "holder" "[I") (by decide +kernel)
  have lk4 := hts (.static yX1_put) (by decide +kernel)
  have lk5 := hts (.fieldLink RX0 36 "LiesBoughtBack$Hall" "purse" "[I") (by decide +kernel)
  have lk6 := hts (.fieldLink RX0 39 "LiesBoughtBack$Hall" "believed" "[I") (by decide +kernel)
  have lk7 := hts (.methodLink RX0 75 Lib.Math.max.name) (by decide +kernel)
  have lk8 := hts (.static Lib.Math.max.name) (by decide +kernel)
  have lk9 := hts (.initialized "java/lang/Math") (by decide +kernel)
  have lk10 := hts (.code Lib.Math.max.name Lib.Math.max.code 2 (some .int)) (by decide +kernel)
  have lk11 := hts (.methodLink RX0 81 Lib.Math.min.name) (by decide +kernel)
  have lk12 := hts (.static Lib.Math.min.name) (by decide +kernel)
  have lk13 := hts (.code Lib.Math.min.name Lib.Math.min.code 2 (some .int)) (by decide +kernel)
  refine W_in ?_
  intro WW hWW
  refine (hWW _ _ _).mpr ?_
  unfold f_X0_auction at hf
  refine lv_aload_n hx hb dX0_auction_0 rfl (lv_at hl 0 rfl) ?_
  refine lv_iload_n hx hb dX0_auction_1 rfl (lv_at hl 1 rfl) ?_
  refine lv_iconst (v := (0 : Int32)) hx hb dX0_auction_2 (by decide) ?_
  obtain ⟨v1, hev1, hf⟩ := bS hf
  refine rV_io (As := [.int j1, .int (0 : Int32)]) (rest := []) ⟨hx, hb, hml, hown, hts⟩ hK hN hA hP hD hS (c_X0_deal l D cI A j1 (0 : Int32) hh v1 hev1) (cwV 2 hts gX0_auction_X0_deal rfl rfl rfl hd_X0_deal ⟨Nat.le_of_ble_eq_true rfl, Nat.le_of_ble_eq_true rfl⟩) (va_recv hK hP (ci := 0) (q0 := 0) rfl rfl) [0, 1, 2, 3, 4, 5, 6, 7, 8, 9, 10] (by decide) rfl rfl hl.1 rfl (Nat.le_of_ble_eq_true rfl) dX0_auction_3 ⟨Nat.le_of_ble_eq_true rfl, Nat.le_of_ble_eq_true rfl⟩ (fun H locs hP hD hS => ?_)
  refine lv_istore_n (lv' := [(2, .int v1), (0, .ref (A 0)), (1, .int j1)]) hx hb dX0_auction_6 rfl hl (by decide) rfl (fun ls hl => ?_)
  refine lv_iload_n hx hb dX0_auction_7 rfl (lv_at hl 0 rfl) ?_
  refine lv_if_ge (tgt := 13) hx hb dX0_auction_8 (by decide) (fun c2 => ?_) (fun c2 => ?_)
  · have hf := hT hf c2
    refine lv_iload_n hx hb dX0_auction_13 rfl (lv_at hl 0 rfl) ?_
    refine lv_sipush (v := (1000 : Int32)) hx hb dX0_auction_14 (by decide) ?_
    refine lv_idiv hx hb dX0_auction_17 (by decide) ?_
    refine lv_istore_n (lv' := [(3, .int (v1 / (1000 : Int32))), (2, .int v1), (0, .ref (A 0)), (1, .int j1)]) hx hb dX0_auction_18 rfl hl (by decide) rfl (fun ls hl => ?_)
    refine lv_iload_n hx hb dX0_auction_19 rfl (lv_at hl 1 rfl) ?_
    refine lv_sipush (v := (1000 : Int32)) hx hb dX0_auction_20 (by decide) ?_
    refine lv_irem hx hb dX0_auction_23 (by decide) ?_
    refine lv_istore (lv' := [(4, .int (v1 - v1 / (1000 : Int32) * (1000 : Int32))), (3, .int (v1 / (1000 : Int32))), (2, .int v1), (0, .ref (A 0)), (1, .int j1)]) hx hb dX0_auction_24 hl (by decide) rfl (fun ls hl => ?_)
    refine lv_aload_n hx hb dX0_auction_26 rfl (lv_at hl 3 rfl) ?_
    refine va_get (D := D) (ci := 0) (v := .ref (A 3)) (C := RX0) (T := TX0) (N := 13) hx hb hts hinH hown hK hP 0 rfl rfl 5 (by decide) lk0 (fun _ h9 => h9) rfl dX0_auction_27 ?_
    refine lv_iload_n hx hb dX0_auction_30 rfl (lv_at hl 4 rfl) ?_
    refine rSN_io (As := [.ref (A 3), .int j1]) (rest := []) ⟨hx, hb, hml, hown, hts⟩ hK hN hA hP hD hS (c_X1_at l D cI 8 (by decide) (A 3) (hh 2) j1) ⟨va_cnB 2 hts gX0_auction_X1_at_n60 rfl rfl rfl (nW.m hN 8 rfl) lk1 hd_X1_at.2 ⟨Nat.le_of_ble_eq_true rfl, Nat.le_of_ble_eq_true rfl⟩, lk2, trivial⟩ [3] (by decide) rfl rfl hl.1 rfl (Nat.le_of_ble_eq_true rfl) dX0_auction_31 ⟨Nat.le_of_ble_eq_true rfl, Nat.le_of_ble_eq_true rfl⟩ (fun H locs hP hD hS => ?_)
    refine lv_istore (lv' := [(5, .int (atv 8 (hh 2) j1)), (4, .int (v1 - v1 / (1000 : Int32) * (1000 : Int32))), (3, .int (v1 / (1000 : Int32))), (2, .int v1), (0, .ref (A 0)), (1, .int j1)]) hx hb dX0_auction_34 hl (by decide) rfl (fun ls hl => ?_)
    refine lv_aload_n hx hb dX0_auction_36 rfl (lv_at hl 4 rfl) ?_
    refine va_get (D := D) (ci := 0) (v := .ref (A 5)) (C := RX0) (T := TX0) (N := 13) hx hb hts hinH hown hK hP 0 rfl rfl 7 (by decide) lk3 (fun _ h9 => h9) rfl dX0_auction_37 ?_
    refine lv_iload_n hx hb dX0_auction_40 rfl (lv_at hl 5 rfl) ?_
    refine lv_iload_n hx hb dX0_auction_41 rfl (lv_at hl 2 rfl) ?_
    obtain ⟨hh_v3, ehh_v3, hf⟩ := jnS hf
    refine rSN_v (ws' := (wH A cI hh_v3)) (As := [.ref (A 5), .int j1, .int (v1 / (1000 : Int32))]) (rest := []) ⟨hx, hb, hml, hown, hts⟩ hK hN hA hP hD hS (c_X1_put l D cI 8 (by decide) (A 5) (hh 4) j1 (v1 / (1000 : Int32))) ⟨va_cnB 3 hts gX0_auction_X1_put_n64 rfl rfl rfl (nW.m hN 4 rfl) lk1 hd_X1_put.2 ⟨Nat.le_of_ble_eq_true rfl, Nat.le_of_ble_eq_true rfl⟩, lk4, trivial⟩ [5] (by decide) rfl rfl ((sa_X0_h_4 A cI hh (ptv 8 (hh 4) j1 (v1 / (1000 : Int32)))).trans (congrArg (fun z => wH A cI z) ehh_v3.symm)) rfl hl.1 rfl (Nat.le_of_ble_eq_true rfl) dX0_auction_42 ⟨Nat.le_of_ble_eq_true rfl, Nat.le_of_ble_eq_true rfl⟩ (fun H locs hP hD hS => ?_)
    refine lv_aload_n hx hb dX0_auction_45 rfl (lv_at hl 4 rfl) ?_
    refine va_get (D := D) (ci := 0) (v := .ref (A 9)) (C := RX0) (T := TX0) (N := 13) hx hb hts hinH hown hK hP 0 rfl rfl 11 (by decide) lk5 (fun _ h9 => h9) rfl dX0_auction_46 ?_
    refine lv_iload_n hx hb dX0_auction_49 rfl (lv_at hl 2 rfl) ?_
    refine lv_aload_n hx hb dX0_auction_50 rfl (lv_at hl 4 rfl) ?_
    refine va_get (D := D) (ci := 0) (v := .ref (A 9)) (C := RX0) (T := TX0) (N := 13) hx hb hts hinH hown hK hP 0 rfl rfl 11 (by decide) lk5 (fun _ h9 => h9) rfl dX0_auction_51 ?_
    refine lv_iload_n hx hb dX0_auction_54 rfl (lv_at hl 2 rfl) ?_
    refine rSN_io (As := [.ref (A 9), .int (v1 / (1000 : Int32))]) (rest := [.int (v1 / (1000 : Int32)), .ref (A 9)]) ⟨hx, hb, hml, hown, hts⟩ hK hN hA hP hD hS (c_X1_at l D cI 6 (by decide) (A 9) (hh_v3 8) (v1 / (1000 : Int32))) ⟨va_cnB 2 hts gX0_auction_X1_at_n60 rfl rfl rfl (nW.m hN 8 rfl) lk1 hd_X1_at.2 ⟨Nat.le_of_ble_eq_true rfl, Nat.le_of_ble_eq_true rfl⟩, lk2, trivial⟩ [9] (by decide) rfl rfl hl.1 rfl (Nat.le_of_ble_eq_true rfl) dX0_auction_55 ⟨Nat.le_of_ble_eq_true rfl, Nat.le_of_ble_eq_true rfl⟩ (fun H locs hP hD hS => ?_)
    refine lv_iload hx hb dX0_auction_58 (lv_at hl 1 rfl) ?_
    refine lv_isub hx hb dX0_auction_60 ?_
    obtain ⟨hh_v4, ehh_v4, hf⟩ := jnS hf
    refine rSN_v (ws' := (wH A cI hh_v4)) (As := [.ref (A 9), .int (v1 / (1000 : Int32)), .int ((atv 6 (hh_v3 8) (v1 / (1000 : Int32))) - (v1 - v1 / (1000 : Int32) * (1000 : Int32)))]) (rest := []) ⟨hx, hb, hml, hown, hts⟩ hK hN hA hP hD hS (c_X1_put l D cI 6 (by decide) (A 9) (hh_v3 8) (v1 / (1000 : Int32)) ((atv 6 (hh_v3 8) (v1 / (1000 : Int32))) - (v1 - v1 / (1000 : Int32) * (1000 : Int32)))) ⟨va_cnB 3 hts gX0_auction_X1_put_n64 rfl rfl rfl (nW.m hN 4 rfl) lk1 hd_X1_put.2 ⟨Nat.le_of_ble_eq_true rfl, Nat.le_of_ble_eq_true rfl⟩, lk4, trivial⟩ [9] (by decide) rfl rfl ((sa_X0_h_8 A cI hh_v3 (ptv 6 (hh_v3 8) (v1 / (1000 : Int32)) ((atv 6 (hh_v3 8) (v1 / (1000 : Int32))) - (v1 - v1 / (1000 : Int32) * (1000 : Int32))))).trans (congrArg (fun z => wH A cI z) ehh_v4.symm)) rfl hl.1 rfl (Nat.le_of_ble_eq_true rfl) dX0_auction_61 ⟨Nat.le_of_ble_eq_true rfl, Nat.le_of_ble_eq_true rfl⟩ (fun H locs hP hD hS => ?_)
    refine lv_iload hx hb dX0_auction_64 (lv_at hl 0 rfl) ?_
    refine lv_iload_n hx hb dX0_auction_66 rfl (lv_at hl 2 rfl) ?_
    refine lv_icmp_ne (tgt := 98) hx hb dX0_auction_67 (by decide) (fun c5 => ?_) (fun c5 => ?_)
    · have hf := hF hf c5
      refine lv_aload_n hx hb dX0_auction_98 rfl (lv_at hl 4 rfl) ?_
      refine lv_iload hx hb dX0_auction_99 (lv_at hl 0 rfl) ?_
      refine rV_io (As := [.int (atv 8 (hh 2) j1)]) (rest := []) ⟨hx, hb, hml, hown, hts⟩ hK hN hA hP hD hS (c_X0_hasBidder l D cI A (atv 8 (hh 2) j1) hh_v4 (f_X0_hasBidder (atv 8 (hh 2) j1) hh_v4) rfl) (cwV 1 hts gX0_auction_X0_hasBidder rfl rfl rfl hd_X0_hasBidder ⟨Nat.le_of_ble_eq_true rfl, Nat.le_of_ble_eq_true rfl⟩) (va_recv hK hP (ci := 0) (q0 := 0) rfl rfl) [0, 1, 2, 3, 4, 5, 6, 7, 8, 9, 10] (by decide) rfl rfl hl.1 rfl (Nat.le_of_ble_eq_true rfl) dX0_auction_101 ⟨Nat.le_of_ble_eq_true rfl, Nat.le_of_ble_eq_true rfl⟩ (fun H locs hP hD hS => ?_)
      refine lv_if_eq (tgt := 139) hx hb dX0_auction_104 (by decide) (fun c6 => ?_) (fun c6 => ?_)
      · have hf := hT hf c6
        refine lv_iload hx hb dX0_auction_139 (lv_at hl 1 rfl) ?_
        obtain rfl := Option.some.inj hf
        exact W.iret (v := (v1 - v1 / (1000 : Int32) * (1000 : Int32))) hx hb hr (fun t ht hW => ⟨⟨(v1 - v1 / (1000 : Int32) * (1000 : Int32)), (), rfl, rfl, hPt ht hP⟩, hS.F ht⟩) hS.2.2 dX0_auction_141
      · have hf := hF hf c6
        refine lv_aload_n hx hb dX0_auction_107 rfl (lv_at hl 4 rfl) ?_
        refine va_get (D := D) (ci := 0) (v := .ref (A 10)) (C := RX0) (T := TX0) (N := 13) hx hb hts hinH hown hK hP 0 rfl rfl 12 (by decide) lk6 (fun _ h9 => h9) rfl dX0_auction_108 ?_
        refine lv_iload hx hb dX0_auction_111 (lv_at hl 0 rfl) ?_
        refine lv_iconst (v := (0 : Int32)) hx hb dX0_auction_113 (by decide) ?_
        refine lv_aload_n hx hb dX0_auction_114 rfl (lv_at hl 4 rfl) ?_
        refine va_get (D := D) (ci := 0) (v := .ref (A 10)) (C := RX0) (T := TX0) (N := 13) hx hb hts hinH hown hK hP 0 rfl rfl 12 (by decide) lk6 (fun _ h9 => h9) rfl dX0_auction_115 ?_
        refine lv_iload hx hb dX0_auction_118 (lv_at hl 0 rfl) ?_
        refine rSN_io (As := [.ref (A 10), .int (atv 8 (hh 2) j1)]) (rest := [.int (0 : Int32), .int (atv 8 (hh 2) j1), .ref (A 10)]) ⟨hx, hb, hml, hown, hts⟩ hK hN hA hP hD hS (c_X1_at l D cI 6 (by decide) (A 10) (hh_v4 9) (atv 8 (hh 2) j1)) ⟨va_cnB 2 hts gX0_auction_X1_at_n60 rfl rfl rfl (nW.m hN 8 rfl) lk1 hd_X1_at.2 ⟨Nat.le_of_ble_eq_true rfl, Nat.le_of_ble_eq_true rfl⟩, lk2, trivial⟩ [10] (by decide) rfl rfl hl.1 rfl (Nat.le_of_ble_eq_true rfl) dX0_auction_120 ⟨Nat.le_of_ble_eq_true rfl, Nat.le_of_ble_eq_true rfl⟩ (fun H locs hP hD hS => ?_)
        refine lv_aload_n hx hb dX0_auction_123 rfl (lv_at hl 4 rfl) ?_
        refine lv_iload_n hx hb dX0_auction_124 rfl (lv_at hl 5 rfl) ?_
        refine rV_io (As := [.int j1]) (rest := [.int (atv 6 (hh_v4 9) (atv 8 (hh 2) j1)), .int (0 : Int32), .int (atv 8 (hh 2) j1), .ref (A 10)]) ⟨hx, hb, hml, hown, hts⟩ hK hN hA hP hD hS (c_X0_worth l D cI A j1 hh_v4 (f_X0_worth j1 hh_v4) rfl) (cwV 1 hts gX0_auction_X0_worth rfl rfl rfl hd_X0_worth ⟨Nat.le_of_ble_eq_true rfl, Nat.le_of_ble_eq_true rfl⟩) (va_recv hK hP (ci := 0) (q0 := 0) rfl rfl) [0, 1, 2, 3, 4, 5, 6, 7, 8, 9, 10] (by decide) rfl rfl hl.1 rfl (Nat.le_of_ble_eq_true rfl) dX0_auction_125 ⟨Nat.le_of_ble_eq_true rfl, Nat.le_of_ble_eq_true rfl⟩ (fun H locs hP hD hS => ?_)
        refine lv_iconst (v := (4 : Int32)) hx hb dX0_auction_128 (by decide) ?_
        refine lv_idiv hx hb dX0_auction_129 (by decide) ?_
        refine lv_isub hx hb dX0_auction_130 ?_
        refine lv_iconst (v := (1 : Int32)) hx hb dX0_auction_131 (by decide) ?_
        refine lv_isub hx hb dX0_auction_132 ?_
        refine va_mmax hx hb (hml.trans hl.1.symm) hown lk7 lk8 lk9 lk10 (Nat.le_of_ble_eq_true rfl) (Nat.le_of_ble_eq_true rfl) (Nat.le_of_ble_eq_true rfl) (Nat.le_of_ble_eq_true rfl) dX0_auction_133 ?_
        obtain ⟨hh_v7, ehh_v7, hf⟩ := jnS hf
        refine rSN_v (ws' := (wH A cI hh_v7)) (As := [.ref (A 10), .int (atv 8 (hh 2) j1), .int (mx (0 : Int32) (((atv 6 (hh_v4 9) (atv 8 (hh 2) j1)) - ((f_X0_worth j1 hh_v4) / (4 : Int32))) - (1 : Int32)))]) (rest := []) ⟨hx, hb, hml, hown, hts⟩ hK hN hA hP hD hS (c_X1_put l D cI 6 (by decide) (A 10) (hh_v4 9) (atv 8 (hh 2) j1) (mx (0 : Int32) (((atv 6 (hh_v4 9) (atv 8 (hh 2) j1)) - ((f_X0_worth j1 hh_v4) / (4 : Int32))) - (1 : Int32)))) ⟨va_cnB 3 hts gX0_auction_X1_put_n64 rfl rfl rfl (nW.m hN 4 rfl) lk1 hd_X1_put.2 ⟨Nat.le_of_ble_eq_true rfl, Nat.le_of_ble_eq_true rfl⟩, lk4, trivial⟩ [10] (by decide) rfl rfl ((sa_X0_h_9 A cI hh_v4 (ptv 6 (hh_v4 9) (atv 8 (hh 2) j1) (mx (0 : Int32) (((atv 6 (hh_v4 9) (atv 8 (hh 2) j1)) - ((f_X0_worth j1 hh_v4) / (4 : Int32))) - (1 : Int32))))).trans (congrArg (fun z => wH A cI z) ehh_v7.symm)) rfl hl.1 rfl (Nat.le_of_ble_eq_true rfl) dX0_auction_136 ⟨Nat.le_of_ble_eq_true rfl, Nat.le_of_ble_eq_true rfl⟩ (fun H locs hP hD hS => ?_)
        refine lv_iload hx hb dX0_auction_139 (lv_at hl 1 rfl) ?_
        obtain rfl := Option.some.inj hf
        exact W.iret (v := (v1 - v1 / (1000 : Int32) * (1000 : Int32))) hx hb hr (fun t ht hW => ⟨⟨(v1 - v1 / (1000 : Int32) * (1000 : Int32)), (), rfl, rfl, hPt ht hP⟩, hS.F ht⟩) hS.2.2 dX0_auction_141
    · have hf := hT hf c5
      refine lv_aload_n hx hb dX0_auction_70 rfl (lv_at hl 4 rfl) ?_
      refine va_get (D := D) (ci := 0) (v := .ref (A 10)) (C := RX0) (T := TX0) (N := 13) hx hb hts hinH hown hK hP 0 rfl rfl 12 (by decide) lk6 (fun _ h9 => h9) rfl dX0_auction_71 ?_
      refine lv_iload hx hb dX0_auction_74 (lv_at hl 0 rfl) ?_
      refine lv_bipush (v := (99 : Int32)) hx hb dX0_auction_76 (by decide) ?_
      refine lv_aload_n hx hb dX0_auction_78 rfl (lv_at hl 4 rfl) ?_
      refine va_get (D := D) (ci := 0) (v := .ref (A 10)) (C := RX0) (T := TX0) (N := 13) hx hb hts hinH hown hK hP 0 rfl rfl 12 (by decide) lk6 (fun _ h9 => h9) rfl dX0_auction_79 ?_
      refine lv_iload hx hb dX0_auction_82 (lv_at hl 0 rfl) ?_
      refine rSN_io (As := [.ref (A 10), .int (atv 8 (hh 2) j1)]) (rest := [.int (99 : Int32), .int (atv 8 (hh 2) j1), .ref (A 10)]) ⟨hx, hb, hml, hown, hts⟩ hK hN hA hP hD hS (c_X1_at l D cI 6 (by decide) (A 10) (hh_v4 9) (atv 8 (hh 2) j1)) ⟨va_cnB 2 hts gX0_auction_X1_at_n60 rfl rfl rfl (nW.m hN 8 rfl) lk1 hd_X1_at.2 ⟨Nat.le_of_ble_eq_true rfl, Nat.le_of_ble_eq_true rfl⟩, lk2, trivial⟩ [10] (by decide) rfl rfl hl.1 rfl (Nat.le_of_ble_eq_true rfl) dX0_auction_84 ⟨Nat.le_of_ble_eq_true rfl, Nat.le_of_ble_eq_true rfl⟩ (fun H locs hP hD hS => ?_)
      refine lv_iconst (v := (2 : Int32)) hx hb dX0_auction_87 (by decide) ?_
      refine lv_iadd hx hb dX0_auction_88 ?_
      refine va_mmin hx hb (hml.trans hl.1.symm) hown lk11 lk12 lk9 lk13 (Nat.le_of_ble_eq_true rfl) (Nat.le_of_ble_eq_true rfl) (Nat.le_of_ble_eq_true rfl) (Nat.le_of_ble_eq_true rfl) dX0_auction_89 ?_
      obtain ⟨hh_v8, ehh_v8, hf⟩ := jnS hf
      refine rSN_v (ws' := (wH A cI hh_v8)) (As := [.ref (A 10), .int (atv 8 (hh 2) j1), .int (mn (99 : Int32) ((atv 6 (hh_v4 9) (atv 8 (hh 2) j1)) + (2 : Int32)))]) (rest := []) ⟨hx, hb, hml, hown, hts⟩ hK hN hA hP hD hS (c_X1_put l D cI 6 (by decide) (A 10) (hh_v4 9) (atv 8 (hh 2) j1) (mn (99 : Int32) ((atv 6 (hh_v4 9) (atv 8 (hh 2) j1)) + (2 : Int32)))) ⟨va_cnB 3 hts gX0_auction_X1_put_n64 rfl rfl rfl (nW.m hN 4 rfl) lk1 hd_X1_put.2 ⟨Nat.le_of_ble_eq_true rfl, Nat.le_of_ble_eq_true rfl⟩, lk4, trivial⟩ [10] (by decide) rfl rfl ((sa_X0_h_9 A cI hh_v4 (ptv 6 (hh_v4 9) (atv 8 (hh 2) j1) (mn (99 : Int32) ((atv 6 (hh_v4 9) (atv 8 (hh 2) j1)) + (2 : Int32))))).trans (congrArg (fun z => wH A cI z) ehh_v8.symm)) rfl hl.1 rfl (Nat.le_of_ble_eq_true rfl) dX0_auction_92 ⟨Nat.le_of_ble_eq_true rfl, Nat.le_of_ble_eq_true rfl⟩ (fun H locs hP hD hS => ?_)
      refine lv_goto (tgt := 139) hx hb dX0_auction_95 (by decide) ?_
      refine lv_iload hx hb dX0_auction_139 (lv_at hl 1 rfl) ?_
      obtain rfl := Option.some.inj hf
      exact W.iret (v := (v1 - v1 / (1000 : Int32) * (1000 : Int32))) hx hb hr (fun t ht hW => ⟨⟨(v1 - v1 / (1000 : Int32) * (1000 : Int32)), (), rfl, rfl, hPt ht hP⟩, hS.F ht⟩) hS.2.2 dX0_auction_141
  · have hf := hF hf c2
    refine lv_iconst (v := (0 : Int32)) hx hb dX0_auction_11 (by decide) ?_
    obtain rfl := Option.some.inj hf
    exact W.iret (v := (0 : Int32)) hx hb hr (fun t ht hW => ⟨⟨(0 : Int32), (), rfl, rfl, hPt ht hP⟩, hS.F ht⟩) hS.2.2 dX0_auction_12
set_option maxHeartbeats 4000000 in
set_option maxRecDepth 100000 in
theorem c_X0_hasTimeFor (l : Launch) (D : va_G) (cI : ClassId) (A : Nat → Nat) (j1 : Int32) (hh : HS) (out : Int32) (hf : f_X0_hasTimeFor j1 hh = out) : uI l D cI yX0_hasTimeFor wsX0_hasTimeFor ({ frames := 0, cells := 0, slots := 0, locals := 0 } : Room) [.ref (A 0), .int j1] (wH A cI hh) (wH A cI hh) out := by
  intro sz
  refine Met.ofW (cc := cX0_hasTimeFor) (maxL := 2) (ret := (some .boolean)) (by decide) rfl ?_
  intro p e s m args below meth c s₁ Bd hml hv
  obtain ⟨rfl, hsz, hP, hK, hD0, hN⟩ := hv
  have hx := Bd.exec
  have hb := Bd.bytes
  have hr := Bd.returns
  have hts := atoms_spec (ws := wsX0_hasTimeFor) Bd.pre
  have hown : s.vm.findClass RX0 = some m.cls := findClass_of_methodNamed Bd.named
  have hlocks := Bd.notSynchronized
  subst hsz
  have hD := hD0.self (sz := s.heap.size)
  generalize hAe : va_A (wH A cI hh) s.heap.size = G at hD ⊢
  have hA : ∀ q : Nat, s.heap.size ≤ q → G q := fun q h => by rw [← hAe]; exact Or.inr h
  have hS : va_S G s.heap s.heap [] := va_S.rf
  have hP : va_P D vwCl (wH A cI hh) s.heap := hP
  have hl := lv_entry ([.ref (A 0), .int j1]) (n := 2) (Nat.le_of_ble_eq_true rfl)
  rw [lg_entry_eq]
  generalize (lg_sl ([.ref (A 0), .int j1]) ++ List.replicate (2 - (lg_sl ([.ref (A 0), .int j1])).length) Slot.unset).toArray = ls at hl ⊢
  have hl : lv_has ls 2 [(0, .ref (A 0)), (1, .int j1)] := hl
  have hinH : ∀ w ∈ wsX00, w ∈ wsX0_hasTimeFor := by decide +kernel
  have lk0 := hts (.fieldLink RX0 49 "LiesBoughtBack$Hall" "month" "I") (by decide +kernel)
  refine W_in ?_
  intro WW hWW
  refine (hWW _ _ _).mpr ?_
  unfold f_X0_hasTimeFor at hf
  refine lv_iload_n hx hb dX0_hasTimeFor_0 rfl (lv_at hl 1 rfl) ?_
  refine lv_iconst (v := (1 : Int32)) hx hb dX0_hasTimeFor_1 (by decide) ?_
  refine lv_icmp_lt (tgt := 27) hx hb dX0_hasTimeFor_2 (by decide) (fun c1 => ?_) (fun c1 => ?_)
  · have hf := hT hf c1
    refine lv_iconst (v := (0 : Int32)) hx hb dX0_hasTimeFor_27 (by decide) ?_
    subst hf
    exact W.zret (ty := .boolean) (v := (0 : Int32)) hx hb hr rfl (fun t ht hW => ⟨⟨(0 : Int32), (), rfl, rfl, hPt ht hP⟩, hS.F ht⟩) hS.2.2 dX0_hasTimeFor_28
  · have hf := hF hf c1
    refine lv_iload_n hx hb dX0_hasTimeFor_5 rfl (lv_at hl 1 rfl) ?_
    refine lv_bipush (v := (60 : Int32)) hx hb dX0_hasTimeFor_6 (by decide) ?_
    refine lv_icmp_gt (tgt := 27) hx hb dX0_hasTimeFor_8 (by decide) (fun c2 => ?_) (fun c2 => ?_)
    · have hf := hT hf c2
      refine lv_iconst (v := (0 : Int32)) hx hb dX0_hasTimeFor_27 (by decide) ?_
      subst hf
      exact W.zret (ty := .boolean) (v := (0 : Int32)) hx hb hr rfl (fun t ht hW => ⟨⟨(0 : Int32), (), rfl, rfl, hPt ht hP⟩, hS.F ht⟩) hS.2.2 dX0_hasTimeFor_28
    · have hf := hF hf c2
      refine lv_aload_n hx hb dX0_hasTimeFor_11 rfl (lv_at hl 0 rfl) ?_
      refine va_get (D := D) (ci := 0) (v := .int (hh 12 0)) (C := RX0) (T := TX0) (N := 13) hx hb hts hinH hown hK hP 0 rfl rfl 2 (by decide) lk0 (fun _ h9 => h9) rfl dX0_hasTimeFor_12 ?_
      refine lv_iload_n hx hb dX0_hasTimeFor_15 rfl (lv_at hl 1 rfl) ?_
      refine lv_iadd hx hb dX0_hasTimeFor_16 ?_
      refine lv_sipush (v := (999 : Int32)) hx hb dX0_hasTimeFor_17 (by decide) ?_
      refine lv_icmp_gt (tgt := 27) hx hb dX0_hasTimeFor_20 (by decide) (fun c3 => ?_) (fun c3 => ?_)
      · have hf := hT hf c3
        refine lv_iconst (v := (0 : Int32)) hx hb dX0_hasTimeFor_27 (by decide) ?_
        subst hf
        exact W.zret (ty := .boolean) (v := (0 : Int32)) hx hb hr rfl (fun t ht hW => ⟨⟨(0 : Int32), (), rfl, rfl, hPt ht hP⟩, hS.F ht⟩) hS.2.2 dX0_hasTimeFor_28
      · have hf := hF hf c3
        refine lv_iconst (v := (1 : Int32)) hx hb dX0_hasTimeFor_23 (by decide) ?_
        refine lv_goto (tgt := 28) hx hb dX0_hasTimeFor_24 (by decide) ?_
        subst hf
        exact W.zret (ty := .boolean) (v := (1 : Int32)) hx hb hr rfl (fun t ht hW => ⟨⟨(1 : Int32), (), rfl, rfl, hPt ht hP⟩, hS.F ht⟩) hS.2.2 dX0_hasTimeFor_28
set_option maxHeartbeats 4000000 in
set_option maxRecDepth 100000 in
theorem c_X0_closeMonth (l : Launch) (D : va_G) (cI : ClassId) (A : Nat → Nat) (hh : HS) (out : HS) (hf : f_X0_closeMonth hh = some out) : uV l D cI yX0_closeMonth wsX0_closeMonth ({ frames := 2, cells := 0, slots := 0, locals := 42 } : Room) [.ref (A 0)] (wH A cI hh) (wH A cI out) := by
  intro sz
  refine Met.ofW (cc := cX0_closeMonth) (maxL := 2) (ret := none) (by decide) rfl ?_
  intro p e s m args below meth c s₁ Bd hml hv
  obtain ⟨rfl, hsz, hP, hK, hD0, hN⟩ := hv
  have hx := Bd.exec
  have hb := Bd.bytes
  have hr := Bd.returns
  have hts := atoms_spec (ws := wsX0_closeMonth) Bd.pre
  have hown : s.vm.findClass RX0 = some m.cls := findClass_of_methodNamed Bd.named
  have hlocks := Bd.notSynchronized
  subst hsz
  have hD := hD0.self (sz := s.heap.size)
  generalize hAe : va_A (wH A cI hh) s.heap.size = G at hD ⊢
  have hA : ∀ q : Nat, s.heap.size ≤ q → G q := fun q h => by rw [← hAe]; exact Or.inr h
  have hS : va_S G s.heap s.heap [] := va_S.rf
  have hP : va_P D vwCl (wH A cI hh) s.heap := hP
  have hl := lv_entry ([.ref (A 0)]) (n := 2) (Nat.le_of_ble_eq_true rfl)
  rw [lg_entry_eq]
  generalize (lg_sl ([.ref (A 0)]) ++ List.replicate (2 - (lg_sl ([.ref (A 0)])).length) Slot.unset).toArray = ls at hl ⊢
  have hl : lv_has ls 2 [(0, .ref (A 0))] := hl
  have hinH : ∀ w ∈ wsX00, w ∈ wsX0_closeMonth := by decide +kernel
  have lk0 := hts (.fieldLink RX0 46 "LiesBoughtBack$Hall" "bidders" "I") (by decide +kernel)
  have lk1 := hts (.fieldLink RX0 36 "LiesBoughtBack$Hall" "purse" "[I") (by decide +kernel)
  have lk2 := hts (.initialized RX1) (by decide +kernel)
  have lk3 := hts (.static yX1_at) (by decide +kernel)
  have lk4 := hts (.methodLink RX0 81 Lib.Math.min.name) (by decide +kernel)
  have lk5 := hts (.static Lib.Math.min.name) (by decide +kernel)
  have lk6 := hts (.initialized "java/lang/Math") (by decide +kernel)
  have lk7 := hts (.code Lib.Math.min.name Lib.Math.min.code 2 (some .int)) (by decide +kernel)
  have lk8 := hts (.static yX1_put) (by decide +kernel)
  have lk9 := hts (.fieldLink RX0 42 "LiesBoughtBack$Hall" "cards" "I") (by decide +kernel)
  have lk10 := hts (.fieldLink RX0 21 "LiesBoughtBack$Hall" "age" "[I") (by decide +kernel)
  refine W_in ?_
  intro WW hWW
  refine (hWW _ _ _).mpr ?_
  unfold f_X0_closeMonth at hf
  refine lv_iconst (v := (0 : Int32)) hx hb dX0_closeMonth_0 (by decide) ?_
  refine lv_istore_n (lv' := [(1, .int (0 : Int32)), (0, .ref (A 0))]) hx hb dX0_closeMonth_1 rfl hl (by decide) rfl (fun ls hl => ?_)
  obtain ⟨K47, hK47, hf⟩ := jnS hf
  have J47 : ∀ (hh_47 : HS) (H : Heap) (locs : List Loc) (ls : Array Slot), K47 hh_47 = some out → va_P D vwCl (wH A cI hh_47) H → va_D G (wH A cI hh_47) → va_S G s.heap H locs → lv_has ls 2 [(0, .ref (A 0))] → WW H locs (F0 m 47 ls []) := by
    intro hh_47 H locs ls hf hP hD hS hl
    subst hK47
    refine (hWW _ _ _).mpr ?_
    refine lv_iconst (v := (0 : Int32)) hx hb dX0_closeMonth_47 (by decide) ?_
    refine lv_istore_n (lv' := [(1, .int (0 : Int32)), (0, .ref (A 0))]) hx hb dX0_closeMonth_48 rfl hl (by decide) rfl (fun ls hl => ?_)
    obtain ⟨K87, hK87, hf⟩ := jnS hf
    have J87 : ∀ (hh_87 : HS) (H : Heap) (locs : List Loc) (ls : Array Slot), K87 hh_87 = some out → va_P D vwCl (wH A cI hh_87) H → va_D G (wH A cI hh_87) → va_S G s.heap H locs → lv_has ls 2 [] → WW H locs (F0 m 87 ls []) := by
      intro hh_87 H locs ls hf hP hD hS hl
      subst hK87
      refine (hWW _ _ _).mpr ?_
      obtain rfl := Option.some.inj hf
      exact W.vret hx hb hr (fun t ht hW => ⟨⟨(), rfl, trivial, hPt ht hP⟩, hS.F ht⟩) hS.2.2 dX0_closeMonth_87
    have P49 : ∀ (n' : Nat) (j1_49 : Int32) (hh_49 : HS) (H : Heap) (locs : List Loc) (ls : Array Slot), L_X0_closeMonth_49  K87 n' j1_49 hh_49 = some out → va_P D vwCl (wH A cI hh_49) H → va_D G (wH A cI hh_49) → va_S G s.heap H locs → lv_has ls 2 [(0, .ref (A 0)), (1, .int j1_49)] → WW H locs (F0 m 49 ls []) := by
      intro n'
      induction n' with
      | zero => intro j1_49 hh_49 H locs ls hf; exact absurd (show (none : Option (HS)) = some out from hf) (fun q => by cases q)
      | succ n' ih =>
        intro j1_49 hh_49 H locs ls hf hP hD hS hl
        rw [L_X0_closeMonth_49] at hf
        refine (hWW _ _ _).mpr ?_
        refine lv_iload_n hx hb dX0_closeMonth_49 rfl (lv_at hl 1 rfl) ?_
        refine lv_aload_n hx hb dX0_closeMonth_50 rfl (lv_at hl 0 rfl) ?_
        refine va_get (D := D) (ci := 0) (v := .int (hh_49 11 0)) (C := RX0) (T := TX0) (N := 13) hx hb hts hinH hown hK hP 0 rfl rfl 1 (by decide) lk0 (fun _ h9 => h9) rfl dX0_closeMonth_51 ?_
        refine lv_icmp_ge (tgt := 87) hx hb dX0_closeMonth_54 (by decide) (fun c1 => ?_) (fun c1 => ?_)
        · have hf := hT hf c1
          exact (hWW _ _ _).mp (J87 _ _ _ _ hf hP hD hS (lv_sub hl [] rfl))
        · have hf := hF hf c1
          refine lv_aload_n hx hb dX0_closeMonth_57 rfl (lv_at hl 0 rfl) ?_
          refine va_get (D := D) (ci := 0) (v := .ref (A 9)) (C := RX0) (T := TX0) (N := 13) hx hb hts hinH hown hK hP 0 rfl rfl 11 (by decide) lk1 (fun _ h9 => h9) rfl dX0_closeMonth_58 ?_
          refine lv_iload_n hx hb dX0_closeMonth_61 rfl (lv_at hl 1 rfl) ?_
          refine lv_sipush (v := (999 : Int32)) hx hb dX0_closeMonth_62 (by decide) ?_
          refine lv_aload_n hx hb dX0_closeMonth_65 rfl (lv_at hl 0 rfl) ?_
          refine va_get (D := D) (ci := 0) (v := .ref (A 9)) (C := RX0) (T := TX0) (N := 13) hx hb hts hinH hown hK hP 0 rfl rfl 11 (by decide) lk1 (fun _ h9 => h9) rfl dX0_closeMonth_66 ?_
          refine lv_iload_n hx hb dX0_closeMonth_69 rfl (lv_at hl 1 rfl) ?_
          refine rSN_io (As := [.ref (A 9), .int j1_49]) (rest := [.int (999 : Int32), .int j1_49, .ref (A 9)]) ⟨hx, hb, hml, hown, hts⟩ hK hN hA hP hD hS (c_X1_at l D cI 6 (by decide) (A 9) (hh_49 8) j1_49) ⟨va_cnB 2 hts gX0_closeMonth_X1_at_n60 rfl rfl rfl (nW.m hN 8 rfl) lk2 hd_X1_at.2 ⟨Nat.le_of_ble_eq_true rfl, Nat.le_of_ble_eq_true rfl⟩, lk3, trivial⟩ [9] (by decide) rfl rfl hl.1 rfl (Nat.le_of_ble_eq_true rfl) dX0_closeMonth_70 ⟨Nat.le_of_ble_eq_true rfl, Nat.le_of_ble_eq_true rfl⟩ (fun H locs hP hD hS => ?_)
          refine lv_iconst (v := (5 : Int32)) hx hb dX0_closeMonth_73 (by decide) ?_
          refine lv_iadd hx hb dX0_closeMonth_74 ?_
          refine va_mmin hx hb (hml.trans hl.1.symm) hown lk4 lk5 lk6 lk7 (Nat.le_of_ble_eq_true rfl) (Nat.le_of_ble_eq_true rfl) (Nat.le_of_ble_eq_true rfl) (Nat.le_of_ble_eq_true rfl) dX0_closeMonth_75 ?_
          obtain ⟨hh_v2, ehh_v2, hf⟩ := jnS hf
          refine rSN_v (ws' := (wH A cI hh_v2)) (As := [.ref (A 9), .int j1_49, .int (mn (999 : Int32) ((atv 6 (hh_49 8) j1_49) + (5 : Int32)))]) (rest := []) ⟨hx, hb, hml, hown, hts⟩ hK hN hA hP hD hS (c_X1_put l D cI 6 (by decide) (A 9) (hh_49 8) j1_49 (mn (999 : Int32) ((atv 6 (hh_49 8) j1_49) + (5 : Int32)))) ⟨va_cnB 3 hts gX0_closeMonth_X1_put_n64 rfl rfl rfl (nW.m hN 4 rfl) lk2 hd_X1_put.2 ⟨Nat.le_of_ble_eq_true rfl, Nat.le_of_ble_eq_true rfl⟩, lk8, trivial⟩ [9] (by decide) rfl rfl ((sa_X0_h_8 A cI hh_49 (ptv 6 (hh_49 8) j1_49 (mn (999 : Int32) ((atv 6 (hh_49 8) j1_49) + (5 : Int32))))).trans (congrArg (fun z => wH A cI z) ehh_v2.symm)) rfl hl.1 rfl (Nat.le_of_ble_eq_true rfl) dX0_closeMonth_78 ⟨Nat.le_of_ble_eq_true rfl, Nat.le_of_ble_eq_true rfl⟩ (fun H locs hP hD hS => ?_)
          refine lv_iinc (v := (j1_49 + (1 : Int32))) (lv' := [(1, .int (j1_49 + (1 : Int32))), (0, .ref (A 0))]) hx hb dX0_closeMonth_81 hl (k := 1) rfl rfl (by decide) rfl (fun ls hl => ?_)
          refine lv_goto (tgt := 49) hx hb dX0_closeMonth_84 (by decide) ?_
          exact (hWW _ _ _).mp (ih _ _ _ _ _ hf hP hD hS (lv_sub hl [1, 0] rfl))
    exact (hWW _ _ _).mp (P49 _ _ _ _ _ _ hf hP hD hS (lv_sub hl [1, 0] rfl))
  have P2 : ∀ (n' : Nat) (j1_2 : Int32) (hh_2 : HS) (H : Heap) (locs : List Loc) (ls : Array Slot), L_X0_closeMonth_2  K47 n' j1_2 hh_2 = some out → va_P D vwCl (wH A cI hh_2) H → va_D G (wH A cI hh_2) → va_S G s.heap H locs → lv_has ls 2 [(0, .ref (A 0)), (1, .int j1_2)] → WW H locs (F0 m 2 ls []) := by
    intro n'
    induction n' with
    | zero => intro j1_2 hh_2 H locs ls hf; exact absurd (show (none : Option (HS)) = some out from hf) (fun q => by cases q)
    | succ n' ih =>
      intro j1_2 hh_2 H locs ls hf hP hD hS hl
      rw [L_X0_closeMonth_2] at hf
      refine (hWW _ _ _).mpr ?_
      refine lv_iload_n hx hb dX0_closeMonth_2 rfl (lv_at hl 1 rfl) ?_
      refine lv_aload_n hx hb dX0_closeMonth_3 rfl (lv_at hl 0 rfl) ?_
      refine va_get (D := D) (ci := 0) (v := .int (hh_2 10 0)) (C := RX0) (T := TX0) (N := 13) hx hb hts hinH hown hK hP 0 rfl rfl 0 (by decide) lk9 (fun _ h9 => h9) rfl dX0_closeMonth_4 ?_
      refine lv_icmp_ge (tgt := 47) hx hb dX0_closeMonth_7 (by decide) (fun c3 => ?_) (fun c3 => ?_)
      · have hf := hT hf c3
        exact (hWW _ _ _).mp (J47 _ _ _ _ hf hP hD hS (lv_sub hl [0] rfl))
      · have hf := hF hf c3
        refine lv_aload_n hx hb dX0_closeMonth_10 rfl (lv_at hl 0 rfl) ?_
        refine lv_iload_n hx hb dX0_closeMonth_11 rfl (lv_at hl 1 rfl) ?_
        refine rV_io (As := [.int j1_2]) (rest := []) ⟨hx, hb, hml, hown, hts⟩ hK hN hA hP hD hS (c_X0_inPile l D cI A j1_2 hh_2 (f_X0_inPile j1_2 hh_2) rfl) (cwV 1 hts gX0_closeMonth_X0_inPile rfl rfl rfl hd_X0_inPile ⟨Nat.le_of_ble_eq_true rfl, Nat.le_of_ble_eq_true rfl⟩) (va_recv hK hP (ci := 0) (q0 := 0) rfl rfl) [0, 1, 2, 3, 4, 5, 6, 7, 8, 9, 10] (by decide) rfl rfl hl.1 rfl (Nat.le_of_ble_eq_true rfl) dX0_closeMonth_12 ⟨Nat.le_of_ble_eq_true rfl, Nat.le_of_ble_eq_true rfl⟩ (fun H locs hP hD hS => ?_)
        refine lv_if_eq (tgt := 41) hx hb dX0_closeMonth_15 (by decide) (fun c4 => ?_) (fun c4 => ?_)
        · have hf := hT hf c4
          refine lv_iinc (v := (j1_2 + (1 : Int32))) (lv' := [(1, .int (j1_2 + (1 : Int32))), (0, .ref (A 0))]) hx hb dX0_closeMonth_41 hl (k := 1) rfl rfl (by decide) rfl (fun ls hl => ?_)
          refine lv_goto (tgt := 2) hx hb dX0_closeMonth_44 (by decide) ?_
          exact (hWW _ _ _).mp (ih _ _ _ _ _ hf hP hD hS (lv_sub hl [1, 0] rfl))
        · have hf := hF hf c4
          refine lv_aload_n hx hb dX0_closeMonth_18 rfl (lv_at hl 0 rfl) ?_
          refine va_get (D := D) (ci := 0) (v := .ref (A 4)) (C := RX0) (T := TX0) (N := 13) hx hb hts hinH hown hK hP 0 rfl rfl 6 (by decide) lk10 (fun _ h9 => h9) rfl dX0_closeMonth_19 ?_
          refine lv_iload_n hx hb dX0_closeMonth_22 rfl (lv_at hl 1 rfl) ?_
          refine lv_bipush (v := (99 : Int32)) hx hb dX0_closeMonth_23 (by decide) ?_
          refine lv_aload_n hx hb dX0_closeMonth_25 rfl (lv_at hl 0 rfl) ?_
          refine va_get (D := D) (ci := 0) (v := .ref (A 4)) (C := RX0) (T := TX0) (N := 13) hx hb hts hinH hown hK hP 0 rfl rfl 6 (by decide) lk10 (fun _ h9 => h9) rfl dX0_closeMonth_26 ?_
          refine lv_iload_n hx hb dX0_closeMonth_29 rfl (lv_at hl 1 rfl) ?_
          refine rSN_io (As := [.ref (A 4), .int j1_2]) (rest := [.int (99 : Int32), .int j1_2, .ref (A 4)]) ⟨hx, hb, hml, hown, hts⟩ hK hN hA hP hD hS (c_X1_at l D cI 8 (by decide) (A 4) (hh_2 3) j1_2) ⟨va_cnB 2 hts gX0_closeMonth_X1_at_n60 rfl rfl rfl (nW.m hN 8 rfl) lk2 hd_X1_at.2 ⟨Nat.le_of_ble_eq_true rfl, Nat.le_of_ble_eq_true rfl⟩, lk3, trivial⟩ [4] (by decide) rfl rfl hl.1 rfl (Nat.le_of_ble_eq_true rfl) dX0_closeMonth_30 ⟨Nat.le_of_ble_eq_true rfl, Nat.le_of_ble_eq_true rfl⟩ (fun H locs hP hD hS => ?_)
          refine lv_iconst (v := (1 : Int32)) hx hb dX0_closeMonth_33 (by decide) ?_
          refine lv_iadd hx hb dX0_closeMonth_34 ?_
          refine va_mmin hx hb (hml.trans hl.1.symm) hown lk4 lk5 lk6 lk7 (Nat.le_of_ble_eq_true rfl) (Nat.le_of_ble_eq_true rfl) (Nat.le_of_ble_eq_true rfl) (Nat.le_of_ble_eq_true rfl) dX0_closeMonth_35 ?_
          obtain ⟨hh_v5, ehh_v5, hf⟩ := jnS hf
          refine rSN_v (ws' := (wH A cI hh_v5)) (As := [.ref (A 4), .int j1_2, .int (mn (99 : Int32) ((atv 8 (hh_2 3) j1_2) + (1 : Int32)))]) (rest := []) ⟨hx, hb, hml, hown, hts⟩ hK hN hA hP hD hS (c_X1_put l D cI 8 (by decide) (A 4) (hh_2 3) j1_2 (mn (99 : Int32) ((atv 8 (hh_2 3) j1_2) + (1 : Int32)))) ⟨va_cnB 3 hts gX0_closeMonth_X1_put_n64 rfl rfl rfl (nW.m hN 4 rfl) lk2 hd_X1_put.2 ⟨Nat.le_of_ble_eq_true rfl, Nat.le_of_ble_eq_true rfl⟩, lk8, trivial⟩ [4] (by decide) rfl rfl ((sa_X0_h_3 A cI hh_2 (ptv 8 (hh_2 3) j1_2 (mn (99 : Int32) ((atv 8 (hh_2 3) j1_2) + (1 : Int32))))).trans (congrArg (fun z => wH A cI z) ehh_v5.symm)) rfl hl.1 rfl (Nat.le_of_ble_eq_true rfl) dX0_closeMonth_38 ⟨Nat.le_of_ble_eq_true rfl, Nat.le_of_ble_eq_true rfl⟩ (fun H locs hP hD hS => ?_)
          refine lv_iinc (v := (j1_2 + (1 : Int32))) (lv' := [(1, .int (j1_2 + (1 : Int32))), (0, .ref (A 0))]) hx hb dX0_closeMonth_41 hl (k := 1) rfl rfl (by decide) rfl (fun ls hl => ?_)
          refine lv_goto (tgt := 2) hx hb dX0_closeMonth_44 (by decide) ?_
          exact (hWW _ _ _).mp (ih _ _ _ _ _ hf hP hD hS (lv_sub hl [1, 0] rfl))
  exact (hWW _ _ _).mp (P2 _ _ _ _ _ _ hf hP hD hS (lv_sub hl [1, 0] rfl))
set_option maxHeartbeats 4000000 in
set_option maxRecDepth 100000 in
theorem c_X0_goOn (l : Launch) (D : va_G) (cI : ClassId) (A : Nat → Nat) (j1 : Int32) (j2 : Int32) (hh : HS) (out : Int32 × HS) (hf : f_X0_goOn j1 j2 hh = some out) : uI l D cI yX0_goOn wsX0_goOn ({ frames := 4, cells := 0, slots := 0, locals := 102 } : Room) [.ref (A 0), .int j1, .int j2] (wH A cI hh) (wH A cI out.2) out.1 := by
  intro sz
  refine Met.ofW (cc := cX0_goOn) (maxL := 7) (ret := (some .int)) (by decide) rfl ?_
  intro p e s m args below meth c s₁ Bd hml hv
  obtain ⟨rfl, hsz, hP, hK, hD0, hN⟩ := hv
  have hx := Bd.exec
  have hb := Bd.bytes
  have hr := Bd.returns
  have hts := atoms_spec (ws := wsX0_goOn) Bd.pre
  have hown : s.vm.findClass RX0 = some m.cls := findClass_of_methodNamed Bd.named
  have hlocks := Bd.notSynchronized
  subst hsz
  have hD := hD0.self (sz := s.heap.size)
  generalize hAe : va_A (wH A cI hh) s.heap.size = G at hD ⊢
  have hA : ∀ q : Nat, s.heap.size ≤ q → G q := fun q h => by rw [← hAe]; exact Or.inr h
  have hS : va_S G s.heap s.heap [] := va_S.rf
  have hP : va_P D vwCl (wH A cI hh) s.heap := hP
  have hl := lv_entry ([.ref (A 0), .int j1, .int j2]) (n := 7) (Nat.le_of_ble_eq_true rfl)
  rw [lg_entry_eq]
  generalize (lg_sl ([.ref (A 0), .int j1, .int j2]) ++ List.replicate (7 - (lg_sl ([.ref (A 0), .int j1, .int j2])).length) Slot.unset).toArray = ls at hl ⊢
  have hl : lv_has ls 7 [(0, .ref (A 0)), (1, .int j1), (2, .int j2)] := hl
  have hinH : ∀ w ∈ wsX00, w ∈ wsX0_goOn := by decide +kernel
  have lk0 := hts (.fieldLink RX0 49 "LiesBoughtBack$Hall" "month" "I") (by decide +kernel)
  have lk1 := hts (.fieldLink RX0 42 "LiesBoughtBack$Hall" "cards" "I") (by decide +kernel)
  have lk2 := hts (.fieldLink RX0 27 "LiesBoughtBack$Hall" "order" "[I") (by decide +kernel)
  have lk3 := hts (.initialized RX1) (by decide +kernel)
  have lk4 := hts (.static yX1_at) (by decide +kernel)
  refine W_in ?_
  intro WW hWW
  refine (hWW _ _ _).mpr ?_
  unfold f_X0_goOn at hf
  refine lv_iconst (v := (0 : Int32)) hx hb dX0_goOn_0 (by decide) ?_
  refine lv_istore_n (lv' := [(3, .int (0 : Int32)), (0, .ref (A 0)), (1, .int j1), (2, .int j2)]) hx hb dX0_goOn_1 rfl hl (by decide) rfl (fun ls hl => ?_)
  refine lv_iconst (v := (0 : Int32)) hx hb dX0_goOn_2 (by decide) ?_
  refine lv_istore (lv' := [(4, .int (0 : Int32)), (3, .int (0 : Int32)), (0, .ref (A 0)), (1, .int j1), (2, .int j2)]) hx hb dX0_goOn_3 hl (by decide) rfl (fun ls hl => ?_)
  obtain ⟨K82, hK82, hf⟩ := jnS hf
  have J82 : ∀ (j3_82 : Int32) (hh_82 : HS) (H : Heap) (locs : List Loc) (ls : Array Slot), K82 j3_82 hh_82 = some out → va_P D vwCl (wH A cI hh_82) H → va_D G (wH A cI hh_82) → va_S G s.heap H locs → lv_has ls 7 [(3, .int j3_82)] → WW H locs (F0 m 82 ls []) := by
    intro j3_82 hh_82 H locs ls hf hP hD hS hl
    subst hK82
    refine (hWW _ _ _).mpr ?_
    refine lv_iload_n hx hb dX0_goOn_82 rfl (lv_at hl 0 rfl) ?_
    obtain rfl := Option.some.inj hf
    exact W.iret (v := j3_82) hx hb hr (fun t ht hW => ⟨⟨j3_82, (), rfl, rfl, hPt ht hP⟩, hS.F ht⟩) hS.2.2 dX0_goOn_83
  have P5 : ∀ (n' : Nat) (j3_5 : Int32) (j4_5 : Int32) (hh_5 : HS) (H : Heap) (locs : List Loc) (ls : Array Slot), L_X0_goOn_5 j1 j2 K82 n' j3_5 j4_5 hh_5 = some out → va_P D vwCl (wH A cI hh_5) H → va_D G (wH A cI hh_5) → va_S G s.heap H locs → lv_has ls 7 [(0, .ref (A 0)), (1, .int j1), (2, .int j2), (3, .int j3_5), (4, .int j4_5)] → WW H locs (F0 m 5 ls []) := by
    intro n'
    induction n' with
    | zero => intro j3_5 j4_5 hh_5 H locs ls hf; exact absurd (show (none : Option (Int32 × HS)) = some out from hf) (fun q => by cases q)
    | succ n' ih =>
      intro j3_5 j4_5 hh_5 H locs ls hf hP hD hS hl
      rw [L_X0_goOn_5] at hf
      refine (hWW _ _ _).mpr ?_
      refine lv_iload hx hb dX0_goOn_5 (lv_at hl 4 rfl) ?_
      refine lv_iload_n hx hb dX0_goOn_7 rfl (lv_at hl 1 rfl) ?_
      refine lv_icmp_ge (tgt := 82) hx hb dX0_goOn_8 (by decide) (fun c1 => ?_) (fun c1 => ?_)
      · have hf := hT hf c1
        exact (hWW _ _ _).mp (J82 _ _ _ _ _ hf hP hD hS (lv_sub hl [3] rfl))
      · have hf := hF hf c1
        refine lv_aload_n hx hb dX0_goOn_11 rfl (lv_at hl 0 rfl) ?_
        refine lv_dup hx hb dX0_goOn_12 rfl ?_
        refine va_get (D := D) (ci := 0) (v := .int (hh_5 12 0)) (C := RX0) (T := TX0) (N := 13) hx hb hts hinH hown hK hP 0 rfl rfl 2 (by decide) lk0 (fun _ h9 => h9) rfl dX0_goOn_13 ?_
        refine lv_iconst (v := (1 : Int32)) hx hb dX0_goOn_16 (by decide) ?_
        refine lv_iadd hx hb dX0_goOn_17 ?_
        obtain ⟨hh_v2, ehh_v2, hf⟩ := jnS hf
        refine va_put (D := D) (ci := 0) (v := .int ((hh_5 12 0) + (1 : Int32))) (ty := .int) (C := RX0) (T := TX0) (N := 13) hx hb hts hinH tyX0 tyX0_ok nmX0 hown hK hP hD hS 0 rfl rfl 2 (by decide) lk0 (fun _ h9 => h9) rfl (by decide +kernel) rfl rfl (Nat.le_of_ble_eq_true rfl) dX0_goOn_18 (fun H locs hP hD hS => ?_)
        have hE : _ = (wH A cI hh_v2) := ((sf_X0_h_12 A cI hh_5 ((hh_5 12 0) + (1 : Int32))).trans (congrArg (fun z => wH A cI z) ehh_v2.symm))
        have hP : va_P D vwCl (wH A cI hh_v2) H := hE ▸ hP
        have hD : va_D G (wH A cI hh_v2) := hE ▸ hD
        refine lv_iconst (v := (0 : Int32)) hx hb dX0_goOn_21 (by decide) ?_
        refine lv_istore (lv' := [(5, .int (0 : Int32)), (0, .ref (A 0)), (1, .int j1), (2, .int j2), (3, .int j3_5), (4, .int j4_5)]) hx hb dX0_goOn_22 hl (by decide) rfl (fun ls hl => ?_)
        obtain ⟨K72, hK72, hf⟩ := jnS hf
        have J72 : ∀ (j3_72 : Int32) (j4_72 : Int32) (hh_72 : HS) (H : Heap) (locs : List Loc) (ls : Array Slot), K72 j3_72 j4_72 hh_72 = some out → va_P D vwCl (wH A cI hh_72) H → va_D G (wH A cI hh_72) → va_S G s.heap H locs → lv_has ls 7 [(0, .ref (A 0)), (1, .int j1), (2, .int j2), (3, .int j3_72), (4, .int j4_72)] → WW H locs (F0 m 72 ls []) := by
          intro j3_72 j4_72 hh_72 H locs ls hf hP hD hS hl
          subst hK72
          refine (hWW _ _ _).mpr ?_
          refine lv_aload_n hx hb dX0_goOn_72 rfl (lv_at hl 0 rfl) ?_
          obtain ⟨v3, hev3, hf⟩ := bS hf
          refine rV_v (ws' := (wH A cI v3)) (As := []) (rest := []) ⟨hx, hb, hml, hown, hts⟩ hK hN hA hP hD hS (c_X0_closeMonth l D cI A hh_72 v3 hev3) (cwV 0 hts gX0_goOn_X0_closeMonth rfl rfl rfl hd_X0_closeMonth ⟨Nat.le_of_ble_eq_true rfl, Nat.le_of_ble_eq_true rfl⟩) (va_recv hK hP (ci := 0) (q0 := 0) rfl rfl) [0, 1, 2, 3, 4, 5, 6, 7, 8, 9, 10] (by decide) rfl rfl rfl rfl hl.1 rfl (Nat.le_of_ble_eq_true rfl) dX0_goOn_73 ⟨Nat.le_of_ble_eq_true rfl, Nat.le_of_ble_eq_true rfl⟩ (fun H locs hP hD hS => ?_)
          have hP : va_P D vwCl (wH A cI v3) H := hP
          refine lv_iinc (v := (j4_72 + (1 : Int32))) (lv' := [(4, .int (j4_72 + (1 : Int32))), (0, .ref (A 0)), (1, .int j1), (2, .int j2), (3, .int j3_72)]) hx hb dX0_goOn_76 hl (k := 4) rfl rfl (by decide) rfl (fun ls hl => ?_)
          refine lv_goto (tgt := 5) hx hb dX0_goOn_79 (by decide) ?_
          exact (hWW _ _ _).mp (ih _ _ _ _ _ _ hf hP hD hS (lv_sub hl [1, 2, 3, 4, 0] rfl))
        have P24 : ∀ (n' : Nat) (j3_24 : Int32) (j4_24 : Int32) (j5_24 : Int32) (hh_24 : HS) (H : Heap) (locs : List Loc) (ls : Array Slot), L_X0_goOn_24 j1 j2 K72 n' j3_24 j4_24 j5_24 hh_24 = some out → va_P D vwCl (wH A cI hh_24) H → va_D G (wH A cI hh_24) → va_S G s.heap H locs → lv_has ls 7 [(0, .ref (A 0)), (1, .int j1), (2, .int j2), (3, .int j3_24), (4, .int j4_24), (5, .int j5_24)] → WW H locs (F0 m 24 ls []) := by
          intro n'
          induction n' with
          | zero => intro j3_24 j4_24 j5_24 hh_24 H locs ls hf; exact absurd (show (none : Option (Int32 × HS)) = some out from hf) (fun q => by cases q)
          | succ n' ih =>
            intro j3_24 j4_24 j5_24 hh_24 H locs ls hf hP hD hS hl
            rw [L_X0_goOn_24] at hf
            refine (hWW _ _ _).mpr ?_
            refine lv_iload_n hx hb dX0_goOn_24 rfl (lv_at hl 2 rfl) ?_
            refine lv_if_eq (tgt := 72) hx hb dX0_goOn_25 (by decide) (fun c4 => ?_) (fun c4 => ?_)
            · have hf := hT hf c4
              exact (hWW _ _ _).mp (J72 _ _ _ _ _ _ hf hP hD hS (lv_sub hl [0, 1, 2, 3, 4] rfl))
            · have hf := hF hf c4
              refine lv_iload hx hb dX0_goOn_28 (lv_at hl 5 rfl) ?_
              refine lv_aload_n hx hb dX0_goOn_30 rfl (lv_at hl 0 rfl) ?_
              refine va_get (D := D) (ci := 0) (v := .int (hh_24 10 0)) (C := RX0) (T := TX0) (N := 13) hx hb hts hinH hown hK hP 0 rfl rfl 0 (by decide) lk1 (fun _ h9 => h9) rfl dX0_goOn_31 ?_
              refine lv_icmp_ge (tgt := 72) hx hb dX0_goOn_34 (by decide) (fun c5 => ?_) (fun c5 => ?_)
              · have hf := hT hf c5
                exact (hWW _ _ _).mp (J72 _ _ _ _ _ _ hf hP hD hS (lv_sub hl [0, 1, 2, 3, 4] rfl))
              · have hf := hF hf c5
                refine lv_aload_n hx hb dX0_goOn_37 rfl (lv_at hl 0 rfl) ?_
                refine va_get (D := D) (ci := 0) (v := .ref (A 6)) (C := RX0) (T := TX0) (N := 13) hx hb hts hinH hown hK hP 0 rfl rfl 8 (by decide) lk2 (fun _ h9 => h9) rfl dX0_goOn_38 ?_
                refine lv_iload hx hb dX0_goOn_41 (lv_at hl 5 rfl) ?_
                refine rSN_io (As := [.ref (A 6), .int j5_24]) (rest := []) ⟨hx, hb, hml, hown, hts⟩ hK hN hA hP hD hS (c_X1_at l D cI 8 (by decide) (A 6) (hh_24 5) j5_24) ⟨va_cnB 2 hts gX0_goOn_X1_at_n60 rfl rfl rfl (nW.m hN 8 rfl) lk3 hd_X1_at.2 ⟨Nat.le_of_ble_eq_true rfl, Nat.le_of_ble_eq_true rfl⟩, lk4, trivial⟩ [6] (by decide) rfl rfl hl.1 rfl (Nat.le_of_ble_eq_true rfl) dX0_goOn_43 ⟨Nat.le_of_ble_eq_true rfl, Nat.le_of_ble_eq_true rfl⟩ (fun H locs hP hD hS => ?_)
                refine lv_istore (lv' := [(6, .int (atv 8 (hh_24 5) j5_24)), (0, .ref (A 0)), (1, .int j1), (2, .int j2), (3, .int j3_24), (4, .int j4_24), (5, .int j5_24)]) hx hb dX0_goOn_46 hl (by decide) rfl (fun ls hl => ?_)
                refine lv_aload_n hx hb dX0_goOn_48 rfl (lv_at hl 1 rfl) ?_
                refine lv_iload hx hb dX0_goOn_49 (lv_at hl 0 rfl) ?_
                refine rV_io (As := [.int (atv 8 (hh_24 5) j5_24)]) (rest := []) ⟨hx, hb, hml, hown, hts⟩ hK hN hA hP hD hS (c_X0_inPile l D cI A (atv 8 (hh_24 5) j5_24) hh_24 (f_X0_inPile (atv 8 (hh_24 5) j5_24) hh_24) rfl) (cwV 1 hts gX0_goOn_X0_inPile rfl rfl rfl hd_X0_inPile ⟨Nat.le_of_ble_eq_true rfl, Nat.le_of_ble_eq_true rfl⟩) (va_recv hK hP (ci := 0) (q0 := 0) rfl rfl) [0, 1, 2, 3, 4, 5, 6, 7, 8, 9, 10] (by decide) rfl rfl hl.1 rfl (Nat.le_of_ble_eq_true rfl) dX0_goOn_51 ⟨Nat.le_of_ble_eq_true rfl, Nat.le_of_ble_eq_true rfl⟩ (fun H locs hP hD hS => ?_)
                refine lv_if_eq (tgt := 66) hx hb dX0_goOn_54 (by decide) (fun c6 => ?_) (fun c6 => ?_)
                · have hf := hT hf c6
                  refine lv_iinc (v := (j5_24 + (1 : Int32))) (lv' := [(5, .int (j5_24 + (1 : Int32))), (6, .int (atv 8 (hh_24 5) j5_24)), (0, .ref (A 0)), (1, .int j1), (2, .int j2), (3, .int j3_24), (4, .int j4_24)]) hx hb dX0_goOn_66 hl (k := 6) rfl rfl (by decide) rfl (fun ls hl => ?_)
                  refine lv_goto (tgt := 24) hx hb dX0_goOn_69 (by decide) ?_
                  exact (hWW _ _ _).mp (ih _ _ _ _ _ _ _ hf hP hD hS (lv_sub hl [2, 3, 4, 5, 6, 0] rfl))
                · have hf := hF hf c6
                  refine lv_iload_n hx hb dX0_goOn_57 rfl (lv_at hl 4 rfl) ?_
                  refine lv_aload_n hx hb dX0_goOn_58 rfl (lv_at hl 1 rfl) ?_
                  refine lv_iload hx hb dX0_goOn_59 (lv_at hl 0 rfl) ?_
                  obtain ⟨v7, hev7, hf⟩ := bS hf
                  refine rV_i (ws' := (wH A cI v7.2)) (As := [.int (atv 8 (hh_24 5) j5_24)]) (rest := [.int j3_24]) ⟨hx, hb, hml, hown, hts⟩ hK hN hA hP hD hS (c_X0_auction l D cI A (atv 8 (hh_24 5) j5_24) hh_24 v7 hev7) (cwV 1 hts gX0_goOn_X0_auction rfl rfl rfl hd_X0_auction ⟨Nat.le_of_ble_eq_true rfl, Nat.le_of_ble_eq_true rfl⟩) (va_recv hK hP (ci := 0) (q0 := 0) rfl rfl) [0, 1, 2, 3, 4, 5, 6, 7, 8, 9, 10] (by decide) rfl rfl rfl rfl hl.1 rfl (Nat.le_of_ble_eq_true rfl) dX0_goOn_61 ⟨Nat.le_of_ble_eq_true rfl, Nat.le_of_ble_eq_true rfl⟩ (fun H locs hP hD hS => ?_)
                  have hP : va_P D vwCl (wH A cI v7.2) H := hP
                  refine lv_iadd hx hb dX0_goOn_64 ?_
                  refine lv_istore_n (lv' := [(3, .int (j3_24 + v7.1)), (6, .int (atv 8 (hh_24 5) j5_24)), (0, .ref (A 0)), (1, .int j1), (2, .int j2), (4, .int j4_24), (5, .int j5_24)]) hx hb dX0_goOn_65 rfl hl (by decide) rfl (fun ls hl => ?_)
                  refine lv_iinc (v := (j5_24 + (1 : Int32))) (lv' := [(5, .int (j5_24 + (1 : Int32))), (3, .int (j3_24 + v7.1)), (6, .int (atv 8 (hh_24 5) j5_24)), (0, .ref (A 0)), (1, .int j1), (2, .int j2), (4, .int j4_24)]) hx hb dX0_goOn_66 hl (k := 6) rfl rfl (by decide) rfl (fun ls hl => ?_)
                  refine lv_goto (tgt := 24) hx hb dX0_goOn_69 (by decide) ?_
                  exact (hWW _ _ _).mp (ih _ _ _ _ _ _ _ hf hP hD hS (lv_sub hl [3, 4, 5, 1, 6, 0] rfl))
        exact (hWW _ _ _).mp (P24 _ _ _ _ _ _ _ _ hf hP hD hS (lv_sub hl [1, 2, 3, 4, 5, 0] rfl))
  exact (hWW _ _ _).mp (P5 _ _ _ _ _ _ _ hf hP hD hS (lv_sub hl [2, 3, 4, 1, 0] rfl))
set_option maxHeartbeats 4000000 in
set_option maxRecDepth 100000 in
theorem c_X0_gain (l : Launch) (D : va_G) (cI : ClassId) (A : Nat → Nat) (j1 : Int32) (j2 : Int32) (j3 : Int32) (hh : HS) (out : Int32) (hf : f_X0_gain j1 j2 j3 hh = some out) : uI l D cI yX0_gain wsX0_gain ({ frames := 3, cells := 0, slots := 0, locals := 77 } : Room) [.ref (A 0), .int j1, .int j2, .int j3] (wH A cI hh) (wH A cI hh) out := by
  intro sz
  refine Met.ofW (cc := cX0_gain) (maxL := 5) (ret := (some .int)) (by decide) rfl ?_
  intro p e s m args below meth c s₁ Bd hml hv
  obtain ⟨rfl, hsz, hP, hK, hD0, hN⟩ := hv
  have hx := Bd.exec
  have hb := Bd.bytes
  have hr := Bd.returns
  have hts := atoms_spec (ws := wsX0_gain) Bd.pre
  have hown : s.vm.findClass RX0 = some m.cls := findClass_of_methodNamed Bd.named
  have hlocks := Bd.notSynchronized
  subst hsz
  have hD := hD0.self (sz := s.heap.size)
  generalize hAe : va_A (wH A cI hh) s.heap.size = G at hD ⊢
  have hA : ∀ q : Nat, s.heap.size ≤ q → G q := fun q h => by rw [← hAe]; exact Or.inr h
  have hS : va_S G s.heap s.heap [] := va_S.rf
  have hP : va_P D vwCl (wH A cI hh) s.heap := hP
  have hl := lv_entry ([.ref (A 0), .int j1, .int j2, .int j3]) (n := 5) (Nat.le_of_ble_eq_true rfl)
  rw [lg_entry_eq]
  generalize (lg_sl ([.ref (A 0), .int j1, .int j2, .int j3]) ++ List.replicate (5 - (lg_sl ([.ref (A 0), .int j1, .int j2, .int j3])).length) Slot.unset).toArray = ls at hl ⊢
  have hl : lv_has ls 5 [(0, .ref (A 0)), (1, .int j1), (2, .int j2), (3, .int j3)] := hl
  have hinH : ∀ w ∈ wsX00, w ∈ wsX0_gain := by decide +kernel
  have lk0 := hts (.fieldLink RX0 18 "LiesBoughtBack$Hall" "teller" "[I") (by decide +kernel)
  have lk1 := hts (.initialized RX1) (by decide +kernel)
  have lk2 := hts (.static yX1_at) (by decide +kernel)
  refine W_in ?_
  intro WW hWW
  refine (hWW _ _ _).mpr ?_
  unfold f_X0_gain at hf
  refine lv_aload_n hx hb dX0_gain_0 rfl (lv_at hl 0 rfl) ?_
  refine lv_iload_n hx hb dX0_gain_1 rfl (lv_at hl 2 rfl) ?_
  refine lv_iload_n hx hb dX0_gain_2 rfl (lv_at hl 3 rfl) ?_
  obtain ⟨v1, hev1, hf⟩ := bS hf
  refine rV_io (As := [.int j2, .int j3]) (rest := []) ⟨hx, hb, hml, hown, hts⟩ hK hN hA hP hD hS (c_X0_deal l D cI A j2 j3 hh v1 hev1) (cwV 2 hts gX0_gain_X0_deal rfl rfl rfl hd_X0_deal ⟨Nat.le_of_ble_eq_true rfl, Nat.le_of_ble_eq_true rfl⟩) (va_recv hK hP (ci := 0) (q0 := 0) rfl rfl) [0, 1, 2, 3, 4, 5, 6, 7, 8, 9, 10] (by decide) rfl rfl hl.1 rfl (Nat.le_of_ble_eq_true rfl) dX0_gain_3 ⟨Nat.le_of_ble_eq_true rfl, Nat.le_of_ble_eq_true rfl⟩ (fun H locs hP hD hS => ?_)
  refine lv_istore (lv' := [(4, .int v1), (0, .ref (A 0)), (1, .int j1), (2, .int j2), (3, .int j3)]) hx hb dX0_gain_6 hl (by decide) rfl (fun ls hl => ?_)
  refine lv_iload hx hb dX0_gain_8 (lv_at hl 0 rfl) ?_
  refine lv_if_ge (tgt := 15) hx hb dX0_gain_10 (by decide) (fun c2 => ?_) (fun c2 => ?_)
  · have hf := hT hf c2
    refine lv_iload hx hb dX0_gain_15 (lv_at hl 0 rfl) ?_
    refine lv_sipush (v := (1000 : Int32)) hx hb dX0_gain_17 (by decide) ?_
    refine lv_idiv hx hb dX0_gain_20 (by decide) ?_
    refine lv_iload_n hx hb dX0_gain_21 rfl (lv_at hl 2 rfl) ?_
    refine lv_icmp_ne (tgt := 38) hx hb dX0_gain_22 (by decide) (fun c3 => ?_) (fun c3 => ?_)
    · have hf := hF hf c3
      refine lv_aload_n hx hb dX0_gain_38 rfl (lv_at hl 1 rfl) ?_
      refine va_get (D := D) (ci := 0) (v := .ref (A 3)) (C := RX0) (T := TX0) (N := 13) hx hb hts hinH hown hK hP 0 rfl rfl 5 (by decide) lk0 (fun _ h9 => h9) rfl dX0_gain_39 ?_
      refine lv_iload_n hx hb dX0_gain_42 rfl (lv_at hl 3 rfl) ?_
      refine rSN_io (As := [.ref (A 3), .int j2]) (rest := []) ⟨hx, hb, hml, hown, hts⟩ hK hN hA hP hD hS (c_X1_at l D cI 8 (by decide) (A 3) (hh 2) j2) ⟨va_cnB 2 hts gX0_gain_X1_at_n60 rfl rfl rfl (nW.m hN 8 rfl) lk1 hd_X1_at.2 ⟨Nat.le_of_ble_eq_true rfl, Nat.le_of_ble_eq_true rfl⟩, lk2, trivial⟩ [3] (by decide) rfl rfl hl.1 rfl (Nat.le_of_ble_eq_true rfl) dX0_gain_43 ⟨Nat.le_of_ble_eq_true rfl, Nat.le_of_ble_eq_true rfl⟩ (fun H locs hP hD hS => ?_)
      refine lv_iload_n hx hb dX0_gain_46 rfl (lv_at hl 2 rfl) ?_
      refine lv_icmp_ne (tgt := 55) hx hb dX0_gain_47 (by decide) (fun c4 => ?_) (fun c4 => ?_)
      · have hf := hF hf c4
        refine lv_iconst (v := (0 : Int32)) hx hb dX0_gain_55 (by decide) ?_
        obtain rfl := Option.some.inj hf
        exact W.iret (v := (0 : Int32)) hx hb hr (fun t ht hW => ⟨⟨(0 : Int32), (), rfl, rfl, hPt ht hP⟩, hS.F ht⟩) hS.2.2 dX0_gain_56
      · have hf := hT hf c4
        refine lv_bipush (v := (-3 : Int32)) hx hb dX0_gain_50 (by decide) ?_
        refine lv_goto (tgt := 56) hx hb dX0_gain_52 (by decide) ?_
        obtain rfl := Option.some.inj hf
        exact W.iret (v := (-3 : Int32)) hx hb hr (fun t ht hW => ⟨⟨(-3 : Int32), (), rfl, rfl, hPt ht hP⟩, hS.F ht⟩) hS.2.2 dX0_gain_56
    · have hf := hT hf c3
      refine lv_aload_n hx hb dX0_gain_25 rfl (lv_at hl 1 rfl) ?_
      refine lv_iload_n hx hb dX0_gain_26 rfl (lv_at hl 3 rfl) ?_
      refine rV_io (As := [.int j2]) (rest := []) ⟨hx, hb, hml, hown, hts⟩ hK hN hA hP hD hS (c_X0_worth l D cI A j2 hh (f_X0_worth j2 hh) rfl) (cwV 1 hts gX0_gain_X0_worth rfl rfl rfl hd_X0_worth ⟨Nat.le_of_ble_eq_true rfl, Nat.le_of_ble_eq_true rfl⟩) (va_recv hK hP (ci := 0) (q0 := 0) rfl rfl) [0, 1, 2, 3, 4, 5, 6, 7, 8, 9, 10] (by decide) rfl rfl hl.1 rfl (Nat.le_of_ble_eq_true rfl) dX0_gain_27 ⟨Nat.le_of_ble_eq_true rfl, Nat.le_of_ble_eq_true rfl⟩ (fun H locs hP hD hS => ?_)
      refine lv_iload hx hb dX0_gain_30 (lv_at hl 0 rfl) ?_
      refine lv_sipush (v := (1000 : Int32)) hx hb dX0_gain_32 (by decide) ?_
      refine lv_irem hx hb dX0_gain_35 (by decide) ?_
      refine lv_isub hx hb dX0_gain_36 ?_
      obtain rfl := Option.some.inj hf
      exact W.iret (v := ((f_X0_worth j2 hh) - (v1 - v1 / (1000 : Int32) * (1000 : Int32)))) hx hb hr (fun t ht hW => ⟨⟨((f_X0_worth j2 hh) - (v1 - v1 / (1000 : Int32) * (1000 : Int32))), (), rfl, rfl, hPt ht hP⟩, hS.F ht⟩) hS.2.2 dX0_gain_37
  · have hf := hF hf c2
    refine lv_iconst (v := (0 : Int32)) hx hb dX0_gain_13 (by decide) ?_
    obtain rfl := Option.some.inj hf
    exact W.iret (v := (0 : Int32)) hx hb hr (fun t ht hW => ⟨⟨(0 : Int32), (), rfl, rfl, hPt ht hP⟩, hS.F ht⟩) hS.2.2 dX0_gain_14
set_option maxHeartbeats 4000000 in
set_option maxRecDepth 100000 in
theorem c_X0_pourPurse (l : Launch) (D : va_G) (cI : ClassId) (A : Nat → Nat) (j1 : Int32) (j2 : Int32) (hh : HS) (out : HS) (hf : f_X0_pourPurse j1 j2 hh = some out) : uV l D cI yX0_pourPurse wsX0_pourPurse ({ frames := 1, cells := 0, slots := 0, locals := 22 } : Room) [.ref (A 0), .int j1, .int j2] (wH A cI hh) (wH A cI out) := by
  intro sz
  refine Met.ofW (cc := cX0_pourPurse) (maxL := 3) (ret := none) (by decide) rfl ?_
  intro p e s m args below meth c s₁ Bd hml hv
  obtain ⟨rfl, hsz, hP, hK, hD0, hN⟩ := hv
  have hx := Bd.exec
  have hb := Bd.bytes
  have hr := Bd.returns
  have hts := atoms_spec (ws := wsX0_pourPurse) Bd.pre
  have hown : s.vm.findClass RX0 = some m.cls := findClass_of_methodNamed Bd.named
  have hlocks := Bd.notSynchronized
  subst hsz
  have hD := hD0.self (sz := s.heap.size)
  generalize hAe : va_A (wH A cI hh) s.heap.size = G at hD ⊢
  have hA : ∀ q : Nat, s.heap.size ≤ q → G q := fun q h => by rw [← hAe]; exact Or.inr h
  have hS : va_S G s.heap s.heap [] := va_S.rf
  have hP : va_P D vwCl (wH A cI hh) s.heap := hP
  have hl := lv_entry ([.ref (A 0), .int j1, .int j2]) (n := 3) (Nat.le_of_ble_eq_true rfl)
  rw [lg_entry_eq]
  generalize (lg_sl ([.ref (A 0), .int j1, .int j2]) ++ List.replicate (3 - (lg_sl ([.ref (A 0), .int j1, .int j2])).length) Slot.unset).toArray = ls at hl ⊢
  have hl : lv_has ls 3 [(0, .ref (A 0)), (1, .int j1), (2, .int j2)] := hl
  have hinH : ∀ w ∈ wsX00, w ∈ wsX0_pourPurse := by decide +kernel
  have lk0 := hts (.fieldLink RX0 36 "LiesBoughtBack$Hall" "purse" "[I") (by decide +kernel)
  have lk1 := hts (.initialized RX1) (by decide +kernel)
  have lk2 := hts (.static yX1_at) (by decide +kernel)
  have lk3 := hts (.methodLink RX0 81 Lib.Math.min.name) (by decide +kernel)
  have lk4 := hts (.static Lib.Math.min.name) (by decide +kernel)
  have lk5 := hts (.initialized "java/lang/Math") (by decide +kernel)
  have lk6 := hts (.code Lib.Math.min.name Lib.Math.min.code 2 (some .int)) (by decide +kernel)
  have lk7 := hts (.static yX1_put) (by decide +kernel)
  refine W_in ?_
  intro WW hWW
  refine (hWW _ _ _).mpr ?_
  unfold f_X0_pourPurse at hf
  refine lv_aload_n hx hb dX0_pourPurse_0 rfl (lv_at hl 0 rfl) ?_
  refine va_get (D := D) (ci := 0) (v := .ref (A 9)) (C := RX0) (T := TX0) (N := 13) hx hb hts hinH hown hK hP 0 rfl rfl 11 (by decide) lk0 (fun _ h9 => h9) rfl dX0_pourPurse_1 ?_
  refine lv_iload_n hx hb dX0_pourPurse_4 rfl (lv_at hl 2 rfl) ?_
  refine lv_sipush (v := (999 : Int32)) hx hb dX0_pourPurse_5 (by decide) ?_
  refine lv_aload_n hx hb dX0_pourPurse_8 rfl (lv_at hl 0 rfl) ?_
  refine va_get (D := D) (ci := 0) (v := .ref (A 9)) (C := RX0) (T := TX0) (N := 13) hx hb hts hinH hown hK hP 0 rfl rfl 11 (by decide) lk0 (fun _ h9 => h9) rfl dX0_pourPurse_9 ?_
  refine lv_iload_n hx hb dX0_pourPurse_12 rfl (lv_at hl 2 rfl) ?_
  refine rSN_io (As := [.ref (A 9), .int j2]) (rest := [.int (999 : Int32), .int j2, .ref (A 9)]) ⟨hx, hb, hml, hown, hts⟩ hK hN hA hP hD hS (c_X1_at l D cI 6 (by decide) (A 9) (hh 8) j2) ⟨va_cnB 2 hts gX0_pourPurse_X1_at_n60 rfl rfl rfl (nW.m hN 8 rfl) lk1 hd_X1_at.2 ⟨Nat.le_of_ble_eq_true rfl, Nat.le_of_ble_eq_true rfl⟩, lk2, trivial⟩ [9] (by decide) rfl rfl hl.1 rfl (Nat.le_of_ble_eq_true rfl) dX0_pourPurse_13 ⟨Nat.le_of_ble_eq_true rfl, Nat.le_of_ble_eq_true rfl⟩ (fun H locs hP hD hS => ?_)
  refine lv_aload_n hx hb dX0_pourPurse_16 rfl (lv_at hl 0 rfl) ?_
  refine va_get (D := D) (ci := 0) (v := .ref (A 9)) (C := RX0) (T := TX0) (N := 13) hx hb hts hinH hown hK hP 0 rfl rfl 11 (by decide) lk0 (fun _ h9 => h9) rfl dX0_pourPurse_17 ?_
  refine lv_iload_n hx hb dX0_pourPurse_20 rfl (lv_at hl 1 rfl) ?_
  refine rSN_io (As := [.ref (A 9), .int j1]) (rest := [.int (atv 6 (hh 8) j2), .int (999 : Int32), .int j2, .ref (A 9)]) ⟨hx, hb, hml, hown, hts⟩ hK hN hA hP hD hS (c_X1_at l D cI 6 (by decide) (A 9) (hh 8) j1) ⟨va_cnB 2 hts gX0_pourPurse_X1_at_n60 rfl rfl rfl (nW.m hN 8 rfl) lk1 hd_X1_at.2 ⟨Nat.le_of_ble_eq_true rfl, Nat.le_of_ble_eq_true rfl⟩, lk2, trivial⟩ [9] (by decide) rfl rfl hl.1 rfl (Nat.le_of_ble_eq_true rfl) dX0_pourPurse_21 ⟨Nat.le_of_ble_eq_true rfl, Nat.le_of_ble_eq_true rfl⟩ (fun H locs hP hD hS => ?_)
  refine lv_iadd hx hb dX0_pourPurse_24 ?_
  refine va_mmin hx hb (hml.trans hl.1.symm) hown lk3 lk4 lk5 lk6 (Nat.le_of_ble_eq_true rfl) (Nat.le_of_ble_eq_true rfl) (Nat.le_of_ble_eq_true rfl) (Nat.le_of_ble_eq_true rfl) dX0_pourPurse_25 ?_
  obtain ⟨hh_v1, ehh_v1, hf⟩ := jnS hf
  refine rSN_v (ws' := (wH A cI hh_v1)) (As := [.ref (A 9), .int j2, .int (mn (999 : Int32) ((atv 6 (hh 8) j2) + (atv 6 (hh 8) j1)))]) (rest := []) ⟨hx, hb, hml, hown, hts⟩ hK hN hA hP hD hS (c_X1_put l D cI 6 (by decide) (A 9) (hh 8) j2 (mn (999 : Int32) ((atv 6 (hh 8) j2) + (atv 6 (hh 8) j1)))) ⟨va_cnB 3 hts gX0_pourPurse_X1_put_n64 rfl rfl rfl (nW.m hN 4 rfl) lk1 hd_X1_put.2 ⟨Nat.le_of_ble_eq_true rfl, Nat.le_of_ble_eq_true rfl⟩, lk7, trivial⟩ [9] (by decide) rfl rfl ((sa_X0_h_8 A cI hh (ptv 6 (hh 8) j2 (mn (999 : Int32) ((atv 6 (hh 8) j2) + (atv 6 (hh 8) j1))))).trans (congrArg (fun z => wH A cI z) ehh_v1.symm)) rfl hl.1 rfl (Nat.le_of_ble_eq_true rfl) dX0_pourPurse_28 ⟨Nat.le_of_ble_eq_true rfl, Nat.le_of_ble_eq_true rfl⟩ (fun H locs hP hD hS => ?_)
  refine lv_aload_n hx hb dX0_pourPurse_31 rfl (lv_at hl 0 rfl) ?_
  refine va_get (D := D) (ci := 0) (v := .ref (A 9)) (C := RX0) (T := TX0) (N := 13) hx hb hts hinH hown hK hP 0 rfl rfl 11 (by decide) lk0 (fun _ h9 => h9) rfl dX0_pourPurse_32 ?_
  refine lv_iload_n hx hb dX0_pourPurse_35 rfl (lv_at hl 1 rfl) ?_
  refine lv_iconst (v := (0 : Int32)) hx hb dX0_pourPurse_36 (by decide) ?_
  obtain ⟨hh_v2, ehh_v2, hf⟩ := jnS hf
  refine rSN_v (ws' := (wH A cI hh_v2)) (As := [.ref (A 9), .int j1, .int (0 : Int32)]) (rest := []) ⟨hx, hb, hml, hown, hts⟩ hK hN hA hP hD hS (c_X1_put l D cI 6 (by decide) (A 9) (hh_v1 8) j1 (0 : Int32)) ⟨va_cnB 3 hts gX0_pourPurse_X1_put_n64 rfl rfl rfl (nW.m hN 4 rfl) lk1 hd_X1_put.2 ⟨Nat.le_of_ble_eq_true rfl, Nat.le_of_ble_eq_true rfl⟩, lk7, trivial⟩ [9] (by decide) rfl rfl ((sa_X0_h_8 A cI hh_v1 (ptv 6 (hh_v1 8) j1 (0 : Int32))).trans (congrArg (fun z => wH A cI z) ehh_v2.symm)) rfl hl.1 rfl (Nat.le_of_ble_eq_true rfl) dX0_pourPurse_37 ⟨Nat.le_of_ble_eq_true rfl, Nat.le_of_ble_eq_true rfl⟩ (fun H locs hP hD hS => ?_)
  obtain rfl := Option.some.inj hf
  exact W.vret hx hb hr (fun t ht hW => ⟨⟨(), rfl, trivial, hPt ht hP⟩, hS.F ht⟩) hS.2.2 dX0_pourPurse_40
set_option maxHeartbeats 4000000 in
set_option maxRecDepth 100000 in
theorem c_X0_drawPurses (l : Launch) (D : va_G) (cI : ClassId) (A : Nat → Nat) (j1 : Int32) (hh : HS) (out : Int32 × HS) (hf : f_X0_drawPurses j1 hh = some out) : uI l D cI yX0_drawPurses wsX0_drawPurses ({ frames := 1, cells := 0, slots := 0, locals := 22 } : Room) [.ref (A 0), .int j1] (wH A cI hh) (wH A cI out.2) out.1 := by
  intro sz
  refine Met.ofW (cc := cX0_drawPurses) (maxL := 4) (ret := (some .int)) (by decide) rfl ?_
  intro p e s m args below meth c s₁ Bd hml hv
  obtain ⟨rfl, hsz, hP, hK, hD0, hN⟩ := hv
  have hx := Bd.exec
  have hb := Bd.bytes
  have hr := Bd.returns
  have hts := atoms_spec (ws := wsX0_drawPurses) Bd.pre
  have hown : s.vm.findClass RX0 = some m.cls := findClass_of_methodNamed Bd.named
  have hlocks := Bd.notSynchronized
  subst hsz
  have hD := hD0.self (sz := s.heap.size)
  generalize hAe : va_A (wH A cI hh) s.heap.size = G at hD ⊢
  have hA : ∀ q : Nat, s.heap.size ≤ q → G q := fun q h => by rw [← hAe]; exact Or.inr h
  have hS : va_S G s.heap s.heap [] := va_S.rf
  have hP : va_P D vwCl (wH A cI hh) s.heap := hP
  have hl := lv_entry ([.ref (A 0), .int j1]) (n := 4) (Nat.le_of_ble_eq_true rfl)
  rw [lg_entry_eq]
  generalize (lg_sl ([.ref (A 0), .int j1]) ++ List.replicate (4 - (lg_sl ([.ref (A 0), .int j1])).length) Slot.unset).toArray = ls at hl ⊢
  have hl : lv_has ls 4 [(0, .ref (A 0)), (1, .int j1)] := hl
  have hinH : ∀ w ∈ wsX00, w ∈ wsX0_drawPurses := by decide +kernel
  have lk0 := hts (.fieldLink RX0 46 "LiesBoughtBack$Hall" "bidders" "I") (by decide +kernel)
  have lk1 := hts (.constant RX0 103 (1664525)) (by decide +kernel)
  have lk2 := hts (.constant RX0 104 (1013904223)) (by decide +kernel)
  have lk3 := hts (.fieldLink RX0 36 "LiesBoughtBack$Hall" "purse" "[I") (by decide +kernel)
  have lk4 := hts (.constant RX0 105 (2147483647)) (by decide +kernel)
  have lk5 := hts (.initialized RX1) (by decide +kernel)
  have lk6 := hts (.static yX1_put) (by decide +kernel)
  refine W_in ?_
  intro WW hWW
  refine (hWW _ _ _).mpr ?_
  unfold f_X0_drawPurses at hf
  refine lv_iload_n hx hb dX0_drawPurses_0 rfl (lv_at hl 1 rfl) ?_
  refine lv_istore_n (lv' := [(2, .int j1), (0, .ref (A 0)), (1, .int j1)]) hx hb dX0_drawPurses_1 rfl hl (by decide) rfl (fun ls hl => ?_)
  refine lv_iconst (v := (0 : Int32)) hx hb dX0_drawPurses_2 (by decide) ?_
  refine lv_istore_n (lv' := [(3, .int (0 : Int32)), (2, .int j1), (0, .ref (A 0)), (1, .int j1)]) hx hb dX0_drawPurses_3 rfl hl (by decide) rfl (fun ls hl => ?_)
  obtain ⟨K45, hK45, hf⟩ := jnS hf
  have J45 : ∀ (j2_45 : Int32) (hh_45 : HS) (H : Heap) (locs : List Loc) (ls : Array Slot), K45 j2_45 hh_45 = some out → va_P D vwCl (wH A cI hh_45) H → va_D G (wH A cI hh_45) → va_S G s.heap H locs → lv_has ls 4 [(2, .int j2_45)] → WW H locs (F0 m 45 ls []) := by
    intro j2_45 hh_45 H locs ls hf hP hD hS hl
    subst hK45
    refine (hWW _ _ _).mpr ?_
    refine lv_iload_n hx hb dX0_drawPurses_45 rfl (lv_at hl 0 rfl) ?_
    obtain rfl := Option.some.inj hf
    exact W.iret (v := j2_45) hx hb hr (fun t ht hW => ⟨⟨j2_45, (), rfl, rfl, hPt ht hP⟩, hS.F ht⟩) hS.2.2 dX0_drawPurses_46
  have P4 : ∀ (n' : Nat) (j2_4 : Int32) (j3_4 : Int32) (hh_4 : HS) (H : Heap) (locs : List Loc) (ls : Array Slot), L_X0_drawPurses_4 j1 K45 n' j2_4 j3_4 hh_4 = some out → va_P D vwCl (wH A cI hh_4) H → va_D G (wH A cI hh_4) → va_S G s.heap H locs → lv_has ls 4 [(0, .ref (A 0)), (2, .int j2_4), (3, .int j3_4)] → WW H locs (F0 m 4 ls []) := by
    intro n'
    induction n' with
    | zero => intro j2_4 j3_4 hh_4 H locs ls hf; exact absurd (show (none : Option (Int32 × HS)) = some out from hf) (fun q => by cases q)
    | succ n' ih =>
      intro j2_4 j3_4 hh_4 H locs ls hf hP hD hS hl
      rw [L_X0_drawPurses_4] at hf
      refine (hWW _ _ _).mpr ?_
      refine lv_iload_n hx hb dX0_drawPurses_4 rfl (lv_at hl 2 rfl) ?_
      refine lv_aload_n hx hb dX0_drawPurses_5 rfl (lv_at hl 0 rfl) ?_
      refine va_get (D := D) (ci := 0) (v := .int (hh_4 11 0)) (C := RX0) (T := TX0) (N := 13) hx hb hts hinH hown hK hP 0 rfl rfl 1 (by decide) lk0 (fun _ h9 => h9) rfl dX0_drawPurses_6 ?_
      refine lv_icmp_ge (tgt := 45) hx hb dX0_drawPurses_9 (by decide) (fun c1 => ?_) (fun c1 => ?_)
      · have hf := hT hf c1
        exact (hWW _ _ _).mp (J45 _ _ _ _ _ hf hP hD hS (lv_sub hl [1] rfl))
      · have hf := hF hf c1
        refine lv_iload_n hx hb dX0_drawPurses_12 rfl (lv_at hl 1 rfl) ?_
        refine lv_ldc (v := (1664525 : Int32)) hx hb hown lk1 dX0_drawPurses_13 ?_
        refine lv_imul hx hb dX0_drawPurses_15 ?_
        refine lv_ldc (v := (1013904223 : Int32)) hx hb hown lk2 dX0_drawPurses_16 ?_
        refine lv_iadd hx hb dX0_drawPurses_18 ?_
        refine lv_istore_n (lv' := [(2, .int ((j2_4 * (1664525 : Int32)) + (1013904223 : Int32))), (0, .ref (A 0)), (3, .int j3_4)]) hx hb dX0_drawPurses_19 rfl hl (by decide) rfl (fun ls hl => ?_)
        refine lv_aload_n hx hb dX0_drawPurses_20 rfl (lv_at hl 1 rfl) ?_
        refine va_get (D := D) (ci := 0) (v := .ref (A 9)) (C := RX0) (T := TX0) (N := 13) hx hb hts hinH hown hK hP 0 rfl rfl 11 (by decide) lk3 (fun _ h9 => h9) rfl dX0_drawPurses_21 ?_
        refine lv_iload_n hx hb dX0_drawPurses_24 rfl (lv_at hl 2 rfl) ?_
        refine lv_iload_n hx hb dX0_drawPurses_25 rfl (lv_at hl 0 rfl) ?_
        refine lv_ldc (v := (2147483647 : Int32)) hx hb hown lk4 dX0_drawPurses_26 ?_
        refine lv_iand hx hb dX0_drawPurses_28 ?_
        refine lv_sipush (v := (256 : Int32)) hx hb dX0_drawPurses_29 (by decide) ?_
        refine lv_idiv hx hb dX0_drawPurses_32 (by decide) ?_
        refine lv_bipush (v := (100 : Int32)) hx hb dX0_drawPurses_33 (by decide) ?_
        refine lv_irem hx hb dX0_drawPurses_35 (by decide) ?_
        obtain ⟨hh_v2, ehh_v2, hf⟩ := jnS hf
        refine rSN_v (ws' := (wH A cI hh_v2)) (As := [.ref (A 9), .int j3_4, .int (((((j2_4 * (1664525 : Int32)) + (1013904223 : Int32)) &&& (2147483647 : Int32)) / (256 : Int32)) - ((((j2_4 * (1664525 : Int32)) + (1013904223 : Int32)) &&& (2147483647 : Int32)) / (256 : Int32)) / (100 : Int32) * (100 : Int32))]) (rest := []) ⟨hx, hb, hml, hown, hts⟩ hK hN hA hP hD hS (c_X1_put l D cI 6 (by decide) (A 9) (hh_4 8) j3_4 (((((j2_4 * (1664525 : Int32)) + (1013904223 : Int32)) &&& (2147483647 : Int32)) / (256 : Int32)) - ((((j2_4 * (1664525 : Int32)) + (1013904223 : Int32)) &&& (2147483647 : Int32)) / (256 : Int32)) / (100 : Int32) * (100 : Int32))) ⟨va_cnB 3 hts gX0_drawPurses_X1_put_n64 rfl rfl rfl (nW.m hN 4 rfl) lk5 hd_X1_put.2 ⟨Nat.le_of_ble_eq_true rfl, Nat.le_of_ble_eq_true rfl⟩, lk6, trivial⟩ [9] (by decide) rfl rfl ((sa_X0_h_8 A cI hh_4 (ptv 6 (hh_4 8) j3_4 (((((j2_4 * (1664525 : Int32)) + (1013904223 : Int32)) &&& (2147483647 : Int32)) / (256 : Int32)) - ((((j2_4 * (1664525 : Int32)) + (1013904223 : Int32)) &&& (2147483647 : Int32)) / (256 : Int32)) / (100 : Int32) * (100 : Int32)))).trans (congrArg (fun z => wH A cI z) ehh_v2.symm)) rfl hl.1 rfl (Nat.le_of_ble_eq_true rfl) dX0_drawPurses_36 ⟨Nat.le_of_ble_eq_true rfl, Nat.le_of_ble_eq_true rfl⟩ (fun H locs hP hD hS => ?_)
        refine lv_iinc (v := (j3_4 + (1 : Int32))) (lv' := [(3, .int (j3_4 + (1 : Int32))), (2, .int ((j2_4 * (1664525 : Int32)) + (1013904223 : Int32))), (0, .ref (A 0))]) hx hb dX0_drawPurses_39 hl (k := 2) rfl rfl (by decide) rfl (fun ls hl => ?_)
        refine lv_goto (tgt := 4) hx hb dX0_drawPurses_42 (by decide) ?_
        exact (hWW _ _ _).mp (ih _ _ _ _ _ _ hf hP hD hS (lv_sub hl [2, 1, 0] rfl))
  exact (hWW _ _ _).mp (P4 _ _ _ _ _ _ _ hf hP hD hS (lv_sub hl [2, 1, 0] rfl))
set_option maxHeartbeats 4000000 in
set_option maxRecDepth 100000 in
theorem c_X0_allToPile (l : Launch) (D : va_G) (cI : ClassId) (A : Nat → Nat) (hh : HS) (out : HS) (hf : f_X0_allToPile hh = some out) : uV l D cI yX0_allToPile wsX0_allToPile ({ frames := 1, cells := 0, slots := 0, locals := 22 } : Room) [.ref (A 0)] (wH A cI hh) (wH A cI out) := by
  intro sz
  refine Met.ofW (cc := cX0_allToPile) (maxL := 2) (ret := none) (by decide) rfl ?_
  intro p e s m args below meth c s₁ Bd hml hv
  obtain ⟨rfl, hsz, hP, hK, hD0, hN⟩ := hv
  have hx := Bd.exec
  have hb := Bd.bytes
  have hr := Bd.returns
  have hts := atoms_spec (ws := wsX0_allToPile) Bd.pre
  have hown : s.vm.findClass RX0 = some m.cls := findClass_of_methodNamed Bd.named
  have hlocks := Bd.notSynchronized
  subst hsz
  have hD := hD0.self (sz := s.heap.size)
  generalize hAe : va_A (wH A cI hh) s.heap.size = G at hD ⊢
  have hA : ∀ q : Nat, s.heap.size ≤ q → G q := fun q h => by rw [← hAe]; exact Or.inr h
  have hS : va_S G s.heap s.heap [] := va_S.rf
  have hP : va_P D vwCl (wH A cI hh) s.heap := hP
  have hl := lv_entry ([.ref (A 0)]) (n := 2) (Nat.le_of_ble_eq_true rfl)
  rw [lg_entry_eq]
  generalize (lg_sl ([.ref (A 0)]) ++ List.replicate (2 - (lg_sl ([.ref (A 0)])).length) Slot.unset).toArray = ls at hl ⊢
  have hl : lv_has ls 2 [(0, .ref (A 0))] := hl
  have hinH : ∀ w ∈ wsX00, w ∈ wsX0_allToPile := by decide +kernel
  have lk0 := hts (.fieldLink RX0 42 "LiesBoughtBack$Hall" "cards" "I") (by decide +kernel)
  have lk1 := hts (.fieldLink RX0 24 "LiesBoughtBack$Hall" "holder" "[I") (by decide +kernel)
  have lk2 := hts (.initialized RX1) (by decide +kernel)
  have lk3 := hts (.static yX1_put) (by decide +kernel)
  refine W_in ?_
  intro WW hWW
  refine (hWW _ _ _).mpr ?_
  unfold f_X0_allToPile at hf
  refine lv_iconst (v := (0 : Int32)) hx hb dX0_allToPile_0 (by decide) ?_
  refine lv_istore_n (lv' := [(1, .int (0 : Int32)), (0, .ref (A 0))]) hx hb dX0_allToPile_1 rfl hl (by decide) rfl (fun ls hl => ?_)
  obtain ⟨K26, hK26, hf⟩ := jnS hf
  have J26 : ∀ (hh_26 : HS) (H : Heap) (locs : List Loc) (ls : Array Slot), K26 hh_26 = some out → va_P D vwCl (wH A cI hh_26) H → va_D G (wH A cI hh_26) → va_S G s.heap H locs → lv_has ls 2 [] → WW H locs (F0 m 26 ls []) := by
    intro hh_26 H locs ls hf hP hD hS hl
    subst hK26
    refine (hWW _ _ _).mpr ?_
    obtain rfl := Option.some.inj hf
    exact W.vret hx hb hr (fun t ht hW => ⟨⟨(), rfl, trivial, hPt ht hP⟩, hS.F ht⟩) hS.2.2 dX0_allToPile_26
  have P2 : ∀ (n' : Nat) (j1_2 : Int32) (hh_2 : HS) (H : Heap) (locs : List Loc) (ls : Array Slot), L_X0_allToPile_2  K26 n' j1_2 hh_2 = some out → va_P D vwCl (wH A cI hh_2) H → va_D G (wH A cI hh_2) → va_S G s.heap H locs → lv_has ls 2 [(0, .ref (A 0)), (1, .int j1_2)] → WW H locs (F0 m 2 ls []) := by
    intro n'
    induction n' with
    | zero => intro j1_2 hh_2 H locs ls hf; exact absurd (show (none : Option (HS)) = some out from hf) (fun q => by cases q)
    | succ n' ih =>
      intro j1_2 hh_2 H locs ls hf hP hD hS hl
      rw [L_X0_allToPile_2] at hf
      refine (hWW _ _ _).mpr ?_
      refine lv_iload_n hx hb dX0_allToPile_2 rfl (lv_at hl 1 rfl) ?_
      refine lv_aload_n hx hb dX0_allToPile_3 rfl (lv_at hl 0 rfl) ?_
      refine va_get (D := D) (ci := 0) (v := .int (hh_2 10 0)) (C := RX0) (T := TX0) (N := 13) hx hb hts hinH hown hK hP 0 rfl rfl 0 (by decide) lk0 (fun _ h9 => h9) rfl dX0_allToPile_4 ?_
      refine lv_icmp_ge (tgt := 26) hx hb dX0_allToPile_7 (by decide) (fun c1 => ?_) (fun c1 => ?_)
      · have hf := hT hf c1
        exact (hWW _ _ _).mp (J26 _ _ _ _ hf hP hD hS (lv_sub hl [] rfl))
      · have hf := hF hf c1
        refine lv_aload_n hx hb dX0_allToPile_10 rfl (lv_at hl 0 rfl) ?_
        refine va_get (D := D) (ci := 0) (v := .ref (A 5)) (C := RX0) (T := TX0) (N := 13) hx hb hts hinH hown hK hP 0 rfl rfl 7 (by decide) lk1 (fun _ h9 => h9) rfl dX0_allToPile_11 ?_
        refine lv_iload_n hx hb dX0_allToPile_14 rfl (lv_at hl 1 rfl) ?_
        refine lv_bipush (v := (-9 : Int32)) hx hb dX0_allToPile_15 (by decide) ?_
        obtain ⟨hh_v2, ehh_v2, hf⟩ := jnS hf
        refine rSN_v (ws' := (wH A cI hh_v2)) (As := [.ref (A 5), .int j1_2, .int (-9 : Int32)]) (rest := []) ⟨hx, hb, hml, hown, hts⟩ hK hN hA hP hD hS (c_X1_put l D cI 8 (by decide) (A 5) (hh_2 4) j1_2 (-9 : Int32)) ⟨va_cnB 3 hts gX0_allToPile_X1_put_n64 rfl rfl rfl (nW.m hN 4 rfl) lk2 hd_X1_put.2 ⟨Nat.le_of_ble_eq_true rfl, Nat.le_of_ble_eq_true rfl⟩, lk3, trivial⟩ [5] (by decide) rfl rfl ((sa_X0_h_4 A cI hh_2 (ptv 8 (hh_2 4) j1_2 (-9 : Int32))).trans (congrArg (fun z => wH A cI z) ehh_v2.symm)) rfl hl.1 rfl (Nat.le_of_ble_eq_true rfl) dX0_allToPile_17 ⟨Nat.le_of_ble_eq_true rfl, Nat.le_of_ble_eq_true rfl⟩ (fun H locs hP hD hS => ?_)
        refine lv_iinc (v := (j1_2 + (1 : Int32))) (lv' := [(1, .int (j1_2 + (1 : Int32))), (0, .ref (A 0))]) hx hb dX0_allToPile_20 hl (k := 1) rfl rfl (by decide) rfl (fun ls hl => ?_)
        refine lv_goto (tgt := 2) hx hb dX0_allToPile_23 (by decide) ?_
        exact (hWW _ _ _).mp (ih _ _ _ _ _ hf hP hD hS (lv_sub hl [1, 0] rfl))
  exact (hWW _ _ _).mp (P2 _ _ _ _ _ _ hf hP hD hS (lv_sub hl [1, 0] rfl))
set_option maxHeartbeats 4000000 in
set_option maxRecDepth 100000 in
theorem c_X0_allCardBits (l : Launch) (D : va_G) (cI : ClassId) (A : Nat → Nat) (hh : HS) (out : Int32) (hf : f_X0_allCardBits hh = out) : uI l D cI yX0_allCardBits wsX0_allCardBits ({ frames := 0, cells := 0, slots := 0, locals := 0 } : Room) [.ref (A 0)] (wH A cI hh) (wH A cI hh) out := by
  intro sz
  refine Met.ofW (cc := cX0_allCardBits) (maxL := 1) (ret := (some .int)) (by decide) rfl ?_
  intro p e s m args below meth c s₁ Bd hml hv
  obtain ⟨rfl, hsz, hP, hK, hD0, hN⟩ := hv
  have hx := Bd.exec
  have hb := Bd.bytes
  have hr := Bd.returns
  have hts := atoms_spec (ws := wsX0_allCardBits) Bd.pre
  have hown : s.vm.findClass RX0 = some m.cls := findClass_of_methodNamed Bd.named
  have hlocks := Bd.notSynchronized
  subst hsz
  have hD := hD0.self (sz := s.heap.size)
  generalize hAe : va_A (wH A cI hh) s.heap.size = G at hD ⊢
  have hA : ∀ q : Nat, s.heap.size ≤ q → G q := fun q h => by rw [← hAe]; exact Or.inr h
  have hS : va_S G s.heap s.heap [] := va_S.rf
  have hP : va_P D vwCl (wH A cI hh) s.heap := hP
  have hl := lv_entry ([.ref (A 0)]) (n := 1) (Nat.le_of_ble_eq_true rfl)
  rw [lg_entry_eq]
  generalize (lg_sl ([.ref (A 0)]) ++ List.replicate (1 - (lg_sl ([.ref (A 0)])).length) Slot.unset).toArray = ls at hl ⊢
  have hl : lv_has ls 1 [(0, .ref (A 0))] := hl
  have hinH : ∀ w ∈ wsX00, w ∈ wsX0_allCardBits := by decide +kernel
  have lk0 := hts (.fieldLink RX0 42 "LiesBoughtBack$Hall" "cards" "I") (by decide +kernel)
  refine W_in ?_
  intro WW hWW
  refine (hWW _ _ _).mpr ?_
  unfold f_X0_allCardBits at hf
  refine lv_iconst (v := (1 : Int32)) hx hb dX0_allCardBits_0 (by decide) ?_
  refine lv_aload_n hx hb dX0_allCardBits_1 rfl (lv_at hl 0 rfl) ?_
  refine va_get (D := D) (ci := 0) (v := .int (hh 10 0)) (C := RX0) (T := TX0) (N := 13) hx hb hts hinH hown hK hP 0 rfl rfl 0 (by decide) lk0 (fun _ h9 => h9) rfl dX0_allCardBits_2 ?_
  refine lv_ishl hx hb dX0_allCardBits_5 ?_
  refine lv_iconst (v := (1 : Int32)) hx hb dX0_allCardBits_6 (by decide) ?_
  refine lv_isub hx hb dX0_allCardBits_7 ?_
  subst hf
  exact W.iret (v := (((1 : Int32) <<< ((hh 10 0) &&& 31)) - (1 : Int32))) hx hb hr (fun t ht hW => ⟨⟨(((1 : Int32) <<< ((hh 10 0) &&& 31)) - (1 : Int32)), (), rfl, rfl, hPt ht hP⟩, hS.F ht⟩) hS.2.2 dX0_allCardBits_8
set_option maxHeartbeats 4000000 in
set_option maxRecDepth 100000 in
theorem c_X0_pileBits (l : Launch) (D : va_G) (cI : ClassId) (A : Nat → Nat) (hh : HS) (out : Int32) (hf : f_X0_pileBits hh = some out) : uI l D cI yX0_pileBits wsX0_pileBits ({ frames := 2, cells := 0, slots := 0, locals := 42 } : Room) [.ref (A 0)] (wH A cI hh) (wH A cI hh) out := by
  intro sz
  refine Met.ofW (cc := cX0_pileBits) (maxL := 3) (ret := (some .int)) (by decide) rfl ?_
  intro p e s m args below meth c s₁ Bd hml hv
  obtain ⟨rfl, hsz, hP, hK, hD0, hN⟩ := hv
  have hx := Bd.exec
  have hb := Bd.bytes
  have hr := Bd.returns
  have hts := atoms_spec (ws := wsX0_pileBits) Bd.pre
  have hown : s.vm.findClass RX0 = some m.cls := findClass_of_methodNamed Bd.named
  have hlocks := Bd.notSynchronized
  subst hsz
  have hD := hD0.self (sz := s.heap.size)
  generalize hAe : va_A (wH A cI hh) s.heap.size = G at hD ⊢
  have hA : ∀ q : Nat, s.heap.size ≤ q → G q := fun q h => by rw [← hAe]; exact Or.inr h
  have hS : va_S G s.heap s.heap [] := va_S.rf
  have hP : va_P D vwCl (wH A cI hh) s.heap := hP
  have hl := lv_entry ([.ref (A 0)]) (n := 3) (Nat.le_of_ble_eq_true rfl)
  rw [lg_entry_eq]
  generalize (lg_sl ([.ref (A 0)]) ++ List.replicate (3 - (lg_sl ([.ref (A 0)])).length) Slot.unset).toArray = ls at hl ⊢
  have hl : lv_has ls 3 [(0, .ref (A 0))] := hl
  have hinH : ∀ w ∈ wsX00, w ∈ wsX0_pileBits := by decide +kernel
  have lk0 := hts (.fieldLink RX0 42 "LiesBoughtBack$Hall" "cards" "I") (by decide +kernel)
  refine W_in ?_
  intro WW hWW
  refine (hWW _ _ _).mpr ?_
  unfold f_X0_pileBits at hf
  refine lv_iconst (v := (0 : Int32)) hx hb dX0_pileBits_0 (by decide) ?_
  refine lv_istore_n (lv' := [(1, .int (0 : Int32)), (0, .ref (A 0))]) hx hb dX0_pileBits_1 rfl hl (by decide) rfl (fun ls hl => ?_)
  refine lv_iconst (v := (0 : Int32)) hx hb dX0_pileBits_2 (by decide) ?_
  refine lv_istore_n (lv' := [(2, .int (0 : Int32)), (1, .int (0 : Int32)), (0, .ref (A 0))]) hx hb dX0_pileBits_3 rfl hl (by decide) rfl (fun ls hl => ?_)
  obtain ⟨K32, hK32, hf⟩ := jnS hf
  have J32 : ∀ (j1_32 : Int32) (H : Heap) (locs : List Loc) (ls : Array Slot), K32 j1_32 = some out → va_P D vwCl (wH A cI hh) H → va_D G (wH A cI hh) → va_S G s.heap H locs → lv_has ls 3 [(1, .int j1_32)] → WW H locs (F0 m 32 ls []) := by
    intro j1_32 H locs ls hf hP hD hS hl
    subst hK32
    refine (hWW _ _ _).mpr ?_
    refine lv_iload_n hx hb dX0_pileBits_32 rfl (lv_at hl 0 rfl) ?_
    obtain rfl := Option.some.inj hf
    exact W.iret (v := j1_32) hx hb hr (fun t ht hW => ⟨⟨j1_32, (), rfl, rfl, hPt ht hP⟩, hS.F ht⟩) hS.2.2 dX0_pileBits_33
  have P4 : ∀ (n' : Nat) (j1_4 : Int32) (j2_4 : Int32) (H : Heap) (locs : List Loc) (ls : Array Slot), L_X0_pileBits_4 hh K32 n' j1_4 j2_4 = some out → va_P D vwCl (wH A cI hh) H → va_D G (wH A cI hh) → va_S G s.heap H locs → lv_has ls 3 [(0, .ref (A 0)), (1, .int j1_4), (2, .int j2_4)] → WW H locs (F0 m 4 ls []) := by
    intro n'
    induction n' with
    | zero => intro j1_4 j2_4 H locs ls hf; exact absurd (show (none : Option (Int32)) = some out from hf) (fun q => by cases q)
    | succ n' ih =>
      intro j1_4 j2_4 H locs ls hf hP hD hS hl
      rw [L_X0_pileBits_4] at hf
      refine (hWW _ _ _).mpr ?_
      refine lv_iload_n hx hb dX0_pileBits_4 rfl (lv_at hl 2 rfl) ?_
      refine lv_aload_n hx hb dX0_pileBits_5 rfl (lv_at hl 0 rfl) ?_
      refine va_get (D := D) (ci := 0) (v := .int (hh 10 0)) (C := RX0) (T := TX0) (N := 13) hx hb hts hinH hown hK hP 0 rfl rfl 0 (by decide) lk0 (fun _ h9 => h9) rfl dX0_pileBits_6 ?_
      refine lv_icmp_ge (tgt := 32) hx hb dX0_pileBits_9 (by decide) (fun c1 => ?_) (fun c1 => ?_)
      · have hf := hT hf c1
        exact (hWW _ _ _).mp (J32 _ _ _ _ hf hP hD hS (lv_sub hl [1] rfl))
      · have hf := hF hf c1
        refine lv_aload_n hx hb dX0_pileBits_12 rfl (lv_at hl 0 rfl) ?_
        refine lv_iload_n hx hb dX0_pileBits_13 rfl (lv_at hl 2 rfl) ?_
        refine rV_io (As := [.int j2_4]) (rest := []) ⟨hx, hb, hml, hown, hts⟩ hK hN hA hP hD hS (c_X0_inPile l D cI A j2_4 hh (f_X0_inPile j2_4 hh) rfl) (cwV 1 hts gX0_pileBits_X0_inPile rfl rfl rfl hd_X0_inPile ⟨Nat.le_of_ble_eq_true rfl, Nat.le_of_ble_eq_true rfl⟩) (va_recv hK hP (ci := 0) (q0 := 0) rfl rfl) [0, 1, 2, 3, 4, 5, 6, 7, 8, 9, 10] (by decide) rfl rfl hl.1 rfl (Nat.le_of_ble_eq_true rfl) dX0_pileBits_14 ⟨Nat.le_of_ble_eq_true rfl, Nat.le_of_ble_eq_true rfl⟩ (fun H locs hP hD hS => ?_)
        refine lv_if_eq (tgt := 26) hx hb dX0_pileBits_17 (by decide) (fun c2 => ?_) (fun c2 => ?_)
        · have hf := hT hf c2
          refine lv_iinc (v := (j2_4 + (1 : Int32))) (lv' := [(2, .int (j2_4 + (1 : Int32))), (0, .ref (A 0)), (1, .int j1_4)]) hx hb dX0_pileBits_26 hl (k := 2) rfl rfl (by decide) rfl (fun ls hl => ?_)
          refine lv_goto (tgt := 4) hx hb dX0_pileBits_29 (by decide) ?_
          exact (hWW _ _ _).mp (ih _ _ _ _ _ hf hP hD hS (lv_sub hl [1, 2, 0] rfl))
        · have hf := hF hf c2
          refine lv_iload_n hx hb dX0_pileBits_20 rfl (lv_at hl 1 rfl) ?_
          refine lv_iconst (v := (1 : Int32)) hx hb dX0_pileBits_21 (by decide) ?_
          refine lv_iload_n hx hb dX0_pileBits_22 rfl (lv_at hl 2 rfl) ?_
          refine lv_ishl hx hb dX0_pileBits_23 ?_
          refine lv_ior hx hb dX0_pileBits_24 ?_
          refine lv_istore_n (lv' := [(1, .int (j1_4 ||| ((1 : Int32) <<< (j2_4 &&& 31)))), (0, .ref (A 0)), (2, .int j2_4)]) hx hb dX0_pileBits_25 rfl hl (by decide) rfl (fun ls hl => ?_)
          refine lv_iinc (v := (j2_4 + (1 : Int32))) (lv' := [(2, .int (j2_4 + (1 : Int32))), (1, .int (j1_4 ||| ((1 : Int32) <<< (j2_4 &&& 31)))), (0, .ref (A 0))]) hx hb dX0_pileBits_26 hl (k := 2) rfl rfl (by decide) rfl (fun ls hl => ?_)
          refine lv_goto (tgt := 4) hx hb dX0_pileBits_29 (by decide) ?_
          exact (hWW _ _ _).mp (ih _ _ _ _ _ hf hP hD hS (lv_sub hl [2, 1, 0] rfl))
  exact (hWW _ _ _).mp (P4 _ _ _ _ _ _ hf hP hD hS (lv_sub hl [2, 1, 0] rfl))
set_option maxHeartbeats 4000000 in
set_option maxRecDepth 100000 in
theorem c_X0_heldBits (l : Launch) (D : va_G) (cI : ClassId) (A : Nat → Nat) (j1 : Int32) (hh : HS) (out : Int32) (hf : f_X0_heldBits j1 hh = some out) : uI l D cI yX0_heldBits wsX0_heldBits ({ frames := 1, cells := 0, slots := 0, locals := 21 } : Room) [.ref (A 0), .int j1] (wH A cI hh) (wH A cI hh) out := by
  intro sz
  refine Met.ofW (cc := cX0_heldBits) (maxL := 4) (ret := (some .int)) (by decide) rfl ?_
  intro p e s m args below meth c s₁ Bd hml hv
  obtain ⟨rfl, hsz, hP, hK, hD0, hN⟩ := hv
  have hx := Bd.exec
  have hb := Bd.bytes
  have hr := Bd.returns
  have hts := atoms_spec (ws := wsX0_heldBits) Bd.pre
  have hown : s.vm.findClass RX0 = some m.cls := findClass_of_methodNamed Bd.named
  have hlocks := Bd.notSynchronized
  subst hsz
  have hD := hD0.self (sz := s.heap.size)
  generalize hAe : va_A (wH A cI hh) s.heap.size = G at hD ⊢
  have hA : ∀ q : Nat, s.heap.size ≤ q → G q := fun q h => by rw [← hAe]; exact Or.inr h
  have hS : va_S G s.heap s.heap [] := va_S.rf
  have hP : va_P D vwCl (wH A cI hh) s.heap := hP
  have hl := lv_entry ([.ref (A 0), .int j1]) (n := 4) (Nat.le_of_ble_eq_true rfl)
  rw [lg_entry_eq]
  generalize (lg_sl ([.ref (A 0), .int j1]) ++ List.replicate (4 - (lg_sl ([.ref (A 0), .int j1])).length) Slot.unset).toArray = ls at hl ⊢
  have hl : lv_has ls 4 [(0, .ref (A 0)), (1, .int j1)] := hl
  have hinH : ∀ w ∈ wsX00, w ∈ wsX0_heldBits := by decide +kernel
  have lk0 := hts (.fieldLink RX0 42 "LiesBoughtBack$Hall" "cards" "I") (by decide +kernel)
  have lk1 := hts (.fieldLink RX0 24 "LiesBoughtBack$Hall" "holder" "[I") (by decide +kernel)
  have lk2 := hts (.initialized RX1) (by decide +kernel)
  have lk3 := hts (.static yX1_at) (by decide +kernel)
  refine W_in ?_
  intro WW hWW
  refine (hWW _ _ _).mpr ?_
  unfold f_X0_heldBits at hf
  refine lv_iconst (v := (0 : Int32)) hx hb dX0_heldBits_0 (by decide) ?_
  refine lv_istore_n (lv' := [(2, .int (0 : Int32)), (0, .ref (A 0)), (1, .int j1)]) hx hb dX0_heldBits_1 rfl hl (by decide) rfl (fun ls hl => ?_)
  refine lv_iconst (v := (0 : Int32)) hx hb dX0_heldBits_2 (by decide) ?_
  refine lv_istore_n (lv' := [(3, .int (0 : Int32)), (2, .int (0 : Int32)), (0, .ref (A 0)), (1, .int j1)]) hx hb dX0_heldBits_3 rfl hl (by decide) rfl (fun ls hl => ?_)
  obtain ⟨K36, hK36, hf⟩ := jnS hf
  have J36 : ∀ (j2_36 : Int32) (H : Heap) (locs : List Loc) (ls : Array Slot), K36 j2_36 = some out → va_P D vwCl (wH A cI hh) H → va_D G (wH A cI hh) → va_S G s.heap H locs → lv_has ls 4 [(2, .int j2_36)] → WW H locs (F0 m 36 ls []) := by
    intro j2_36 H locs ls hf hP hD hS hl
    subst hK36
    refine (hWW _ _ _).mpr ?_
    refine lv_iload_n hx hb dX0_heldBits_36 rfl (lv_at hl 0 rfl) ?_
    obtain rfl := Option.some.inj hf
    exact W.iret (v := j2_36) hx hb hr (fun t ht hW => ⟨⟨j2_36, (), rfl, rfl, hPt ht hP⟩, hS.F ht⟩) hS.2.2 dX0_heldBits_37
  have P4 : ∀ (n' : Nat) (j2_4 : Int32) (j3_4 : Int32) (H : Heap) (locs : List Loc) (ls : Array Slot), L_X0_heldBits_4 j1 hh K36 n' j2_4 j3_4 = some out → va_P D vwCl (wH A cI hh) H → va_D G (wH A cI hh) → va_S G s.heap H locs → lv_has ls 4 [(0, .ref (A 0)), (1, .int j1), (2, .int j2_4), (3, .int j3_4)] → WW H locs (F0 m 4 ls []) := by
    intro n'
    induction n' with
    | zero => intro j2_4 j3_4 H locs ls hf; exact absurd (show (none : Option (Int32)) = some out from hf) (fun q => by cases q)
    | succ n' ih =>
      intro j2_4 j3_4 H locs ls hf hP hD hS hl
      rw [L_X0_heldBits_4] at hf
      refine (hWW _ _ _).mpr ?_
      refine lv_iload_n hx hb dX0_heldBits_4 rfl (lv_at hl 3 rfl) ?_
      refine lv_aload_n hx hb dX0_heldBits_5 rfl (lv_at hl 0 rfl) ?_
      refine va_get (D := D) (ci := 0) (v := .int (hh 10 0)) (C := RX0) (T := TX0) (N := 13) hx hb hts hinH hown hK hP 0 rfl rfl 0 (by decide) lk0 (fun _ h9 => h9) rfl dX0_heldBits_6 ?_
      refine lv_icmp_ge (tgt := 36) hx hb dX0_heldBits_9 (by decide) (fun c1 => ?_) (fun c1 => ?_)
      · have hf := hT hf c1
        exact (hWW _ _ _).mp (J36 _ _ _ _ hf hP hD hS (lv_sub hl [2] rfl))
      · have hf := hF hf c1
        refine lv_aload_n hx hb dX0_heldBits_12 rfl (lv_at hl 0 rfl) ?_
        refine va_get (D := D) (ci := 0) (v := .ref (A 5)) (C := RX0) (T := TX0) (N := 13) hx hb hts hinH hown hK hP 0 rfl rfl 7 (by decide) lk1 (fun _ h9 => h9) rfl dX0_heldBits_13 ?_
        refine lv_iload_n hx hb dX0_heldBits_16 rfl (lv_at hl 3 rfl) ?_
        refine rSN_io (As := [.ref (A 5), .int j3_4]) (rest := []) ⟨hx, hb, hml, hown, hts⟩ hK hN hA hP hD hS (c_X1_at l D cI 8 (by decide) (A 5) (hh 4) j3_4) ⟨va_cnB 2 hts gX0_heldBits_X1_at_n60 rfl rfl rfl (nW.m hN 8 rfl) lk2 hd_X1_at.2 ⟨Nat.le_of_ble_eq_true rfl, Nat.le_of_ble_eq_true rfl⟩, lk3, trivial⟩ [5] (by decide) rfl rfl hl.1 rfl (Nat.le_of_ble_eq_true rfl) dX0_heldBits_17 ⟨Nat.le_of_ble_eq_true rfl, Nat.le_of_ble_eq_true rfl⟩ (fun H locs hP hD hS => ?_)
        refine lv_iload_n hx hb dX0_heldBits_20 rfl (lv_at hl 1 rfl) ?_
        refine lv_icmp_ne (tgt := 30) hx hb dX0_heldBits_21 (by decide) (fun c2 => ?_) (fun c2 => ?_)
        · have hf := hF hf c2
          refine lv_iinc (v := (j3_4 + (1 : Int32))) (lv' := [(3, .int (j3_4 + (1 : Int32))), (0, .ref (A 0)), (1, .int j1), (2, .int j2_4)]) hx hb dX0_heldBits_30 hl (k := 3) rfl rfl (by decide) rfl (fun ls hl => ?_)
          refine lv_goto (tgt := 4) hx hb dX0_heldBits_33 (by decide) ?_
          exact (hWW _ _ _).mp (ih _ _ _ _ _ hf hP hD hS (lv_sub hl [1, 2, 3, 0] rfl))
        · have hf := hT hf c2
          refine lv_iload_n hx hb dX0_heldBits_24 rfl (lv_at hl 2 rfl) ?_
          refine lv_iconst (v := (1 : Int32)) hx hb dX0_heldBits_25 (by decide) ?_
          refine lv_iload_n hx hb dX0_heldBits_26 rfl (lv_at hl 3 rfl) ?_
          refine lv_ishl hx hb dX0_heldBits_27 ?_
          refine lv_ior hx hb dX0_heldBits_28 ?_
          refine lv_istore_n (lv' := [(2, .int (j2_4 ||| ((1 : Int32) <<< (j3_4 &&& 31)))), (0, .ref (A 0)), (1, .int j1), (3, .int j3_4)]) hx hb dX0_heldBits_29 rfl hl (by decide) rfl (fun ls hl => ?_)
          refine lv_iinc (v := (j3_4 + (1 : Int32))) (lv' := [(3, .int (j3_4 + (1 : Int32))), (2, .int (j2_4 ||| ((1 : Int32) <<< (j3_4 &&& 31)))), (0, .ref (A 0)), (1, .int j1)]) hx hb dX0_heldBits_30 hl (k := 3) rfl rfl (by decide) rfl (fun ls hl => ?_)
          refine lv_goto (tgt := 4) hx hb dX0_heldBits_33 (by decide) ?_
          exact (hWW _ _ _).mp (ih _ _ _ _ _ hf hP hD hS (lv_sub hl [2, 3, 1, 0] rfl))
  exact (hWW _ _ _).mp (P4 _ _ _ _ _ _ hf hP hD hS (lv_sub hl [2, 3, 1, 0] rfl))
set_option maxHeartbeats 4000000 in
set_option maxRecDepth 100000 in
theorem c_X0_ownBits (l : Launch) (D : va_G) (cI : ClassId) (A : Nat → Nat) (hh : HS) (out : Int32) (hf : f_X0_ownBits hh = some out) : uI l D cI yX0_ownBits wsX0_ownBits ({ frames := 1, cells := 0, slots := 0, locals := 21 } : Room) [.ref (A 0)] (wH A cI hh) (wH A cI hh) out := by
  intro sz
  refine Met.ofW (cc := cX0_ownBits) (maxL := 3) (ret := (some .int)) (by decide) rfl ?_
  intro p e s m args below meth c s₁ Bd hml hv
  obtain ⟨rfl, hsz, hP, hK, hD0, hN⟩ := hv
  have hx := Bd.exec
  have hb := Bd.bytes
  have hr := Bd.returns
  have hts := atoms_spec (ws := wsX0_ownBits) Bd.pre
  have hown : s.vm.findClass RX0 = some m.cls := findClass_of_methodNamed Bd.named
  have hlocks := Bd.notSynchronized
  subst hsz
  have hD := hD0.self (sz := s.heap.size)
  generalize hAe : va_A (wH A cI hh) s.heap.size = G at hD ⊢
  have hA : ∀ q : Nat, s.heap.size ≤ q → G q := fun q h => by rw [← hAe]; exact Or.inr h
  have hS : va_S G s.heap s.heap [] := va_S.rf
  have hP : va_P D vwCl (wH A cI hh) s.heap := hP
  have hl := lv_entry ([.ref (A 0)]) (n := 3) (Nat.le_of_ble_eq_true rfl)
  rw [lg_entry_eq]
  generalize (lg_sl ([.ref (A 0)]) ++ List.replicate (3 - (lg_sl ([.ref (A 0)])).length) Slot.unset).toArray = ls at hl ⊢
  have hl : lv_has ls 3 [(0, .ref (A 0))] := hl
  have hinH : ∀ w ∈ wsX00, w ∈ wsX0_ownBits := by decide +kernel
  have lk0 := hts (.fieldLink RX0 42 "LiesBoughtBack$Hall" "cards" "I") (by decide +kernel)
  have lk1 := hts (.fieldLink RX0 24 "LiesBoughtBack$Hall" "holder" "[I") (by decide +kernel)
  have lk2 := hts (.initialized RX1) (by decide +kernel)
  have lk3 := hts (.static yX1_at) (by decide +kernel)
  have lk4 := hts (.fieldLink RX0 18 "LiesBoughtBack$Hall" "teller" "[I") (by decide +kernel)
  refine W_in ?_
  intro WW hWW
  refine (hWW _ _ _).mpr ?_
  unfold f_X0_ownBits at hf
  refine lv_iconst (v := (0 : Int32)) hx hb dX0_ownBits_0 (by decide) ?_
  refine lv_istore_n (lv' := [(1, .int (0 : Int32)), (0, .ref (A 0))]) hx hb dX0_ownBits_1 rfl hl (by decide) rfl (fun ls hl => ?_)
  refine lv_iconst (v := (0 : Int32)) hx hb dX0_ownBits_2 (by decide) ?_
  refine lv_istore_n (lv' := [(2, .int (0 : Int32)), (1, .int (0 : Int32)), (0, .ref (A 0))]) hx hb dX0_ownBits_3 rfl hl (by decide) rfl (fun ls hl => ?_)
  obtain ⟨K43, hK43, hf⟩ := jnS hf
  have J43 : ∀ (j1_43 : Int32) (H : Heap) (locs : List Loc) (ls : Array Slot), K43 j1_43 = some out → va_P D vwCl (wH A cI hh) H → va_D G (wH A cI hh) → va_S G s.heap H locs → lv_has ls 3 [(1, .int j1_43)] → WW H locs (F0 m 43 ls []) := by
    intro j1_43 H locs ls hf hP hD hS hl
    subst hK43
    refine (hWW _ _ _).mpr ?_
    refine lv_iload_n hx hb dX0_ownBits_43 rfl (lv_at hl 0 rfl) ?_
    obtain rfl := Option.some.inj hf
    exact W.iret (v := j1_43) hx hb hr (fun t ht hW => ⟨⟨j1_43, (), rfl, rfl, hPt ht hP⟩, hS.F ht⟩) hS.2.2 dX0_ownBits_44
  have P4 : ∀ (n' : Nat) (j1_4 : Int32) (j2_4 : Int32) (H : Heap) (locs : List Loc) (ls : Array Slot), L_X0_ownBits_4 hh K43 n' j1_4 j2_4 = some out → va_P D vwCl (wH A cI hh) H → va_D G (wH A cI hh) → va_S G s.heap H locs → lv_has ls 3 [(0, .ref (A 0)), (1, .int j1_4), (2, .int j2_4)] → WW H locs (F0 m 4 ls []) := by
    intro n'
    induction n' with
    | zero => intro j1_4 j2_4 H locs ls hf; exact absurd (show (none : Option (Int32)) = some out from hf) (fun q => by cases q)
    | succ n' ih =>
      intro j1_4 j2_4 H locs ls hf hP hD hS hl
      rw [L_X0_ownBits_4] at hf
      refine (hWW _ _ _).mpr ?_
      refine lv_iload_n hx hb dX0_ownBits_4 rfl (lv_at hl 2 rfl) ?_
      refine lv_aload_n hx hb dX0_ownBits_5 rfl (lv_at hl 0 rfl) ?_
      refine va_get (D := D) (ci := 0) (v := .int (hh 10 0)) (C := RX0) (T := TX0) (N := 13) hx hb hts hinH hown hK hP 0 rfl rfl 0 (by decide) lk0 (fun _ h9 => h9) rfl dX0_ownBits_6 ?_
      refine lv_icmp_ge (tgt := 43) hx hb dX0_ownBits_9 (by decide) (fun c1 => ?_) (fun c1 => ?_)
      · have hf := hT hf c1
        exact (hWW _ _ _).mp (J43 _ _ _ _ hf hP hD hS (lv_sub hl [1] rfl))
      · have hf := hF hf c1
        refine lv_aload_n hx hb dX0_ownBits_12 rfl (lv_at hl 0 rfl) ?_
        refine va_get (D := D) (ci := 0) (v := .ref (A 5)) (C := RX0) (T := TX0) (N := 13) hx hb hts hinH hown hK hP 0 rfl rfl 7 (by decide) lk1 (fun _ h9 => h9) rfl dX0_ownBits_13 ?_
        refine lv_iload_n hx hb dX0_ownBits_16 rfl (lv_at hl 2 rfl) ?_
        refine rSN_io (As := [.ref (A 5), .int j2_4]) (rest := []) ⟨hx, hb, hml, hown, hts⟩ hK hN hA hP hD hS (c_X1_at l D cI 8 (by decide) (A 5) (hh 4) j2_4) ⟨va_cnB 2 hts gX0_ownBits_X1_at_n60 rfl rfl rfl (nW.m hN 8 rfl) lk2 hd_X1_at.2 ⟨Nat.le_of_ble_eq_true rfl, Nat.le_of_ble_eq_true rfl⟩, lk3, trivial⟩ [5] (by decide) rfl rfl hl.1 rfl (Nat.le_of_ble_eq_true rfl) dX0_ownBits_17 ⟨Nat.le_of_ble_eq_true rfl, Nat.le_of_ble_eq_true rfl⟩ (fun H locs hP hD hS => ?_)
        refine lv_aload_n hx hb dX0_ownBits_20 rfl (lv_at hl 0 rfl) ?_
        refine va_get (D := D) (ci := 0) (v := .ref (A 3)) (C := RX0) (T := TX0) (N := 13) hx hb hts hinH hown hK hP 0 rfl rfl 5 (by decide) lk4 (fun _ h9 => h9) rfl dX0_ownBits_21 ?_
        refine lv_iload_n hx hb dX0_ownBits_24 rfl (lv_at hl 2 rfl) ?_
        refine rSN_io (As := [.ref (A 3), .int j2_4]) (rest := [.int (atv 8 (hh 4) j2_4)]) ⟨hx, hb, hml, hown, hts⟩ hK hN hA hP hD hS (c_X1_at l D cI 8 (by decide) (A 3) (hh 2) j2_4) ⟨va_cnB 2 hts gX0_ownBits_X1_at_n60 rfl rfl rfl (nW.m hN 8 rfl) lk2 hd_X1_at.2 ⟨Nat.le_of_ble_eq_true rfl, Nat.le_of_ble_eq_true rfl⟩, lk3, trivial⟩ [3] (by decide) rfl rfl hl.1 rfl (Nat.le_of_ble_eq_true rfl) dX0_ownBits_25 ⟨Nat.le_of_ble_eq_true rfl, Nat.le_of_ble_eq_true rfl⟩ (fun H locs hP hD hS => ?_)
        refine lv_icmp_ne (tgt := 37) hx hb dX0_ownBits_28 (by decide) (fun c2 => ?_) (fun c2 => ?_)
        · have hf := hF hf c2
          refine lv_iinc (v := (j2_4 + (1 : Int32))) (lv' := [(2, .int (j2_4 + (1 : Int32))), (0, .ref (A 0)), (1, .int j1_4)]) hx hb dX0_ownBits_37 hl (k := 2) rfl rfl (by decide) rfl (fun ls hl => ?_)
          refine lv_goto (tgt := 4) hx hb dX0_ownBits_40 (by decide) ?_
          exact (hWW _ _ _).mp (ih _ _ _ _ _ hf hP hD hS (lv_sub hl [1, 2, 0] rfl))
        · have hf := hT hf c2
          refine lv_iload_n hx hb dX0_ownBits_31 rfl (lv_at hl 1 rfl) ?_
          refine lv_iconst (v := (1 : Int32)) hx hb dX0_ownBits_32 (by decide) ?_
          refine lv_iload_n hx hb dX0_ownBits_33 rfl (lv_at hl 2 rfl) ?_
          refine lv_ishl hx hb dX0_ownBits_34 ?_
          refine lv_ior hx hb dX0_ownBits_35 ?_
          refine lv_istore_n (lv' := [(1, .int (j1_4 ||| ((1 : Int32) <<< (j2_4 &&& 31)))), (0, .ref (A 0)), (2, .int j2_4)]) hx hb dX0_ownBits_36 rfl hl (by decide) rfl (fun ls hl => ?_)
          refine lv_iinc (v := (j2_4 + (1 : Int32))) (lv' := [(2, .int (j2_4 + (1 : Int32))), (1, .int (j1_4 ||| ((1 : Int32) <<< (j2_4 &&& 31)))), (0, .ref (A 0))]) hx hb dX0_ownBits_37 hl (k := 2) rfl rfl (by decide) rfl (fun ls hl => ?_)
          refine lv_goto (tgt := 4) hx hb dX0_ownBits_40 (by decide) ?_
          exact (hWW _ _ _).mp (ih _ _ _ _ _ hf hP hD hS (lv_sub hl [2, 1, 0] rfl))
  exact (hWW _ _ _).mp (P4 _ _ _ _ _ _ hf hP hD hS (lv_sub hl [2, 1, 0] rfl))
set_option maxHeartbeats 4000000 in
set_option maxRecDepth 100000 in
theorem c_X0_cleanBits (l : Launch) (D : va_G) (cI : ClassId) (A : Nat → Nat) (hh : HS) (out : Int32) (hf : f_X0_cleanBits hh = some out) : uI l D cI yX0_cleanBits wsX0_cleanBits ({ frames := 1, cells := 0, slots := 0, locals := 21 } : Room) [.ref (A 0)] (wH A cI hh) (wH A cI hh) out := by
  intro sz
  refine Met.ofW (cc := cX0_cleanBits) (maxL := 3) (ret := (some .int)) (by decide) rfl ?_
  intro p e s m args below meth c s₁ Bd hml hv
  obtain ⟨rfl, hsz, hP, hK, hD0, hN⟩ := hv
  have hx := Bd.exec
  have hb := Bd.bytes
  have hr := Bd.returns
  have hts := atoms_spec (ws := wsX0_cleanBits) Bd.pre
  have hown : s.vm.findClass RX0 = some m.cls := findClass_of_methodNamed Bd.named
  have hlocks := Bd.notSynchronized
  subst hsz
  have hD := hD0.self (sz := s.heap.size)
  generalize hAe : va_A (wH A cI hh) s.heap.size = G at hD ⊢
  have hA : ∀ q : Nat, s.heap.size ≤ q → G q := fun q h => by rw [← hAe]; exact Or.inr h
  have hS : va_S G s.heap s.heap [] := va_S.rf
  have hP : va_P D vwCl (wH A cI hh) s.heap := hP
  have hl := lv_entry ([.ref (A 0)]) (n := 3) (Nat.le_of_ble_eq_true rfl)
  rw [lg_entry_eq]
  generalize (lg_sl ([.ref (A 0)]) ++ List.replicate (3 - (lg_sl ([.ref (A 0)])).length) Slot.unset).toArray = ls at hl ⊢
  have hl : lv_has ls 3 [(0, .ref (A 0))] := hl
  have hinH : ∀ w ∈ wsX00, w ∈ wsX0_cleanBits := by decide +kernel
  have lk0 := hts (.fieldLink RX0 46 "LiesBoughtBack$Hall" "bidders" "I") (by decide +kernel)
  have lk1 := hts (.fieldLink RX0 42 "LiesBoughtBack$Hall" "cards" "I") (by decide +kernel)
  have lk2 := hts (.fieldLink RX0 18 "LiesBoughtBack$Hall" "teller" "[I") (by decide +kernel)
  have lk3 := hts (.initialized RX1) (by decide +kernel)
  have lk4 := hts (.static yX1_at) (by decide +kernel)
  refine W_in ?_
  intro WW hWW
  refine (hWW _ _ _).mpr ?_
  unfold f_X0_cleanBits at hf
  refine lv_iconst (v := (1 : Int32)) hx hb dX0_cleanBits_0 (by decide) ?_
  refine lv_aload_n hx hb dX0_cleanBits_1 rfl (lv_at hl 0 rfl) ?_
  refine va_get (D := D) (ci := 0) (v := .int (hh 11 0)) (C := RX0) (T := TX0) (N := 13) hx hb hts hinH hown hK hP 0 rfl rfl 1 (by decide) lk0 (fun _ h9 => h9) rfl dX0_cleanBits_2 ?_
  refine lv_ishl hx hb dX0_cleanBits_5 ?_
  refine lv_iconst (v := (1 : Int32)) hx hb dX0_cleanBits_6 (by decide) ?_
  refine lv_isub hx hb dX0_cleanBits_7 ?_
  refine lv_istore_n (lv' := [(1, .int (((1 : Int32) <<< ((hh 11 0) &&& 31)) - (1 : Int32))), (0, .ref (A 0))]) hx hb dX0_cleanBits_8 rfl hl (by decide) rfl (fun ls hl => ?_)
  refine lv_iconst (v := (0 : Int32)) hx hb dX0_cleanBits_9 (by decide) ?_
  refine lv_istore_n (lv' := [(2, .int (0 : Int32)), (1, .int (((1 : Int32) <<< ((hh 11 0) &&& 31)) - (1 : Int32))), (0, .ref (A 0))]) hx hb dX0_cleanBits_10 rfl hl (by decide) rfl (fun ls hl => ?_)
  obtain ⟨K40, hK40, hf⟩ := jnS hf
  have J40 : ∀ (j1_40 : Int32) (H : Heap) (locs : List Loc) (ls : Array Slot), K40 j1_40 = some out → va_P D vwCl (wH A cI hh) H → va_D G (wH A cI hh) → va_S G s.heap H locs → lv_has ls 3 [(1, .int j1_40)] → WW H locs (F0 m 40 ls []) := by
    intro j1_40 H locs ls hf hP hD hS hl
    subst hK40
    refine (hWW _ _ _).mpr ?_
    refine lv_iload_n hx hb dX0_cleanBits_40 rfl (lv_at hl 0 rfl) ?_
    obtain rfl := Option.some.inj hf
    exact W.iret (v := j1_40) hx hb hr (fun t ht hW => ⟨⟨j1_40, (), rfl, rfl, hPt ht hP⟩, hS.F ht⟩) hS.2.2 dX0_cleanBits_41
  have P11 : ∀ (n' : Nat) (j1_11 : Int32) (j2_11 : Int32) (H : Heap) (locs : List Loc) (ls : Array Slot), L_X0_cleanBits_11 hh K40 n' j1_11 j2_11 = some out → va_P D vwCl (wH A cI hh) H → va_D G (wH A cI hh) → va_S G s.heap H locs → lv_has ls 3 [(0, .ref (A 0)), (1, .int j1_11), (2, .int j2_11)] → WW H locs (F0 m 11 ls []) := by
    intro n'
    induction n' with
    | zero => intro j1_11 j2_11 H locs ls hf; exact absurd (show (none : Option (Int32)) = some out from hf) (fun q => by cases q)
    | succ n' ih =>
      intro j1_11 j2_11 H locs ls hf hP hD hS hl
      rw [L_X0_cleanBits_11] at hf
      refine (hWW _ _ _).mpr ?_
      refine lv_iload_n hx hb dX0_cleanBits_11 rfl (lv_at hl 2 rfl) ?_
      refine lv_aload_n hx hb dX0_cleanBits_12 rfl (lv_at hl 0 rfl) ?_
      refine va_get (D := D) (ci := 0) (v := .int (hh 10 0)) (C := RX0) (T := TX0) (N := 13) hx hb hts hinH hown hK hP 0 rfl rfl 0 (by decide) lk1 (fun _ h9 => h9) rfl dX0_cleanBits_13 ?_
      refine lv_icmp_ge (tgt := 40) hx hb dX0_cleanBits_16 (by decide) (fun c1 => ?_) (fun c1 => ?_)
      · have hf := hT hf c1
        exact (hWW _ _ _).mp (J40 _ _ _ _ hf hP hD hS (lv_sub hl [1] rfl))
      · have hf := hF hf c1
        refine lv_iload_n hx hb dX0_cleanBits_19 rfl (lv_at hl 1 rfl) ?_
        refine lv_iconst (v := (1 : Int32)) hx hb dX0_cleanBits_20 (by decide) ?_
        refine lv_aload_n hx hb dX0_cleanBits_21 rfl (lv_at hl 0 rfl) ?_
        refine va_get (D := D) (ci := 0) (v := .ref (A 3)) (C := RX0) (T := TX0) (N := 13) hx hb hts hinH hown hK hP 0 rfl rfl 5 (by decide) lk2 (fun _ h9 => h9) rfl dX0_cleanBits_22 ?_
        refine lv_iload_n hx hb dX0_cleanBits_25 rfl (lv_at hl 2 rfl) ?_
        refine rSN_io (As := [.ref (A 3), .int j2_11]) (rest := [.int (1 : Int32), .int j1_11]) ⟨hx, hb, hml, hown, hts⟩ hK hN hA hP hD hS (c_X1_at l D cI 8 (by decide) (A 3) (hh 2) j2_11) ⟨va_cnB 2 hts gX0_cleanBits_X1_at_n60 rfl rfl rfl (nW.m hN 8 rfl) lk3 hd_X1_at.2 ⟨Nat.le_of_ble_eq_true rfl, Nat.le_of_ble_eq_true rfl⟩, lk4, trivial⟩ [3] (by decide) rfl rfl hl.1 rfl (Nat.le_of_ble_eq_true rfl) dX0_cleanBits_26 ⟨Nat.le_of_ble_eq_true rfl, Nat.le_of_ble_eq_true rfl⟩ (fun H locs hP hD hS => ?_)
        refine lv_ishl hx hb dX0_cleanBits_29 ?_
        refine lv_iconst (v := (-1 : Int32)) hx hb dX0_cleanBits_30 (by decide) ?_
        refine lv_ixor hx hb dX0_cleanBits_31 ?_
        refine lv_iand hx hb dX0_cleanBits_32 ?_
        refine lv_istore_n (lv' := [(1, .int (j1_11 &&& (((1 : Int32) <<< ((atv 8 (hh 2) j2_11) &&& 31)) ^^^ (-1 : Int32)))), (0, .ref (A 0)), (2, .int j2_11)]) hx hb dX0_cleanBits_33 rfl hl (by decide) rfl (fun ls hl => ?_)
        refine lv_iinc (v := (j2_11 + (1 : Int32))) (lv' := [(2, .int (j2_11 + (1 : Int32))), (1, .int (j1_11 &&& (((1 : Int32) <<< ((atv 8 (hh 2) j2_11) &&& 31)) ^^^ (-1 : Int32)))), (0, .ref (A 0))]) hx hb dX0_cleanBits_34 hl (k := 2) rfl rfl (by decide) rfl (fun ls hl => ?_)
        refine lv_goto (tgt := 11) hx hb dX0_cleanBits_37 (by decide) ?_
        exact (hWW _ _ _).mp (ih _ _ _ _ _ hf hP hD hS (lv_sub hl [2, 1, 0] rfl))
  exact (hWW _ _ _).mp (P11 _ _ _ _ _ _ hf hP hD hS (lv_sub hl [2, 1, 0] rfl))
set_option maxHeartbeats 4000000 in
set_option maxRecDepth 100000 in
theorem c_J6_bitCount_0f7a4 (l : Launch) (D : va_G) (cI : ClassId) (j0 : Int32) (out : Int32) (hf : f_J6_bitCount_0f7a4 j0 = out) : uI l D cI yJ6_bitCount_0f7a4 wsJ6_bitCount_0f7a4 ({ frames := 0, cells := 0, slots := 0, locals := 0 } : Room) [.int j0] [] [] out := by
  intro sz
  refine Met.ofW (cc := cJ6_bitCount_0f7a4) (maxL := 1) (ret := (some .int)) (by decide) rfl ?_
  intro p e s m args below meth c s₁ Bd hml hv
  obtain ⟨rfl, hsz, hP, hK, hD0, hN⟩ := hv
  have hx := Bd.exec
  have hb := Bd.bytes
  have hr := Bd.returns
  have hts := atoms_spec (ws := wsJ6_bitCount_0f7a4) Bd.pre
  have hown : s.vm.findClass RJ6 = some m.cls := findClass_of_methodNamed Bd.named
  have hlocks := Bd.notSynchronized
  subst hsz
  have hD := hD0.self (sz := s.heap.size)
  generalize hAe : va_A [] s.heap.size = G at hD ⊢
  have hA : ∀ q : Nat, s.heap.size ≤ q → G q := fun q h => by rw [← hAe]; exact Or.inr h
  have hS : va_S G s.heap s.heap [] := va_S.rf
  have hP : va_P D vwCl [] s.heap := hP
  have hl := lv_entry ([.int j0]) (n := 1) (Nat.le_of_ble_eq_true rfl)
  rw [lg_entry_eq]
  generalize (lg_sl ([.int j0]) ++ List.replicate (1 - (lg_sl ([.int j0])).length) Slot.unset).toArray = ls at hl ⊢
  have hl : lv_has ls 1 [(0, .int j0)] := hl
  have lk0 := hts (.constant RJ6 265 (1431655765)) (by decide +kernel)
  have lk1 := hts (.constant RJ6 266 (858993459)) (by decide +kernel)
  have lk2 := hts (.constant RJ6 267 (252645135)) (by decide +kernel)
  refine W_in ?_
  intro WW hWW
  refine (hWW _ _ _).mpr ?_
  unfold f_J6_bitCount_0f7a4 at hf
  refine lv_iload_n hx hb dJ6_bitCount_0f7a4_0 rfl (lv_at hl 0 rfl) ?_
  refine lv_iload_n hx hb dJ6_bitCount_0f7a4_1 rfl (lv_at hl 0 rfl) ?_
  refine lv_iconst (v := (1 : Int32)) hx hb dJ6_bitCount_0f7a4_2 (by decide) ?_
  refine lv_iushr hx hb dJ6_bitCount_0f7a4_3 rfl ?_
  refine lv_ldcw (v := (1431655765 : Int32)) hx hb hown lk0 dJ6_bitCount_0f7a4_4 ?_
  refine lv_iand hx hb dJ6_bitCount_0f7a4_7 ?_
  refine lv_isub hx hb dJ6_bitCount_0f7a4_8 ?_
  refine lv_istore_n (lv' := [(0, .int (j0 - (((j0).toUInt32 >>> (((1 : Int32)).toUInt32 &&& Int32.toUInt32 31)).toInt32 &&& (1431655765 : Int32))))]) hx hb dJ6_bitCount_0f7a4_9 rfl hl (by decide) rfl (fun ls hl => ?_)
  refine lv_iload_n hx hb dJ6_bitCount_0f7a4_10 rfl (lv_at hl 0 rfl) ?_
  refine lv_ldcw (v := (858993459 : Int32)) hx hb hown lk1 dJ6_bitCount_0f7a4_11 ?_
  refine lv_iand hx hb dJ6_bitCount_0f7a4_14 ?_
  refine lv_iload_n hx hb dJ6_bitCount_0f7a4_15 rfl (lv_at hl 0 rfl) ?_
  refine lv_iconst (v := (2 : Int32)) hx hb dJ6_bitCount_0f7a4_16 (by decide) ?_
  refine lv_iushr hx hb dJ6_bitCount_0f7a4_17 rfl ?_
  refine lv_ldcw (v := (858993459 : Int32)) hx hb hown lk1 dJ6_bitCount_0f7a4_18 ?_
  refine lv_iand hx hb dJ6_bitCount_0f7a4_21 ?_
  refine lv_iadd hx hb dJ6_bitCount_0f7a4_22 ?_
  refine lv_istore_n (lv' := [(0, .int (((j0 - (((j0).toUInt32 >>> (((1 : Int32)).toUInt32 &&& Int32.toUInt32 31)).toInt32 &&& (1431655765 : Int32))) &&& (858993459 : Int32)) + ((((j0 - (((j0).toUInt32 >>> (((1 : Int32)).toUInt32 &&& Int32.toUInt32 31)).toInt32 &&& (1431655765 : Int32)))).toUInt32 >>> (((2 : Int32)).toUInt32 &&& Int32.toUInt32 31)).toInt32 &&& (858993459 : Int32))))]) hx hb dJ6_bitCount_0f7a4_23 rfl hl (by decide) rfl (fun ls hl => ?_)
  refine lv_iload_n hx hb dJ6_bitCount_0f7a4_24 rfl (lv_at hl 0 rfl) ?_
  refine lv_iload_n hx hb dJ6_bitCount_0f7a4_25 rfl (lv_at hl 0 rfl) ?_
  refine lv_iconst (v := (4 : Int32)) hx hb dJ6_bitCount_0f7a4_26 (by decide) ?_
  refine lv_iushr hx hb dJ6_bitCount_0f7a4_27 rfl ?_
  refine lv_iadd hx hb dJ6_bitCount_0f7a4_28 ?_
  refine lv_ldcw (v := (252645135 : Int32)) hx hb hown lk2 dJ6_bitCount_0f7a4_29 ?_
  refine lv_iand hx hb dJ6_bitCount_0f7a4_32 ?_
  refine lv_istore_n (lv' := [(0, .int (((((j0 - (((j0).toUInt32 >>> (((1 : Int32)).toUInt32 &&& Int32.toUInt32 31)).toInt32 &&& (1431655765 : Int32))) &&& (858993459 : Int32)) + ((((j0 - (((j0).toUInt32 >>> (((1 : Int32)).toUInt32 &&& Int32.toUInt32 31)).toInt32 &&& (1431655765 : Int32)))).toUInt32 >>> (((2 : Int32)).toUInt32 &&& Int32.toUInt32 31)).toInt32 &&& (858993459 : Int32))) + (((((j0 - (((j0).toUInt32 >>> (((1 : Int32)).toUInt32 &&& Int32.toUInt32 31)).toInt32 &&& (1431655765 : Int32))) &&& (858993459 : Int32)) + ((((j0 - (((j0).toUInt32 >>> (((1 : Int32)).toUInt32 &&& Int32.toUInt32 31)).toInt32 &&& (1431655765 : Int32)))).toUInt32 >>> (((2 : Int32)).toUInt32 &&& Int32.toUInt32 31)).toInt32 &&& (858993459 : Int32)))).toUInt32 >>> (((4 : Int32)).toUInt32 &&& Int32.toUInt32 31)).toInt32) &&& (252645135 : Int32)))]) hx hb dJ6_bitCount_0f7a4_33 rfl hl (by decide) rfl (fun ls hl => ?_)
  refine lv_iload_n hx hb dJ6_bitCount_0f7a4_34 rfl (lv_at hl 0 rfl) ?_
  refine lv_iload_n hx hb dJ6_bitCount_0f7a4_35 rfl (lv_at hl 0 rfl) ?_
  refine lv_bipush (v := (8 : Int32)) hx hb dJ6_bitCount_0f7a4_36 (by decide) ?_
  refine lv_iushr hx hb dJ6_bitCount_0f7a4_38 rfl ?_
  refine lv_iadd hx hb dJ6_bitCount_0f7a4_39 ?_
  refine lv_istore_n (lv' := [(0, .int ((((((j0 - (((j0).toUInt32 >>> (((1 : Int32)).toUInt32 &&& Int32.toUInt32 31)).toInt32 &&& (1431655765 : Int32))) &&& (858993459 : Int32)) + ((((j0 - (((j0).toUInt32 >>> (((1 : Int32)).toUInt32 &&& Int32.toUInt32 31)).toInt32 &&& (1431655765 : Int32)))).toUInt32 >>> (((2 : Int32)).toUInt32 &&& Int32.toUInt32 31)).toInt32 &&& (858993459 : Int32))) + (((((j0 - (((j0).toUInt32 >>> (((1 : Int32)).toUInt32 &&& Int32.toUInt32 31)).toInt32 &&& (1431655765 : Int32))) &&& (858993459 : Int32)) + ((((j0 - (((j0).toUInt32 >>> (((1 : Int32)).toUInt32 &&& Int32.toUInt32 31)).toInt32 &&& (1431655765 : Int32)))).toUInt32 >>> (((2 : Int32)).toUInt32 &&& Int32.toUInt32 31)).toInt32 &&& (858993459 : Int32)))).toUInt32 >>> (((4 : Int32)).toUInt32 &&& Int32.toUInt32 31)).toInt32) &&& (252645135 : Int32)) + (((((((j0 - (((j0).toUInt32 >>> (((1 : Int32)).toUInt32 &&& Int32.toUInt32 31)).toInt32 &&& (1431655765 : Int32))) &&& (858993459 : Int32)) + ((((j0 - (((j0).toUInt32 >>> (((1 : Int32)).toUInt32 &&& Int32.toUInt32 31)).toInt32 &&& (1431655765 : Int32)))).toUInt32 >>> (((2 : Int32)).toUInt32 &&& Int32.toUInt32 31)).toInt32 &&& (858993459 : Int32))) + (((((j0 - (((j0).toUInt32 >>> (((1 : Int32)).toUInt32 &&& Int32.toUInt32 31)).toInt32 &&& (1431655765 : Int32))) &&& (858993459 : Int32)) + ((((j0 - (((j0).toUInt32 >>> (((1 : Int32)).toUInt32 &&& Int32.toUInt32 31)).toInt32 &&& (1431655765 : Int32)))).toUInt32 >>> (((2 : Int32)).toUInt32 &&& Int32.toUInt32 31)).toInt32 &&& (858993459 : Int32)))).toUInt32 >>> (((4 : Int32)).toUInt32 &&& Int32.toUInt32 31)).toInt32) &&& (252645135 : Int32))).toUInt32 >>> (((8 : Int32)).toUInt32 &&& Int32.toUInt32 31)).toInt32))]) hx hb dJ6_bitCount_0f7a4_40 rfl hl (by decide) rfl (fun ls hl => ?_)
  refine lv_iload_n hx hb dJ6_bitCount_0f7a4_41 rfl (lv_at hl 0 rfl) ?_
  refine lv_iload_n hx hb dJ6_bitCount_0f7a4_42 rfl (lv_at hl 0 rfl) ?_
  refine lv_bipush (v := (16 : Int32)) hx hb dJ6_bitCount_0f7a4_43 (by decide) ?_
  refine lv_iushr hx hb dJ6_bitCount_0f7a4_45 rfl ?_
  refine lv_iadd hx hb dJ6_bitCount_0f7a4_46 ?_
  refine lv_istore_n (lv' := [(0, .int (((((((j0 - (((j0).toUInt32 >>> (((1 : Int32)).toUInt32 &&& Int32.toUInt32 31)).toInt32 &&& (1431655765 : Int32))) &&& (858993459 : Int32)) + ((((j0 - (((j0).toUInt32 >>> (((1 : Int32)).toUInt32 &&& Int32.toUInt32 31)).toInt32 &&& (1431655765 : Int32)))).toUInt32 >>> (((2 : Int32)).toUInt32 &&& Int32.toUInt32 31)).toInt32 &&& (858993459 : Int32))) + (((((j0 - (((j0).toUInt32 >>> (((1 : Int32)).toUInt32 &&& Int32.toUInt32 31)).toInt32 &&& (1431655765 : Int32))) &&& (858993459 : Int32)) + ((((j0 - (((j0).toUInt32 >>> (((1 : Int32)).toUInt32 &&& Int32.toUInt32 31)).toInt32 &&& (1431655765 : Int32)))).toUInt32 >>> (((2 : Int32)).toUInt32 &&& Int32.toUInt32 31)).toInt32 &&& (858993459 : Int32)))).toUInt32 >>> (((4 : Int32)).toUInt32 &&& Int32.toUInt32 31)).toInt32) &&& (252645135 : Int32)) + (((((((j0 - (((j0).toUInt32 >>> (((1 : Int32)).toUInt32 &&& Int32.toUInt32 31)).toInt32 &&& (1431655765 : Int32))) &&& (858993459 : Int32)) + ((((j0 - (((j0).toUInt32 >>> (((1 : Int32)).toUInt32 &&& Int32.toUInt32 31)).toInt32 &&& (1431655765 : Int32)))).toUInt32 >>> (((2 : Int32)).toUInt32 &&& Int32.toUInt32 31)).toInt32 &&& (858993459 : Int32))) + (((((j0 - (((j0).toUInt32 >>> (((1 : Int32)).toUInt32 &&& Int32.toUInt32 31)).toInt32 &&& (1431655765 : Int32))) &&& (858993459 : Int32)) + ((((j0 - (((j0).toUInt32 >>> (((1 : Int32)).toUInt32 &&& Int32.toUInt32 31)).toInt32 &&& (1431655765 : Int32)))).toUInt32 >>> (((2 : Int32)).toUInt32 &&& Int32.toUInt32 31)).toInt32 &&& (858993459 : Int32)))).toUInt32 >>> (((4 : Int32)).toUInt32 &&& Int32.toUInt32 31)).toInt32) &&& (252645135 : Int32))).toUInt32 >>> (((8 : Int32)).toUInt32 &&& Int32.toUInt32 31)).toInt32) + ((((((((j0 - (((j0).toUInt32 >>> (((1 : Int32)).toUInt32 &&& Int32.toUInt32 31)).toInt32 &&& (1431655765 : Int32))) &&& (858993459 : Int32)) + ((((j0 - (((j0).toUInt32 >>> (((1 : Int32)).toUInt32 &&& Int32.toUInt32 31)).toInt32 &&& (1431655765 : Int32)))).toUInt32 >>> (((2 : Int32)).toUInt32 &&& Int32.toUInt32 31)).toInt32 &&& (858993459 : Int32))) + (((((j0 - (((j0).toUInt32 >>> (((1 : Int32)).toUInt32 &&& Int32.toUInt32 31)).toInt32 &&& (1431655765 : Int32))) &&& (858993459 : Int32)) + ((((j0 - (((j0).toUInt32 >>> (((1 : Int32)).toUInt32 &&& Int32.toUInt32 31)).toInt32 &&& (1431655765 : Int32)))).toUInt32 >>> (((2 : Int32)).toUInt32 &&& Int32.toUInt32 31)).toInt32 &&& (858993459 : Int32)))).toUInt32 >>> (((4 : Int32)).toUInt32 &&& Int32.toUInt32 31)).toInt32) &&& (252645135 : Int32)) + (((((((j0 - (((j0).toUInt32 >>> (((1 : Int32)).toUInt32 &&& Int32.toUInt32 31)).toInt32 &&& (1431655765 : Int32))) &&& (858993459 : Int32)) + ((((j0 - (((j0).toUInt32 >>> (((1 : Int32)).toUInt32 &&& Int32.toUInt32 31)).toInt32 &&& (1431655765 : Int32)))).toUInt32 >>> (((2 : Int32)).toUInt32 &&& Int32.toUInt32 31)).toInt32 &&& (858993459 : Int32))) + (((((j0 - (((j0).toUInt32 >>> (((1 : Int32)).toUInt32 &&& Int32.toUInt32 31)).toInt32 &&& (1431655765 : Int32))) &&& (858993459 : Int32)) + ((((j0 - (((j0).toUInt32 >>> (((1 : Int32)).toUInt32 &&& Int32.toUInt32 31)).toInt32 &&& (1431655765 : Int32)))).toUInt32 >>> (((2 : Int32)).toUInt32 &&& Int32.toUInt32 31)).toInt32 &&& (858993459 : Int32)))).toUInt32 >>> (((4 : Int32)).toUInt32 &&& Int32.toUInt32 31)).toInt32) &&& (252645135 : Int32))).toUInt32 >>> (((8 : Int32)).toUInt32 &&& Int32.toUInt32 31)).toInt32)).toUInt32 >>> (((16 : Int32)).toUInt32 &&& Int32.toUInt32 31)).toInt32))]) hx hb dJ6_bitCount_0f7a4_47 rfl hl (by decide) rfl (fun ls hl => ?_)
  refine lv_iload_n hx hb dJ6_bitCount_0f7a4_48 rfl (lv_at hl 0 rfl) ?_
  refine lv_bipush (v := (63 : Int32)) hx hb dJ6_bitCount_0f7a4_49 (by decide) ?_
  refine lv_iand hx hb dJ6_bitCount_0f7a4_51 ?_
  subst hf
  exact W.iret (v := ((((((((j0 - (((j0).toUInt32 >>> (((1 : Int32)).toUInt32 &&& Int32.toUInt32 31)).toInt32 &&& (1431655765 : Int32))) &&& (858993459 : Int32)) + ((((j0 - (((j0).toUInt32 >>> (((1 : Int32)).toUInt32 &&& Int32.toUInt32 31)).toInt32 &&& (1431655765 : Int32)))).toUInt32 >>> (((2 : Int32)).toUInt32 &&& Int32.toUInt32 31)).toInt32 &&& (858993459 : Int32))) + (((((j0 - (((j0).toUInt32 >>> (((1 : Int32)).toUInt32 &&& Int32.toUInt32 31)).toInt32 &&& (1431655765 : Int32))) &&& (858993459 : Int32)) + ((((j0 - (((j0).toUInt32 >>> (((1 : Int32)).toUInt32 &&& Int32.toUInt32 31)).toInt32 &&& (1431655765 : Int32)))).toUInt32 >>> (((2 : Int32)).toUInt32 &&& Int32.toUInt32 31)).toInt32 &&& (858993459 : Int32)))).toUInt32 >>> (((4 : Int32)).toUInt32 &&& Int32.toUInt32 31)).toInt32) &&& (252645135 : Int32)) + (((((((j0 - (((j0).toUInt32 >>> (((1 : Int32)).toUInt32 &&& Int32.toUInt32 31)).toInt32 &&& (1431655765 : Int32))) &&& (858993459 : Int32)) + ((((j0 - (((j0).toUInt32 >>> (((1 : Int32)).toUInt32 &&& Int32.toUInt32 31)).toInt32 &&& (1431655765 : Int32)))).toUInt32 >>> (((2 : Int32)).toUInt32 &&& Int32.toUInt32 31)).toInt32 &&& (858993459 : Int32))) + (((((j0 - (((j0).toUInt32 >>> (((1 : Int32)).toUInt32 &&& Int32.toUInt32 31)).toInt32 &&& (1431655765 : Int32))) &&& (858993459 : Int32)) + ((((j0 - (((j0).toUInt32 >>> (((1 : Int32)).toUInt32 &&& Int32.toUInt32 31)).toInt32 &&& (1431655765 : Int32)))).toUInt32 >>> (((2 : Int32)).toUInt32 &&& Int32.toUInt32 31)).toInt32 &&& (858993459 : Int32)))).toUInt32 >>> (((4 : Int32)).toUInt32 &&& Int32.toUInt32 31)).toInt32) &&& (252645135 : Int32))).toUInt32 >>> (((8 : Int32)).toUInt32 &&& Int32.toUInt32 31)).toInt32) + ((((((((j0 - (((j0).toUInt32 >>> (((1 : Int32)).toUInt32 &&& Int32.toUInt32 31)).toInt32 &&& (1431655765 : Int32))) &&& (858993459 : Int32)) + ((((j0 - (((j0).toUInt32 >>> (((1 : Int32)).toUInt32 &&& Int32.toUInt32 31)).toInt32 &&& (1431655765 : Int32)))).toUInt32 >>> (((2 : Int32)).toUInt32 &&& Int32.toUInt32 31)).toInt32 &&& (858993459 : Int32))) + (((((j0 - (((j0).toUInt32 >>> (((1 : Int32)).toUInt32 &&& Int32.toUInt32 31)).toInt32 &&& (1431655765 : Int32))) &&& (858993459 : Int32)) + ((((j0 - (((j0).toUInt32 >>> (((1 : Int32)).toUInt32 &&& Int32.toUInt32 31)).toInt32 &&& (1431655765 : Int32)))).toUInt32 >>> (((2 : Int32)).toUInt32 &&& Int32.toUInt32 31)).toInt32 &&& (858993459 : Int32)))).toUInt32 >>> (((4 : Int32)).toUInt32 &&& Int32.toUInt32 31)).toInt32) &&& (252645135 : Int32)) + (((((((j0 - (((j0).toUInt32 >>> (((1 : Int32)).toUInt32 &&& Int32.toUInt32 31)).toInt32 &&& (1431655765 : Int32))) &&& (858993459 : Int32)) + ((((j0 - (((j0).toUInt32 >>> (((1 : Int32)).toUInt32 &&& Int32.toUInt32 31)).toInt32 &&& (1431655765 : Int32)))).toUInt32 >>> (((2 : Int32)).toUInt32 &&& Int32.toUInt32 31)).toInt32 &&& (858993459 : Int32))) + (((((j0 - (((j0).toUInt32 >>> (((1 : Int32)).toUInt32 &&& Int32.toUInt32 31)).toInt32 &&& (1431655765 : Int32))) &&& (858993459 : Int32)) + ((((j0 - (((j0).toUInt32 >>> (((1 : Int32)).toUInt32 &&& Int32.toUInt32 31)).toInt32 &&& (1431655765 : Int32)))).toUInt32 >>> (((2 : Int32)).toUInt32 &&& Int32.toUInt32 31)).toInt32 &&& (858993459 : Int32)))).toUInt32 >>> (((4 : Int32)).toUInt32 &&& Int32.toUInt32 31)).toInt32) &&& (252645135 : Int32))).toUInt32 >>> (((8 : Int32)).toUInt32 &&& Int32.toUInt32 31)).toInt32)).toUInt32 >>> (((16 : Int32)).toUInt32 &&& Int32.toUInt32 31)).toInt32) &&& (63 : Int32))) hx hb hr (fun t ht hW => ⟨⟨((((((((j0 - (((j0).toUInt32 >>> (((1 : Int32)).toUInt32 &&& Int32.toUInt32 31)).toInt32 &&& (1431655765 : Int32))) &&& (858993459 : Int32)) + ((((j0 - (((j0).toUInt32 >>> (((1 : Int32)).toUInt32 &&& Int32.toUInt32 31)).toInt32 &&& (1431655765 : Int32)))).toUInt32 >>> (((2 : Int32)).toUInt32 &&& Int32.toUInt32 31)).toInt32 &&& (858993459 : Int32))) + (((((j0 - (((j0).toUInt32 >>> (((1 : Int32)).toUInt32 &&& Int32.toUInt32 31)).toInt32 &&& (1431655765 : Int32))) &&& (858993459 : Int32)) + ((((j0 - (((j0).toUInt32 >>> (((1 : Int32)).toUInt32 &&& Int32.toUInt32 31)).toInt32 &&& (1431655765 : Int32)))).toUInt32 >>> (((2 : Int32)).toUInt32 &&& Int32.toUInt32 31)).toInt32 &&& (858993459 : Int32)))).toUInt32 >>> (((4 : Int32)).toUInt32 &&& Int32.toUInt32 31)).toInt32) &&& (252645135 : Int32)) + (((((((j0 - (((j0).toUInt32 >>> (((1 : Int32)).toUInt32 &&& Int32.toUInt32 31)).toInt32 &&& (1431655765 : Int32))) &&& (858993459 : Int32)) + ((((j0 - (((j0).toUInt32 >>> (((1 : Int32)).toUInt32 &&& Int32.toUInt32 31)).toInt32 &&& (1431655765 : Int32)))).toUInt32 >>> (((2 : Int32)).toUInt32 &&& Int32.toUInt32 31)).toInt32 &&& (858993459 : Int32))) + (((((j0 - (((j0).toUInt32 >>> (((1 : Int32)).toUInt32 &&& Int32.toUInt32 31)).toInt32 &&& (1431655765 : Int32))) &&& (858993459 : Int32)) + ((((j0 - (((j0).toUInt32 >>> (((1 : Int32)).toUInt32 &&& Int32.toUInt32 31)).toInt32 &&& (1431655765 : Int32)))).toUInt32 >>> (((2 : Int32)).toUInt32 &&& Int32.toUInt32 31)).toInt32 &&& (858993459 : Int32)))).toUInt32 >>> (((4 : Int32)).toUInt32 &&& Int32.toUInt32 31)).toInt32) &&& (252645135 : Int32))).toUInt32 >>> (((8 : Int32)).toUInt32 &&& Int32.toUInt32 31)).toInt32) + ((((((((j0 - (((j0).toUInt32 >>> (((1 : Int32)).toUInt32 &&& Int32.toUInt32 31)).toInt32 &&& (1431655765 : Int32))) &&& (858993459 : Int32)) + ((((j0 - (((j0).toUInt32 >>> (((1 : Int32)).toUInt32 &&& Int32.toUInt32 31)).toInt32 &&& (1431655765 : Int32)))).toUInt32 >>> (((2 : Int32)).toUInt32 &&& Int32.toUInt32 31)).toInt32 &&& (858993459 : Int32))) + (((((j0 - (((j0).toUInt32 >>> (((1 : Int32)).toUInt32 &&& Int32.toUInt32 31)).toInt32 &&& (1431655765 : Int32))) &&& (858993459 : Int32)) + ((((j0 - (((j0).toUInt32 >>> (((1 : Int32)).toUInt32 &&& Int32.toUInt32 31)).toInt32 &&& (1431655765 : Int32)))).toUInt32 >>> (((2 : Int32)).toUInt32 &&& Int32.toUInt32 31)).toInt32 &&& (858993459 : Int32)))).toUInt32 >>> (((4 : Int32)).toUInt32 &&& Int32.toUInt32 31)).toInt32) &&& (252645135 : Int32)) + (((((((j0 - (((j0).toUInt32 >>> (((1 : Int32)).toUInt32 &&& Int32.toUInt32 31)).toInt32 &&& (1431655765 : Int32))) &&& (858993459 : Int32)) + ((((j0 - (((j0).toUInt32 >>> (((1 : Int32)).toUInt32 &&& Int32.toUInt32 31)).toInt32 &&& (1431655765 : Int32)))).toUInt32 >>> (((2 : Int32)).toUInt32 &&& Int32.toUInt32 31)).toInt32 &&& (858993459 : Int32))) + (((((j0 - (((j0).toUInt32 >>> (((1 : Int32)).toUInt32 &&& Int32.toUInt32 31)).toInt32 &&& (1431655765 : Int32))) &&& (858993459 : Int32)) + ((((j0 - (((j0).toUInt32 >>> (((1 : Int32)).toUInt32 &&& Int32.toUInt32 31)).toInt32 &&& (1431655765 : Int32)))).toUInt32 >>> (((2 : Int32)).toUInt32 &&& Int32.toUInt32 31)).toInt32 &&& (858993459 : Int32)))).toUInt32 >>> (((4 : Int32)).toUInt32 &&& Int32.toUInt32 31)).toInt32) &&& (252645135 : Int32))).toUInt32 >>> (((8 : Int32)).toUInt32 &&& Int32.toUInt32 31)).toInt32)).toUInt32 >>> (((16 : Int32)).toUInt32 &&& Int32.toUInt32 31)).toInt32) &&& (63 : Int32)), (), rfl, rfl, hPt ht hP⟩, hS.F ht⟩) hS.2.2 dJ6_bitCount_0f7a4_52
set_option maxHeartbeats 4000000 in
set_option maxRecDepth 100000 in
theorem c_X0_heldBy (l : Launch) (D : va_G) (cI : ClassId) (A : Nat → Nat) (j1 : Int32) (hh : HS) (out : Int32) (hf : f_X0_heldBy j1 hh = some out) : uI l D cI yX0_heldBy wsX0_heldBy ({ frames := 2, cells := 0, slots := 0, locals := 44 } : Room) [.ref (A 0), .int j1] (wH A cI hh) (wH A cI hh) out := by
  intro sz
  refine Met.ofW (cc := cX0_heldBy) (maxL := 2) (ret := (some .int)) (by decide) rfl ?_
  intro p e s m args below meth c s₁ Bd hml hv
  obtain ⟨rfl, hsz, hP, hK, hD0, hN⟩ := hv
  have hx := Bd.exec
  have hb := Bd.bytes
  have hr := Bd.returns
  have hts := atoms_spec (ws := wsX0_heldBy) Bd.pre
  have hown : s.vm.findClass RX0 = some m.cls := findClass_of_methodNamed Bd.named
  have hlocks := Bd.notSynchronized
  subst hsz
  have hD := hD0.self (sz := s.heap.size)
  generalize hAe : va_A (wH A cI hh) s.heap.size = G at hD ⊢
  have hA : ∀ q : Nat, s.heap.size ≤ q → G q := fun q h => by rw [← hAe]; exact Or.inr h
  have hS : va_S G s.heap s.heap [] := va_S.rf
  have hP : va_P D vwCl (wH A cI hh) s.heap := hP
  have hl := lv_entry ([.ref (A 0), .int j1]) (n := 2) (Nat.le_of_ble_eq_true rfl)
  rw [lg_entry_eq]
  generalize (lg_sl ([.ref (A 0), .int j1]) ++ List.replicate (2 - (lg_sl ([.ref (A 0), .int j1])).length) Slot.unset).toArray = ls at hl ⊢
  have hl : lv_has ls 2 [(0, .ref (A 0)), (1, .int j1)] := hl
  refine W_in ?_
  intro WW hWW
  refine (hWW _ _ _).mpr ?_
  unfold f_X0_heldBy at hf
  refine lv_aload_n hx hb dX0_heldBy_0 rfl (lv_at hl 0 rfl) ?_
  refine lv_iload_n hx hb dX0_heldBy_1 rfl (lv_at hl 1 rfl) ?_
  obtain ⟨v1, hev1, hf⟩ := bS hf
  refine rV_io (As := [.int j1]) (rest := []) ⟨hx, hb, hml, hown, hts⟩ hK hN hA hP hD hS (c_X0_heldBits l D cI A j1 hh v1 hev1) (cwV 1 hts gX0_heldBy_X0_heldBits rfl rfl rfl hd_X0_heldBits ⟨Nat.le_of_ble_eq_true rfl, Nat.le_of_ble_eq_true rfl⟩) (va_recv hK hP (ci := 0) (q0 := 0) rfl rfl) [0, 1, 2, 3, 4, 5, 6, 7, 8, 9, 10] (by decide) rfl rfl hl.1 rfl (Nat.le_of_ble_eq_true rfl) dX0_heldBy_2 ⟨Nat.le_of_ble_eq_true rfl, Nat.le_of_ble_eq_true rfl⟩ (fun H locs hP hD hS => ?_)
  refine rS_io (As := [.int v1]) (rest := []) ⟨hx, hb, hml, hown, hts⟩ hK hN hA hP hD hS (c_J6_bitCount_0f7a4 l D cI v1 (f_J6_bitCount_0f7a4 v1) rfl) (va_cwS 1 hts gX0_heldBy_J6_bitCount_0f7a4 rfl rfl rfl hd_J6_bitCount_0f7a4.2 ⟨Nat.le_of_ble_eq_true rfl, Nat.le_of_ble_eq_true rfl⟩) [] (by decide) rfl rfl hl.1 rfl (Nat.le_of_ble_eq_true rfl) dX0_heldBy_5 ⟨Nat.le_of_ble_eq_true rfl, Nat.le_of_ble_eq_true rfl⟩ (fun H locs hP hD hS => ?_)
  obtain rfl := Option.some.inj hf
  exact W.iret (v := (f_J6_bitCount_0f7a4 v1)) hx hb hr (fun t ht hW => ⟨⟨(f_J6_bitCount_0f7a4 v1), (), rfl, rfl, hPt ht hP⟩, hS.F ht⟩) hS.2.2 dX0_heldBy_8
set_option maxHeartbeats 4000000 in
set_option maxRecDepth 100000 in
theorem c_X0_heldCount (l : Launch) (D : va_G) (cI : ClassId) (A : Nat → Nat) (hh : HS) (out : Int32) (hf : f_X0_heldCount hh = some out) : uI l D cI yX0_heldCount wsX0_heldCount ({ frames := 3, cells := 0, slots := 0, locals := 64 } : Room) [.ref (A 0)] (wH A cI hh) (wH A cI hh) out := by
  intro sz
  refine Met.ofW (cc := cX0_heldCount) (maxL := 1) (ret := (some .int)) (by decide) rfl ?_
  intro p e s m args below meth c s₁ Bd hml hv
  obtain ⟨rfl, hsz, hP, hK, hD0, hN⟩ := hv
  have hx := Bd.exec
  have hb := Bd.bytes
  have hr := Bd.returns
  have hts := atoms_spec (ws := wsX0_heldCount) Bd.pre
  have hown : s.vm.findClass RX0 = some m.cls := findClass_of_methodNamed Bd.named
  have hlocks := Bd.notSynchronized
  subst hsz
  have hD := hD0.self (sz := s.heap.size)
  generalize hAe : va_A (wH A cI hh) s.heap.size = G at hD ⊢
  have hA : ∀ q : Nat, s.heap.size ≤ q → G q := fun q h => by rw [← hAe]; exact Or.inr h
  have hS : va_S G s.heap s.heap [] := va_S.rf
  have hP : va_P D vwCl (wH A cI hh) s.heap := hP
  have hl := lv_entry ([.ref (A 0)]) (n := 1) (Nat.le_of_ble_eq_true rfl)
  rw [lg_entry_eq]
  generalize (lg_sl ([.ref (A 0)]) ++ List.replicate (1 - (lg_sl ([.ref (A 0)])).length) Slot.unset).toArray = ls at hl ⊢
  have hl : lv_has ls 1 [(0, .ref (A 0))] := hl
  have hinH : ∀ w ∈ wsX00, w ∈ wsX0_heldCount := by decide +kernel
  have lk0 := hts (.fieldLink RX0 42 "LiesBoughtBack$Hall" "cards" "I") (by decide +kernel)
  refine W_in ?_
  intro WW hWW
  refine (hWW _ _ _).mpr ?_
  unfold f_X0_heldCount at hf
  refine lv_aload_n hx hb dX0_heldCount_0 rfl (lv_at hl 0 rfl) ?_
  refine va_get (D := D) (ci := 0) (v := .int (hh 10 0)) (C := RX0) (T := TX0) (N := 13) hx hb hts hinH hown hK hP 0 rfl rfl 0 (by decide) lk0 (fun _ h9 => h9) rfl dX0_heldCount_1 ?_
  refine lv_aload_n hx hb dX0_heldCount_4 rfl (lv_at hl 0 rfl) ?_
  obtain ⟨v1, hev1, hf⟩ := bS hf
  refine rV_io (As := []) (rest := [.int (hh 10 0)]) ⟨hx, hb, hml, hown, hts⟩ hK hN hA hP hD hS (c_X0_pileBits l D cI A hh v1 hev1) (cwV 0 hts gX0_heldCount_X0_pileBits rfl rfl rfl hd_X0_pileBits ⟨Nat.le_of_ble_eq_true rfl, Nat.le_of_ble_eq_true rfl⟩) (va_recv hK hP (ci := 0) (q0 := 0) rfl rfl) [0, 1, 2, 3, 4, 5, 6, 7, 8, 9, 10] (by decide) rfl rfl hl.1 rfl (Nat.le_of_ble_eq_true rfl) dX0_heldCount_5 ⟨Nat.le_of_ble_eq_true rfl, Nat.le_of_ble_eq_true rfl⟩ (fun H locs hP hD hS => ?_)
  refine rS_io (As := [.int v1]) (rest := [.int (hh 10 0)]) ⟨hx, hb, hml, hown, hts⟩ hK hN hA hP hD hS (c_J6_bitCount_0f7a4 l D cI v1 (f_J6_bitCount_0f7a4 v1) rfl) (va_cwS 1 hts gX0_heldCount_J6_bitCount_0f7a4 rfl rfl rfl hd_J6_bitCount_0f7a4.2 ⟨Nat.le_of_ble_eq_true rfl, Nat.le_of_ble_eq_true rfl⟩) [] (by decide) rfl rfl hl.1 rfl (Nat.le_of_ble_eq_true rfl) dX0_heldCount_8 ⟨Nat.le_of_ble_eq_true rfl, Nat.le_of_ble_eq_true rfl⟩ (fun H locs hP hD hS => ?_)
  refine lv_isub hx hb dX0_heldCount_11 ?_
  obtain rfl := Option.some.inj hf
  exact W.iret (v := ((hh 10 0) - (f_J6_bitCount_0f7a4 v1))) hx hb hr (fun t ht hW => ⟨⟨((hh 10 0) - (f_J6_bitCount_0f7a4 v1)), (), rfl, rfl, hPt ht hP⟩, hS.F ht⟩) hS.2.2 dX0_heldCount_12
set_option maxHeartbeats 4000000 in
set_option maxRecDepth 100000 in
theorem c_X0_allPurses (l : Launch) (D : va_G) (cI : ClassId) (A : Nat → Nat) (hh : HS) (out : Int32) (hf : f_X0_allPurses hh = some out) : uI l D cI yX0_allPurses wsX0_allPurses ({ frames := 1, cells := 0, slots := 0, locals := 21 } : Room) [.ref (A 0)] (wH A cI hh) (wH A cI hh) out := by
  intro sz
  refine Met.ofW (cc := cX0_allPurses) (maxL := 3) (ret := (some .int)) (by decide) rfl ?_
  intro p e s m args below meth c s₁ Bd hml hv
  obtain ⟨rfl, hsz, hP, hK, hD0, hN⟩ := hv
  have hx := Bd.exec
  have hb := Bd.bytes
  have hr := Bd.returns
  have hts := atoms_spec (ws := wsX0_allPurses) Bd.pre
  have hown : s.vm.findClass RX0 = some m.cls := findClass_of_methodNamed Bd.named
  have hlocks := Bd.notSynchronized
  subst hsz
  have hD := hD0.self (sz := s.heap.size)
  generalize hAe : va_A (wH A cI hh) s.heap.size = G at hD ⊢
  have hA : ∀ q : Nat, s.heap.size ≤ q → G q := fun q h => by rw [← hAe]; exact Or.inr h
  have hS : va_S G s.heap s.heap [] := va_S.rf
  have hP : va_P D vwCl (wH A cI hh) s.heap := hP
  have hl := lv_entry ([.ref (A 0)]) (n := 3) (Nat.le_of_ble_eq_true rfl)
  rw [lg_entry_eq]
  generalize (lg_sl ([.ref (A 0)]) ++ List.replicate (3 - (lg_sl ([.ref (A 0)])).length) Slot.unset).toArray = ls at hl ⊢
  have hl : lv_has ls 3 [(0, .ref (A 0))] := hl
  have hinH : ∀ w ∈ wsX00, w ∈ wsX0_allPurses := by decide +kernel
  have lk0 := hts (.fieldLink RX0 46 "LiesBoughtBack$Hall" "bidders" "I") (by decide +kernel)
  have lk1 := hts (.fieldLink RX0 36 "LiesBoughtBack$Hall" "purse" "[I") (by decide +kernel)
  have lk2 := hts (.initialized RX1) (by decide +kernel)
  have lk3 := hts (.static yX1_at) (by decide +kernel)
  refine W_in ?_
  intro WW hWW
  refine (hWW _ _ _).mpr ?_
  unfold f_X0_allPurses at hf
  refine lv_iconst (v := (0 : Int32)) hx hb dX0_allPurses_0 (by decide) ?_
  refine lv_istore_n (lv' := [(1, .int (0 : Int32)), (0, .ref (A 0))]) hx hb dX0_allPurses_1 rfl hl (by decide) rfl (fun ls hl => ?_)
  refine lv_iconst (v := (0 : Int32)) hx hb dX0_allPurses_2 (by decide) ?_
  refine lv_istore_n (lv' := [(2, .int (0 : Int32)), (1, .int (0 : Int32)), (0, .ref (A 0))]) hx hb dX0_allPurses_3 rfl hl (by decide) rfl (fun ls hl => ?_)
  obtain ⟨K29, hK29, hf⟩ := jnS hf
  have J29 : ∀ (j1_29 : Int32) (H : Heap) (locs : List Loc) (ls : Array Slot), K29 j1_29 = some out → va_P D vwCl (wH A cI hh) H → va_D G (wH A cI hh) → va_S G s.heap H locs → lv_has ls 3 [(1, .int j1_29)] → WW H locs (F0 m 29 ls []) := by
    intro j1_29 H locs ls hf hP hD hS hl
    subst hK29
    refine (hWW _ _ _).mpr ?_
    refine lv_iload_n hx hb dX0_allPurses_29 rfl (lv_at hl 0 rfl) ?_
    obtain rfl := Option.some.inj hf
    exact W.iret (v := j1_29) hx hb hr (fun t ht hW => ⟨⟨j1_29, (), rfl, rfl, hPt ht hP⟩, hS.F ht⟩) hS.2.2 dX0_allPurses_30
  have P4 : ∀ (n' : Nat) (j1_4 : Int32) (j2_4 : Int32) (H : Heap) (locs : List Loc) (ls : Array Slot), L_X0_allPurses_4 hh K29 n' j1_4 j2_4 = some out → va_P D vwCl (wH A cI hh) H → va_D G (wH A cI hh) → va_S G s.heap H locs → lv_has ls 3 [(0, .ref (A 0)), (1, .int j1_4), (2, .int j2_4)] → WW H locs (F0 m 4 ls []) := by
    intro n'
    induction n' with
    | zero => intro j1_4 j2_4 H locs ls hf; exact absurd (show (none : Option (Int32)) = some out from hf) (fun q => by cases q)
    | succ n' ih =>
      intro j1_4 j2_4 H locs ls hf hP hD hS hl
      rw [L_X0_allPurses_4] at hf
      refine (hWW _ _ _).mpr ?_
      refine lv_iload_n hx hb dX0_allPurses_4 rfl (lv_at hl 2 rfl) ?_
      refine lv_aload_n hx hb dX0_allPurses_5 rfl (lv_at hl 0 rfl) ?_
      refine va_get (D := D) (ci := 0) (v := .int (hh 11 0)) (C := RX0) (T := TX0) (N := 13) hx hb hts hinH hown hK hP 0 rfl rfl 1 (by decide) lk0 (fun _ h9 => h9) rfl dX0_allPurses_6 ?_
      refine lv_icmp_ge (tgt := 29) hx hb dX0_allPurses_9 (by decide) (fun c1 => ?_) (fun c1 => ?_)
      · have hf := hT hf c1
        exact (hWW _ _ _).mp (J29 _ _ _ _ hf hP hD hS (lv_sub hl [1] rfl))
      · have hf := hF hf c1
        refine lv_iload_n hx hb dX0_allPurses_12 rfl (lv_at hl 1 rfl) ?_
        refine lv_aload_n hx hb dX0_allPurses_13 rfl (lv_at hl 0 rfl) ?_
        refine va_get (D := D) (ci := 0) (v := .ref (A 9)) (C := RX0) (T := TX0) (N := 13) hx hb hts hinH hown hK hP 0 rfl rfl 11 (by decide) lk1 (fun _ h9 => h9) rfl dX0_allPurses_14 ?_
        refine lv_iload_n hx hb dX0_allPurses_17 rfl (lv_at hl 2 rfl) ?_
        refine rSN_io (As := [.ref (A 9), .int j2_4]) (rest := [.int j1_4]) ⟨hx, hb, hml, hown, hts⟩ hK hN hA hP hD hS (c_X1_at l D cI 6 (by decide) (A 9) (hh 8) j2_4) ⟨va_cnB 2 hts gX0_allPurses_X1_at_n60 rfl rfl rfl (nW.m hN 8 rfl) lk2 hd_X1_at.2 ⟨Nat.le_of_ble_eq_true rfl, Nat.le_of_ble_eq_true rfl⟩, lk3, trivial⟩ [9] (by decide) rfl rfl hl.1 rfl (Nat.le_of_ble_eq_true rfl) dX0_allPurses_18 ⟨Nat.le_of_ble_eq_true rfl, Nat.le_of_ble_eq_true rfl⟩ (fun H locs hP hD hS => ?_)
        refine lv_iadd hx hb dX0_allPurses_21 ?_
        refine lv_istore_n (lv' := [(1, .int (j1_4 + (atv 6 (hh 8) j2_4))), (0, .ref (A 0)), (2, .int j2_4)]) hx hb dX0_allPurses_22 rfl hl (by decide) rfl (fun ls hl => ?_)
        refine lv_iinc (v := (j2_4 + (1 : Int32))) (lv' := [(2, .int (j2_4 + (1 : Int32))), (1, .int (j1_4 + (atv 6 (hh 8) j2_4))), (0, .ref (A 0))]) hx hb dX0_allPurses_23 hl (k := 2) rfl rfl (by decide) rfl (fun ls hl => ?_)
        refine lv_goto (tgt := 4) hx hb dX0_allPurses_26 (by decide) ?_
        exact (hWW _ _ _).mp (ih _ _ _ _ _ hf hP hD hS (lv_sub hl [2, 1, 0] rfl))
  exact (hWW _ _ _).mp (P4 _ _ _ _ _ _ hf hP hD hS (lv_sub hl [2, 1, 0] rfl))
set_option maxHeartbeats 4000000 in
set_option maxRecDepth 100000 in
theorem c_X0_allBelieved (l : Launch) (D : va_G) (cI : ClassId) (A : Nat → Nat) (hh : HS) (out : Int32) (hf : f_X0_allBelieved hh = some out) : uI l D cI yX0_allBelieved wsX0_allBelieved ({ frames := 1, cells := 0, slots := 0, locals := 21 } : Room) [.ref (A 0)] (wH A cI hh) (wH A cI hh) out := by
  intro sz
  refine Met.ofW (cc := cX0_allBelieved) (maxL := 3) (ret := (some .int)) (by decide) rfl ?_
  intro p e s m args below meth c s₁ Bd hml hv
  obtain ⟨rfl, hsz, hP, hK, hD0, hN⟩ := hv
  have hx := Bd.exec
  have hb := Bd.bytes
  have hr := Bd.returns
  have hts := atoms_spec (ws := wsX0_allBelieved) Bd.pre
  have hown : s.vm.findClass RX0 = some m.cls := findClass_of_methodNamed Bd.named
  have hlocks := Bd.notSynchronized
  subst hsz
  have hD := hD0.self (sz := s.heap.size)
  generalize hAe : va_A (wH A cI hh) s.heap.size = G at hD ⊢
  have hA : ∀ q : Nat, s.heap.size ≤ q → G q := fun q h => by rw [← hAe]; exact Or.inr h
  have hS : va_S G s.heap s.heap [] := va_S.rf
  have hP : va_P D vwCl (wH A cI hh) s.heap := hP
  have hl := lv_entry ([.ref (A 0)]) (n := 3) (Nat.le_of_ble_eq_true rfl)
  rw [lg_entry_eq]
  generalize (lg_sl ([.ref (A 0)]) ++ List.replicate (3 - (lg_sl ([.ref (A 0)])).length) Slot.unset).toArray = ls at hl ⊢
  have hl : lv_has ls 3 [(0, .ref (A 0))] := hl
  have hinH : ∀ w ∈ wsX00, w ∈ wsX0_allBelieved := by decide +kernel
  have lk0 := hts (.fieldLink RX0 46 "LiesBoughtBack$Hall" "bidders" "I") (by decide +kernel)
  have lk1 := hts (.fieldLink RX0 39 "LiesBoughtBack$Hall" "believed" "[I") (by decide +kernel)
  have lk2 := hts (.initialized RX1) (by decide +kernel)
  have lk3 := hts (.static yX1_at) (by decide +kernel)
  refine W_in ?_
  intro WW hWW
  refine (hWW _ _ _).mpr ?_
  unfold f_X0_allBelieved at hf
  refine lv_iconst (v := (0 : Int32)) hx hb dX0_allBelieved_0 (by decide) ?_
  refine lv_istore_n (lv' := [(1, .int (0 : Int32)), (0, .ref (A 0))]) hx hb dX0_allBelieved_1 rfl hl (by decide) rfl (fun ls hl => ?_)
  refine lv_iconst (v := (0 : Int32)) hx hb dX0_allBelieved_2 (by decide) ?_
  refine lv_istore_n (lv' := [(2, .int (0 : Int32)), (1, .int (0 : Int32)), (0, .ref (A 0))]) hx hb dX0_allBelieved_3 rfl hl (by decide) rfl (fun ls hl => ?_)
  obtain ⟨K29, hK29, hf⟩ := jnS hf
  have J29 : ∀ (j1_29 : Int32) (H : Heap) (locs : List Loc) (ls : Array Slot), K29 j1_29 = some out → va_P D vwCl (wH A cI hh) H → va_D G (wH A cI hh) → va_S G s.heap H locs → lv_has ls 3 [(1, .int j1_29)] → WW H locs (F0 m 29 ls []) := by
    intro j1_29 H locs ls hf hP hD hS hl
    subst hK29
    refine (hWW _ _ _).mpr ?_
    refine lv_iload_n hx hb dX0_allBelieved_29 rfl (lv_at hl 0 rfl) ?_
    obtain rfl := Option.some.inj hf
    exact W.iret (v := j1_29) hx hb hr (fun t ht hW => ⟨⟨j1_29, (), rfl, rfl, hPt ht hP⟩, hS.F ht⟩) hS.2.2 dX0_allBelieved_30
  have P4 : ∀ (n' : Nat) (j1_4 : Int32) (j2_4 : Int32) (H : Heap) (locs : List Loc) (ls : Array Slot), L_X0_allBelieved_4 hh K29 n' j1_4 j2_4 = some out → va_P D vwCl (wH A cI hh) H → va_D G (wH A cI hh) → va_S G s.heap H locs → lv_has ls 3 [(0, .ref (A 0)), (1, .int j1_4), (2, .int j2_4)] → WW H locs (F0 m 4 ls []) := by
    intro n'
    induction n' with
    | zero => intro j1_4 j2_4 H locs ls hf; exact absurd (show (none : Option (Int32)) = some out from hf) (fun q => by cases q)
    | succ n' ih =>
      intro j1_4 j2_4 H locs ls hf hP hD hS hl
      rw [L_X0_allBelieved_4] at hf
      refine (hWW _ _ _).mpr ?_
      refine lv_iload_n hx hb dX0_allBelieved_4 rfl (lv_at hl 2 rfl) ?_
      refine lv_aload_n hx hb dX0_allBelieved_5 rfl (lv_at hl 0 rfl) ?_
      refine va_get (D := D) (ci := 0) (v := .int (hh 11 0)) (C := RX0) (T := TX0) (N := 13) hx hb hts hinH hown hK hP 0 rfl rfl 1 (by decide) lk0 (fun _ h9 => h9) rfl dX0_allBelieved_6 ?_
      refine lv_icmp_ge (tgt := 29) hx hb dX0_allBelieved_9 (by decide) (fun c1 => ?_) (fun c1 => ?_)
      · have hf := hT hf c1
        exact (hWW _ _ _).mp (J29 _ _ _ _ hf hP hD hS (lv_sub hl [1] rfl))
      · have hf := hF hf c1
        refine lv_iload_n hx hb dX0_allBelieved_12 rfl (lv_at hl 1 rfl) ?_
        refine lv_aload_n hx hb dX0_allBelieved_13 rfl (lv_at hl 0 rfl) ?_
        refine va_get (D := D) (ci := 0) (v := .ref (A 10)) (C := RX0) (T := TX0) (N := 13) hx hb hts hinH hown hK hP 0 rfl rfl 12 (by decide) lk1 (fun _ h9 => h9) rfl dX0_allBelieved_14 ?_
        refine lv_iload_n hx hb dX0_allBelieved_17 rfl (lv_at hl 2 rfl) ?_
        refine rSN_io (As := [.ref (A 10), .int j2_4]) (rest := [.int j1_4]) ⟨hx, hb, hml, hown, hts⟩ hK hN hA hP hD hS (c_X1_at l D cI 6 (by decide) (A 10) (hh 9) j2_4) ⟨va_cnB 2 hts gX0_allBelieved_X1_at_n60 rfl rfl rfl (nW.m hN 8 rfl) lk2 hd_X1_at.2 ⟨Nat.le_of_ble_eq_true rfl, Nat.le_of_ble_eq_true rfl⟩, lk3, trivial⟩ [10] (by decide) rfl rfl hl.1 rfl (Nat.le_of_ble_eq_true rfl) dX0_allBelieved_18 ⟨Nat.le_of_ble_eq_true rfl, Nat.le_of_ble_eq_true rfl⟩ (fun H locs hP hD hS => ?_)
        refine lv_iadd hx hb dX0_allBelieved_21 ?_
        refine lv_istore_n (lv' := [(1, .int (j1_4 + (atv 6 (hh 9) j2_4))), (0, .ref (A 0)), (2, .int j2_4)]) hx hb dX0_allBelieved_22 rfl hl (by decide) rfl (fun ls hl => ?_)
        refine lv_iinc (v := (j2_4 + (1 : Int32))) (lv' := [(2, .int (j2_4 + (1 : Int32))), (1, .int (j1_4 + (atv 6 (hh 9) j2_4))), (0, .ref (A 0))]) hx hb dX0_allBelieved_23 hl (k := 2) rfl rfl (by decide) rfl (fun ls hl => ?_)
        refine lv_goto (tgt := 4) hx hb dX0_allBelieved_26 (by decide) ?_
        exact (hWW _ _ _).mp (ih _ _ _ _ _ hf hP hD hS (lv_sub hl [2, 1, 0] rfl))
  exact (hWW _ _ _).mp (P4 _ _ _ _ _ _ hf hP hD hS (lv_sub hl [2, 1, 0] rfl))
set_option maxHeartbeats 4000000 in
set_option maxRecDepth 100000 in
theorem c_X0_allWorth (l : Launch) (D : va_G) (cI : ClassId) (A : Nat → Nat) (hh : HS) (out : Int32) (hf : f_X0_allWorth hh = some out) : uI l D cI yX0_allWorth wsX0_allWorth ({ frames := 2, cells := 0, slots := 0, locals := 44 } : Room) [.ref (A 0)] (wH A cI hh) (wH A cI hh) out := by
  intro sz
  refine Met.ofW (cc := cX0_allWorth) (maxL := 3) (ret := (some .int)) (by decide) rfl ?_
  intro p e s m args below meth c s₁ Bd hml hv
  obtain ⟨rfl, hsz, hP, hK, hD0, hN⟩ := hv
  have hx := Bd.exec
  have hb := Bd.bytes
  have hr := Bd.returns
  have hts := atoms_spec (ws := wsX0_allWorth) Bd.pre
  have hown : s.vm.findClass RX0 = some m.cls := findClass_of_methodNamed Bd.named
  have hlocks := Bd.notSynchronized
  subst hsz
  have hD := hD0.self (sz := s.heap.size)
  generalize hAe : va_A (wH A cI hh) s.heap.size = G at hD ⊢
  have hA : ∀ q : Nat, s.heap.size ≤ q → G q := fun q h => by rw [← hAe]; exact Or.inr h
  have hS : va_S G s.heap s.heap [] := va_S.rf
  have hP : va_P D vwCl (wH A cI hh) s.heap := hP
  have hl := lv_entry ([.ref (A 0)]) (n := 3) (Nat.le_of_ble_eq_true rfl)
  rw [lg_entry_eq]
  generalize (lg_sl ([.ref (A 0)]) ++ List.replicate (3 - (lg_sl ([.ref (A 0)])).length) Slot.unset).toArray = ls at hl ⊢
  have hl : lv_has ls 3 [(0, .ref (A 0))] := hl
  have hinH : ∀ w ∈ wsX00, w ∈ wsX0_allWorth := by decide +kernel
  have lk0 := hts (.fieldLink RX0 42 "LiesBoughtBack$Hall" "cards" "I") (by decide +kernel)
  refine W_in ?_
  intro WW hWW
  refine (hWW _ _ _).mpr ?_
  unfold f_X0_allWorth at hf
  refine lv_iconst (v := (0 : Int32)) hx hb dX0_allWorth_0 (by decide) ?_
  refine lv_istore_n (lv' := [(1, .int (0 : Int32)), (0, .ref (A 0))]) hx hb dX0_allWorth_1 rfl hl (by decide) rfl (fun ls hl => ?_)
  refine lv_iconst (v := (0 : Int32)) hx hb dX0_allWorth_2 (by decide) ?_
  refine lv_istore_n (lv' := [(2, .int (0 : Int32)), (1, .int (0 : Int32)), (0, .ref (A 0))]) hx hb dX0_allWorth_3 rfl hl (by decide) rfl (fun ls hl => ?_)
  obtain ⟨K26, hK26, hf⟩ := jnS hf
  have J26 : ∀ (j1_26 : Int32) (H : Heap) (locs : List Loc) (ls : Array Slot), K26 j1_26 = some out → va_P D vwCl (wH A cI hh) H → va_D G (wH A cI hh) → va_S G s.heap H locs → lv_has ls 3 [(1, .int j1_26)] → WW H locs (F0 m 26 ls []) := by
    intro j1_26 H locs ls hf hP hD hS hl
    subst hK26
    refine (hWW _ _ _).mpr ?_
    refine lv_iload_n hx hb dX0_allWorth_26 rfl (lv_at hl 0 rfl) ?_
    obtain rfl := Option.some.inj hf
    exact W.iret (v := j1_26) hx hb hr (fun t ht hW => ⟨⟨j1_26, (), rfl, rfl, hPt ht hP⟩, hS.F ht⟩) hS.2.2 dX0_allWorth_27
  have P4 : ∀ (n' : Nat) (j1_4 : Int32) (j2_4 : Int32) (H : Heap) (locs : List Loc) (ls : Array Slot), L_X0_allWorth_4 hh K26 n' j1_4 j2_4 = some out → va_P D vwCl (wH A cI hh) H → va_D G (wH A cI hh) → va_S G s.heap H locs → lv_has ls 3 [(0, .ref (A 0)), (1, .int j1_4), (2, .int j2_4)] → WW H locs (F0 m 4 ls []) := by
    intro n'
    induction n' with
    | zero => intro j1_4 j2_4 H locs ls hf; exact absurd (show (none : Option (Int32)) = some out from hf) (fun q => by cases q)
    | succ n' ih =>
      intro j1_4 j2_4 H locs ls hf hP hD hS hl
      rw [L_X0_allWorth_4] at hf
      refine (hWW _ _ _).mpr ?_
      refine lv_iload_n hx hb dX0_allWorth_4 rfl (lv_at hl 2 rfl) ?_
      refine lv_aload_n hx hb dX0_allWorth_5 rfl (lv_at hl 0 rfl) ?_
      refine va_get (D := D) (ci := 0) (v := .int (hh 10 0)) (C := RX0) (T := TX0) (N := 13) hx hb hts hinH hown hK hP 0 rfl rfl 0 (by decide) lk0 (fun _ h9 => h9) rfl dX0_allWorth_6 ?_
      refine lv_icmp_ge (tgt := 26) hx hb dX0_allWorth_9 (by decide) (fun c1 => ?_) (fun c1 => ?_)
      · have hf := hT hf c1
        exact (hWW _ _ _).mp (J26 _ _ _ _ hf hP hD hS (lv_sub hl [1] rfl))
      · have hf := hF hf c1
        refine lv_iload_n hx hb dX0_allWorth_12 rfl (lv_at hl 1 rfl) ?_
        refine lv_aload_n hx hb dX0_allWorth_13 rfl (lv_at hl 0 rfl) ?_
        refine lv_iload_n hx hb dX0_allWorth_14 rfl (lv_at hl 2 rfl) ?_
        refine rV_io (As := [.int j2_4]) (rest := [.int j1_4]) ⟨hx, hb, hml, hown, hts⟩ hK hN hA hP hD hS (c_X0_worth l D cI A j2_4 hh (f_X0_worth j2_4 hh) rfl) (cwV 1 hts gX0_allWorth_X0_worth rfl rfl rfl hd_X0_worth ⟨Nat.le_of_ble_eq_true rfl, Nat.le_of_ble_eq_true rfl⟩) (va_recv hK hP (ci := 0) (q0 := 0) rfl rfl) [0, 1, 2, 3, 4, 5, 6, 7, 8, 9, 10] (by decide) rfl rfl hl.1 rfl (Nat.le_of_ble_eq_true rfl) dX0_allWorth_15 ⟨Nat.le_of_ble_eq_true rfl, Nat.le_of_ble_eq_true rfl⟩ (fun H locs hP hD hS => ?_)
        refine lv_iadd hx hb dX0_allWorth_18 ?_
        refine lv_istore_n (lv' := [(1, .int (j1_4 + (f_X0_worth j2_4 hh))), (0, .ref (A 0)), (2, .int j2_4)]) hx hb dX0_allWorth_19 rfl hl (by decide) rfl (fun ls hl => ?_)
        refine lv_iinc (v := (j2_4 + (1 : Int32))) (lv' := [(2, .int (j2_4 + (1 : Int32))), (1, .int (j1_4 + (f_X0_worth j2_4 hh))), (0, .ref (A 0))]) hx hb dX0_allWorth_20 hl (k := 2) rfl rfl (by decide) rfl (fun ls hl => ?_)
        refine lv_goto (tgt := 4) hx hb dX0_allWorth_23 (by decide) ?_
        exact (hWW _ _ _).mp (ih _ _ _ _ _ hf hP hD hS (lv_sub hl [2, 1, 0] rfl))
  exact (hWW _ _ _).mp (P4 _ _ _ _ _ _ hf hP hD hS (lv_sub hl [2, 1, 0] rfl))
set_option maxHeartbeats 4000000 in
set_option maxRecDepth 100000 in
theorem c_X0_addCard (l : Launch) (D : va_G) (cI : ClassId) (A : Nat → Nat) (j1 : Int32) (j2 : Int32) (j3 : Int32) (hh : HS) (out : Int32 × HS) (hf : f_X0_addCard j1 j2 j3 hh = some out) : uI l D cI yX0_addCard wsX0_addCard ({ frames := 1, cells := 0, slots := 0, locals := 22 } : Room) [.ref (A 0), .int j1, .int j2, .int j3] (wH A cI hh) (wH A cI out.2) out.1 := by
  intro sz
  refine Met.ofW (cc := cX0_addCard) (maxL := 4) (ret := (some .boolean)) (by decide) rfl ?_
  intro p e s m args below meth c s₁ Bd hml hv
  obtain ⟨rfl, hsz, hP, hK, hD0, hN⟩ := hv
  have hx := Bd.exec
  have hb := Bd.bytes
  have hr := Bd.returns
  have hts := atoms_spec (ws := wsX0_addCard) Bd.pre
  have hown : s.vm.findClass RX0 = some m.cls := findClass_of_methodNamed Bd.named
  have hlocks := Bd.notSynchronized
  subst hsz
  have hD := hD0.self (sz := s.heap.size)
  generalize hAe : va_A (wH A cI hh) s.heap.size = G at hD ⊢
  have hA : ∀ q : Nat, s.heap.size ≤ q → G q := fun q h => by rw [← hAe]; exact Or.inr h
  have hS : va_S G s.heap s.heap [] := va_S.rf
  have hP : va_P D vwCl (wH A cI hh) s.heap := hP
  have hl := lv_entry ([.ref (A 0), .int j1, .int j2, .int j3]) (n := 4) (Nat.le_of_ble_eq_true rfl)
  rw [lg_entry_eq]
  generalize (lg_sl ([.ref (A 0), .int j1, .int j2, .int j3]) ++ List.replicate (4 - (lg_sl ([.ref (A 0), .int j1, .int j2, .int j3])).length) Slot.unset).toArray = ls at hl ⊢
  have hl : lv_has ls 4 [(0, .ref (A 0)), (1, .int j1), (2, .int j2), (3, .int j3)] := hl
  have hinH : ∀ w ∈ wsX00, w ∈ wsX0_addCard := by decide +kernel
  have lk0 := hts (.fieldLink RX0 42 "LiesBoughtBack$Hall" "cards" "I") (by decide +kernel)
  have lk1 := hts (.fieldLink RX0 9 "LiesBoughtBack$Hall" "cardKind" "[I") (by decide +kernel)
  have lk2 := hts (.initialized RX1) (by decide +kernel)
  have lk3 := hts (.static yX1_put) (by decide +kernel)
  have lk4 := hts (.fieldLink RX0 15 "LiesBoughtBack$Hall" "cardFigure" "[I") (by decide +kernel)
  have lk5 := hts (.fieldLink RX0 18 "LiesBoughtBack$Hall" "teller" "[I") (by decide +kernel)
  have lk6 := hts (.fieldLink RX0 21 "LiesBoughtBack$Hall" "age" "[I") (by decide +kernel)
  have lk7 := hts (.fieldLink RX0 24 "LiesBoughtBack$Hall" "holder" "[I") (by decide +kernel)
  have lk8 := hts (.fieldLink RX0 27 "LiesBoughtBack$Hall" "order" "[I") (by decide +kernel)
  refine W_in ?_
  intro WW hWW
  refine (hWW _ _ _).mpr ?_
  unfold f_X0_addCard at hf
  refine lv_aload_n hx hb dX0_addCard_0 rfl (lv_at hl 0 rfl) ?_
  refine va_get (D := D) (ci := 0) (v := .int (hh 10 0)) (C := RX0) (T := TX0) (N := 13) hx hb hts hinH hown hK hP 0 rfl rfl 0 (by decide) lk0 (fun _ h9 => h9) rfl dX0_addCard_1 ?_
  refine lv_bipush (v := (8 : Int32)) hx hb dX0_addCard_4 (by decide) ?_
  refine lv_icmp_ge (tgt := 15) hx hb dX0_addCard_6 (by decide) (fun c1 => ?_) (fun c1 => ?_)
  · have hf := hT hf c1
    refine lv_iconst (v := (0 : Int32)) hx hb dX0_addCard_15 (by decide) ?_
    obtain rfl := Option.some.inj hf
    exact W.zret (ty := .boolean) (v := (0 : Int32)) hx hb hr rfl (fun t ht hW => ⟨⟨(0 : Int32), (), rfl, rfl, hPt ht hP⟩, hS.F ht⟩) hS.2.2 dX0_addCard_16
  · have hf := hF hf c1
    refine lv_iload_n hx hb dX0_addCard_9 rfl (lv_at hl 3 rfl) ?_
    refine lv_bipush (v := (6 : Int32)) hx hb dX0_addCard_10 (by decide) ?_
    refine lv_icmp_lt (tgt := 17) hx hb dX0_addCard_12 (by decide) (fun c2 => ?_) (fun c2 => ?_)
    · have hf := hT hf c2
      refine lv_aload_n hx hb dX0_addCard_17 rfl (lv_at hl 0 rfl) ?_
      refine va_get (D := D) (ci := 0) (v := .ref (A 1)) (C := RX0) (T := TX0) (N := 13) hx hb hts hinH hown hK hP 0 rfl rfl 3 (by decide) lk1 (fun _ h9 => h9) rfl dX0_addCard_18 ?_
      refine lv_aload_n hx hb dX0_addCard_21 rfl (lv_at hl 0 rfl) ?_
      refine va_get (D := D) (ci := 0) (v := .int (hh 10 0)) (C := RX0) (T := TX0) (N := 13) hx hb hts hinH hown hK hP 0 rfl rfl 0 (by decide) lk0 (fun _ h9 => h9) rfl dX0_addCard_22 ?_
      refine lv_iload_n hx hb dX0_addCard_25 rfl (lv_at hl 1 rfl) ?_
      obtain ⟨hh_v3, ehh_v3, hf⟩ := jnS hf
      refine rSN_v (ws' := (wH A cI hh_v3)) (As := [.ref (A 1), .int (hh 10 0), .int j1]) (rest := []) ⟨hx, hb, hml, hown, hts⟩ hK hN hA hP hD hS (c_X1_put l D cI 8 (by decide) (A 1) (hh 0) (hh 10 0) j1) ⟨va_cnB 3 hts gX0_addCard_X1_put_n64 rfl rfl rfl (nW.m hN 4 rfl) lk2 hd_X1_put.2 ⟨Nat.le_of_ble_eq_true rfl, Nat.le_of_ble_eq_true rfl⟩, lk3, trivial⟩ [1] (by decide) rfl rfl ((sa_X0_h_0 A cI hh (ptv 8 (hh 0) (hh 10 0) j1)).trans (congrArg (fun z => wH A cI z) ehh_v3.symm)) rfl hl.1 rfl (Nat.le_of_ble_eq_true rfl) dX0_addCard_26 ⟨Nat.le_of_ble_eq_true rfl, Nat.le_of_ble_eq_true rfl⟩ (fun H locs hP hD hS => ?_)
      refine lv_aload_n hx hb dX0_addCard_29 rfl (lv_at hl 0 rfl) ?_
      refine va_get (D := D) (ci := 0) (v := .ref (A 2)) (C := RX0) (T := TX0) (N := 13) hx hb hts hinH hown hK hP 0 rfl rfl 4 (by decide) lk4 (fun _ h9 => h9) rfl dX0_addCard_30 ?_
      refine lv_aload_n hx hb dX0_addCard_33 rfl (lv_at hl 0 rfl) ?_
      refine va_get (D := D) (ci := 0) (v := .int (hh_v3 10 0)) (C := RX0) (T := TX0) (N := 13) hx hb hts hinH hown hK hP 0 rfl rfl 0 (by decide) lk0 (fun _ h9 => h9) rfl dX0_addCard_34 ?_
      refine lv_iload_n hx hb dX0_addCard_37 rfl (lv_at hl 2 rfl) ?_
      obtain ⟨hh_v4, ehh_v4, hf⟩ := jnS hf
      refine rSN_v (ws' := (wH A cI hh_v4)) (As := [.ref (A 2), .int (hh_v3 10 0), .int j2]) (rest := []) ⟨hx, hb, hml, hown, hts⟩ hK hN hA hP hD hS (c_X1_put l D cI 8 (by decide) (A 2) (hh_v3 1) (hh_v3 10 0) j2) ⟨va_cnB 3 hts gX0_addCard_X1_put_n64 rfl rfl rfl (nW.m hN 4 rfl) lk2 hd_X1_put.2 ⟨Nat.le_of_ble_eq_true rfl, Nat.le_of_ble_eq_true rfl⟩, lk3, trivial⟩ [2] (by decide) rfl rfl ((sa_X0_h_1 A cI hh_v3 (ptv 8 (hh_v3 1) (hh_v3 10 0) j2)).trans (congrArg (fun z => wH A cI z) ehh_v4.symm)) rfl hl.1 rfl (Nat.le_of_ble_eq_true rfl) dX0_addCard_38 ⟨Nat.le_of_ble_eq_true rfl, Nat.le_of_ble_eq_true rfl⟩ (fun H locs hP hD hS => ?_)
      refine lv_aload_n hx hb dX0_addCard_41 rfl (lv_at hl 0 rfl) ?_
      refine va_get (D := D) (ci := 0) (v := .ref (A 3)) (C := RX0) (T := TX0) (N := 13) hx hb hts hinH hown hK hP 0 rfl rfl 5 (by decide) lk5 (fun _ h9 => h9) rfl dX0_addCard_42 ?_
      refine lv_aload_n hx hb dX0_addCard_45 rfl (lv_at hl 0 rfl) ?_
      refine va_get (D := D) (ci := 0) (v := .int (hh_v4 10 0)) (C := RX0) (T := TX0) (N := 13) hx hb hts hinH hown hK hP 0 rfl rfl 0 (by decide) lk0 (fun _ h9 => h9) rfl dX0_addCard_46 ?_
      refine lv_iload_n hx hb dX0_addCard_49 rfl (lv_at hl 3 rfl) ?_
      obtain ⟨hh_v5, ehh_v5, hf⟩ := jnS hf
      refine rSN_v (ws' := (wH A cI hh_v5)) (As := [.ref (A 3), .int (hh_v4 10 0), .int j3]) (rest := []) ⟨hx, hb, hml, hown, hts⟩ hK hN hA hP hD hS (c_X1_put l D cI 8 (by decide) (A 3) (hh_v4 2) (hh_v4 10 0) j3) ⟨va_cnB 3 hts gX0_addCard_X1_put_n64 rfl rfl rfl (nW.m hN 4 rfl) lk2 hd_X1_put.2 ⟨Nat.le_of_ble_eq_true rfl, Nat.le_of_ble_eq_true rfl⟩, lk3, trivial⟩ [3] (by decide) rfl rfl ((sa_X0_h_2 A cI hh_v4 (ptv 8 (hh_v4 2) (hh_v4 10 0) j3)).trans (congrArg (fun z => wH A cI z) ehh_v5.symm)) rfl hl.1 rfl (Nat.le_of_ble_eq_true rfl) dX0_addCard_50 ⟨Nat.le_of_ble_eq_true rfl, Nat.le_of_ble_eq_true rfl⟩ (fun H locs hP hD hS => ?_)
      refine lv_aload_n hx hb dX0_addCard_53 rfl (lv_at hl 0 rfl) ?_
      refine va_get (D := D) (ci := 0) (v := .ref (A 4)) (C := RX0) (T := TX0) (N := 13) hx hb hts hinH hown hK hP 0 rfl rfl 6 (by decide) lk6 (fun _ h9 => h9) rfl dX0_addCard_54 ?_
      refine lv_aload_n hx hb dX0_addCard_57 rfl (lv_at hl 0 rfl) ?_
      refine va_get (D := D) (ci := 0) (v := .int (hh_v5 10 0)) (C := RX0) (T := TX0) (N := 13) hx hb hts hinH hown hK hP 0 rfl rfl 0 (by decide) lk0 (fun _ h9 => h9) rfl dX0_addCard_58 ?_
      refine lv_iconst (v := (0 : Int32)) hx hb dX0_addCard_61 (by decide) ?_
      obtain ⟨hh_v6, ehh_v6, hf⟩ := jnS hf
      refine rSN_v (ws' := (wH A cI hh_v6)) (As := [.ref (A 4), .int (hh_v5 10 0), .int (0 : Int32)]) (rest := []) ⟨hx, hb, hml, hown, hts⟩ hK hN hA hP hD hS (c_X1_put l D cI 8 (by decide) (A 4) (hh_v5 3) (hh_v5 10 0) (0 : Int32)) ⟨va_cnB 3 hts gX0_addCard_X1_put_n64 rfl rfl rfl (nW.m hN 4 rfl) lk2 hd_X1_put.2 ⟨Nat.le_of_ble_eq_true rfl, Nat.le_of_ble_eq_true rfl⟩, lk3, trivial⟩ [4] (by decide) rfl rfl ((sa_X0_h_3 A cI hh_v5 (ptv 8 (hh_v5 3) (hh_v5 10 0) (0 : Int32))).trans (congrArg (fun z => wH A cI z) ehh_v6.symm)) rfl hl.1 rfl (Nat.le_of_ble_eq_true rfl) dX0_addCard_62 ⟨Nat.le_of_ble_eq_true rfl, Nat.le_of_ble_eq_true rfl⟩ (fun H locs hP hD hS => ?_)
      refine lv_aload_n hx hb dX0_addCard_65 rfl (lv_at hl 0 rfl) ?_
      refine va_get (D := D) (ci := 0) (v := .ref (A 5)) (C := RX0) (T := TX0) (N := 13) hx hb hts hinH hown hK hP 0 rfl rfl 7 (by decide) lk7 (fun _ h9 => h9) rfl dX0_addCard_66 ?_
      refine lv_aload_n hx hb dX0_addCard_69 rfl (lv_at hl 0 rfl) ?_
      refine va_get (D := D) (ci := 0) (v := .int (hh_v6 10 0)) (C := RX0) (T := TX0) (N := 13) hx hb hts hinH hown hK hP 0 rfl rfl 0 (by decide) lk0 (fun _ h9 => h9) rfl dX0_addCard_70 ?_
      refine lv_bipush (v := (-9 : Int32)) hx hb dX0_addCard_73 (by decide) ?_
      obtain ⟨hh_v7, ehh_v7, hf⟩ := jnS hf
      refine rSN_v (ws' := (wH A cI hh_v7)) (As := [.ref (A 5), .int (hh_v6 10 0), .int (-9 : Int32)]) (rest := []) ⟨hx, hb, hml, hown, hts⟩ hK hN hA hP hD hS (c_X1_put l D cI 8 (by decide) (A 5) (hh_v6 4) (hh_v6 10 0) (-9 : Int32)) ⟨va_cnB 3 hts gX0_addCard_X1_put_n64 rfl rfl rfl (nW.m hN 4 rfl) lk2 hd_X1_put.2 ⟨Nat.le_of_ble_eq_true rfl, Nat.le_of_ble_eq_true rfl⟩, lk3, trivial⟩ [5] (by decide) rfl rfl ((sa_X0_h_4 A cI hh_v6 (ptv 8 (hh_v6 4) (hh_v6 10 0) (-9 : Int32))).trans (congrArg (fun z => wH A cI z) ehh_v7.symm)) rfl hl.1 rfl (Nat.le_of_ble_eq_true rfl) dX0_addCard_75 ⟨Nat.le_of_ble_eq_true rfl, Nat.le_of_ble_eq_true rfl⟩ (fun H locs hP hD hS => ?_)
      refine lv_aload_n hx hb dX0_addCard_78 rfl (lv_at hl 0 rfl) ?_
      refine va_get (D := D) (ci := 0) (v := .ref (A 6)) (C := RX0) (T := TX0) (N := 13) hx hb hts hinH hown hK hP 0 rfl rfl 8 (by decide) lk8 (fun _ h9 => h9) rfl dX0_addCard_79 ?_
      refine lv_aload_n hx hb dX0_addCard_82 rfl (lv_at hl 0 rfl) ?_
      refine va_get (D := D) (ci := 0) (v := .int (hh_v7 10 0)) (C := RX0) (T := TX0) (N := 13) hx hb hts hinH hown hK hP 0 rfl rfl 0 (by decide) lk0 (fun _ h9 => h9) rfl dX0_addCard_83 ?_
      refine lv_aload_n hx hb dX0_addCard_86 rfl (lv_at hl 0 rfl) ?_
      refine va_get (D := D) (ci := 0) (v := .int (hh_v7 10 0)) (C := RX0) (T := TX0) (N := 13) hx hb hts hinH hown hK hP 0 rfl rfl 0 (by decide) lk0 (fun _ h9 => h9) rfl dX0_addCard_87 ?_
      obtain ⟨hh_v8, ehh_v8, hf⟩ := jnS hf
      refine rSN_v (ws' := (wH A cI hh_v8)) (As := [.ref (A 6), .int (hh_v7 10 0), .int (hh_v7 10 0)]) (rest := []) ⟨hx, hb, hml, hown, hts⟩ hK hN hA hP hD hS (c_X1_put l D cI 8 (by decide) (A 6) (hh_v7 5) (hh_v7 10 0) (hh_v7 10 0)) ⟨va_cnB 3 hts gX0_addCard_X1_put_n64 rfl rfl rfl (nW.m hN 4 rfl) lk2 hd_X1_put.2 ⟨Nat.le_of_ble_eq_true rfl, Nat.le_of_ble_eq_true rfl⟩, lk3, trivial⟩ [6] (by decide) rfl rfl ((sa_X0_h_5 A cI hh_v7 (ptv 8 (hh_v7 5) (hh_v7 10 0) (hh_v7 10 0))).trans (congrArg (fun z => wH A cI z) ehh_v8.symm)) rfl hl.1 rfl (Nat.le_of_ble_eq_true rfl) dX0_addCard_90 ⟨Nat.le_of_ble_eq_true rfl, Nat.le_of_ble_eq_true rfl⟩ (fun H locs hP hD hS => ?_)
      refine lv_aload_n hx hb dX0_addCard_93 rfl (lv_at hl 0 rfl) ?_
      refine lv_dup hx hb dX0_addCard_94 rfl ?_
      refine va_get (D := D) (ci := 0) (v := .int (hh_v8 10 0)) (C := RX0) (T := TX0) (N := 13) hx hb hts hinH hown hK hP 0 rfl rfl 0 (by decide) lk0 (fun _ h9 => h9) rfl dX0_addCard_95 ?_
      refine lv_iconst (v := (1 : Int32)) hx hb dX0_addCard_98 (by decide) ?_
      refine lv_iadd hx hb dX0_addCard_99 ?_
      obtain ⟨hh_v9, ehh_v9, hf⟩ := jnS hf
      refine va_put (D := D) (ci := 0) (v := .int ((hh_v8 10 0) + (1 : Int32))) (ty := .int) (C := RX0) (T := TX0) (N := 13) hx hb hts hinH tyX0 tyX0_ok nmX0 hown hK hP hD hS 0 rfl rfl 0 (by decide) lk0 (fun _ h9 => h9) rfl (by decide +kernel) rfl rfl (Nat.le_of_ble_eq_true rfl) dX0_addCard_100 (fun H locs hP hD hS => ?_)
      have hE : _ = (wH A cI hh_v9) := ((sf_X0_h_10 A cI hh_v8 ((hh_v8 10 0) + (1 : Int32))).trans (congrArg (fun z => wH A cI z) ehh_v9.symm))
      have hP : va_P D vwCl (wH A cI hh_v9) H := hE ▸ hP
      have hD : va_D G (wH A cI hh_v9) := hE ▸ hD
      refine lv_iconst (v := (1 : Int32)) hx hb dX0_addCard_103 (by decide) ?_
      obtain rfl := Option.some.inj hf
      exact W.zret (ty := .boolean) (v := (1 : Int32)) hx hb hr rfl (fun t ht hW => ⟨⟨(1 : Int32), (), rfl, rfl, hPt ht hP⟩, hS.F ht⟩) hS.2.2 dX0_addCard_104
    · have hf := hF hf c2
      refine lv_iconst (v := (0 : Int32)) hx hb dX0_addCard_15 (by decide) ?_
      obtain rfl := Option.some.inj hf
      exact W.zret (ty := .boolean) (v := (0 : Int32)) hx hb hr rfl (fun t ht hW => ⟨⟨(0 : Int32), (), rfl, rfl, hPt ht hP⟩, hS.F ht⟩) hS.2.2 dX0_addCard_16
set_option maxHeartbeats 4000000 in
set_option maxRecDepth 100000 in
theorem c_X0_addBidder (l : Launch) (D : va_G) (cI : ClassId) (A : Nat → Nat) (j1 : Int32) (j2 : Int32) (j3 : Int32) (hh : HS) (out : Int32 × HS) (hf : f_X0_addBidder j1 j2 j3 hh = some out) : uI l D cI yX0_addBidder wsX0_addBidder ({ frames := 1, cells := 0, slots := 0, locals := 22 } : Room) [.ref (A 0), .int j1, .int j2, .int j3] (wH A cI hh) (wH A cI out.2) out.1 := by
  intro sz
  refine Met.ofW (cc := cX0_addBidder) (maxL := 4) (ret := (some .boolean)) (by decide) rfl ?_
  intro p e s m args below meth c s₁ Bd hml hv
  obtain ⟨rfl, hsz, hP, hK, hD0, hN⟩ := hv
  have hx := Bd.exec
  have hb := Bd.bytes
  have hr := Bd.returns
  have hts := atoms_spec (ws := wsX0_addBidder) Bd.pre
  have hown : s.vm.findClass RX0 = some m.cls := findClass_of_methodNamed Bd.named
  have hlocks := Bd.notSynchronized
  subst hsz
  have hD := hD0.self (sz := s.heap.size)
  generalize hAe : va_A (wH A cI hh) s.heap.size = G at hD ⊢
  have hA : ∀ q : Nat, s.heap.size ≤ q → G q := fun q h => by rw [← hAe]; exact Or.inr h
  have hS : va_S G s.heap s.heap [] := va_S.rf
  have hP : va_P D vwCl (wH A cI hh) s.heap := hP
  have hl := lv_entry ([.ref (A 0), .int j1, .int j2, .int j3]) (n := 4) (Nat.le_of_ble_eq_true rfl)
  rw [lg_entry_eq]
  generalize (lg_sl ([.ref (A 0), .int j1, .int j2, .int j3]) ++ List.replicate (4 - (lg_sl ([.ref (A 0), .int j1, .int j2, .int j3])).length) Slot.unset).toArray = ls at hl ⊢
  have hl : lv_has ls 4 [(0, .ref (A 0)), (1, .int j1), (2, .int j2), (3, .int j3)] := hl
  have hinH : ∀ w ∈ wsX00, w ∈ wsX0_addBidder := by decide +kernel
  have lk0 := hts (.fieldLink RX0 46 "LiesBoughtBack$Hall" "bidders" "I") (by decide +kernel)
  have lk1 := hts (.fieldLink RX0 30 "LiesBoughtBack$Hall" "bidderKind" "[I") (by decide +kernel)
  have lk2 := hts (.initialized RX1) (by decide +kernel)
  have lk3 := hts (.static yX1_put) (by decide +kernel)
  have lk4 := hts (.fieldLink RX0 33 "LiesBoughtBack$Hall" "bidderFigure" "[I") (by decide +kernel)
  have lk5 := hts (.fieldLink RX0 36 "LiesBoughtBack$Hall" "purse" "[I") (by decide +kernel)
  have lk6 := hts (.fieldLink RX0 39 "LiesBoughtBack$Hall" "believed" "[I") (by decide +kernel)
  refine W_in ?_
  intro WW hWW
  refine (hWW _ _ _).mpr ?_
  unfold f_X0_addBidder at hf
  refine lv_aload_n hx hb dX0_addBidder_0 rfl (lv_at hl 0 rfl) ?_
  refine va_get (D := D) (ci := 0) (v := .int (hh 11 0)) (C := RX0) (T := TX0) (N := 13) hx hb hts hinH hown hK hP 0 rfl rfl 1 (by decide) lk0 (fun _ h9 => h9) rfl dX0_addBidder_1 ?_
  refine lv_bipush (v := (6 : Int32)) hx hb dX0_addBidder_4 (by decide) ?_
  refine lv_icmp_lt (tgt := 11) hx hb dX0_addBidder_6 (by decide) (fun c1 => ?_) (fun c1 => ?_)
  · have hf := hT hf c1
    refine lv_aload_n hx hb dX0_addBidder_11 rfl (lv_at hl 0 rfl) ?_
    refine va_get (D := D) (ci := 0) (v := .ref (A 7)) (C := RX0) (T := TX0) (N := 13) hx hb hts hinH hown hK hP 0 rfl rfl 9 (by decide) lk1 (fun _ h9 => h9) rfl dX0_addBidder_12 ?_
    refine lv_aload_n hx hb dX0_addBidder_15 rfl (lv_at hl 0 rfl) ?_
    refine va_get (D := D) (ci := 0) (v := .int (hh 11 0)) (C := RX0) (T := TX0) (N := 13) hx hb hts hinH hown hK hP 0 rfl rfl 1 (by decide) lk0 (fun _ h9 => h9) rfl dX0_addBidder_16 ?_
    refine lv_iload_n hx hb dX0_addBidder_19 rfl (lv_at hl 1 rfl) ?_
    obtain ⟨hh_v2, ehh_v2, hf⟩ := jnS hf
    refine rSN_v (ws' := (wH A cI hh_v2)) (As := [.ref (A 7), .int (hh 11 0), .int j1]) (rest := []) ⟨hx, hb, hml, hown, hts⟩ hK hN hA hP hD hS (c_X1_put l D cI 6 (by decide) (A 7) (hh 6) (hh 11 0) j1) ⟨va_cnB 3 hts gX0_addBidder_X1_put_n64 rfl rfl rfl (nW.m hN 4 rfl) lk2 hd_X1_put.2 ⟨Nat.le_of_ble_eq_true rfl, Nat.le_of_ble_eq_true rfl⟩, lk3, trivial⟩ [7] (by decide) rfl rfl ((sa_X0_h_6 A cI hh (ptv 6 (hh 6) (hh 11 0) j1)).trans (congrArg (fun z => wH A cI z) ehh_v2.symm)) rfl hl.1 rfl (Nat.le_of_ble_eq_true rfl) dX0_addBidder_20 ⟨Nat.le_of_ble_eq_true rfl, Nat.le_of_ble_eq_true rfl⟩ (fun H locs hP hD hS => ?_)
    refine lv_aload_n hx hb dX0_addBidder_23 rfl (lv_at hl 0 rfl) ?_
    refine va_get (D := D) (ci := 0) (v := .ref (A 8)) (C := RX0) (T := TX0) (N := 13) hx hb hts hinH hown hK hP 0 rfl rfl 10 (by decide) lk4 (fun _ h9 => h9) rfl dX0_addBidder_24 ?_
    refine lv_aload_n hx hb dX0_addBidder_27 rfl (lv_at hl 0 rfl) ?_
    refine va_get (D := D) (ci := 0) (v := .int (hh_v2 11 0)) (C := RX0) (T := TX0) (N := 13) hx hb hts hinH hown hK hP 0 rfl rfl 1 (by decide) lk0 (fun _ h9 => h9) rfl dX0_addBidder_28 ?_
    refine lv_iload_n hx hb dX0_addBidder_31 rfl (lv_at hl 2 rfl) ?_
    obtain ⟨hh_v3, ehh_v3, hf⟩ := jnS hf
    refine rSN_v (ws' := (wH A cI hh_v3)) (As := [.ref (A 8), .int (hh_v2 11 0), .int j2]) (rest := []) ⟨hx, hb, hml, hown, hts⟩ hK hN hA hP hD hS (c_X1_put l D cI 6 (by decide) (A 8) (hh_v2 7) (hh_v2 11 0) j2) ⟨va_cnB 3 hts gX0_addBidder_X1_put_n64 rfl rfl rfl (nW.m hN 4 rfl) lk2 hd_X1_put.2 ⟨Nat.le_of_ble_eq_true rfl, Nat.le_of_ble_eq_true rfl⟩, lk3, trivial⟩ [8] (by decide) rfl rfl ((sa_X0_h_7 A cI hh_v2 (ptv 6 (hh_v2 7) (hh_v2 11 0) j2)).trans (congrArg (fun z => wH A cI z) ehh_v3.symm)) rfl hl.1 rfl (Nat.le_of_ble_eq_true rfl) dX0_addBidder_32 ⟨Nat.le_of_ble_eq_true rfl, Nat.le_of_ble_eq_true rfl⟩ (fun H locs hP hD hS => ?_)
    refine lv_aload_n hx hb dX0_addBidder_35 rfl (lv_at hl 0 rfl) ?_
    refine va_get (D := D) (ci := 0) (v := .ref (A 9)) (C := RX0) (T := TX0) (N := 13) hx hb hts hinH hown hK hP 0 rfl rfl 11 (by decide) lk5 (fun _ h9 => h9) rfl dX0_addBidder_36 ?_
    refine lv_aload_n hx hb dX0_addBidder_39 rfl (lv_at hl 0 rfl) ?_
    refine va_get (D := D) (ci := 0) (v := .int (hh_v3 11 0)) (C := RX0) (T := TX0) (N := 13) hx hb hts hinH hown hK hP 0 rfl rfl 1 (by decide) lk0 (fun _ h9 => h9) rfl dX0_addBidder_40 ?_
    refine lv_iload_n hx hb dX0_addBidder_43 rfl (lv_at hl 3 rfl) ?_
    obtain ⟨hh_v4, ehh_v4, hf⟩ := jnS hf
    refine rSN_v (ws' := (wH A cI hh_v4)) (As := [.ref (A 9), .int (hh_v3 11 0), .int j3]) (rest := []) ⟨hx, hb, hml, hown, hts⟩ hK hN hA hP hD hS (c_X1_put l D cI 6 (by decide) (A 9) (hh_v3 8) (hh_v3 11 0) j3) ⟨va_cnB 3 hts gX0_addBidder_X1_put_n64 rfl rfl rfl (nW.m hN 4 rfl) lk2 hd_X1_put.2 ⟨Nat.le_of_ble_eq_true rfl, Nat.le_of_ble_eq_true rfl⟩, lk3, trivial⟩ [9] (by decide) rfl rfl ((sa_X0_h_8 A cI hh_v3 (ptv 6 (hh_v3 8) (hh_v3 11 0) j3)).trans (congrArg (fun z => wH A cI z) ehh_v4.symm)) rfl hl.1 rfl (Nat.le_of_ble_eq_true rfl) dX0_addBidder_44 ⟨Nat.le_of_ble_eq_true rfl, Nat.le_of_ble_eq_true rfl⟩ (fun H locs hP hD hS => ?_)
    refine lv_aload_n hx hb dX0_addBidder_47 rfl (lv_at hl 0 rfl) ?_
    refine va_get (D := D) (ci := 0) (v := .ref (A 10)) (C := RX0) (T := TX0) (N := 13) hx hb hts hinH hown hK hP 0 rfl rfl 12 (by decide) lk6 (fun _ h9 => h9) rfl dX0_addBidder_48 ?_
    refine lv_aload_n hx hb dX0_addBidder_51 rfl (lv_at hl 0 rfl) ?_
    refine va_get (D := D) (ci := 0) (v := .int (hh_v4 11 0)) (C := RX0) (T := TX0) (N := 13) hx hb hts hinH hown hK hP 0 rfl rfl 1 (by decide) lk0 (fun _ h9 => h9) rfl dX0_addBidder_52 ?_
    refine lv_bipush (v := (50 : Int32)) hx hb dX0_addBidder_55 (by decide) ?_
    obtain ⟨hh_v5, ehh_v5, hf⟩ := jnS hf
    refine rSN_v (ws' := (wH A cI hh_v5)) (As := [.ref (A 10), .int (hh_v4 11 0), .int (50 : Int32)]) (rest := []) ⟨hx, hb, hml, hown, hts⟩ hK hN hA hP hD hS (c_X1_put l D cI 6 (by decide) (A 10) (hh_v4 9) (hh_v4 11 0) (50 : Int32)) ⟨va_cnB 3 hts gX0_addBidder_X1_put_n64 rfl rfl rfl (nW.m hN 4 rfl) lk2 hd_X1_put.2 ⟨Nat.le_of_ble_eq_true rfl, Nat.le_of_ble_eq_true rfl⟩, lk3, trivial⟩ [10] (by decide) rfl rfl ((sa_X0_h_9 A cI hh_v4 (ptv 6 (hh_v4 9) (hh_v4 11 0) (50 : Int32))).trans (congrArg (fun z => wH A cI z) ehh_v5.symm)) rfl hl.1 rfl (Nat.le_of_ble_eq_true rfl) dX0_addBidder_57 ⟨Nat.le_of_ble_eq_true rfl, Nat.le_of_ble_eq_true rfl⟩ (fun H locs hP hD hS => ?_)
    refine lv_aload_n hx hb dX0_addBidder_60 rfl (lv_at hl 0 rfl) ?_
    refine lv_dup hx hb dX0_addBidder_61 rfl ?_
    refine va_get (D := D) (ci := 0) (v := .int (hh_v5 11 0)) (C := RX0) (T := TX0) (N := 13) hx hb hts hinH hown hK hP 0 rfl rfl 1 (by decide) lk0 (fun _ h9 => h9) rfl dX0_addBidder_62 ?_
    refine lv_iconst (v := (1 : Int32)) hx hb dX0_addBidder_65 (by decide) ?_
    refine lv_iadd hx hb dX0_addBidder_66 ?_
    obtain ⟨hh_v6, ehh_v6, hf⟩ := jnS hf
    refine va_put (D := D) (ci := 0) (v := .int ((hh_v5 11 0) + (1 : Int32))) (ty := .int) (C := RX0) (T := TX0) (N := 13) hx hb hts hinH tyX0 tyX0_ok nmX0 hown hK hP hD hS 0 rfl rfl 1 (by decide) lk0 (fun _ h9 => h9) rfl (by decide +kernel) rfl rfl (Nat.le_of_ble_eq_true rfl) dX0_addBidder_67 (fun H locs hP hD hS => ?_)
    have hE : _ = (wH A cI hh_v6) := ((sf_X0_h_11 A cI hh_v5 ((hh_v5 11 0) + (1 : Int32))).trans (congrArg (fun z => wH A cI z) ehh_v6.symm))
    have hP : va_P D vwCl (wH A cI hh_v6) H := hE ▸ hP
    have hD : va_D G (wH A cI hh_v6) := hE ▸ hD
    refine lv_iconst (v := (1 : Int32)) hx hb dX0_addBidder_70 (by decide) ?_
    obtain rfl := Option.some.inj hf
    exact W.zret (ty := .boolean) (v := (1 : Int32)) hx hb hr rfl (fun t ht hW => ⟨⟨(1 : Int32), (), rfl, rfl, hPt ht hP⟩, hS.F ht⟩) hS.2.2 dX0_addBidder_71
  · have hf := hF hf c1
    refine lv_iconst (v := (0 : Int32)) hx hb dX0_addBidder_9 (by decide) ?_
    obtain rfl := Option.some.inj hf
    exact W.zret (ty := .boolean) (v := (0 : Int32)) hx hb hr rfl (fun t ht hW => ⟨⟨(0 : Int32), (), rfl, rfl, hPt ht hP⟩, hS.F ht⟩) hS.2.2 dX0_addBidder_10
set_option maxHeartbeats 4000000 in
set_option maxRecDepth 100000 in
theorem c_X0_fillPurse (l : Launch) (D : va_G) (cI : ClassId) (A : Nat → Nat) (j1 : Int32) (j2 : Int32) (hh : HS) (out : Int32 × HS) (hf : f_X0_fillPurse j1 j2 hh = some out) : uI l D cI yX0_fillPurse wsX0_fillPurse ({ frames := 1, cells := 0, slots := 0, locals := 22 } : Room) [.ref (A 0), .int j1, .int j2] (wH A cI hh) (wH A cI out.2) out.1 := by
  intro sz
  refine Met.ofW (cc := cX0_fillPurse) (maxL := 3) (ret := (some .boolean)) (by decide) rfl ?_
  intro p e s m args below meth c s₁ Bd hml hv
  obtain ⟨rfl, hsz, hP, hK, hD0, hN⟩ := hv
  have hx := Bd.exec
  have hb := Bd.bytes
  have hr := Bd.returns
  have hts := atoms_spec (ws := wsX0_fillPurse) Bd.pre
  have hown : s.vm.findClass RX0 = some m.cls := findClass_of_methodNamed Bd.named
  have hlocks := Bd.notSynchronized
  subst hsz
  have hD := hD0.self (sz := s.heap.size)
  generalize hAe : va_A (wH A cI hh) s.heap.size = G at hD ⊢
  have hA : ∀ q : Nat, s.heap.size ≤ q → G q := fun q h => by rw [← hAe]; exact Or.inr h
  have hS : va_S G s.heap s.heap [] := va_S.rf
  have hP : va_P D vwCl (wH A cI hh) s.heap := hP
  have hl := lv_entry ([.ref (A 0), .int j1, .int j2]) (n := 3) (Nat.le_of_ble_eq_true rfl)
  rw [lg_entry_eq]
  generalize (lg_sl ([.ref (A 0), .int j1, .int j2]) ++ List.replicate (3 - (lg_sl ([.ref (A 0), .int j1, .int j2])).length) Slot.unset).toArray = ls at hl ⊢
  have hl : lv_has ls 3 [(0, .ref (A 0)), (1, .int j1), (2, .int j2)] := hl
  have hinH : ∀ w ∈ wsX00, w ∈ wsX0_fillPurse := by decide +kernel
  have lk0 := hts (.fieldLink RX0 36 "LiesBoughtBack$Hall" "purse" "[I") (by decide +kernel)
  have lk1 := hts (.initialized RX1) (by decide +kernel)
  have lk2 := hts (.static yX1_put) (by decide +kernel)
  refine W_in ?_
  intro WW hWW
  refine (hWW _ _ _).mpr ?_
  unfold f_X0_fillPurse at hf
  refine lv_aload_n hx hb dX0_fillPurse_0 rfl (lv_at hl 0 rfl) ?_
  refine lv_iload_n hx hb dX0_fillPurse_1 rfl (lv_at hl 1 rfl) ?_
  refine rV_io (As := [.int j1]) (rest := []) ⟨hx, hb, hml, hown, hts⟩ hK hN hA hP hD hS (c_X0_hasBidder l D cI A j1 hh (f_X0_hasBidder j1 hh) rfl) (cwV 1 hts gX0_fillPurse_X0_hasBidder rfl rfl rfl hd_X0_hasBidder ⟨Nat.le_of_ble_eq_true rfl, Nat.le_of_ble_eq_true rfl⟩) (va_recv hK hP (ci := 0) (q0 := 0) rfl rfl) [0, 1, 2, 3, 4, 5, 6, 7, 8, 9, 10] (by decide) rfl rfl hl.1 rfl (Nat.le_of_ble_eq_true rfl) dX0_fillPurse_2 ⟨Nat.le_of_ble_eq_true rfl, Nat.le_of_ble_eq_true rfl⟩ (fun H locs hP hD hS => ?_)
  refine lv_if_ne (tgt := 10) hx hb dX0_fillPurse_5 (by decide) (fun c1 => ?_) (fun c1 => ?_)
  · have hf := hF hf c1
    refine lv_aload_n hx hb dX0_fillPurse_10 rfl (lv_at hl 0 rfl) ?_
    refine va_get (D := D) (ci := 0) (v := .ref (A 9)) (C := RX0) (T := TX0) (N := 13) hx hb hts hinH hown hK hP 0 rfl rfl 11 (by decide) lk0 (fun _ h9 => h9) rfl dX0_fillPurse_11 ?_
    refine lv_iload_n hx hb dX0_fillPurse_14 rfl (lv_at hl 1 rfl) ?_
    refine lv_iload_n hx hb dX0_fillPurse_15 rfl (lv_at hl 2 rfl) ?_
    obtain ⟨hh_v2, ehh_v2, hf⟩ := jnS hf
    refine rSN_v (ws' := (wH A cI hh_v2)) (As := [.ref (A 9), .int j1, .int j2]) (rest := []) ⟨hx, hb, hml, hown, hts⟩ hK hN hA hP hD hS (c_X1_put l D cI 6 (by decide) (A 9) (hh 8) j1 j2) ⟨va_cnB 3 hts gX0_fillPurse_X1_put_n64 rfl rfl rfl (nW.m hN 4 rfl) lk1 hd_X1_put.2 ⟨Nat.le_of_ble_eq_true rfl, Nat.le_of_ble_eq_true rfl⟩, lk2, trivial⟩ [9] (by decide) rfl rfl ((sa_X0_h_8 A cI hh (ptv 6 (hh 8) j1 j2)).trans (congrArg (fun z => wH A cI z) ehh_v2.symm)) rfl hl.1 rfl (Nat.le_of_ble_eq_true rfl) dX0_fillPurse_16 ⟨Nat.le_of_ble_eq_true rfl, Nat.le_of_ble_eq_true rfl⟩ (fun H locs hP hD hS => ?_)
    refine lv_iconst (v := (1 : Int32)) hx hb dX0_fillPurse_19 (by decide) ?_
    obtain rfl := Option.some.inj hf
    exact W.zret (ty := .boolean) (v := (1 : Int32)) hx hb hr rfl (fun t ht hW => ⟨⟨(1 : Int32), (), rfl, rfl, hPt ht hP⟩, hS.F ht⟩) hS.2.2 dX0_fillPurse_20
  · have hf := hT hf c1
    refine lv_iconst (v := (0 : Int32)) hx hb dX0_fillPurse_8 (by decide) ?_
    obtain rfl := Option.some.inj hf
    exact W.zret (ty := .boolean) (v := (0 : Int32)) hx hb hr rfl (fun t ht hW => ⟨⟨(0 : Int32), (), rfl, rfl, hPt ht hP⟩, hS.F ht⟩) hS.2.2 dX0_fillPurse_9
set_option maxHeartbeats 4000000 in
set_option maxRecDepth 100000 in
theorem c_X0_layInPile (l : Launch) (D : va_G) (cI : ClassId) (A : Nat → Nat) (j1 : Int32) (hh : HS) (out : Int32 × HS) (hf : f_X0_layInPile j1 hh = some out) : uI l D cI yX0_layInPile wsX0_layInPile ({ frames := 1, cells := 0, slots := 0, locals := 22 } : Room) [.ref (A 0), .int j1] (wH A cI hh) (wH A cI out.2) out.1 := by
  intro sz
  refine Met.ofW (cc := cX0_layInPile) (maxL := 2) (ret := (some .boolean)) (by decide) rfl ?_
  intro p e s m args below meth c s₁ Bd hml hv
  obtain ⟨rfl, hsz, hP, hK, hD0, hN⟩ := hv
  have hx := Bd.exec
  have hb := Bd.bytes
  have hr := Bd.returns
  have hts := atoms_spec (ws := wsX0_layInPile) Bd.pre
  have hown : s.vm.findClass RX0 = some m.cls := findClass_of_methodNamed Bd.named
  have hlocks := Bd.notSynchronized
  subst hsz
  have hD := hD0.self (sz := s.heap.size)
  generalize hAe : va_A (wH A cI hh) s.heap.size = G at hD ⊢
  have hA : ∀ q : Nat, s.heap.size ≤ q → G q := fun q h => by rw [← hAe]; exact Or.inr h
  have hS : va_S G s.heap s.heap [] := va_S.rf
  have hP : va_P D vwCl (wH A cI hh) s.heap := hP
  have hl := lv_entry ([.ref (A 0), .int j1]) (n := 2) (Nat.le_of_ble_eq_true rfl)
  rw [lg_entry_eq]
  generalize (lg_sl ([.ref (A 0), .int j1]) ++ List.replicate (2 - (lg_sl ([.ref (A 0), .int j1])).length) Slot.unset).toArray = ls at hl ⊢
  have hl : lv_has ls 2 [(0, .ref (A 0)), (1, .int j1)] := hl
  have hinH : ∀ w ∈ wsX00, w ∈ wsX0_layInPile := by decide +kernel
  have lk0 := hts (.fieldLink RX0 24 "LiesBoughtBack$Hall" "holder" "[I") (by decide +kernel)
  have lk1 := hts (.initialized RX1) (by decide +kernel)
  have lk2 := hts (.static yX1_put) (by decide +kernel)
  refine W_in ?_
  intro WW hWW
  refine (hWW _ _ _).mpr ?_
  unfold f_X0_layInPile at hf
  refine lv_aload_n hx hb dX0_layInPile_0 rfl (lv_at hl 0 rfl) ?_
  refine lv_iload_n hx hb dX0_layInPile_1 rfl (lv_at hl 1 rfl) ?_
  refine rV_io (As := [.int j1]) (rest := []) ⟨hx, hb, hml, hown, hts⟩ hK hN hA hP hD hS (c_X0_hasCard l D cI A j1 hh (f_X0_hasCard j1 hh) rfl) (cwV 1 hts gX0_layInPile_X0_hasCard rfl rfl rfl hd_X0_hasCard ⟨Nat.le_of_ble_eq_true rfl, Nat.le_of_ble_eq_true rfl⟩) (va_recv hK hP (ci := 0) (q0 := 0) rfl rfl) [0, 1, 2, 3, 4, 5, 6, 7, 8, 9, 10] (by decide) rfl rfl hl.1 rfl (Nat.le_of_ble_eq_true rfl) dX0_layInPile_2 ⟨Nat.le_of_ble_eq_true rfl, Nat.le_of_ble_eq_true rfl⟩ (fun H locs hP hD hS => ?_)
  refine lv_if_ne (tgt := 10) hx hb dX0_layInPile_5 (by decide) (fun c1 => ?_) (fun c1 => ?_)
  · have hf := hF hf c1
    refine lv_aload_n hx hb dX0_layInPile_10 rfl (lv_at hl 0 rfl) ?_
    refine va_get (D := D) (ci := 0) (v := .ref (A 5)) (C := RX0) (T := TX0) (N := 13) hx hb hts hinH hown hK hP 0 rfl rfl 7 (by decide) lk0 (fun _ h9 => h9) rfl dX0_layInPile_11 ?_
    refine lv_iload_n hx hb dX0_layInPile_14 rfl (lv_at hl 1 rfl) ?_
    refine lv_bipush (v := (-9 : Int32)) hx hb dX0_layInPile_15 (by decide) ?_
    obtain ⟨hh_v2, ehh_v2, hf⟩ := jnS hf
    refine rSN_v (ws' := (wH A cI hh_v2)) (As := [.ref (A 5), .int j1, .int (-9 : Int32)]) (rest := []) ⟨hx, hb, hml, hown, hts⟩ hK hN hA hP hD hS (c_X1_put l D cI 8 (by decide) (A 5) (hh 4) j1 (-9 : Int32)) ⟨va_cnB 3 hts gX0_layInPile_X1_put_n64 rfl rfl rfl (nW.m hN 4 rfl) lk1 hd_X1_put.2 ⟨Nat.le_of_ble_eq_true rfl, Nat.le_of_ble_eq_true rfl⟩, lk2, trivial⟩ [5] (by decide) rfl rfl ((sa_X0_h_4 A cI hh (ptv 8 (hh 4) j1 (-9 : Int32))).trans (congrArg (fun z => wH A cI z) ehh_v2.symm)) rfl hl.1 rfl (Nat.le_of_ble_eq_true rfl) dX0_layInPile_17 ⟨Nat.le_of_ble_eq_true rfl, Nat.le_of_ble_eq_true rfl⟩ (fun H locs hP hD hS => ?_)
    refine lv_iconst (v := (1 : Int32)) hx hb dX0_layInPile_20 (by decide) ?_
    obtain rfl := Option.some.inj hf
    exact W.zret (ty := .boolean) (v := (1 : Int32)) hx hb hr rfl (fun t ht hW => ⟨⟨(1 : Int32), (), rfl, rfl, hPt ht hP⟩, hS.F ht⟩) hS.2.2 dX0_layInPile_21
  · have hf := hT hf c1
    refine lv_iconst (v := (0 : Int32)) hx hb dX0_layInPile_8 (by decide) ?_
    obtain rfl := Option.some.inj hf
    exact W.zret (ty := .boolean) (v := (0 : Int32)) hx hb hr rfl (fun t ht hW => ⟨⟨(0 : Int32), (), rfl, rfl, hPt ht hP⟩, hS.F ht⟩) hS.2.2 dX0_layInPile_9
set_option maxHeartbeats 4000000 in
set_option maxRecDepth 100000 in
theorem c_X0_handTo (l : Launch) (D : va_G) (cI : ClassId) (A : Nat → Nat) (j1 : Int32) (j2 : Int32) (hh : HS) (out : Int32 × HS) (hf : f_X0_handTo j1 j2 hh = some out) : uI l D cI yX0_handTo wsX0_handTo ({ frames := 1, cells := 0, slots := 0, locals := 22 } : Room) [.ref (A 0), .int j1, .int j2] (wH A cI hh) (wH A cI out.2) out.1 := by
  intro sz
  refine Met.ofW (cc := cX0_handTo) (maxL := 3) (ret := (some .boolean)) (by decide) rfl ?_
  intro p e s m args below meth c s₁ Bd hml hv
  obtain ⟨rfl, hsz, hP, hK, hD0, hN⟩ := hv
  have hx := Bd.exec
  have hb := Bd.bytes
  have hr := Bd.returns
  have hts := atoms_spec (ws := wsX0_handTo) Bd.pre
  have hown : s.vm.findClass RX0 = some m.cls := findClass_of_methodNamed Bd.named
  have hlocks := Bd.notSynchronized
  subst hsz
  have hD := hD0.self (sz := s.heap.size)
  generalize hAe : va_A (wH A cI hh) s.heap.size = G at hD ⊢
  have hA : ∀ q : Nat, s.heap.size ≤ q → G q := fun q h => by rw [← hAe]; exact Or.inr h
  have hS : va_S G s.heap s.heap [] := va_S.rf
  have hP : va_P D vwCl (wH A cI hh) s.heap := hP
  have hl := lv_entry ([.ref (A 0), .int j1, .int j2]) (n := 3) (Nat.le_of_ble_eq_true rfl)
  rw [lg_entry_eq]
  generalize (lg_sl ([.ref (A 0), .int j1, .int j2]) ++ List.replicate (3 - (lg_sl ([.ref (A 0), .int j1, .int j2])).length) Slot.unset).toArray = ls at hl ⊢
  have hl : lv_has ls 3 [(0, .ref (A 0)), (1, .int j1), (2, .int j2)] := hl
  have hinH : ∀ w ∈ wsX00, w ∈ wsX0_handTo := by decide +kernel
  have lk0 := hts (.fieldLink RX0 24 "LiesBoughtBack$Hall" "holder" "[I") (by decide +kernel)
  have lk1 := hts (.initialized RX1) (by decide +kernel)
  have lk2 := hts (.static yX1_put) (by decide +kernel)
  refine W_in ?_
  intro WW hWW
  refine (hWW _ _ _).mpr ?_
  unfold f_X0_handTo at hf
  refine lv_aload_n hx hb dX0_handTo_0 rfl (lv_at hl 0 rfl) ?_
  refine lv_iload_n hx hb dX0_handTo_1 rfl (lv_at hl 1 rfl) ?_
  refine rV_io (As := [.int j1]) (rest := []) ⟨hx, hb, hml, hown, hts⟩ hK hN hA hP hD hS (c_X0_hasCard l D cI A j1 hh (f_X0_hasCard j1 hh) rfl) (cwV 1 hts gX0_handTo_X0_hasCard rfl rfl rfl hd_X0_hasCard ⟨Nat.le_of_ble_eq_true rfl, Nat.le_of_ble_eq_true rfl⟩) (va_recv hK hP (ci := 0) (q0 := 0) rfl rfl) [0, 1, 2, 3, 4, 5, 6, 7, 8, 9, 10] (by decide) rfl rfl hl.1 rfl (Nat.le_of_ble_eq_true rfl) dX0_handTo_2 ⟨Nat.le_of_ble_eq_true rfl, Nat.le_of_ble_eq_true rfl⟩ (fun H locs hP hD hS => ?_)
  refine lv_if_eq (tgt := 16) hx hb dX0_handTo_5 (by decide) (fun c1 => ?_) (fun c1 => ?_)
  · have hf := hT hf c1
    refine lv_iconst (v := (0 : Int32)) hx hb dX0_handTo_16 (by decide) ?_
    obtain rfl := Option.some.inj hf
    exact W.zret (ty := .boolean) (v := (0 : Int32)) hx hb hr rfl (fun t ht hW => ⟨⟨(0 : Int32), (), rfl, rfl, hPt ht hP⟩, hS.F ht⟩) hS.2.2 dX0_handTo_17
  · have hf := hF hf c1
    refine lv_aload_n hx hb dX0_handTo_8 rfl (lv_at hl 0 rfl) ?_
    refine lv_iload_n hx hb dX0_handTo_9 rfl (lv_at hl 2 rfl) ?_
    refine rV_io (As := [.int j2]) (rest := []) ⟨hx, hb, hml, hown, hts⟩ hK hN hA hP hD hS (c_X0_hasBidder l D cI A j2 hh (f_X0_hasBidder j2 hh) rfl) (cwV 1 hts gX0_handTo_X0_hasBidder rfl rfl rfl hd_X0_hasBidder ⟨Nat.le_of_ble_eq_true rfl, Nat.le_of_ble_eq_true rfl⟩) (va_recv hK hP (ci := 0) (q0 := 0) rfl rfl) [0, 1, 2, 3, 4, 5, 6, 7, 8, 9, 10] (by decide) rfl rfl hl.1 rfl (Nat.le_of_ble_eq_true rfl) dX0_handTo_10 ⟨Nat.le_of_ble_eq_true rfl, Nat.le_of_ble_eq_true rfl⟩ (fun H locs hP hD hS => ?_)
    refine lv_if_ne (tgt := 18) hx hb dX0_handTo_13 (by decide) (fun c2 => ?_) (fun c2 => ?_)
    · have hf := hF hf c2
      refine lv_aload_n hx hb dX0_handTo_18 rfl (lv_at hl 0 rfl) ?_
      refine va_get (D := D) (ci := 0) (v := .ref (A 5)) (C := RX0) (T := TX0) (N := 13) hx hb hts hinH hown hK hP 0 rfl rfl 7 (by decide) lk0 (fun _ h9 => h9) rfl dX0_handTo_19 ?_
      refine lv_iload_n hx hb dX0_handTo_22 rfl (lv_at hl 1 rfl) ?_
      refine lv_iload_n hx hb dX0_handTo_23 rfl (lv_at hl 2 rfl) ?_
      obtain ⟨hh_v3, ehh_v3, hf⟩ := jnS hf
      refine rSN_v (ws' := (wH A cI hh_v3)) (As := [.ref (A 5), .int j1, .int j2]) (rest := []) ⟨hx, hb, hml, hown, hts⟩ hK hN hA hP hD hS (c_X1_put l D cI 8 (by decide) (A 5) (hh 4) j1 j2) ⟨va_cnB 3 hts gX0_handTo_X1_put_n64 rfl rfl rfl (nW.m hN 4 rfl) lk1 hd_X1_put.2 ⟨Nat.le_of_ble_eq_true rfl, Nat.le_of_ble_eq_true rfl⟩, lk2, trivial⟩ [5] (by decide) rfl rfl ((sa_X0_h_4 A cI hh (ptv 8 (hh 4) j1 j2)).trans (congrArg (fun z => wH A cI z) ehh_v3.symm)) rfl hl.1 rfl (Nat.le_of_ble_eq_true rfl) dX0_handTo_24 ⟨Nat.le_of_ble_eq_true rfl, Nat.le_of_ble_eq_true rfl⟩ (fun H locs hP hD hS => ?_)
      refine lv_iconst (v := (1 : Int32)) hx hb dX0_handTo_27 (by decide) ?_
      obtain rfl := Option.some.inj hf
      exact W.zret (ty := .boolean) (v := (1 : Int32)) hx hb hr rfl (fun t ht hW => ⟨⟨(1 : Int32), (), rfl, rfl, hPt ht hP⟩, hS.F ht⟩) hS.2.2 dX0_handTo_28
    · have hf := hT hf c2
      refine lv_iconst (v := (0 : Int32)) hx hb dX0_handTo_16 (by decide) ?_
      obtain rfl := Option.some.inj hf
      exact W.zret (ty := .boolean) (v := (0 : Int32)) hx hb hr rfl (fun t ht hW => ⟨⟨(0 : Int32), (), rfl, rfl, hPt ht hP⟩, hS.F ht⟩) hS.2.2 dX0_handTo_17
set_option maxHeartbeats 4000000 in
set_option maxRecDepth 100000 in
theorem c_X0_become (l : Launch) (D : va_G) (cI : ClassId) (A B : Nat → Nat) (hh : HS) (gg : HS) (out : HS) (hf : f_X0_become hh gg = some out) : uV l D cI yX0_become wsX0_become ({ frames := 2, cells := 0, slots := 0, locals := 44 } : Room) [.ref (A 0), .ref (B 0)] (wHH A B cI hh gg) (wHH A B cI out gg) := by
  intro sz
  refine Met.ofW (cc := cX0_become) (maxL := 2) (ret := none) (by decide) rfl ?_
  intro p e s m args below meth c s₁ Bd hml hv
  obtain ⟨rfl, hsz, hP, hK, hD0, hN⟩ := hv
  have hx := Bd.exec
  have hb := Bd.bytes
  have hr := Bd.returns
  have hts := atoms_spec (ws := wsX0_become) Bd.pre
  have hown : s.vm.findClass RX0 = some m.cls := findClass_of_methodNamed Bd.named
  have hlocks := Bd.notSynchronized
  subst hsz
  have hD := hD0.self (sz := s.heap.size)
  generalize hAe : va_A (wHH A B cI hh gg) s.heap.size = G at hD ⊢
  have hA : ∀ q : Nat, s.heap.size ≤ q → G q := fun q h => by rw [← hAe]; exact Or.inr h
  have hS : va_S G s.heap s.heap [] := va_S.rf
  have hP : va_P D vwCl (wHH A B cI hh gg) s.heap := hP
  have hl := lv_entry ([.ref (A 0), .ref (B 0)]) (n := 2) (Nat.le_of_ble_eq_true rfl)
  rw [lg_entry_eq]
  generalize (lg_sl ([.ref (A 0), .ref (B 0)]) ++ List.replicate (2 - (lg_sl ([.ref (A 0), .ref (B 0)])).length) Slot.unset).toArray = ls at hl ⊢
  have hl : lv_has ls 2 [(0, .ref (A 0)), (1, .ref (B 0))] := hl
  have hinH : ∀ w ∈ wsX00, w ∈ wsX0_become := by decide +kernel
  have lk0 := hts (.fieldLink RX0 42 "LiesBoughtBack$Hall" "cards" "I") (by decide +kernel)
  have lk1 := hts (.fieldLink RX0 46 "LiesBoughtBack$Hall" "bidders" "I") (by decide +kernel)
  have lk2 := hts (.fieldLink RX0 49 "LiesBoughtBack$Hall" "month" "I") (by decide +kernel)
  have lk3 := hts (.fieldLink RX0 9 "LiesBoughtBack$Hall" "cardKind" "[I") (by decide +kernel)
  have lk4 := hts (.initialized RX1) (by decide +kernel)
  have lk5 := hts (.static yX1_copyRow) (by decide +kernel)
  have lk6 := hts (.fieldLink RX0 15 "LiesBoughtBack$Hall" "cardFigure" "[I") (by decide +kernel)
  have lk7 := hts (.fieldLink RX0 18 "LiesBoughtBack$Hall" "teller" "[I") (by decide +kernel)
  have lk8 := hts (.fieldLink RX0 21 "LiesBoughtBack$Hall" "age" "[I") (by decide +kernel)
  have lk9 := hts (.fieldLink RX0 24 "LiesBoughtBack$Hall" "holder" "[I") (by decide +kernel)
  have lk10 := hts (.fieldLink RX0 27 "LiesBoughtBack$Hall" "order" "[I") (by decide +kernel)
  have lk11 := hts (.fieldLink RX0 30 "LiesBoughtBack$Hall" "bidderKind" "[I") (by decide +kernel)
  have lk12 := hts (.fieldLink RX0 33 "LiesBoughtBack$Hall" "bidderFigure" "[I") (by decide +kernel)
  have lk13 := hts (.fieldLink RX0 36 "LiesBoughtBack$Hall" "purse" "[I") (by decide +kernel)
  have lk14 := hts (.fieldLink RX0 39 "LiesBoughtBack$Hall" "believed" "[I") (by decide +kernel)
  refine W_in ?_
  intro WW hWW
  refine (hWW _ _ _).mpr ?_
  unfold f_X0_become at hf
  refine lv_aload_n hx hb dX0_become_0 rfl (lv_at hl 1 rfl) ?_
  refine lv_ifnonnull (tgt := 5) hx hb dX0_become_1 (by decide) ?_
  refine lv_aload_n hx hb dX0_become_5 rfl (lv_at hl 0 rfl) ?_
  refine lv_aload_n hx hb dX0_become_6 rfl (lv_at hl 1 rfl) ?_
  refine va_get (D := D) (ci := 0) (v := .int (gg 10 0)) (C := RX0) (T := TX0) (N := 13) hx hb hts hinH hown hK hP 11 rfl rfl 0 (by decide) lk0 (fun _ h9 => h9) rfl dX0_become_7 ?_
  obtain ⟨hh_v1, ehh_v1, hf⟩ := jnS hf
  refine va_put (D := D) (ci := 0) (v := .int (gg 10 0)) (ty := .int) (C := RX0) (T := TX0) (N := 13) hx hb hts hinH tyX0 tyX0_ok nmX0 hown hK hP hD hS 0 rfl rfl 0 (by decide) lk0 (fun _ h9 => h9) rfl (by decide +kernel) rfl rfl (Nat.le_of_ble_eq_true rfl) dX0_become_10 (fun H locs hP hD hS => ?_)
  have hE : _ = (wHH A B cI hh_v1 gg) := ((sf_HH_h_10 A B cI hh gg (gg 10 0)).trans (congrArg (fun z => wHH A B cI z gg) ehh_v1.symm))
  have hP : va_P D vwCl (wHH A B cI hh_v1 gg) H := hE ▸ hP
  have hD : va_D G (wHH A B cI hh_v1 gg) := hE ▸ hD
  refine lv_aload_n hx hb dX0_become_13 rfl (lv_at hl 0 rfl) ?_
  refine lv_aload_n hx hb dX0_become_14 rfl (lv_at hl 1 rfl) ?_
  refine va_get (D := D) (ci := 0) (v := .int (gg 11 0)) (C := RX0) (T := TX0) (N := 13) hx hb hts hinH hown hK hP 11 rfl rfl 1 (by decide) lk1 (fun _ h9 => h9) rfl dX0_become_15 ?_
  obtain ⟨hh_v2, ehh_v2, hf⟩ := jnS hf
  refine va_put (D := D) (ci := 0) (v := .int (gg 11 0)) (ty := .int) (C := RX0) (T := TX0) (N := 13) hx hb hts hinH tyX0 tyX0_ok nmX0 hown hK hP hD hS 0 rfl rfl 1 (by decide) lk1 (fun _ h9 => h9) rfl (by decide +kernel) rfl rfl (Nat.le_of_ble_eq_true rfl) dX0_become_18 (fun H locs hP hD hS => ?_)
  have hE : _ = (wHH A B cI hh_v2 gg) := ((sf_HH_h_11 A B cI hh_v1 gg (gg 11 0)).trans (congrArg (fun z => wHH A B cI z gg) ehh_v2.symm))
  have hP : va_P D vwCl (wHH A B cI hh_v2 gg) H := hE ▸ hP
  have hD : va_D G (wHH A B cI hh_v2 gg) := hE ▸ hD
  refine lv_aload_n hx hb dX0_become_21 rfl (lv_at hl 0 rfl) ?_
  refine lv_aload_n hx hb dX0_become_22 rfl (lv_at hl 1 rfl) ?_
  refine va_get (D := D) (ci := 0) (v := .int (gg 12 0)) (C := RX0) (T := TX0) (N := 13) hx hb hts hinH hown hK hP 11 rfl rfl 2 (by decide) lk2 (fun _ h9 => h9) rfl dX0_become_23 ?_
  obtain ⟨hh_v3, ehh_v3, hf⟩ := jnS hf
  refine va_put (D := D) (ci := 0) (v := .int (gg 12 0)) (ty := .int) (C := RX0) (T := TX0) (N := 13) hx hb hts hinH tyX0 tyX0_ok nmX0 hown hK hP hD hS 0 rfl rfl 2 (by decide) lk2 (fun _ h9 => h9) rfl (by decide +kernel) rfl rfl (Nat.le_of_ble_eq_true rfl) dX0_become_26 (fun H locs hP hD hS => ?_)
  have hE : _ = (wHH A B cI hh_v3 gg) := ((sf_HH_h_12 A B cI hh_v2 gg (gg 12 0)).trans (congrArg (fun z => wHH A B cI z gg) ehh_v3.symm))
  have hP : va_P D vwCl (wHH A B cI hh_v3 gg) H := hE ▸ hP
  have hD : va_D G (wHH A B cI hh_v3 gg) := hE ▸ hD
  refine lv_aload_n hx hb dX0_become_29 rfl (lv_at hl 1 rfl) ?_
  refine va_get (D := D) (ci := 0) (v := .ref (B 1)) (C := RX0) (T := TX0) (N := 13) hx hb hts hinH hown hK hP 11 rfl rfl 3 (by decide) lk3 (fun _ h9 => h9) rfl dX0_become_30 ?_
  refine lv_aload_n hx hb dX0_become_33 rfl (lv_at hl 0 rfl) ?_
  refine va_get (D := D) (ci := 0) (v := .ref (A 1)) (C := RX0) (T := TX0) (N := 13) hx hb hts hinH hown hK hP 0 rfl rfl 3 (by decide) lk3 (fun _ h9 => h9) rfl dX0_become_34 ?_
  obtain ⟨hh_v4, ehh_v4, hf⟩ := jnS hf
  refine rSN_v (ws' := (wHH A B cI hh_v4 gg)) (As := [.ref (B 1), .ref (A 1)]) (rest := []) ⟨hx, hb, hml, hown, hts⟩ hK hN hA hP hD hS (c_X1_copyRow l D cI 8 (by decide) (B 1) (A 1) (gg 0) (hh_v3 0)) ⟨va_cnB 2 hts gX0_become_X1_copyRow_n52 rfl rfl rfl (nW.m hN 2 rfl) lk4 hd_X1_copyRow.2 ⟨Nat.le_of_ble_eq_true rfl, Nat.le_of_ble_eq_true rfl⟩, lk5, trivial⟩ [12, 1] (by decide) rfl rfl ((sc_HH_oh_0 A B cI hh_v3 gg (cpv 8 (gg 0) (hh_v3 0))).trans (congrArg (fun z => wHH A B cI z gg) ehh_v4.symm)) rfl hl.1 rfl (Nat.le_of_ble_eq_true rfl) dX0_become_37 ⟨Nat.le_of_ble_eq_true rfl, Nat.le_of_ble_eq_true rfl⟩ (fun H locs hP hD hS => ?_)
  refine lv_aload_n hx hb dX0_become_40 rfl (lv_at hl 1 rfl) ?_
  refine va_get (D := D) (ci := 0) (v := .ref (B 2)) (C := RX0) (T := TX0) (N := 13) hx hb hts hinH hown hK hP 11 rfl rfl 4 (by decide) lk6 (fun _ h9 => h9) rfl dX0_become_41 ?_
  refine lv_aload_n hx hb dX0_become_44 rfl (lv_at hl 0 rfl) ?_
  refine va_get (D := D) (ci := 0) (v := .ref (A 2)) (C := RX0) (T := TX0) (N := 13) hx hb hts hinH hown hK hP 0 rfl rfl 4 (by decide) lk6 (fun _ h9 => h9) rfl dX0_become_45 ?_
  obtain ⟨hh_v5, ehh_v5, hf⟩ := jnS hf
  refine rSN_v (ws' := (wHH A B cI hh_v5 gg)) (As := [.ref (B 2), .ref (A 2)]) (rest := []) ⟨hx, hb, hml, hown, hts⟩ hK hN hA hP hD hS (c_X1_copyRow l D cI 8 (by decide) (B 2) (A 2) (gg 1) (hh_v4 1)) ⟨va_cnB 2 hts gX0_become_X1_copyRow_n52 rfl rfl rfl (nW.m hN 2 rfl) lk4 hd_X1_copyRow.2 ⟨Nat.le_of_ble_eq_true rfl, Nat.le_of_ble_eq_true rfl⟩, lk5, trivial⟩ [13, 2] (by decide) rfl rfl ((sc_HH_oh_1 A B cI hh_v4 gg (cpv 8 (gg 1) (hh_v4 1))).trans (congrArg (fun z => wHH A B cI z gg) ehh_v5.symm)) rfl hl.1 rfl (Nat.le_of_ble_eq_true rfl) dX0_become_48 ⟨Nat.le_of_ble_eq_true rfl, Nat.le_of_ble_eq_true rfl⟩ (fun H locs hP hD hS => ?_)
  refine lv_aload_n hx hb dX0_become_51 rfl (lv_at hl 1 rfl) ?_
  refine va_get (D := D) (ci := 0) (v := .ref (B 3)) (C := RX0) (T := TX0) (N := 13) hx hb hts hinH hown hK hP 11 rfl rfl 5 (by decide) lk7 (fun _ h9 => h9) rfl dX0_become_52 ?_
  refine lv_aload_n hx hb dX0_become_55 rfl (lv_at hl 0 rfl) ?_
  refine va_get (D := D) (ci := 0) (v := .ref (A 3)) (C := RX0) (T := TX0) (N := 13) hx hb hts hinH hown hK hP 0 rfl rfl 5 (by decide) lk7 (fun _ h9 => h9) rfl dX0_become_56 ?_
  obtain ⟨hh_v6, ehh_v6, hf⟩ := jnS hf
  refine rSN_v (ws' := (wHH A B cI hh_v6 gg)) (As := [.ref (B 3), .ref (A 3)]) (rest := []) ⟨hx, hb, hml, hown, hts⟩ hK hN hA hP hD hS (c_X1_copyRow l D cI 8 (by decide) (B 3) (A 3) (gg 2) (hh_v5 2)) ⟨va_cnB 2 hts gX0_become_X1_copyRow_n52 rfl rfl rfl (nW.m hN 2 rfl) lk4 hd_X1_copyRow.2 ⟨Nat.le_of_ble_eq_true rfl, Nat.le_of_ble_eq_true rfl⟩, lk5, trivial⟩ [14, 3] (by decide) rfl rfl ((sc_HH_oh_2 A B cI hh_v5 gg (cpv 8 (gg 2) (hh_v5 2))).trans (congrArg (fun z => wHH A B cI z gg) ehh_v6.symm)) rfl hl.1 rfl (Nat.le_of_ble_eq_true rfl) dX0_become_59 ⟨Nat.le_of_ble_eq_true rfl, Nat.le_of_ble_eq_true rfl⟩ (fun H locs hP hD hS => ?_)
  refine lv_aload_n hx hb dX0_become_62 rfl (lv_at hl 1 rfl) ?_
  refine va_get (D := D) (ci := 0) (v := .ref (B 4)) (C := RX0) (T := TX0) (N := 13) hx hb hts hinH hown hK hP 11 rfl rfl 6 (by decide) lk8 (fun _ h9 => h9) rfl dX0_become_63 ?_
  refine lv_aload_n hx hb dX0_become_66 rfl (lv_at hl 0 rfl) ?_
  refine va_get (D := D) (ci := 0) (v := .ref (A 4)) (C := RX0) (T := TX0) (N := 13) hx hb hts hinH hown hK hP 0 rfl rfl 6 (by decide) lk8 (fun _ h9 => h9) rfl dX0_become_67 ?_
  obtain ⟨hh_v7, ehh_v7, hf⟩ := jnS hf
  refine rSN_v (ws' := (wHH A B cI hh_v7 gg)) (As := [.ref (B 4), .ref (A 4)]) (rest := []) ⟨hx, hb, hml, hown, hts⟩ hK hN hA hP hD hS (c_X1_copyRow l D cI 8 (by decide) (B 4) (A 4) (gg 3) (hh_v6 3)) ⟨va_cnB 2 hts gX0_become_X1_copyRow_n52 rfl rfl rfl (nW.m hN 2 rfl) lk4 hd_X1_copyRow.2 ⟨Nat.le_of_ble_eq_true rfl, Nat.le_of_ble_eq_true rfl⟩, lk5, trivial⟩ [15, 4] (by decide) rfl rfl ((sc_HH_oh_3 A B cI hh_v6 gg (cpv 8 (gg 3) (hh_v6 3))).trans (congrArg (fun z => wHH A B cI z gg) ehh_v7.symm)) rfl hl.1 rfl (Nat.le_of_ble_eq_true rfl) dX0_become_70 ⟨Nat.le_of_ble_eq_true rfl, Nat.le_of_ble_eq_true rfl⟩ (fun H locs hP hD hS => ?_)
  refine lv_aload_n hx hb dX0_become_73 rfl (lv_at hl 1 rfl) ?_
  refine va_get (D := D) (ci := 0) (v := .ref (B 5)) (C := RX0) (T := TX0) (N := 13) hx hb hts hinH hown hK hP 11 rfl rfl 7 (by decide) lk9 (fun _ h9 => h9) rfl dX0_become_74 ?_
  refine lv_aload_n hx hb dX0_become_77 rfl (lv_at hl 0 rfl) ?_
  refine va_get (D := D) (ci := 0) (v := .ref (A 5)) (C := RX0) (T := TX0) (N := 13) hx hb hts hinH hown hK hP 0 rfl rfl 7 (by decide) lk9 (fun _ h9 => h9) rfl dX0_become_78 ?_
  obtain ⟨hh_v8, ehh_v8, hf⟩ := jnS hf
  refine rSN_v (ws' := (wHH A B cI hh_v8 gg)) (As := [.ref (B 5), .ref (A 5)]) (rest := []) ⟨hx, hb, hml, hown, hts⟩ hK hN hA hP hD hS (c_X1_copyRow l D cI 8 (by decide) (B 5) (A 5) (gg 4) (hh_v7 4)) ⟨va_cnB 2 hts gX0_become_X1_copyRow_n52 rfl rfl rfl (nW.m hN 2 rfl) lk4 hd_X1_copyRow.2 ⟨Nat.le_of_ble_eq_true rfl, Nat.le_of_ble_eq_true rfl⟩, lk5, trivial⟩ [16, 5] (by decide) rfl rfl ((sc_HH_oh_4 A B cI hh_v7 gg (cpv 8 (gg 4) (hh_v7 4))).trans (congrArg (fun z => wHH A B cI z gg) ehh_v8.symm)) rfl hl.1 rfl (Nat.le_of_ble_eq_true rfl) dX0_become_81 ⟨Nat.le_of_ble_eq_true rfl, Nat.le_of_ble_eq_true rfl⟩ (fun H locs hP hD hS => ?_)
  refine lv_aload_n hx hb dX0_become_84 rfl (lv_at hl 1 rfl) ?_
  refine va_get (D := D) (ci := 0) (v := .ref (B 6)) (C := RX0) (T := TX0) (N := 13) hx hb hts hinH hown hK hP 11 rfl rfl 8 (by decide) lk10 (fun _ h9 => h9) rfl dX0_become_85 ?_
  refine lv_aload_n hx hb dX0_become_88 rfl (lv_at hl 0 rfl) ?_
  refine va_get (D := D) (ci := 0) (v := .ref (A 6)) (C := RX0) (T := TX0) (N := 13) hx hb hts hinH hown hK hP 0 rfl rfl 8 (by decide) lk10 (fun _ h9 => h9) rfl dX0_become_89 ?_
  obtain ⟨hh_v9, ehh_v9, hf⟩ := jnS hf
  refine rSN_v (ws' := (wHH A B cI hh_v9 gg)) (As := [.ref (B 6), .ref (A 6)]) (rest := []) ⟨hx, hb, hml, hown, hts⟩ hK hN hA hP hD hS (c_X1_copyRow l D cI 8 (by decide) (B 6) (A 6) (gg 5) (hh_v8 5)) ⟨va_cnB 2 hts gX0_become_X1_copyRow_n52 rfl rfl rfl (nW.m hN 2 rfl) lk4 hd_X1_copyRow.2 ⟨Nat.le_of_ble_eq_true rfl, Nat.le_of_ble_eq_true rfl⟩, lk5, trivial⟩ [17, 6] (by decide) rfl rfl ((sc_HH_oh_5 A B cI hh_v8 gg (cpv 8 (gg 5) (hh_v8 5))).trans (congrArg (fun z => wHH A B cI z gg) ehh_v9.symm)) rfl hl.1 rfl (Nat.le_of_ble_eq_true rfl) dX0_become_92 ⟨Nat.le_of_ble_eq_true rfl, Nat.le_of_ble_eq_true rfl⟩ (fun H locs hP hD hS => ?_)
  refine lv_aload_n hx hb dX0_become_95 rfl (lv_at hl 1 rfl) ?_
  refine va_get (D := D) (ci := 0) (v := .ref (B 7)) (C := RX0) (T := TX0) (N := 13) hx hb hts hinH hown hK hP 11 rfl rfl 9 (by decide) lk11 (fun _ h9 => h9) rfl dX0_become_96 ?_
  refine lv_aload_n hx hb dX0_become_99 rfl (lv_at hl 0 rfl) ?_
  refine va_get (D := D) (ci := 0) (v := .ref (A 7)) (C := RX0) (T := TX0) (N := 13) hx hb hts hinH hown hK hP 0 rfl rfl 9 (by decide) lk11 (fun _ h9 => h9) rfl dX0_become_100 ?_
  obtain ⟨hh_v10, ehh_v10, hf⟩ := jnS hf
  refine rSN_v (ws' := (wHH A B cI hh_v10 gg)) (As := [.ref (B 7), .ref (A 7)]) (rest := []) ⟨hx, hb, hml, hown, hts⟩ hK hN hA hP hD hS (c_X1_copyRow l D cI 6 (by decide) (B 7) (A 7) (gg 6) (hh_v9 6)) ⟨va_cnB 2 hts gX0_become_X1_copyRow_n52 rfl rfl rfl (nW.m hN 2 rfl) lk4 hd_X1_copyRow.2 ⟨Nat.le_of_ble_eq_true rfl, Nat.le_of_ble_eq_true rfl⟩, lk5, trivial⟩ [18, 7] (by decide) rfl rfl ((sc_HH_oh_6 A B cI hh_v9 gg (cpv 6 (gg 6) (hh_v9 6))).trans (congrArg (fun z => wHH A B cI z gg) ehh_v10.symm)) rfl hl.1 rfl (Nat.le_of_ble_eq_true rfl) dX0_become_103 ⟨Nat.le_of_ble_eq_true rfl, Nat.le_of_ble_eq_true rfl⟩ (fun H locs hP hD hS => ?_)
  refine lv_aload_n hx hb dX0_become_106 rfl (lv_at hl 1 rfl) ?_
  refine va_get (D := D) (ci := 0) (v := .ref (B 8)) (C := RX0) (T := TX0) (N := 13) hx hb hts hinH hown hK hP 11 rfl rfl 10 (by decide) lk12 (fun _ h9 => h9) rfl dX0_become_107 ?_
  refine lv_aload_n hx hb dX0_become_110 rfl (lv_at hl 0 rfl) ?_
  refine va_get (D := D) (ci := 0) (v := .ref (A 8)) (C := RX0) (T := TX0) (N := 13) hx hb hts hinH hown hK hP 0 rfl rfl 10 (by decide) lk12 (fun _ h9 => h9) rfl dX0_become_111 ?_
  obtain ⟨hh_v11, ehh_v11, hf⟩ := jnS hf
  refine rSN_v (ws' := (wHH A B cI hh_v11 gg)) (As := [.ref (B 8), .ref (A 8)]) (rest := []) ⟨hx, hb, hml, hown, hts⟩ hK hN hA hP hD hS (c_X1_copyRow l D cI 6 (by decide) (B 8) (A 8) (gg 7) (hh_v10 7)) ⟨va_cnB 2 hts gX0_become_X1_copyRow_n52 rfl rfl rfl (nW.m hN 2 rfl) lk4 hd_X1_copyRow.2 ⟨Nat.le_of_ble_eq_true rfl, Nat.le_of_ble_eq_true rfl⟩, lk5, trivial⟩ [19, 8] (by decide) rfl rfl ((sc_HH_oh_7 A B cI hh_v10 gg (cpv 6 (gg 7) (hh_v10 7))).trans (congrArg (fun z => wHH A B cI z gg) ehh_v11.symm)) rfl hl.1 rfl (Nat.le_of_ble_eq_true rfl) dX0_become_114 ⟨Nat.le_of_ble_eq_true rfl, Nat.le_of_ble_eq_true rfl⟩ (fun H locs hP hD hS => ?_)
  refine lv_aload_n hx hb dX0_become_117 rfl (lv_at hl 1 rfl) ?_
  refine va_get (D := D) (ci := 0) (v := .ref (B 9)) (C := RX0) (T := TX0) (N := 13) hx hb hts hinH hown hK hP 11 rfl rfl 11 (by decide) lk13 (fun _ h9 => h9) rfl dX0_become_118 ?_
  refine lv_aload_n hx hb dX0_become_121 rfl (lv_at hl 0 rfl) ?_
  refine va_get (D := D) (ci := 0) (v := .ref (A 9)) (C := RX0) (T := TX0) (N := 13) hx hb hts hinH hown hK hP 0 rfl rfl 11 (by decide) lk13 (fun _ h9 => h9) rfl dX0_become_122 ?_
  obtain ⟨hh_v12, ehh_v12, hf⟩ := jnS hf
  refine rSN_v (ws' := (wHH A B cI hh_v12 gg)) (As := [.ref (B 9), .ref (A 9)]) (rest := []) ⟨hx, hb, hml, hown, hts⟩ hK hN hA hP hD hS (c_X1_copyRow l D cI 6 (by decide) (B 9) (A 9) (gg 8) (hh_v11 8)) ⟨va_cnB 2 hts gX0_become_X1_copyRow_n52 rfl rfl rfl (nW.m hN 2 rfl) lk4 hd_X1_copyRow.2 ⟨Nat.le_of_ble_eq_true rfl, Nat.le_of_ble_eq_true rfl⟩, lk5, trivial⟩ [20, 9] (by decide) rfl rfl ((sc_HH_oh_8 A B cI hh_v11 gg (cpv 6 (gg 8) (hh_v11 8))).trans (congrArg (fun z => wHH A B cI z gg) ehh_v12.symm)) rfl hl.1 rfl (Nat.le_of_ble_eq_true rfl) dX0_become_125 ⟨Nat.le_of_ble_eq_true rfl, Nat.le_of_ble_eq_true rfl⟩ (fun H locs hP hD hS => ?_)
  refine lv_aload_n hx hb dX0_become_128 rfl (lv_at hl 1 rfl) ?_
  refine va_get (D := D) (ci := 0) (v := .ref (B 10)) (C := RX0) (T := TX0) (N := 13) hx hb hts hinH hown hK hP 11 rfl rfl 12 (by decide) lk14 (fun _ h9 => h9) rfl dX0_become_129 ?_
  refine lv_aload_n hx hb dX0_become_132 rfl (lv_at hl 0 rfl) ?_
  refine va_get (D := D) (ci := 0) (v := .ref (A 10)) (C := RX0) (T := TX0) (N := 13) hx hb hts hinH hown hK hP 0 rfl rfl 12 (by decide) lk14 (fun _ h9 => h9) rfl dX0_become_133 ?_
  obtain ⟨hh_v13, ehh_v13, hf⟩ := jnS hf
  refine rSN_v (ws' := (wHH A B cI hh_v13 gg)) (As := [.ref (B 10), .ref (A 10)]) (rest := []) ⟨hx, hb, hml, hown, hts⟩ hK hN hA hP hD hS (c_X1_copyRow l D cI 6 (by decide) (B 10) (A 10) (gg 9) (hh_v12 9)) ⟨va_cnB 2 hts gX0_become_X1_copyRow_n52 rfl rfl rfl (nW.m hN 2 rfl) lk4 hd_X1_copyRow.2 ⟨Nat.le_of_ble_eq_true rfl, Nat.le_of_ble_eq_true rfl⟩, lk5, trivial⟩ [21, 10] (by decide) rfl rfl ((sc_HH_oh_9 A B cI hh_v12 gg (cpv 6 (gg 9) (hh_v12 9))).trans (congrArg (fun z => wHH A B cI z gg) ehh_v13.symm)) rfl hl.1 rfl (Nat.le_of_ble_eq_true rfl) dX0_become_136 ⟨Nat.le_of_ble_eq_true rfl, Nat.le_of_ble_eq_true rfl⟩ (fun H locs hP hD hS => ?_)
  obtain rfl := Option.some.inj hf
  exact W.vret hx hb hr (fun t ht hW => ⟨⟨(), rfl, trivial, hPt ht hP⟩, hS.F ht⟩) hS.2.2 dX0_become_139
