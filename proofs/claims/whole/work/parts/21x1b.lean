set_option maxHeartbeats 4000000 in
set_option maxRecDepth 100000 in
theorem c_X1_mean (l : Launch) (D : va_G) (cI : ClassId) (A : Nat → Nat → Nat) (j1 : Int32) (xx : HS) (xn : HS) (xm : HS) (xk : HS) (out : Int64 × HS) (hf : f_X1_mean j1 xx xn xm xk = some out) : uL l D cI yX1_mean wsX1_mean ({ frames := 3, cells := 0, slots := 0, locals := 64 } : Room) [.ref ((A 0) 0), .int j1] (wX A cI xx xn xm xk) (wX A cI out.2 xn xm xk) out.1 := by
  intro sz
  refine Met.ofW (cc := cX1_mean) (maxL := 2) (ret := (some .long)) (by decide) rfl ?_
  intro p e s m args below meth c s₁ Bd hml hv
  obtain ⟨rfl, hsz, hP, hK, hD0, hN⟩ := hv
  have hx := Bd.exec
  have hb := Bd.bytes
  have hr := Bd.returns
  have hts := atoms_spec (ws := wsX1_mean) Bd.pre
  have hown : s.vm.findClass RX1 = some m.cls := findClass_of_methodNamed Bd.named
  have hlocks := Bd.notSynchronized
  subst hsz
  have hD := hD0.self (sz := s.heap.size)
  generalize hAe : va_A (wX A cI xx xn xm xk) s.heap.size = G at hD ⊢
  have hA : ∀ q : Nat, s.heap.size ≤ q → G q := fun q h => by rw [← hAe]; exact Or.inr h
  have hS : va_S G s.heap s.heap [] := va_S.rf
  have hP : va_P D vwCl (wX A cI xx xn xm xk) s.heap := hP
  have hl := lv_entry ([.ref ((A 0) 0), .int j1]) (n := 2) (Nat.le_of_ble_eq_true rfl)
  rw [lg_entry_eq]
  generalize (lg_sl ([.ref ((A 0) 0), .int j1]) ++ List.replicate (2 - (lg_sl ([.ref ((A 0) 0), .int j1])).length) Slot.unset).toArray = ls at hl ⊢
  have hl : lv_has ls 2 [(0, .ref ((A 0) 0)), (1, .int j1)] := hl
  have hinH : ∀ w ∈ wsX00, w ∈ wsX1_mean := by decide +kernel
  have hinX : ∀ w ∈ wsX10, w ∈ wsX1_mean := by decide +kernel
  have lk0 := hts (.fieldLink RX1 10 "LiesBoughtBack" "now" "LLiesBoughtBack$Hall;") (by decide +kernel)
  have lk1 := hts (.initialized RX0) (by decide +kernel)
  have lk2 := hts (.instanceMethod yX0_allPurses) (by decide +kernel)
  have lk3 := hts (.selects RX0 yX0_allPurses yX0_allPurses) (by decide +kernel)
  refine W_in ?_
  intro WW hWW
  refine (hWW _ _ _).mpr ?_
  unfold f_X1_mean at hf
  refine lv_iload_n hx hb dX1_mean_0 rfl (lv_at hl 1 rfl) ?_
  refine lv_if_lt (tgt := 9) hx hb dX1_mean_1 (by decide) (fun c1 => ?_) (fun c1 => ?_)
  · have hf := hT hf c1
    refine lv_aload_n hx hb dX1_mean_9 rfl (lv_at hl 0 rfl) ?_
    refine lv_bipush (v := (-2 : Int32)) hx hb dX1_mean_10 (by decide) ?_
    obtain ⟨v2, hev2, hf⟩ := bS hf
    refine qV_l (ws' := (wX A cI v2.2 xn xm xk)) (As := [.int (-2 : Int32)]) (rest := []) ⟨hx, hb, hml, hown, hts⟩ hK hN hA hP hD hS (c_X1_refuseFar l D cI A (-2 : Int32) xx xn xm xk v2 hev2) (cwV 1 hts gX1_mean_X1_refuseFar rfl rfl rfl hd_X1_refuseFar ⟨Nat.le_of_ble_eq_true rfl, Nat.le_of_ble_eq_true rfl⟩) (va_recv hK hP (ci := 1) (q0 := 0) rfl rfl) (bp_X1_X1_xnmk_x A cI xx xn xm xk v2.2) rfl hl.1 rfl (Nat.le_of_ble_eq_true rfl) dX1_mean_12 ⟨Nat.le_of_ble_eq_true rfl, Nat.le_of_ble_eq_true rfl⟩ (fun H locs hP hD hS => ?_)
    have hP : va_P D vwCl (wX A cI v2.2 xn xm xk) H := hP
    obtain rfl := Option.some.inj hf
    exact W.lret (v := v2.1) hx hb hr (fun t ht hW => ⟨⟨v2.1, (), rfl, rfl, hPt ht hP⟩, hS.F ht⟩) hS.2.2 dX1_mean_15
  · have hf := hF hf c1
    refine lv_iload_n hx hb dX1_mean_4 rfl (lv_at hl 1 rfl) ?_
    refine lv_iconst (v := (1 : Int32)) hx hb dX1_mean_5 (by decide) ?_
    refine lv_icmp_le (tgt := 16) hx hb dX1_mean_6 (by decide) (fun c3 => ?_) (fun c3 => ?_)
    · have hf := hT hf c3
      refine lv_aload_n hx hb dX1_mean_16 rfl (lv_at hl 0 rfl) ?_
      refine va_get (D := D) (ci := 1) (v := .ref ((A 1) 0)) (C := RX1) (T := TX1) (N := 9) hx hb hts hinX hown hK hP 0 rfl rfl 0 (by decide) lk0 (fun _ h9 => h9) rfl dX1_mean_17 ?_
      obtain ⟨v4, hev4, hf⟩ := bS hf
      refine qVN_i (As := []) (rest := []) ⟨hx, hb, hml, hown, hts⟩ hK hN hA hP hD hS (c_X0_allPurses l D cI (A 1) xn v4 hev4) ⟨va_cnB 0 hts gX1_mean_X0_allPurses_n157 rfl rfl rfl (nW.m hN 28 rfl) lk1 hd_X0_allPurses.2 ⟨Nat.le_of_ble_eq_true rfl, Nat.le_of_ble_eq_true rfl⟩, lk2, lk3⟩ (va_recv hK hP (ci := 0) (q0 := 1) rfl rfl) (bq_X1_X0_n A cI xx xn xm xk) rfl hl.1 rfl (Nat.le_of_ble_eq_true rfl) dX1_mean_20 ⟨Nat.le_of_ble_eq_true rfl, Nat.le_of_ble_eq_true rfl⟩ (fun H locs hP hD hS => ?_)
      refine lv_i2l hx hb dX1_mean_23 rfl ?_
      refine lv_aload_n hx hb dX1_mean_24 rfl (lv_at hl 0 rfl) ?_
      refine va_get (D := D) (ci := 1) (v := .ref ((A 1) 0)) (C := RX1) (T := TX1) (N := 9) hx hb hts hinX hown hK hP 0 rfl rfl 0 (by decide) lk0 (fun _ h9 => h9) rfl dX1_mean_25 ?_
      refine va_getN (D := D) (ci := 0) (v := .int (xn 11 0)) (C := RX0) (T := TX0) (N := 13) hx hb hts hinH hown hK hP 1 rfl rfl 1 (by decide) (nW.f hN 1 rfl) (fun _ h9 => h9) rfl dX1_mean_28 ?_
      refine lv_i2l hx hb dX1_mean_31 rfl ?_
      refine lv_iload_n hx hb dX1_mean_32 rfl (lv_at hl 1 rfl) ?_
      obtain ⟨v5, hev5, hf⟩ := bS hf
      refine qS_l (As := [.long (v4).toInt64, .long ((xn 11 0)).toInt64, .int j1]) (rest := []) ⟨hx, hb, hml, hown, hts⟩ hK hN hA hP hD hS (c_X1_inLeastTerms l D cI (v4).toInt64 ((xn 11 0)).toInt64 j1 v5 hev5) (va_cwS 3 hts gX1_mean_X1_inLeastTerms rfl rfl rfl hd_X1_inLeastTerms.2 ⟨Nat.le_of_ble_eq_true rfl, Nat.le_of_ble_eq_true rfl⟩) Bp_e rfl hl.1 rfl (Nat.le_of_ble_eq_true rfl) dX1_mean_33 ⟨Nat.le_of_ble_eq_true rfl, Nat.le_of_ble_eq_true rfl⟩ (fun H locs hP hD hS => ?_)
      obtain rfl := Option.some.inj hf
      exact W.lret (v := v5) hx hb hr (fun t ht hW => ⟨⟨v5, (), rfl, rfl, hPt ht hP⟩, hS.F ht⟩) hS.2.2 dX1_mean_36
    · have hf := hF hf c3
      refine lv_aload_n hx hb dX1_mean_9 rfl (lv_at hl 0 rfl) ?_
      refine lv_bipush (v := (-2 : Int32)) hx hb dX1_mean_10 (by decide) ?_
      obtain ⟨v6, hev6, hf⟩ := bS hf
      refine qV_l (ws' := (wX A cI v6.2 xn xm xk)) (As := [.int (-2 : Int32)]) (rest := []) ⟨hx, hb, hml, hown, hts⟩ hK hN hA hP hD hS (c_X1_refuseFar l D cI A (-2 : Int32) xx xn xm xk v6 hev6) (cwV 1 hts gX1_mean_X1_refuseFar rfl rfl rfl hd_X1_refuseFar ⟨Nat.le_of_ble_eq_true rfl, Nat.le_of_ble_eq_true rfl⟩) (va_recv hK hP (ci := 1) (q0 := 0) rfl rfl) (bp_X1_X1_xnmk_x A cI xx xn xm xk v6.2) rfl hl.1 rfl (Nat.le_of_ble_eq_true rfl) dX1_mean_12 ⟨Nat.le_of_ble_eq_true rfl, Nat.le_of_ble_eq_true rfl⟩ (fun H locs hP hD hS => ?_)
      have hP : va_P D vwCl (wX A cI v6.2 xn xm xk) H := hP
      obtain rfl := Option.some.inj hf
      exact W.lret (v := v6.1) hx hb hr (fun t ht hW => ⟨⟨v6.1, (), rfl, rfl, hPt ht hP⟩, hS.F ht⟩) hS.2.2 dX1_mean_15
set_option maxHeartbeats 4000000 in
set_option maxRecDepth 100000 in
theorem c_X1_count (l : Launch) (D : va_G) (cI : ClassId) (A : Nat → Nat → Nat) (j1 : Int32) (xx : HS) (xn : HS) (xm : HS) (xk : HS) (out : Int32) (hf : f_X1_count j1 xx xn xm xk = some out) : uI l D cI yX1_count wsX1_count ({ frames := 3, cells := 0, slots := 0, locals := 66 } : Room) [.ref ((A 0) 0), .int j1] (wX A cI xx xn xm xk) (wX A cI xx xn xm xk) out := by
  intro sz
  refine Met.ofW (cc := cX1_count) (maxL := 2) (ret := (some .int)) (by decide) rfl ?_
  intro p e s m args below meth c s₁ Bd hml hv
  obtain ⟨rfl, hsz, hP, hK, hD0, hN⟩ := hv
  have hx := Bd.exec
  have hb := Bd.bytes
  have hr := Bd.returns
  have hts := atoms_spec (ws := wsX1_count) Bd.pre
  have hown : s.vm.findClass RX1 = some m.cls := findClass_of_methodNamed Bd.named
  have hlocks := Bd.notSynchronized
  subst hsz
  have hD := hD0.self (sz := s.heap.size)
  generalize hAe : va_A (wX A cI xx xn xm xk) s.heap.size = G at hD ⊢
  have hA : ∀ q : Nat, s.heap.size ≤ q → G q := fun q h => by rw [← hAe]; exact Or.inr h
  have hS : va_S G s.heap s.heap [] := va_S.rf
  have hP : va_P D vwCl (wX A cI xx xn xm xk) s.heap := hP
  have hl := lv_entry ([.ref ((A 0) 0), .int j1]) (n := 2) (Nat.le_of_ble_eq_true rfl)
  rw [lg_entry_eq]
  generalize (lg_sl ([.ref ((A 0) 0), .int j1]) ++ List.replicate (2 - (lg_sl ([.ref ((A 0) 0), .int j1])).length) Slot.unset).toArray = ls at hl ⊢
  have hl : lv_has ls 2 [(0, .ref ((A 0) 0)), (1, .int j1)] := hl
  have hinH : ∀ w ∈ wsX00, w ∈ wsX1_count := by decide +kernel
  have hinX : ∀ w ∈ wsX10, w ∈ wsX1_count := by decide +kernel
  have lk0 := hts (.fieldLink RX1 10 "LiesBoughtBack" "now" "LLiesBoughtBack$Hall;") (by decide +kernel)
  have lk1 := hts (.initialized RX0) (by decide +kernel)
  have lk2 := hts (.instanceMethod yX0_pileBits) (by decide +kernel)
  have lk3 := hts (.selects RX0 yX0_pileBits yX0_pileBits) (by decide +kernel)
  have lk4 := hts (.instanceMethod yX0_allWorth) (by decide +kernel)
  have lk5 := hts (.selects RX0 yX0_allWorth yX0_allWorth) (by decide +kernel)
  have lk6 := hts (.instanceMethod yX0_allBelieved) (by decide +kernel)
  have lk7 := hts (.selects RX0 yX0_allBelieved yX0_allBelieved) (by decide +kernel)
  have lk8 := hts (.fieldLink RX1 177 "LiesBoughtBack" "numberCount" "I") (by decide +kernel)
  have lk9 := hts (.fieldLink RX1 36 "LiesBoughtBack" "letterCount" "I") (by decide +kernel)
  have lk10 := hts (.fieldLink RX1 29 "LiesBoughtBack" "refused" "[I") (by decide +kernel)
  refine W_in ?_
  intro WW hWW
  refine (hWW _ _ _).mpr ?_
  unfold f_X1_count at hf
  refine lv_iload_n hx hb dX1_count_0 rfl (lv_at hl 1 rfl) ?_
  by_cases c1 : j1 = (0 : Int32)
  · have hf := hT hf c1
    refine sw_in (v := 0) (off := 47) (tgt := 48) hx hb dX1_count_1 ((congrArg Int32.toInt c1).trans (by decide)) (by decide) (by decide) (by decide) (by decide) ?_
    refine lv_aload_n hx hb dX1_count_48 rfl (lv_at hl 0 rfl) ?_
    refine va_get (D := D) (ci := 1) (v := .ref ((A 1) 0)) (C := RX1) (T := TX1) (N := 9) hx hb hts hinX hown hK hP 0 rfl rfl 0 (by decide) lk0 (fun _ h9 => h9) rfl dX1_count_49 ?_
    refine va_getN (D := D) (ci := 0) (v := .int (xn 10 0)) (C := RX0) (T := TX0) (N := 13) hx hb hts hinH hown hK hP 1 rfl rfl 0 (by decide) (nW.f hN 0 rfl) (fun _ h9 => h9) rfl dX1_count_52 ?_
    obtain rfl := Option.some.inj hf
    exact W.iret (v := (xn 10 0)) hx hb hr (fun t ht hW => ⟨⟨(xn 10 0), (), rfl, rfl, hPt ht hP⟩, hS.F ht⟩) hS.2.2 dX1_count_55
  have hf := hF hf c1
  by_cases c2 : j1 = (1 : Int32)
  · have hf := hT hf c2
    refine sw_in (v := 1) (off := 55) (tgt := 56) hx hb dX1_count_1 ((congrArg Int32.toInt c2).trans (by decide)) (by decide) (by decide) (by decide) (by decide) ?_
    refine lv_aload_n hx hb dX1_count_56 rfl (lv_at hl 0 rfl) ?_
    refine va_get (D := D) (ci := 1) (v := .ref ((A 1) 0)) (C := RX1) (T := TX1) (N := 9) hx hb hts hinX hown hK hP 0 rfl rfl 0 (by decide) lk0 (fun _ h9 => h9) rfl dX1_count_57 ?_
    refine va_getN (D := D) (ci := 0) (v := .int (xn 11 0)) (C := RX0) (T := TX0) (N := 13) hx hb hts hinH hown hK hP 1 rfl rfl 1 (by decide) (nW.f hN 1 rfl) (fun _ h9 => h9) rfl dX1_count_60 ?_
    obtain rfl := Option.some.inj hf
    exact W.iret (v := (xn 11 0)) hx hb hr (fun t ht hW => ⟨⟨(xn 11 0), (), rfl, rfl, hPt ht hP⟩, hS.F ht⟩) hS.2.2 dX1_count_63
  have hf := hF hf c2
  by_cases c3 : j1 = (2 : Int32)
  · have hf := hT hf c3
    refine sw_in (v := 2) (off := 63) (tgt := 64) hx hb dX1_count_1 ((congrArg Int32.toInt c3).trans (by decide)) (by decide) (by decide) (by decide) (by decide) ?_
    refine lv_aload_n hx hb dX1_count_64 rfl (lv_at hl 0 rfl) ?_
    refine va_get (D := D) (ci := 1) (v := .ref ((A 1) 0)) (C := RX1) (T := TX1) (N := 9) hx hb hts hinX hown hK hP 0 rfl rfl 0 (by decide) lk0 (fun _ h9 => h9) rfl dX1_count_65 ?_
    refine va_getN (D := D) (ci := 0) (v := .int (xn 12 0)) (C := RX0) (T := TX0) (N := 13) hx hb hts hinH hown hK hP 1 rfl rfl 2 (by decide) (nW.f hN 2 rfl) (fun _ h9 => h9) rfl dX1_count_68 ?_
    obtain rfl := Option.some.inj hf
    exact W.iret (v := (xn 12 0)) hx hb hr (fun t ht hW => ⟨⟨(xn 12 0), (), rfl, rfl, hPt ht hP⟩, hS.F ht⟩) hS.2.2 dX1_count_71
  have hf := hF hf c3
  by_cases c4 : j1 = (3 : Int32)
  · have hf := hT hf c4
    refine sw_in (v := 3) (off := 71) (tgt := 72) hx hb dX1_count_1 ((congrArg Int32.toInt c4).trans (by decide)) (by decide) (by decide) (by decide) (by decide) ?_
    refine lv_aload_n hx hb dX1_count_72 rfl (lv_at hl 0 rfl) ?_
    refine va_get (D := D) (ci := 1) (v := .ref ((A 1) 0)) (C := RX1) (T := TX1) (N := 9) hx hb hts hinX hown hK hP 0 rfl rfl 0 (by decide) lk0 (fun _ h9 => h9) rfl dX1_count_73 ?_
    obtain ⟨v5, hev5, hf⟩ := bS hf
    refine qVN_i (As := []) (rest := []) ⟨hx, hb, hml, hown, hts⟩ hK hN hA hP hD hS (c_X0_pileBits l D cI (A 1) xn v5 hev5) ⟨va_cnB 0 hts gX1_count_X0_pileBits_n151 rfl rfl rfl (nW.m hN 26 rfl) lk1 hd_X0_pileBits.2 ⟨Nat.le_of_ble_eq_true rfl, Nat.le_of_ble_eq_true rfl⟩, lk2, lk3⟩ (va_recv hK hP (ci := 0) (q0 := 1) rfl rfl) (bq_X1_X0_n A cI xx xn xm xk) rfl hl.1 rfl (Nat.le_of_ble_eq_true rfl) dX1_count_76 ⟨Nat.le_of_ble_eq_true rfl, Nat.le_of_ble_eq_true rfl⟩ (fun H locs hP hD hS => ?_)
    obtain rfl := Option.some.inj hf
    exact W.iret (v := v5) hx hb hr (fun t ht hW => ⟨⟨v5, (), rfl, rfl, hPt ht hP⟩, hS.F ht⟩) hS.2.2 dX1_count_79
  have hf := hF hf c4
  by_cases c6 : j1 = (4 : Int32)
  · have hf := hT hf c6
    refine sw_in (v := 4) (off := 79) (tgt := 80) hx hb dX1_count_1 ((congrArg Int32.toInt c6).trans (by decide)) (by decide) (by decide) (by decide) (by decide) ?_
    refine lv_aload_n hx hb dX1_count_80 rfl (lv_at hl 0 rfl) ?_
    refine va_get (D := D) (ci := 1) (v := .ref ((A 1) 0)) (C := RX1) (T := TX1) (N := 9) hx hb hts hinX hown hK hP 0 rfl rfl 0 (by decide) lk0 (fun _ h9 => h9) rfl dX1_count_81 ?_
    obtain ⟨v7, hev7, hf⟩ := bS hf
    refine qVN_i (As := []) (rest := []) ⟨hx, hb, hml, hown, hts⟩ hK hN hA hP hD hS (c_X0_allWorth l D cI (A 1) xn v7 hev7) ⟨va_cnB 0 hts gX1_count_X0_allWorth_n171 rfl rfl rfl (nW.m hN 29 rfl) lk1 hd_X0_allWorth.2 ⟨Nat.le_of_ble_eq_true rfl, Nat.le_of_ble_eq_true rfl⟩, lk4, lk5⟩ (va_recv hK hP (ci := 0) (q0 := 1) rfl rfl) (bq_X1_X0_n A cI xx xn xm xk) rfl hl.1 rfl (Nat.le_of_ble_eq_true rfl) dX1_count_84 ⟨Nat.le_of_ble_eq_true rfl, Nat.le_of_ble_eq_true rfl⟩ (fun H locs hP hD hS => ?_)
    obtain rfl := Option.some.inj hf
    exact W.iret (v := v7) hx hb hr (fun t ht hW => ⟨⟨v7, (), rfl, rfl, hPt ht hP⟩, hS.F ht⟩) hS.2.2 dX1_count_87
  have hf := hF hf c6
  by_cases c8 : j1 = (5 : Int32)
  · have hf := hT hf c8
    refine sw_in (v := 5) (off := 87) (tgt := 88) hx hb dX1_count_1 ((congrArg Int32.toInt c8).trans (by decide)) (by decide) (by decide) (by decide) (by decide) ?_
    refine lv_aload_n hx hb dX1_count_88 rfl (lv_at hl 0 rfl) ?_
    refine va_get (D := D) (ci := 1) (v := .ref ((A 1) 0)) (C := RX1) (T := TX1) (N := 9) hx hb hts hinX hown hK hP 0 rfl rfl 0 (by decide) lk0 (fun _ h9 => h9) rfl dX1_count_89 ?_
    obtain ⟨v9, hev9, hf⟩ := bS hf
    refine qVN_i (As := []) (rest := []) ⟨hx, hb, hml, hown, hts⟩ hK hN hA hP hD hS (c_X0_allBelieved l D cI (A 1) xn v9 hev9) ⟨va_cnB 0 hts gX1_count_X0_allBelieved_n174 rfl rfl rfl (nW.m hN 30 rfl) lk1 hd_X0_allBelieved.2 ⟨Nat.le_of_ble_eq_true rfl, Nat.le_of_ble_eq_true rfl⟩, lk6, lk7⟩ (va_recv hK hP (ci := 0) (q0 := 1) rfl rfl) (bq_X1_X0_n A cI xx xn xm xk) rfl hl.1 rfl (Nat.le_of_ble_eq_true rfl) dX1_count_92 ⟨Nat.le_of_ble_eq_true rfl, Nat.le_of_ble_eq_true rfl⟩ (fun H locs hP hD hS => ?_)
    obtain rfl := Option.some.inj hf
    exact W.iret (v := v9) hx hb hr (fun t ht hW => ⟨⟨v9, (), rfl, rfl, hPt ht hP⟩, hS.F ht⟩) hS.2.2 dX1_count_95
  have hf := hF hf c8
  by_cases c10 : j1 = (6 : Int32)
  · have hf := hT hf c10
    refine sw_in (v := 6) (off := 95) (tgt := 96) hx hb dX1_count_1 ((congrArg Int32.toInt c10).trans (by decide)) (by decide) (by decide) (by decide) (by decide) ?_
    refine lv_aload_n hx hb dX1_count_96 rfl (lv_at hl 0 rfl) ?_
    refine va_get (D := D) (ci := 1) (v := .int (xx 5 0)) (C := RX1) (T := TX1) (N := 9) hx hb hts hinX hown hK hP 0 rfl rfl 7 (by decide) lk8 (fun _ h9 => h9) rfl dX1_count_97 ?_
    obtain rfl := Option.some.inj hf
    exact W.iret (v := (xx 5 0)) hx hb hr (fun t ht hW => ⟨⟨(xx 5 0), (), rfl, rfl, hPt ht hP⟩, hS.F ht⟩) hS.2.2 dX1_count_100
  have hf := hF hf c10
  by_cases c11 : j1 = (7 : Int32)
  · have hf := hT hf c11
    refine sw_in (v := 7) (off := 100) (tgt := 101) hx hb dX1_count_1 ((congrArg Int32.toInt c11).trans (by decide)) (by decide) (by decide) (by decide) (by decide) ?_
    refine lv_aload_n hx hb dX1_count_101 rfl (lv_at hl 0 rfl) ?_
    refine va_get (D := D) (ci := 1) (v := .int (xx 4 0)) (C := RX1) (T := TX1) (N := 9) hx hb hts hinX hown hK hP 0 rfl rfl 5 (by decide) lk9 (fun _ h9 => h9) rfl dX1_count_102 ?_
    obtain rfl := Option.some.inj hf
    exact W.iret (v := (xx 4 0)) hx hb hr (fun t ht hW => ⟨⟨(xx 4 0), (), rfl, rfl, hPt ht hP⟩, hS.F ht⟩) hS.2.2 dX1_count_105
  have hf := hF hf c11
  refine lv_tableOut (tgt := 106) hx hb dX1_count_1 (by have z0 := lv_neT (a := 0) c1 (by decide); have z1 := lv_neT (a := 1) c2 (by decide); have z2 := lv_neT (a := 2) c3 (by decide); have z3 := lv_neT (a := 3) c4 (by decide); have z4 := lv_neT (a := 4) c6 (by decide); have z5 := lv_neT (a := 5) c8 (by decide); have z6 := lv_neT (a := 6) c10 (by decide); have z7 := lv_neT (a := 7) c11 (by decide); omega) (by decide) ?_
  refine lv_iload_n hx hb dX1_count_106 rfl (lv_at hl 1 rfl) ?_
  refine lv_bipush (v := (11 : Int32)) hx hb dX1_count_107 (by decide) ?_
  refine lv_icmp_lt (tgt := 132) hx hb dX1_count_109 (by decide) (fun c12 => ?_) (fun c12 => ?_)
  · have hf := hT hf c12
    refine lv_bipush (v := (-9 : Int32)) hx hb dX1_count_132 (by decide) ?_
    obtain rfl := Option.some.inj hf
    exact W.iret (v := (-9 : Int32)) hx hb hr (fun t ht hW => ⟨⟨(-9 : Int32), (), rfl, rfl, hPt ht hP⟩, hS.F ht⟩) hS.2.2 dX1_count_134
  · have hf := hF hf c12
    refine lv_iload_n hx hb dX1_count_112 rfl (lv_at hl 1 rfl) ?_
    refine lv_bipush (v := (16 : Int32)) hx hb dX1_count_113 (by decide) ?_
    refine lv_icmp_gt (tgt := 132) hx hb dX1_count_115 (by decide) (fun c13 => ?_) (fun c13 => ?_)
    · have hf := hT hf c13
      refine lv_bipush (v := (-9 : Int32)) hx hb dX1_count_132 (by decide) ?_
      obtain rfl := Option.some.inj hf
      exact W.iret (v := (-9 : Int32)) hx hb hr (fun t ht hW => ⟨⟨(-9 : Int32), (), rfl, rfl, hPt ht hP⟩, hS.F ht⟩) hS.2.2 dX1_count_134
    · have hf := hF hf c13
      refine lv_aload_n hx hb dX1_count_118 rfl (lv_at hl 0 rfl) ?_
      refine va_get (D := D) (ci := 1) (v := .ref ((A 0) 3)) (C := RX1) (T := TX1) (N := 9) hx hb hts hinX hown hK hP 0 rfl rfl 8 (by decide) lk10 (fun _ h9 => h9) rfl dX1_count_119 ?_
      refine lv_iload_n hx hb dX1_count_122 rfl (lv_at hl 1 rfl) ?_
      refine lv_bipush (v := (10 : Int32)) hx hb dX1_count_123 (by decide) ?_
      refine lv_isub hx hb dX1_count_125 ?_
      refine qS_i (As := [.ref ((A 0) 3), .int (j1 - (10 : Int32))]) (rest := []) ⟨hx, hb, hml, hown, hts⟩ hK hN hA hP hD hS (c_X1_at l D cI 7 (by decide) ((A 0) 3) (xx 2) (j1 - (10 : Int32))) (va_cwS 2 hts gX1_count_X1_at rfl rfl rfl hd_X1_at.2 ⟨Nat.le_of_ble_eq_true rfl, Nat.le_of_ble_eq_true rfl⟩) (bA_X1_x_2 A cI xx xn xm xk) rfl hl.1 rfl (Nat.le_of_ble_eq_true rfl) dX1_count_126 ⟨Nat.le_of_ble_eq_true rfl, Nat.le_of_ble_eq_true rfl⟩ (fun H locs hP hD hS => ?_)
      refine lv_goto (tgt := 134) hx hb dX1_count_129 (by decide) ?_
      obtain rfl := Option.some.inj hf
      exact W.iret (v := (atv 7 (xx 2) (j1 - (10 : Int32)))) hx hb hr (fun t ht hW => ⟨⟨(atv 7 (xx 2) (j1 - (10 : Int32))), (), rfl, rfl, hPt ht hP⟩, hS.F ht⟩) hS.2.2 dX1_count_134
set_option maxHeartbeats 4000000 in
set_option maxRecDepth 100000 in
theorem c_X1_cardThen (l : Launch) (D : va_G) (cI : ClassId) (A : Nat → Nat → Nat) (j1 : Int32) (j2 : Int32) (xx : HS) (xn : HS) (xm : HS) (xk : HS) (out : Int32 × HS × HS) (hf : f_X1_cardThen j1 j2 xx xn xm xk = some out) : uI l D cI yX1_cardThen wsX1_cardThen ({ frames := 5, cells := 0, slots := 0, locals := 128 } : Room) [.ref ((A 0) 0), .int j1, .int j2] (wX A cI xx xn xm xk) (wX A cI out.2.1 xn out.2.2 xk) out.1 := by
  intro sz
  refine Met.ofW (cc := cX1_cardThen) (maxL := 4) (ret := (some .int)) (by decide) rfl ?_
  intro p e s m args below meth c s₁ Bd hml hv
  obtain ⟨rfl, hsz, hP, hK, hD0, hN⟩ := hv
  have hx := Bd.exec
  have hb := Bd.bytes
  have hr := Bd.returns
  have hts := atoms_spec (ws := wsX1_cardThen) Bd.pre
  have hown : s.vm.findClass RX1 = some m.cls := findClass_of_methodNamed Bd.named
  have hlocks := Bd.notSynchronized
  subst hsz
  have hD := hD0.self (sz := s.heap.size)
  generalize hAe : va_A (wX A cI xx xn xm xk) s.heap.size = G at hD ⊢
  have hA : ∀ q : Nat, s.heap.size ≤ q → G q := fun q h => by rw [← hAe]; exact Or.inr h
  have hS : va_S G s.heap s.heap [] := va_S.rf
  have hP : va_P D vwCl (wX A cI xx xn xm xk) s.heap := hP
  have hl := lv_entry ([.ref ((A 0) 0), .int j1, .int j2]) (n := 4) (Nat.le_of_ble_eq_true rfl)
  rw [lg_entry_eq]
  generalize (lg_sl ([.ref ((A 0) 0), .int j1, .int j2]) ++ List.replicate (4 - (lg_sl ([.ref ((A 0) 0), .int j1, .int j2])).length) Slot.unset).toArray = ls at hl ⊢
  have hl : lv_has ls 4 [(0, .ref ((A 0) 0)), (1, .int j1), (2, .int j2)] := hl
  have hinH : ∀ w ∈ wsX00, w ∈ wsX1_cardThen := by decide +kernel
  have hinX : ∀ w ∈ wsX10, w ∈ wsX1_cardThen := by decide +kernel
  have lk0 := hts (.fieldLink RX1 10 "LiesBoughtBack" "now" "LLiesBoughtBack$Hall;") (by decide +kernel)
  have lk1 := hts (.initialized RX0) (by decide +kernel)
  have lk2 := hts (.instanceMethod yX0_hasCard) (by decide +kernel)
  have lk3 := hts (.selects RX0 yX0_hasCard yX0_hasCard) (by decide +kernel)
  have lk4 := hts (.fieldLink RX1 16 "LiesBoughtBack" "mind" "LLiesBoughtBack$Hall;") (by decide +kernel)
  have lk5 := hts (.instanceMethod yX0_become) (by decide +kernel)
  have lk6 := hts (.selects RX0 yX0_become yX0_become) (by decide +kernel)
  have lk7 := hts (.instanceMethod yX0_goOn) (by decide +kernel)
  have lk8 := hts (.selects RX0 yX0_goOn yX0_goOn) (by decide +kernel)
  refine W_in ?_
  intro WW hWW
  refine (hWW _ _ _).mpr ?_
  unfold f_X1_cardThen at hf
  refine lv_aload_n hx hb dX1_cardThen_0 rfl (lv_at hl 0 rfl) ?_
  refine va_get (D := D) (ci := 1) (v := .ref ((A 1) 0)) (C := RX1) (T := TX1) (N := 9) hx hb hts hinX hown hK hP 0 rfl rfl 0 (by decide) lk0 (fun _ h9 => h9) rfl dX1_cardThen_1 ?_
  refine lv_iload_n hx hb dX1_cardThen_4 rfl (lv_at hl 1 rfl) ?_
  refine qVN_i (As := [.int j1]) (rest := []) ⟨hx, hb, hml, hown, hts⟩ hK hN hA hP hD hS (c_X0_hasCard l D cI (A 1) j1 xn (f_X0_hasCard j1 xn) rfl) ⟨va_cnB 1 hts gX1_cardThen_X0_hasCard_n69 rfl rfl rfl (nW.m hN 14 rfl) lk1 hd_X0_hasCard.2 ⟨Nat.le_of_ble_eq_true rfl, Nat.le_of_ble_eq_true rfl⟩, lk2, lk3⟩ (va_recv hK hP (ci := 0) (q0 := 1) rfl rfl) (bq_X1_X0_n A cI xx xn xm xk) rfl hl.1 rfl (Nat.le_of_ble_eq_true rfl) dX1_cardThen_5 ⟨Nat.le_of_ble_eq_true rfl, Nat.le_of_ble_eq_true rfl⟩ (fun H locs hP hD hS => ?_)
  refine lv_if_ne (tgt := 17) hx hb dX1_cardThen_8 (by decide) (fun c1 => ?_) (fun c1 => ?_)
  · have hf := hF hf c1
    refine lv_iload_n hx hb dX1_cardThen_17 rfl (lv_at hl 2 rfl) ?_
    refine lv_iconst (v := (0 : Int32)) hx hb dX1_cardThen_18 (by decide) ?_
    refine lv_bipush (v := (60 : Int32)) hx hb dX1_cardThen_19 (by decide) ?_
    refine qS_i (As := [.int j2, .int (0 : Int32), .int (60 : Int32)]) (rest := []) ⟨hx, hb, hml, hown, hts⟩ hK hN hA hP hD hS (c_X1_beyond l D cI j2 (0 : Int32) (60 : Int32) (f_X1_beyond j2 (0 : Int32) (60 : Int32)) rfl) (va_cwS 3 hts gX1_cardThen_X1_beyond rfl rfl rfl hd_X1_beyond.2 ⟨Nat.le_of_ble_eq_true rfl, Nat.le_of_ble_eq_true rfl⟩) Bp_e rfl hl.1 rfl (Nat.le_of_ble_eq_true rfl) dX1_cardThen_21 ⟨Nat.le_of_ble_eq_true rfl, Nat.le_of_ble_eq_true rfl⟩ (fun H locs hP hD hS => ?_)
    refine lv_istore_n (lv' := [(3, .int (f_X1_beyond j2 (0 : Int32) (60 : Int32))), (0, .ref ((A 0) 0)), (1, .int j1), (2, .int j2)]) hx hb dX1_cardThen_24 rfl hl (by decide) rfl (fun ls hl => ?_)
    refine lv_iload_n hx hb dX1_cardThen_25 rfl (lv_at hl 0 rfl) ?_
    refine lv_if_eq (tgt := 35) hx hb dX1_cardThen_26 (by decide) (fun c2 => ?_) (fun c2 => ?_)
    · have hf := hT hf c2
      refine lv_aload_n hx hb dX1_cardThen_35 rfl (lv_at hl 1 rfl) ?_
      refine va_get (D := D) (ci := 1) (v := .ref ((A 2) 0)) (C := RX1) (T := TX1) (N := 9) hx hb hts hinX hown hK hP 0 rfl rfl 1 (by decide) lk4 (fun _ h9 => h9) rfl dX1_cardThen_36 ?_
      refine lv_aload_n hx hb dX1_cardThen_39 rfl (lv_at hl 1 rfl) ?_
      refine va_get (D := D) (ci := 1) (v := .ref ((A 1) 0)) (C := RX1) (T := TX1) (N := 9) hx hb hts hinX hown hK hP 0 rfl rfl 0 (by decide) lk0 (fun _ h9 => h9) rfl dX1_cardThen_40 ?_
      obtain ⟨v3, hev3, hf⟩ := bS hf
      refine qVN_v (ws' := (wX A cI xx xn v3 xk)) (As := [.ref ((A 1) 0)]) (rest := []) ⟨hx, hb, hml, hown, hts⟩ hK hN hA hP hD hS (c_X0_become l D cI (A 2) (A 1) xm xn v3 hev3) ⟨va_cnB 1 hts gX1_cardThen_X0_become_n47 rfl rfl rfl (nW.m hN 1 rfl) lk1 hd_X0_become.2 ⟨Nat.le_of_ble_eq_true rfl, Nat.le_of_ble_eq_true rfl⟩, lk5, lk6⟩ (va_recv hK hP (ci := 0) (q0 := 12) rfl rfl) (bp_X1_HH_mn_h A cI xx xn xm xk v3) rfl hl.1 rfl (Nat.le_of_ble_eq_true rfl) dX1_cardThen_43 ⟨Nat.le_of_ble_eq_true rfl, Nat.le_of_ble_eq_true rfl⟩ (fun H locs hP hD hS => ?_)
      have hP : va_P D vwCl (wX A cI xx xn v3 xk) H := hP
      refine lv_aload_n hx hb dX1_cardThen_46 rfl (lv_at hl 1 rfl) ?_
      refine va_get (D := D) (ci := 1) (v := .ref ((A 2) 0)) (C := RX1) (T := TX1) (N := 9) hx hb hts hinX hown hK hP 0 rfl rfl 1 (by decide) lk4 (fun _ h9 => h9) rfl dX1_cardThen_47 ?_
      refine lv_iload_n hx hb dX1_cardThen_50 rfl (lv_at hl 3 rfl) ?_
      refine lv_iconst (v := (1 : Int32)) hx hb dX1_cardThen_51 (by decide) ?_
      obtain ⟨v4, hev4, hf⟩ := bS hf
      refine qVN_i (ws' := (wX A cI xx xn v4.2 xk)) (As := [.int j2, .int (1 : Int32)]) (rest := []) ⟨hx, hb, hml, hown, hts⟩ hK hN hA hP hD hS (c_X0_goOn l D cI (A 2) j2 (1 : Int32) v3 v4 hev4) ⟨va_cnB 2 hts gX1_cardThen_X0_goOn_n97 rfl rfl rfl (nW.m hN 12 rfl) lk1 hd_X0_goOn.2 ⟨Nat.le_of_ble_eq_true rfl, Nat.le_of_ble_eq_true rfl⟩, lk7, lk8⟩ (va_recv hK hP (ci := 0) (q0 := 12) rfl rfl) (bp_X1_X0_m_h A cI xx xn v3 xk v4.2) rfl hl.1 rfl (Nat.le_of_ble_eq_true rfl) dX1_cardThen_52 ⟨Nat.le_of_ble_eq_true rfl, Nat.le_of_ble_eq_true rfl⟩ (fun H locs hP hD hS => ?_)
      have hP : va_P D vwCl (wX A cI xx xn v4.2 xk) H := hP
      refine lv_pop hx hb dX1_cardThen_55 rfl ?_
      refine lv_aload_n hx hb dX1_cardThen_56 rfl (lv_at hl 1 rfl) ?_
      refine va_get (D := D) (ci := 1) (v := .ref ((A 2) 0)) (C := RX1) (T := TX1) (N := 9) hx hb hts hinX hown hK hP 0 rfl rfl 1 (by decide) lk4 (fun _ h9 => h9) rfl dX1_cardThen_57 ?_
      refine va_getN (D := D) (ci := 0) (v := .ref ((A 2) 5)) (C := RX0) (T := TX0) (N := 13) hx hb hts hinH hown hK hP 12 rfl rfl 7 (by decide) (nW.f hN 7 rfl) (fun _ h9 => h9) rfl dX1_cardThen_60 ?_
      refine lv_iload_n hx hb dX1_cardThen_63 rfl (lv_at hl 2 rfl) ?_
      refine qS_i (As := [.ref ((A 2) 5), .int j1]) (rest := []) ⟨hx, hb, hml, hown, hts⟩ hK hN hA hP hD hS (c_X1_at l D cI 8 (by decide) ((A 2) 5) (v4.2 4) j1) (va_cwS 2 hts gX1_cardThen_X1_at rfl rfl rfl hd_X1_at.2 ⟨Nat.le_of_ble_eq_true rfl, Nat.le_of_ble_eq_true rfl⟩) (bA_X1_m_4 A cI xx xn v4.2 xk) rfl hl.1 rfl (Nat.le_of_ble_eq_true rfl) dX1_cardThen_64 ⟨Nat.le_of_ble_eq_true rfl, Nat.le_of_ble_eq_true rfl⟩ (fun H locs hP hD hS => ?_)
      obtain rfl := Option.some.inj hf
      exact W.iret (v := (atv 8 (v4.2 4) j1)) hx hb hr (fun t ht hW => ⟨⟨(atv 8 (v4.2 4) j1), (), rfl, rfl, hPt ht hP⟩, hS.F ht⟩) hS.2.2 dX1_cardThen_67
    · have hf := hF hf c2
      refine lv_aload_n hx hb dX1_cardThen_29 rfl (lv_at hl 1 rfl) ?_
      refine lv_iload_n hx hb dX1_cardThen_30 rfl (lv_at hl 0 rfl) ?_
      obtain ⟨v5, hev5, hf⟩ := bS hf
      refine qV_i (ws' := (wX A cI v5.2 xn xm xk)) (As := [.int (f_X1_beyond j2 (0 : Int32) (60 : Int32))]) (rest := []) ⟨hx, hb, hml, hown, hts⟩ hK hN hA hP hD hS (c_X1_refuse l D cI A (f_X1_beyond j2 (0 : Int32) (60 : Int32)) xx xn xm xk v5 hev5) (cwV 1 hts gX1_cardThen_X1_refuse rfl rfl rfl hd_X1_refuse ⟨Nat.le_of_ble_eq_true rfl, Nat.le_of_ble_eq_true rfl⟩) (va_recv hK hP (ci := 1) (q0 := 0) rfl rfl) (bp_X1_X1_xnmk_x A cI xx xn xm xk v5.2) rfl hl.1 rfl (Nat.le_of_ble_eq_true rfl) dX1_cardThen_31 ⟨Nat.le_of_ble_eq_true rfl, Nat.le_of_ble_eq_true rfl⟩ (fun H locs hP hD hS => ?_)
      have hP : va_P D vwCl (wX A cI v5.2 xn xm xk) H := hP
      obtain rfl := Option.some.inj hf
      exact W.iret (v := v5.1) hx hb hr (fun t ht hW => ⟨⟨v5.1, (), rfl, rfl, hPt ht hP⟩, hS.F ht⟩) hS.2.2 dX1_cardThen_34
  · have hf := hT hf c1
    refine lv_aload_n hx hb dX1_cardThen_11 rfl (lv_at hl 0 rfl) ?_
    refine lv_iconst (v := (-1 : Int32)) hx hb dX1_cardThen_12 (by decide) ?_
    obtain ⟨v6, hev6, hf⟩ := bS hf
    refine qV_i (ws' := (wX A cI v6.2 xn xm xk)) (As := [.int (-1 : Int32)]) (rest := []) ⟨hx, hb, hml, hown, hts⟩ hK hN hA hP hD hS (c_X1_refuse l D cI A (-1 : Int32) xx xn xm xk v6 hev6) (cwV 1 hts gX1_cardThen_X1_refuse rfl rfl rfl hd_X1_refuse ⟨Nat.le_of_ble_eq_true rfl, Nat.le_of_ble_eq_true rfl⟩) (va_recv hK hP (ci := 1) (q0 := 0) rfl rfl) (bp_X1_X1_xnmk_x A cI xx xn xm xk v6.2) rfl hl.1 rfl (Nat.le_of_ble_eq_true rfl) dX1_cardThen_13 ⟨Nat.le_of_ble_eq_true rfl, Nat.le_of_ble_eq_true rfl⟩ (fun H locs hP hD hS => ?_)
    have hP : va_P D vwCl (wX A cI v6.2 xn xm xk) H := hP
    obtain rfl := Option.some.inj hf
    exact W.iret (v := v6.1) hx hb hr (fun t ht hW => ⟨⟨v6.1, (), rfl, rfl, hPt ht hP⟩, hS.F ht⟩) hS.2.2 dX1_cardThen_16
set_option maxHeartbeats 4000000 in
set_option maxRecDepth 100000 in
theorem c_X1_bidderThen (l : Launch) (D : va_G) (cI : ClassId) (A : Nat → Nat → Nat) (j1 : Int32) (j2 : Int32) (j3 : Int32) (xx : HS) (xn : HS) (xm : HS) (xk : HS) (out : Int32 × HS × HS) (hf : f_X1_bidderThen j1 j2 j3 xx xn xm xk = some out) : uI l D cI yX1_bidderThen wsX1_bidderThen ({ frames := 5, cells := 0, slots := 0, locals := 128 } : Room) [.ref ((A 0) 0), .int j1, .int j2, .int j3] (wX A cI xx xn xm xk) (wX A cI out.2.1 xn out.2.2 xk) out.1 := by
  intro sz
  refine Met.ofW (cc := cX1_bidderThen) (maxL := 5) (ret := (some .int)) (by decide) rfl ?_
  intro p e s m args below meth c s₁ Bd hml hv
  obtain ⟨rfl, hsz, hP, hK, hD0, hN⟩ := hv
  have hx := Bd.exec
  have hb := Bd.bytes
  have hr := Bd.returns
  have hts := atoms_spec (ws := wsX1_bidderThen) Bd.pre
  have hown : s.vm.findClass RX1 = some m.cls := findClass_of_methodNamed Bd.named
  have hlocks := Bd.notSynchronized
  subst hsz
  have hD := hD0.self (sz := s.heap.size)
  generalize hAe : va_A (wX A cI xx xn xm xk) s.heap.size = G at hD ⊢
  have hA : ∀ q : Nat, s.heap.size ≤ q → G q := fun q h => by rw [← hAe]; exact Or.inr h
  have hS : va_S G s.heap s.heap [] := va_S.rf
  have hP : va_P D vwCl (wX A cI xx xn xm xk) s.heap := hP
  have hl := lv_entry ([.ref ((A 0) 0), .int j1, .int j2, .int j3]) (n := 5) (Nat.le_of_ble_eq_true rfl)
  rw [lg_entry_eq]
  generalize (lg_sl ([.ref ((A 0) 0), .int j1, .int j2, .int j3]) ++ List.replicate (5 - (lg_sl ([.ref ((A 0) 0), .int j1, .int j2, .int j3])).length) Slot.unset).toArray = ls at hl ⊢
  have hl : lv_has ls 5 [(0, .ref ((A 0) 0)), (1, .int j1), (2, .int j2), (3, .int j3)] := hl
  have hinH : ∀ w ∈ wsX00, w ∈ wsX1_bidderThen := by decide +kernel
  have hinX : ∀ w ∈ wsX10, w ∈ wsX1_bidderThen := by decide +kernel
  have lk0 := hts (.fieldLink RX1 10 "LiesBoughtBack" "now" "LLiesBoughtBack$Hall;") (by decide +kernel)
  have lk1 := hts (.initialized RX0) (by decide +kernel)
  have lk2 := hts (.instanceMethod yX0_hasBidder) (by decide +kernel)
  have lk3 := hts (.selects RX0 yX0_hasBidder yX0_hasBidder) (by decide +kernel)
  have lk4 := hts (.fieldLink RX1 16 "LiesBoughtBack" "mind" "LLiesBoughtBack$Hall;") (by decide +kernel)
  have lk5 := hts (.instanceMethod yX0_become) (by decide +kernel)
  have lk6 := hts (.selects RX0 yX0_become yX0_become) (by decide +kernel)
  have lk7 := hts (.instanceMethod yX0_goOn) (by decide +kernel)
  have lk8 := hts (.selects RX0 yX0_goOn yX0_goOn) (by decide +kernel)
  refine W_in ?_
  intro WW hWW
  refine (hWW _ _ _).mpr ?_
  unfold f_X1_bidderThen at hf
  refine lv_aload_n hx hb dX1_bidderThen_0 rfl (lv_at hl 0 rfl) ?_
  refine va_get (D := D) (ci := 1) (v := .ref ((A 1) 0)) (C := RX1) (T := TX1) (N := 9) hx hb hts hinX hown hK hP 0 rfl rfl 0 (by decide) lk0 (fun _ h9 => h9) rfl dX1_bidderThen_1 ?_
  refine lv_iload_n hx hb dX1_bidderThen_4 rfl (lv_at hl 1 rfl) ?_
  refine qVN_i (As := [.int j1]) (rest := []) ⟨hx, hb, hml, hown, hts⟩ hK hN hA hP hD hS (c_X0_hasBidder l D cI (A 1) j1 xn (f_X0_hasBidder j1 xn) rfl) ⟨va_cnB 1 hts gX1_bidderThen_X0_hasBidder_n59 rfl rfl rfl (nW.m hN 13 rfl) lk1 hd_X0_hasBidder.2 ⟨Nat.le_of_ble_eq_true rfl, Nat.le_of_ble_eq_true rfl⟩, lk2, lk3⟩ (va_recv hK hP (ci := 0) (q0 := 1) rfl rfl) (bq_X1_X0_n A cI xx xn xm xk) rfl hl.1 rfl (Nat.le_of_ble_eq_true rfl) dX1_bidderThen_5 ⟨Nat.le_of_ble_eq_true rfl, Nat.le_of_ble_eq_true rfl⟩ (fun H locs hP hD hS => ?_)
  refine lv_if_ne (tgt := 17) hx hb dX1_bidderThen_8 (by decide) (fun c1 => ?_) (fun c1 => ?_)
  · have hf := hF hf c1
    refine lv_iload_n hx hb dX1_bidderThen_17 rfl (lv_at hl 2 rfl) ?_
    refine lv_iconst (v := (0 : Int32)) hx hb dX1_bidderThen_18 (by decide) ?_
    refine lv_bipush (v := (60 : Int32)) hx hb dX1_bidderThen_19 (by decide) ?_
    refine qS_i (As := [.int j2, .int (0 : Int32), .int (60 : Int32)]) (rest := []) ⟨hx, hb, hml, hown, hts⟩ hK hN hA hP hD hS (c_X1_beyond l D cI j2 (0 : Int32) (60 : Int32) (f_X1_beyond j2 (0 : Int32) (60 : Int32)) rfl) (va_cwS 3 hts gX1_bidderThen_X1_beyond rfl rfl rfl hd_X1_beyond.2 ⟨Nat.le_of_ble_eq_true rfl, Nat.le_of_ble_eq_true rfl⟩) Bp_e rfl hl.1 rfl (Nat.le_of_ble_eq_true rfl) dX1_bidderThen_21 ⟨Nat.le_of_ble_eq_true rfl, Nat.le_of_ble_eq_true rfl⟩ (fun H locs hP hD hS => ?_)
    refine lv_istore (lv' := [(4, .int (f_X1_beyond j2 (0 : Int32) (60 : Int32))), (0, .ref ((A 0) 0)), (1, .int j1), (2, .int j2), (3, .int j3)]) hx hb dX1_bidderThen_24 hl (by decide) rfl (fun ls hl => ?_)
    refine lv_iload hx hb dX1_bidderThen_26 (lv_at hl 0 rfl) ?_
    refine lv_if_eq (tgt := 38) hx hb dX1_bidderThen_28 (by decide) (fun c2 => ?_) (fun c2 => ?_)
    · have hf := hT hf c2
      refine lv_iload_n hx hb dX1_bidderThen_38 rfl (lv_at hl 4 rfl) ?_
      refine lv_if_lt (tgt := 47) hx hb dX1_bidderThen_39 (by decide) (fun c3 => ?_) (fun c3 => ?_)
      · have hf := hT hf c3
        refine lv_aload_n hx hb dX1_bidderThen_47 rfl (lv_at hl 1 rfl) ?_
        refine lv_bipush (v := (-2 : Int32)) hx hb dX1_bidderThen_48 (by decide) ?_
        obtain ⟨v4, hev4, hf⟩ := bS hf
        refine qV_i (ws' := (wX A cI v4.2 xn xm xk)) (As := [.int (-2 : Int32)]) (rest := []) ⟨hx, hb, hml, hown, hts⟩ hK hN hA hP hD hS (c_X1_refuse l D cI A (-2 : Int32) xx xn xm xk v4 hev4) (cwV 1 hts gX1_bidderThen_X1_refuse rfl rfl rfl hd_X1_refuse ⟨Nat.le_of_ble_eq_true rfl, Nat.le_of_ble_eq_true rfl⟩) (va_recv hK hP (ci := 1) (q0 := 0) rfl rfl) (bp_X1_X1_xnmk_x A cI xx xn xm xk v4.2) rfl hl.1 rfl (Nat.le_of_ble_eq_true rfl) dX1_bidderThen_50 ⟨Nat.le_of_ble_eq_true rfl, Nat.le_of_ble_eq_true rfl⟩ (fun H locs hP hD hS => ?_)
        have hP : va_P D vwCl (wX A cI v4.2 xn xm xk) H := hP
        obtain rfl := Option.some.inj hf
        exact W.iret (v := v4.1) hx hb hr (fun t ht hW => ⟨⟨v4.1, (), rfl, rfl, hPt ht hP⟩, hS.F ht⟩) hS.2.2 dX1_bidderThen_53
      · have hf := hF hf c3
        refine lv_iload_n hx hb dX1_bidderThen_42 rfl (lv_at hl 4 rfl) ?_
        refine lv_iconst (v := (1 : Int32)) hx hb dX1_bidderThen_43 (by decide) ?_
        refine lv_icmp_le (tgt := 54) hx hb dX1_bidderThen_44 (by decide) (fun c5 => ?_) (fun c5 => ?_)
        · have hf := hT hf c5
          refine lv_aload_n hx hb dX1_bidderThen_54 rfl (lv_at hl 1 rfl) ?_
          refine va_get (D := D) (ci := 1) (v := .ref ((A 2) 0)) (C := RX1) (T := TX1) (N := 9) hx hb hts hinX hown hK hP 0 rfl rfl 1 (by decide) lk4 (fun _ h9 => h9) rfl dX1_bidderThen_55 ?_
          refine lv_aload_n hx hb dX1_bidderThen_58 rfl (lv_at hl 1 rfl) ?_
          refine va_get (D := D) (ci := 1) (v := .ref ((A 1) 0)) (C := RX1) (T := TX1) (N := 9) hx hb hts hinX hown hK hP 0 rfl rfl 0 (by decide) lk0 (fun _ h9 => h9) rfl dX1_bidderThen_59 ?_
          obtain ⟨v6, hev6, hf⟩ := bS hf
          refine qVN_v (ws' := (wX A cI xx xn v6 xk)) (As := [.ref ((A 1) 0)]) (rest := []) ⟨hx, hb, hml, hown, hts⟩ hK hN hA hP hD hS (c_X0_become l D cI (A 2) (A 1) xm xn v6 hev6) ⟨va_cnB 1 hts gX1_bidderThen_X0_become_n47 rfl rfl rfl (nW.m hN 1 rfl) lk1 hd_X0_become.2 ⟨Nat.le_of_ble_eq_true rfl, Nat.le_of_ble_eq_true rfl⟩, lk5, lk6⟩ (va_recv hK hP (ci := 0) (q0 := 12) rfl rfl) (bp_X1_HH_mn_h A cI xx xn xm xk v6) rfl hl.1 rfl (Nat.le_of_ble_eq_true rfl) dX1_bidderThen_62 ⟨Nat.le_of_ble_eq_true rfl, Nat.le_of_ble_eq_true rfl⟩ (fun H locs hP hD hS => ?_)
          have hP : va_P D vwCl (wX A cI xx xn v6 xk) H := hP
          refine lv_aload_n hx hb dX1_bidderThen_65 rfl (lv_at hl 1 rfl) ?_
          refine va_get (D := D) (ci := 1) (v := .ref ((A 2) 0)) (C := RX1) (T := TX1) (N := 9) hx hb hts hinX hown hK hP 0 rfl rfl 1 (by decide) lk4 (fun _ h9 => h9) rfl dX1_bidderThen_66 ?_
          refine lv_iload_n hx hb dX1_bidderThen_69 rfl (lv_at hl 3 rfl) ?_
          refine lv_iconst (v := (1 : Int32)) hx hb dX1_bidderThen_70 (by decide) ?_
          obtain ⟨v7, hev7, hf⟩ := bS hf
          refine qVN_i (ws' := (wX A cI xx xn v7.2 xk)) (As := [.int j2, .int (1 : Int32)]) (rest := []) ⟨hx, hb, hml, hown, hts⟩ hK hN hA hP hD hS (c_X0_goOn l D cI (A 2) j2 (1 : Int32) v6 v7 hev7) ⟨va_cnB 2 hts gX1_bidderThen_X0_goOn_n97 rfl rfl rfl (nW.m hN 12 rfl) lk1 hd_X0_goOn.2 ⟨Nat.le_of_ble_eq_true rfl, Nat.le_of_ble_eq_true rfl⟩, lk7, lk8⟩ (va_recv hK hP (ci := 0) (q0 := 12) rfl rfl) (bp_X1_X0_m_h A cI xx xn v6 xk v7.2) rfl hl.1 rfl (Nat.le_of_ble_eq_true rfl) dX1_bidderThen_71 ⟨Nat.le_of_ble_eq_true rfl, Nat.le_of_ble_eq_true rfl⟩ (fun H locs hP hD hS => ?_)
          have hP : va_P D vwCl (wX A cI xx xn v7.2 xk) H := hP
          refine lv_pop hx hb dX1_bidderThen_74 rfl ?_
          refine lv_iload_n hx hb dX1_bidderThen_75 rfl (lv_at hl 4 rfl) ?_
          refine lv_if_ne (tgt := 93) hx hb dX1_bidderThen_76 (by decide) (fun c8 => ?_) (fun c8 => ?_)
          · have hf := hF hf c8
            refine lv_aload_n hx hb dX1_bidderThen_93 rfl (lv_at hl 1 rfl) ?_
            refine va_get (D := D) (ci := 1) (v := .ref ((A 2) 0)) (C := RX1) (T := TX1) (N := 9) hx hb hts hinX hown hK hP 0 rfl rfl 1 (by decide) lk4 (fun _ h9 => h9) rfl dX1_bidderThen_94 ?_
            refine va_getN (D := D) (ci := 0) (v := .ref ((A 2) 10)) (C := RX0) (T := TX0) (N := 13) hx hb hts hinH hown hK hP 12 rfl rfl 12 (by decide) (nW.f hN 11 rfl) (fun _ h9 => h9) rfl dX1_bidderThen_97 ?_
            refine lv_iload_n hx hb dX1_bidderThen_100 rfl (lv_at hl 2 rfl) ?_
            refine qS_i (As := [.ref ((A 2) 10), .int j1]) (rest := []) ⟨hx, hb, hml, hown, hts⟩ hK hN hA hP hD hS (c_X1_at l D cI 6 (by decide) ((A 2) 10) (v7.2 9) j1) (va_cwS 2 hts gX1_bidderThen_X1_at rfl rfl rfl hd_X1_at.2 ⟨Nat.le_of_ble_eq_true rfl, Nat.le_of_ble_eq_true rfl⟩) (bA_X1_m_9 A cI xx xn v7.2 xk) rfl hl.1 rfl (Nat.le_of_ble_eq_true rfl) dX1_bidderThen_101 ⟨Nat.le_of_ble_eq_true rfl, Nat.le_of_ble_eq_true rfl⟩ (fun H locs hP hD hS => ?_)
            obtain rfl := Option.some.inj hf
            exact W.iret (v := (atv 6 (v7.2 9) j1)) hx hb hr (fun t ht hW => ⟨⟨(atv 6 (v7.2 9) j1), (), rfl, rfl, hPt ht hP⟩, hS.F ht⟩) hS.2.2 dX1_bidderThen_104
          · have hf := hT hf c8
            refine lv_aload_n hx hb dX1_bidderThen_79 rfl (lv_at hl 1 rfl) ?_
            refine va_get (D := D) (ci := 1) (v := .ref ((A 2) 0)) (C := RX1) (T := TX1) (N := 9) hx hb hts hinX hown hK hP 0 rfl rfl 1 (by decide) lk4 (fun _ h9 => h9) rfl dX1_bidderThen_80 ?_
            refine va_getN (D := D) (ci := 0) (v := .ref ((A 2) 9)) (C := RX0) (T := TX0) (N := 13) hx hb hts hinH hown hK hP 12 rfl rfl 11 (by decide) (nW.f hN 10 rfl) (fun _ h9 => h9) rfl dX1_bidderThen_83 ?_
            refine lv_iload_n hx hb dX1_bidderThen_86 rfl (lv_at hl 2 rfl) ?_
            refine qS_i (As := [.ref ((A 2) 9), .int j1]) (rest := []) ⟨hx, hb, hml, hown, hts⟩ hK hN hA hP hD hS (c_X1_at l D cI 6 (by decide) ((A 2) 9) (v7.2 8) j1) (va_cwS 2 hts gX1_bidderThen_X1_at rfl rfl rfl hd_X1_at.2 ⟨Nat.le_of_ble_eq_true rfl, Nat.le_of_ble_eq_true rfl⟩) (bA_X1_m_8 A cI xx xn v7.2 xk) rfl hl.1 rfl (Nat.le_of_ble_eq_true rfl) dX1_bidderThen_87 ⟨Nat.le_of_ble_eq_true rfl, Nat.le_of_ble_eq_true rfl⟩ (fun H locs hP hD hS => ?_)
            refine lv_goto (tgt := 104) hx hb dX1_bidderThen_90 (by decide) ?_
            obtain rfl := Option.some.inj hf
            exact W.iret (v := (atv 6 (v7.2 8) j1)) hx hb hr (fun t ht hW => ⟨⟨(atv 6 (v7.2 8) j1), (), rfl, rfl, hPt ht hP⟩, hS.F ht⟩) hS.2.2 dX1_bidderThen_104
        · have hf := hF hf c5
          refine lv_aload_n hx hb dX1_bidderThen_47 rfl (lv_at hl 1 rfl) ?_
          refine lv_bipush (v := (-2 : Int32)) hx hb dX1_bidderThen_48 (by decide) ?_
          obtain ⟨v9, hev9, hf⟩ := bS hf
          refine qV_i (ws' := (wX A cI v9.2 xn xm xk)) (As := [.int (-2 : Int32)]) (rest := []) ⟨hx, hb, hml, hown, hts⟩ hK hN hA hP hD hS (c_X1_refuse l D cI A (-2 : Int32) xx xn xm xk v9 hev9) (cwV 1 hts gX1_bidderThen_X1_refuse rfl rfl rfl hd_X1_refuse ⟨Nat.le_of_ble_eq_true rfl, Nat.le_of_ble_eq_true rfl⟩) (va_recv hK hP (ci := 1) (q0 := 0) rfl rfl) (bp_X1_X1_xnmk_x A cI xx xn xm xk v9.2) rfl hl.1 rfl (Nat.le_of_ble_eq_true rfl) dX1_bidderThen_50 ⟨Nat.le_of_ble_eq_true rfl, Nat.le_of_ble_eq_true rfl⟩ (fun H locs hP hD hS => ?_)
          have hP : va_P D vwCl (wX A cI v9.2 xn xm xk) H := hP
          obtain rfl := Option.some.inj hf
          exact W.iret (v := v9.1) hx hb hr (fun t ht hW => ⟨⟨v9.1, (), rfl, rfl, hPt ht hP⟩, hS.F ht⟩) hS.2.2 dX1_bidderThen_53
    · have hf := hF hf c2
      refine lv_aload_n hx hb dX1_bidderThen_31 rfl (lv_at hl 1 rfl) ?_
      refine lv_iload hx hb dX1_bidderThen_32 (lv_at hl 0 rfl) ?_
      obtain ⟨v10, hev10, hf⟩ := bS hf
      refine qV_i (ws' := (wX A cI v10.2 xn xm xk)) (As := [.int (f_X1_beyond j2 (0 : Int32) (60 : Int32))]) (rest := []) ⟨hx, hb, hml, hown, hts⟩ hK hN hA hP hD hS (c_X1_refuse l D cI A (f_X1_beyond j2 (0 : Int32) (60 : Int32)) xx xn xm xk v10 hev10) (cwV 1 hts gX1_bidderThen_X1_refuse rfl rfl rfl hd_X1_refuse ⟨Nat.le_of_ble_eq_true rfl, Nat.le_of_ble_eq_true rfl⟩) (va_recv hK hP (ci := 1) (q0 := 0) rfl rfl) (bp_X1_X1_xnmk_x A cI xx xn xm xk v10.2) rfl hl.1 rfl (Nat.le_of_ble_eq_true rfl) dX1_bidderThen_34 ⟨Nat.le_of_ble_eq_true rfl, Nat.le_of_ble_eq_true rfl⟩ (fun H locs hP hD hS => ?_)
      have hP : va_P D vwCl (wX A cI v10.2 xn xm xk) H := hP
      obtain rfl := Option.some.inj hf
      exact W.iret (v := v10.1) hx hb hr (fun t ht hW => ⟨⟨v10.1, (), rfl, rfl, hPt ht hP⟩, hS.F ht⟩) hS.2.2 dX1_bidderThen_37
  · have hf := hT hf c1
    refine lv_aload_n hx hb dX1_bidderThen_11 rfl (lv_at hl 0 rfl) ?_
    refine lv_iconst (v := (-1 : Int32)) hx hb dX1_bidderThen_12 (by decide) ?_
    obtain ⟨v11, hev11, hf⟩ := bS hf
    refine qV_i (ws' := (wX A cI v11.2 xn xm xk)) (As := [.int (-1 : Int32)]) (rest := []) ⟨hx, hb, hml, hown, hts⟩ hK hN hA hP hD hS (c_X1_refuse l D cI A (-1 : Int32) xx xn xm xk v11 hev11) (cwV 1 hts gX1_bidderThen_X1_refuse rfl rfl rfl hd_X1_refuse ⟨Nat.le_of_ble_eq_true rfl, Nat.le_of_ble_eq_true rfl⟩) (va_recv hK hP (ci := 1) (q0 := 0) rfl rfl) (bp_X1_X1_xnmk_x A cI xx xn xm xk v11.2) rfl hl.1 rfl (Nat.le_of_ble_eq_true rfl) dX1_bidderThen_13 ⟨Nat.le_of_ble_eq_true rfl, Nat.le_of_ble_eq_true rfl⟩ (fun H locs hP hD hS => ?_)
    have hP : va_P D vwCl (wX A cI v11.2 xn xm xk) H := hP
    obtain rfl := Option.some.inj hf
    exact W.iret (v := v11.1) hx hb hr (fun t ht hW => ⟨⟨v11.1, (), rfl, rfl, hPt ht hP⟩, hS.F ht⟩) hS.2.2 dX1_bidderThen_16
set_option maxHeartbeats 4000000 in
set_option maxRecDepth 100000 in
theorem c_X1_pileThen (l : Launch) (D : va_G) (cI : ClassId) (A : Nat → Nat → Nat) (j1 : Int32) (xx : HS) (xn : HS) (xm : HS) (xk : HS) (out : Int32 × HS × HS) (hf : f_X1_pileThen j1 xx xn xm xk = some out) : uI l D cI yX1_pileThen wsX1_pileThen ({ frames := 5, cells := 0, slots := 0, locals := 128 } : Room) [.ref ((A 0) 0), .int j1] (wX A cI xx xn xm xk) (wX A cI out.2.1 xn out.2.2 xk) out.1 := by
  intro sz
  refine Met.ofW (cc := cX1_pileThen) (maxL := 3) (ret := (some .int)) (by decide) rfl ?_
  intro p e s m args below meth c s₁ Bd hml hv
  obtain ⟨rfl, hsz, hP, hK, hD0, hN⟩ := hv
  have hx := Bd.exec
  have hb := Bd.bytes
  have hr := Bd.returns
  have hts := atoms_spec (ws := wsX1_pileThen) Bd.pre
  have hown : s.vm.findClass RX1 = some m.cls := findClass_of_methodNamed Bd.named
  have hlocks := Bd.notSynchronized
  subst hsz
  have hD := hD0.self (sz := s.heap.size)
  generalize hAe : va_A (wX A cI xx xn xm xk) s.heap.size = G at hD ⊢
  have hA : ∀ q : Nat, s.heap.size ≤ q → G q := fun q h => by rw [← hAe]; exact Or.inr h
  have hS : va_S G s.heap s.heap [] := va_S.rf
  have hP : va_P D vwCl (wX A cI xx xn xm xk) s.heap := hP
  have hl := lv_entry ([.ref ((A 0) 0), .int j1]) (n := 3) (Nat.le_of_ble_eq_true rfl)
  rw [lg_entry_eq]
  generalize (lg_sl ([.ref ((A 0) 0), .int j1]) ++ List.replicate (3 - (lg_sl ([.ref ((A 0) 0), .int j1])).length) Slot.unset).toArray = ls at hl ⊢
  have hl : lv_has ls 3 [(0, .ref ((A 0) 0)), (1, .int j1)] := hl
  have hinX : ∀ w ∈ wsX10, w ∈ wsX1_pileThen := by decide +kernel
  have lk0 := hts (.fieldLink RX1 16 "LiesBoughtBack" "mind" "LLiesBoughtBack$Hall;") (by decide +kernel)
  have lk1 := hts (.fieldLink RX1 10 "LiesBoughtBack" "now" "LLiesBoughtBack$Hall;") (by decide +kernel)
  have lk2 := hts (.initialized RX0) (by decide +kernel)
  have lk3 := hts (.instanceMethod yX0_become) (by decide +kernel)
  have lk4 := hts (.selects RX0 yX0_become yX0_become) (by decide +kernel)
  have lk5 := hts (.instanceMethod yX0_goOn) (by decide +kernel)
  have lk6 := hts (.selects RX0 yX0_goOn yX0_goOn) (by decide +kernel)
  have lk7 := hts (.instanceMethod yX0_pileBits) (by decide +kernel)
  have lk8 := hts (.selects RX0 yX0_pileBits yX0_pileBits) (by decide +kernel)
  refine W_in ?_
  intro WW hWW
  refine (hWW _ _ _).mpr ?_
  unfold f_X1_pileThen at hf
  refine lv_iload_n hx hb dX1_pileThen_0 rfl (lv_at hl 1 rfl) ?_
  refine lv_iconst (v := (0 : Int32)) hx hb dX1_pileThen_1 (by decide) ?_
  refine lv_bipush (v := (60 : Int32)) hx hb dX1_pileThen_2 (by decide) ?_
  refine qS_i (As := [.int j1, .int (0 : Int32), .int (60 : Int32)]) (rest := []) ⟨hx, hb, hml, hown, hts⟩ hK hN hA hP hD hS (c_X1_beyond l D cI j1 (0 : Int32) (60 : Int32) (f_X1_beyond j1 (0 : Int32) (60 : Int32)) rfl) (va_cwS 3 hts gX1_pileThen_X1_beyond rfl rfl rfl hd_X1_beyond.2 ⟨Nat.le_of_ble_eq_true rfl, Nat.le_of_ble_eq_true rfl⟩) Bp_e rfl hl.1 rfl (Nat.le_of_ble_eq_true rfl) dX1_pileThen_4 ⟨Nat.le_of_ble_eq_true rfl, Nat.le_of_ble_eq_true rfl⟩ (fun H locs hP hD hS => ?_)
  refine lv_istore_n (lv' := [(2, .int (f_X1_beyond j1 (0 : Int32) (60 : Int32))), (0, .ref ((A 0) 0)), (1, .int j1)]) hx hb dX1_pileThen_7 rfl hl (by decide) rfl (fun ls hl => ?_)
  refine lv_iload_n hx hb dX1_pileThen_8 rfl (lv_at hl 0 rfl) ?_
  refine lv_if_eq (tgt := 18) hx hb dX1_pileThen_9 (by decide) (fun c1 => ?_) (fun c1 => ?_)
  · have hf := hT hf c1
    refine lv_aload_n hx hb dX1_pileThen_18 rfl (lv_at hl 1 rfl) ?_
    refine va_get (D := D) (ci := 1) (v := .ref ((A 2) 0)) (C := RX1) (T := TX1) (N := 9) hx hb hts hinX hown hK hP 0 rfl rfl 1 (by decide) lk0 (fun _ h9 => h9) rfl dX1_pileThen_19 ?_
    refine lv_aload_n hx hb dX1_pileThen_22 rfl (lv_at hl 1 rfl) ?_
    refine va_get (D := D) (ci := 1) (v := .ref ((A 1) 0)) (C := RX1) (T := TX1) (N := 9) hx hb hts hinX hown hK hP 0 rfl rfl 0 (by decide) lk1 (fun _ h9 => h9) rfl dX1_pileThen_23 ?_
    obtain ⟨v2, hev2, hf⟩ := bS hf
    refine qVN_v (ws' := (wX A cI xx xn v2 xk)) (As := [.ref ((A 1) 0)]) (rest := []) ⟨hx, hb, hml, hown, hts⟩ hK hN hA hP hD hS (c_X0_become l D cI (A 2) (A 1) xm xn v2 hev2) ⟨va_cnB 1 hts gX1_pileThen_X0_become_n47 rfl rfl rfl (nW.m hN 1 rfl) lk2 hd_X0_become.2 ⟨Nat.le_of_ble_eq_true rfl, Nat.le_of_ble_eq_true rfl⟩, lk3, lk4⟩ (va_recv hK hP (ci := 0) (q0 := 12) rfl rfl) (bp_X1_HH_mn_h A cI xx xn xm xk v2) rfl hl.1 rfl (Nat.le_of_ble_eq_true rfl) dX1_pileThen_26 ⟨Nat.le_of_ble_eq_true rfl, Nat.le_of_ble_eq_true rfl⟩ (fun H locs hP hD hS => ?_)
    have hP : va_P D vwCl (wX A cI xx xn v2 xk) H := hP
    refine lv_aload_n hx hb dX1_pileThen_29 rfl (lv_at hl 1 rfl) ?_
    refine va_get (D := D) (ci := 1) (v := .ref ((A 2) 0)) (C := RX1) (T := TX1) (N := 9) hx hb hts hinX hown hK hP 0 rfl rfl 1 (by decide) lk0 (fun _ h9 => h9) rfl dX1_pileThen_30 ?_
    refine lv_iload_n hx hb dX1_pileThen_33 rfl (lv_at hl 2 rfl) ?_
    refine lv_iconst (v := (1 : Int32)) hx hb dX1_pileThen_34 (by decide) ?_
    obtain ⟨v3, hev3, hf⟩ := bS hf
    refine qVN_i (ws' := (wX A cI xx xn v3.2 xk)) (As := [.int j1, .int (1 : Int32)]) (rest := []) ⟨hx, hb, hml, hown, hts⟩ hK hN hA hP hD hS (c_X0_goOn l D cI (A 2) j1 (1 : Int32) v2 v3 hev3) ⟨va_cnB 2 hts gX1_pileThen_X0_goOn_n97 rfl rfl rfl (nW.m hN 12 rfl) lk2 hd_X0_goOn.2 ⟨Nat.le_of_ble_eq_true rfl, Nat.le_of_ble_eq_true rfl⟩, lk5, lk6⟩ (va_recv hK hP (ci := 0) (q0 := 12) rfl rfl) (bp_X1_X0_m_h A cI xx xn v2 xk v3.2) rfl hl.1 rfl (Nat.le_of_ble_eq_true rfl) dX1_pileThen_35 ⟨Nat.le_of_ble_eq_true rfl, Nat.le_of_ble_eq_true rfl⟩ (fun H locs hP hD hS => ?_)
    have hP : va_P D vwCl (wX A cI xx xn v3.2 xk) H := hP
    refine lv_pop hx hb dX1_pileThen_38 rfl ?_
    refine lv_aload_n hx hb dX1_pileThen_39 rfl (lv_at hl 1 rfl) ?_
    refine va_get (D := D) (ci := 1) (v := .ref ((A 2) 0)) (C := RX1) (T := TX1) (N := 9) hx hb hts hinX hown hK hP 0 rfl rfl 1 (by decide) lk0 (fun _ h9 => h9) rfl dX1_pileThen_40 ?_
    obtain ⟨v4, hev4, hf⟩ := bS hf
    refine qVN_i (As := []) (rest := []) ⟨hx, hb, hml, hown, hts⟩ hK hN hA hP hD hS (c_X0_pileBits l D cI (A 2) v3.2 v4 hev4) ⟨va_cnB 0 hts gX1_pileThen_X0_pileBits_n151 rfl rfl rfl (nW.m hN 26 rfl) lk2 hd_X0_pileBits.2 ⟨Nat.le_of_ble_eq_true rfl, Nat.le_of_ble_eq_true rfl⟩, lk7, lk8⟩ (va_recv hK hP (ci := 0) (q0 := 12) rfl rfl) (bq_X1_X0_m A cI xx xn v3.2 xk) rfl hl.1 rfl (Nat.le_of_ble_eq_true rfl) dX1_pileThen_43 ⟨Nat.le_of_ble_eq_true rfl, Nat.le_of_ble_eq_true rfl⟩ (fun H locs hP hD hS => ?_)
    obtain rfl := Option.some.inj hf
    exact W.iret (v := v4) hx hb hr (fun t ht hW => ⟨⟨v4, (), rfl, rfl, hPt ht hP⟩, hS.F ht⟩) hS.2.2 dX1_pileThen_46
  · have hf := hF hf c1
    refine lv_aload_n hx hb dX1_pileThen_12 rfl (lv_at hl 1 rfl) ?_
    refine lv_iload_n hx hb dX1_pileThen_13 rfl (lv_at hl 0 rfl) ?_
    obtain ⟨v5, hev5, hf⟩ := bS hf
    refine qV_i (ws' := (wX A cI v5.2 xn xm xk)) (As := [.int (f_X1_beyond j1 (0 : Int32) (60 : Int32))]) (rest := []) ⟨hx, hb, hml, hown, hts⟩ hK hN hA hP hD hS (c_X1_refuse l D cI A (f_X1_beyond j1 (0 : Int32) (60 : Int32)) xx xn xm xk v5 hev5) (cwV 1 hts gX1_pileThen_X1_refuse rfl rfl rfl hd_X1_refuse ⟨Nat.le_of_ble_eq_true rfl, Nat.le_of_ble_eq_true rfl⟩) (va_recv hK hP (ci := 1) (q0 := 0) rfl rfl) (bp_X1_X1_xnmk_x A cI xx xn xm xk v5.2) rfl hl.1 rfl (Nat.le_of_ble_eq_true rfl) dX1_pileThen_14 ⟨Nat.le_of_ble_eq_true rfl, Nat.le_of_ble_eq_true rfl⟩ (fun H locs hP hD hS => ?_)
    have hP : va_P D vwCl (wX A cI v5.2 xn xm xk) H := hP
    obtain rfl := Option.some.inj hf
    exact W.iret (v := v5.1) hx hb hr (fun t ht hW => ⟨⟨v5.1, (), rfl, rfl, hPt ht hP⟩, hS.F ht⟩) hS.2.2 dX1_pileThen_17
set_option maxHeartbeats 4000000 in
set_option maxRecDepth 100000 in
theorem c_X1_sold (l : Launch) (D : va_G) (cI : ClassId) (A : Nat → Nat → Nat) (j1 : Int32) (xx : HS) (xn : HS) (xm : HS) (xk : HS) (out : Int32 × HS × HS) (hf : f_X1_sold j1 xx xn xm xk = some out) : uI l D cI yX1_sold wsX1_sold ({ frames := 5, cells := 0, slots := 0, locals := 128 } : Room) [.ref ((A 0) 0), .int j1] (wX A cI xx xn xm xk) (wX A cI out.2.1 xn out.2.2 xk) out.1 := by
  intro sz
  refine Met.ofW (cc := cX1_sold) (maxL := 3) (ret := (some .int)) (by decide) rfl ?_
  intro p e s m args below meth c s₁ Bd hml hv
  obtain ⟨rfl, hsz, hP, hK, hD0, hN⟩ := hv
  have hx := Bd.exec
  have hb := Bd.bytes
  have hr := Bd.returns
  have hts := atoms_spec (ws := wsX1_sold) Bd.pre
  have hown : s.vm.findClass RX1 = some m.cls := findClass_of_methodNamed Bd.named
  have hlocks := Bd.notSynchronized
  subst hsz
  have hD := hD0.self (sz := s.heap.size)
  generalize hAe : va_A (wX A cI xx xn xm xk) s.heap.size = G at hD ⊢
  have hA : ∀ q : Nat, s.heap.size ≤ q → G q := fun q h => by rw [← hAe]; exact Or.inr h
  have hS : va_S G s.heap s.heap [] := va_S.rf
  have hP : va_P D vwCl (wX A cI xx xn xm xk) s.heap := hP
  have hl := lv_entry ([.ref ((A 0) 0), .int j1]) (n := 3) (Nat.le_of_ble_eq_true rfl)
  rw [lg_entry_eq]
  generalize (lg_sl ([.ref ((A 0) 0), .int j1]) ++ List.replicate (3 - (lg_sl ([.ref ((A 0) 0), .int j1])).length) Slot.unset).toArray = ls at hl ⊢
  have hl : lv_has ls 3 [(0, .ref ((A 0) 0)), (1, .int j1)] := hl
  have hinX : ∀ w ∈ wsX10, w ∈ wsX1_sold := by decide +kernel
  have lk0 := hts (.fieldLink RX1 10 "LiesBoughtBack" "now" "LLiesBoughtBack$Hall;") (by decide +kernel)
  have lk1 := hts (.initialized RX0) (by decide +kernel)
  have lk2 := hts (.instanceMethod yX0_hasCard) (by decide +kernel)
  have lk3 := hts (.selects RX0 yX0_hasCard yX0_hasCard) (by decide +kernel)
  have lk4 := hts (.fieldLink RX1 16 "LiesBoughtBack" "mind" "LLiesBoughtBack$Hall;") (by decide +kernel)
  have lk5 := hts (.instanceMethod yX0_become) (by decide +kernel)
  have lk6 := hts (.selects RX0 yX0_become yX0_become) (by decide +kernel)
  have lk7 := hts (.instanceMethod yX0_inPile) (by decide +kernel)
  have lk8 := hts (.selects RX0 yX0_inPile yX0_inPile) (by decide +kernel)
  have lk9 := hts (.instanceMethod yX0_goOn) (by decide +kernel)
  have lk10 := hts (.selects RX0 yX0_goOn yX0_goOn) (by decide +kernel)
  refine W_in ?_
  intro WW hWW
  refine (hWW _ _ _).mpr ?_
  unfold f_X1_sold at hf
  refine lv_aload_n hx hb dX1_sold_0 rfl (lv_at hl 0 rfl) ?_
  refine va_get (D := D) (ci := 1) (v := .ref ((A 1) 0)) (C := RX1) (T := TX1) (N := 9) hx hb hts hinX hown hK hP 0 rfl rfl 0 (by decide) lk0 (fun _ h9 => h9) rfl dX1_sold_1 ?_
  refine lv_iload_n hx hb dX1_sold_4 rfl (lv_at hl 1 rfl) ?_
  refine qVN_i (As := [.int j1]) (rest := []) ⟨hx, hb, hml, hown, hts⟩ hK hN hA hP hD hS (c_X0_hasCard l D cI (A 1) j1 xn (f_X0_hasCard j1 xn) rfl) ⟨va_cnB 1 hts gX1_sold_X0_hasCard_n69 rfl rfl rfl (nW.m hN 14 rfl) lk1 hd_X0_hasCard.2 ⟨Nat.le_of_ble_eq_true rfl, Nat.le_of_ble_eq_true rfl⟩, lk2, lk3⟩ (va_recv hK hP (ci := 0) (q0 := 1) rfl rfl) (bq_X1_X0_n A cI xx xn xm xk) rfl hl.1 rfl (Nat.le_of_ble_eq_true rfl) dX1_sold_5 ⟨Nat.le_of_ble_eq_true rfl, Nat.le_of_ble_eq_true rfl⟩ (fun H locs hP hD hS => ?_)
  refine lv_if_ne (tgt := 17) hx hb dX1_sold_8 (by decide) (fun c1 => ?_) (fun c1 => ?_)
  · have hf := hF hf c1
    refine lv_aload_n hx hb dX1_sold_17 rfl (lv_at hl 0 rfl) ?_
    refine va_get (D := D) (ci := 1) (v := .ref ((A 2) 0)) (C := RX1) (T := TX1) (N := 9) hx hb hts hinX hown hK hP 0 rfl rfl 1 (by decide) lk4 (fun _ h9 => h9) rfl dX1_sold_18 ?_
    refine lv_aload_n hx hb dX1_sold_21 rfl (lv_at hl 0 rfl) ?_
    refine va_get (D := D) (ci := 1) (v := .ref ((A 1) 0)) (C := RX1) (T := TX1) (N := 9) hx hb hts hinX hown hK hP 0 rfl rfl 0 (by decide) lk0 (fun _ h9 => h9) rfl dX1_sold_22 ?_
    obtain ⟨v2, hev2, hf⟩ := bS hf
    refine qVN_v (ws' := (wX A cI xx xn v2 xk)) (As := [.ref ((A 1) 0)]) (rest := []) ⟨hx, hb, hml, hown, hts⟩ hK hN hA hP hD hS (c_X0_become l D cI (A 2) (A 1) xm xn v2 hev2) ⟨va_cnB 1 hts gX1_sold_X0_become_n47 rfl rfl rfl (nW.m hN 1 rfl) lk1 hd_X0_become.2 ⟨Nat.le_of_ble_eq_true rfl, Nat.le_of_ble_eq_true rfl⟩, lk5, lk6⟩ (va_recv hK hP (ci := 0) (q0 := 12) rfl rfl) (bp_X1_HH_mn_h A cI xx xn xm xk v2) rfl hl.1 rfl (Nat.le_of_ble_eq_true rfl) dX1_sold_25 ⟨Nat.le_of_ble_eq_true rfl, Nat.le_of_ble_eq_true rfl⟩ (fun H locs hP hD hS => ?_)
    have hP : va_P D vwCl (wX A cI xx xn v2 xk) H := hP
    refine lv_iconst (v := (0 : Int32)) hx hb dX1_sold_28 (by decide) ?_
    refine lv_istore_n (lv' := [(2, .int (0 : Int32)), (0, .ref ((A 0) 0)), (1, .int j1)]) hx hb dX1_sold_29 rfl hl (by decide) rfl (fun ls hl => ?_)
    obtain ⟨K65, hK65, hf⟩ := jnS hf
    have J65 : ∀ (xx_65 : HS) (xm_65 : HS) (H : Heap) (locs : List Loc) (ls : Array Slot), K65 xx_65 xm_65 = some out → va_P D vwCl (wX A cI xx_65 xn xm_65 xk) H → va_D G (wX A cI xx_65 xn xm_65 xk) → va_S G s.heap H locs → lv_has ls 3 [] → WW H locs (F0 m 65 ls []) := by
      intro xx_65 xm_65 H locs ls hf hP hD hS hl
      subst hK65
      refine (hWW _ _ _).mpr ?_
      refine lv_bipush (v := (-9 : Int32)) hx hb dX1_sold_65 (by decide) ?_
      obtain rfl := Option.some.inj hf
      exact W.iret (v := (-9 : Int32)) hx hb hr (fun t ht hW => ⟨⟨(-9 : Int32), (), rfl, rfl, hPt ht hP⟩, hS.F ht⟩) hS.2.2 dX1_sold_67
    have P30 : ∀ (n' : Nat) (j2_30 : Int32) (xx_30 : HS) (xm_30 : HS) (H : Heap) (locs : List Loc) (ls : Array Slot), L_X1_sold_30 j1 xn xk K65 n' j2_30 xx_30 xm_30 = some out → va_P D vwCl (wX A cI xx_30 xn xm_30 xk) H → va_D G (wX A cI xx_30 xn xm_30 xk) → va_S G s.heap H locs → lv_has ls 3 [(0, .ref ((A 0) 0)), (1, .int j1), (2, .int j2_30)] → WW H locs (F0 m 30 ls []) := by
      intro n'
      induction n' with
      | zero => intro j2_30 xx_30 xm_30 H locs ls hf; exact absurd (show (none : Option (Int32 × HS × HS)) = some out from hf) (fun q => by cases q)
      | succ n' ih =>
        intro j2_30 xx_30 xm_30 H locs ls hf hP hD hS hl
        rw [L_X1_sold_30] at hf
        refine (hWW _ _ _).mpr ?_
        refine lv_iload_n hx hb dX1_sold_30 rfl (lv_at hl 2 rfl) ?_
        refine lv_bipush (v := (60 : Int32)) hx hb dX1_sold_31 (by decide) ?_
        refine lv_icmp_gt (tgt := 65) hx hb dX1_sold_33 (by decide) (fun c3 => ?_) (fun c3 => ?_)
        · have hf := hT hf c3
          exact (hWW _ _ _).mp (J65 _ _ _ _ _ hf hP hD hS (lv_sub hl [] rfl))
        · have hf := hF hf c3
          refine lv_aload_n hx hb dX1_sold_36 rfl (lv_at hl 0 rfl) ?_
          refine va_get (D := D) (ci := 1) (v := .ref ((A 2) 0)) (C := RX1) (T := TX1) (N := 9) hx hb hts hinX hown hK hP 0 rfl rfl 1 (by decide) lk4 (fun _ h9 => h9) rfl dX1_sold_37 ?_
          refine lv_iload_n hx hb dX1_sold_40 rfl (lv_at hl 1 rfl) ?_
          refine qVN_i (As := [.int j1]) (rest := []) ⟨hx, hb, hml, hown, hts⟩ hK hN hA hP hD hS (c_X0_inPile l D cI (A 2) j1 xm_30 (f_X0_inPile j1 xm_30) rfl) ⟨va_cnB 1 hts gX1_sold_X0_inPile_n72 rfl rfl rfl (nW.m hN 15 rfl) lk1 hd_X0_inPile.2 ⟨Nat.le_of_ble_eq_true rfl, Nat.le_of_ble_eq_true rfl⟩, lk7, lk8⟩ (va_recv hK hP (ci := 0) (q0 := 12) rfl rfl) (bq_X1_X0_m A cI xx_30 xn xm_30 xk) rfl hl.1 rfl (Nat.le_of_ble_eq_true rfl) dX1_sold_41 ⟨Nat.le_of_ble_eq_true rfl, Nat.le_of_ble_eq_true rfl⟩ (fun H locs hP hD hS => ?_)
          refine lv_if_ne (tgt := 49) hx hb dX1_sold_44 (by decide) (fun c4 => ?_) (fun c4 => ?_)
          · have hf := hF hf c4
            refine lv_aload_n hx hb dX1_sold_49 rfl (lv_at hl 0 rfl) ?_
            refine va_get (D := D) (ci := 1) (v := .ref ((A 2) 0)) (C := RX1) (T := TX1) (N := 9) hx hb hts hinX hown hK hP 0 rfl rfl 1 (by decide) lk4 (fun _ h9 => h9) rfl dX1_sold_50 ?_
            refine lv_iconst (v := (1 : Int32)) hx hb dX1_sold_53 (by decide) ?_
            refine lv_iconst (v := (1 : Int32)) hx hb dX1_sold_54 (by decide) ?_
            obtain ⟨v5, hev5, hf⟩ := bS hf
            refine qVN_i (ws' := (wX A cI xx_30 xn v5.2 xk)) (As := [.int (1 : Int32), .int (1 : Int32)]) (rest := []) ⟨hx, hb, hml, hown, hts⟩ hK hN hA hP hD hS (c_X0_goOn l D cI (A 2) (1 : Int32) (1 : Int32) xm_30 v5 hev5) ⟨va_cnB 2 hts gX1_sold_X0_goOn_n97 rfl rfl rfl (nW.m hN 12 rfl) lk1 hd_X0_goOn.2 ⟨Nat.le_of_ble_eq_true rfl, Nat.le_of_ble_eq_true rfl⟩, lk9, lk10⟩ (va_recv hK hP (ci := 0) (q0 := 12) rfl rfl) (bp_X1_X0_m_h A cI xx_30 xn xm_30 xk v5.2) rfl hl.1 rfl (Nat.le_of_ble_eq_true rfl) dX1_sold_55 ⟨Nat.le_of_ble_eq_true rfl, Nat.le_of_ble_eq_true rfl⟩ (fun H locs hP hD hS => ?_)
            have hP : va_P D vwCl (wX A cI xx_30 xn v5.2 xk) H := hP
            refine lv_pop hx hb dX1_sold_58 rfl ?_
            refine lv_iinc (v := (j2_30 + (1 : Int32))) (lv' := [(2, .int (j2_30 + (1 : Int32))), (0, .ref ((A 0) 0)), (1, .int j1)]) hx hb dX1_sold_59 hl (k := 2) rfl rfl (by decide) rfl (fun ls hl => ?_)
            refine lv_goto (tgt := 30) hx hb dX1_sold_62 (by decide) ?_
            exact (hWW _ _ _).mp (ih _ _ _ _ _ _ hf hP hD hS (lv_sub hl [1, 2, 0] rfl))
          · have hf := hT hf c4
            refine lv_iload_n hx hb dX1_sold_47 rfl (lv_at hl 2 rfl) ?_
            obtain rfl := Option.some.inj hf
            exact W.iret (v := j2_30) hx hb hr (fun t ht hW => ⟨⟨j2_30, (), rfl, rfl, hPt ht hP⟩, hS.F ht⟩) hS.2.2 dX1_sold_48
    exact (hWW _ _ _).mp (P30 _ _ _ _ _ _ _ hf hP hD hS (lv_sub hl [1, 2, 0] rfl))
  · have hf := hT hf c1
    refine lv_aload_n hx hb dX1_sold_11 rfl (lv_at hl 0 rfl) ?_
    refine lv_iconst (v := (-1 : Int32)) hx hb dX1_sold_12 (by decide) ?_
    obtain ⟨v6, hev6, hf⟩ := bS hf
    refine qV_i (ws' := (wX A cI v6.2 xn xm xk)) (As := [.int (-1 : Int32)]) (rest := []) ⟨hx, hb, hml, hown, hts⟩ hK hN hA hP hD hS (c_X1_refuse l D cI A (-1 : Int32) xx xn xm xk v6 hev6) (cwV 1 hts gX1_sold_X1_refuse rfl rfl rfl hd_X1_refuse ⟨Nat.le_of_ble_eq_true rfl, Nat.le_of_ble_eq_true rfl⟩) (va_recv hK hP (ci := 1) (q0 := 0) rfl rfl) (bp_X1_X1_xnmk_x A cI xx xn xm xk v6.2) rfl hl.1 rfl (Nat.le_of_ble_eq_true rfl) dX1_sold_13 ⟨Nat.le_of_ble_eq_true rfl, Nat.le_of_ble_eq_true rfl⟩ (fun H locs hP hD hS => ?_)
    have hP : va_P D vwCl (wX A cI v6.2 xn xm xk) H := hP
    obtain rfl := Option.some.inj hf
    exact W.iret (v := v6.1) hx hb hr (fun t ht hW => ⟨⟨v6.1, (), rfl, rfl, hPt ht hP⟩, hS.F ht⟩) hS.2.2 dX1_sold_16
set_option maxHeartbeats 4000000 in
set_option maxRecDepth 100000 in
theorem c_X1_out (l : Launch) (D : va_G) (cI : ClassId) (A : Nat → Nat → Nat) (xx : HS) (xn : HS) (xm : HS) (xk : HS) (out : Int32 × HS) (hf : f_X1_out xx xn xm xk = some out) : uI l D cI yX1_out wsX1_out ({ frames := 5, cells := 0, slots := 0, locals := 128 } : Room) [.ref ((A 0) 0)] (wX A cI xx xn xm xk) (wX A cI xx xn out.2 xk) out.1 := by
  intro sz
  refine Met.ofW (cc := cX1_out) (maxL := 2) (ret := (some .int)) (by decide) rfl ?_
  intro p e s m args below meth c s₁ Bd hml hv
  obtain ⟨rfl, hsz, hP, hK, hD0, hN⟩ := hv
  have hx := Bd.exec
  have hb := Bd.bytes
  have hr := Bd.returns
  have hts := atoms_spec (ws := wsX1_out) Bd.pre
  have hown : s.vm.findClass RX1 = some m.cls := findClass_of_methodNamed Bd.named
  have hlocks := Bd.notSynchronized
  subst hsz
  have hD := hD0.self (sz := s.heap.size)
  generalize hAe : va_A (wX A cI xx xn xm xk) s.heap.size = G at hD ⊢
  have hA : ∀ q : Nat, s.heap.size ≤ q → G q := fun q h => by rw [← hAe]; exact Or.inr h
  have hS : va_S G s.heap s.heap [] := va_S.rf
  have hP : va_P D vwCl (wX A cI xx xn xm xk) s.heap := hP
  have hl := lv_entry ([.ref ((A 0) 0)]) (n := 2) (Nat.le_of_ble_eq_true rfl)
  rw [lg_entry_eq]
  generalize (lg_sl ([.ref ((A 0) 0)]) ++ List.replicate (2 - (lg_sl ([.ref ((A 0) 0)])).length) Slot.unset).toArray = ls at hl ⊢
  have hl : lv_has ls 2 [(0, .ref ((A 0) 0))] := hl
  have hinX : ∀ w ∈ wsX10, w ∈ wsX1_out := by decide +kernel
  have lk0 := hts (.fieldLink RX1 16 "LiesBoughtBack" "mind" "LLiesBoughtBack$Hall;") (by decide +kernel)
  have lk1 := hts (.fieldLink RX1 10 "LiesBoughtBack" "now" "LLiesBoughtBack$Hall;") (by decide +kernel)
  have lk2 := hts (.initialized RX0) (by decide +kernel)
  have lk3 := hts (.instanceMethod yX0_become) (by decide +kernel)
  have lk4 := hts (.selects RX0 yX0_become yX0_become) (by decide +kernel)
  have lk5 := hts (.instanceMethod yX0_pileBits) (by decide +kernel)
  have lk6 := hts (.selects RX0 yX0_pileBits yX0_pileBits) (by decide +kernel)
  have lk7 := hts (.instanceMethod yX0_goOn) (by decide +kernel)
  have lk8 := hts (.selects RX0 yX0_goOn yX0_goOn) (by decide +kernel)
  refine W_in ?_
  intro WW hWW
  refine (hWW _ _ _).mpr ?_
  unfold f_X1_out at hf
  refine lv_aload_n hx hb dX1_out_0 rfl (lv_at hl 0 rfl) ?_
  refine va_get (D := D) (ci := 1) (v := .ref ((A 2) 0)) (C := RX1) (T := TX1) (N := 9) hx hb hts hinX hown hK hP 0 rfl rfl 1 (by decide) lk0 (fun _ h9 => h9) rfl dX1_out_1 ?_
  refine lv_aload_n hx hb dX1_out_4 rfl (lv_at hl 0 rfl) ?_
  refine va_get (D := D) (ci := 1) (v := .ref ((A 1) 0)) (C := RX1) (T := TX1) (N := 9) hx hb hts hinX hown hK hP 0 rfl rfl 0 (by decide) lk1 (fun _ h9 => h9) rfl dX1_out_5 ?_
  obtain ⟨v1, hev1, hf⟩ := bS hf
  refine qVN_v (ws' := (wX A cI xx xn v1 xk)) (As := [.ref ((A 1) 0)]) (rest := []) ⟨hx, hb, hml, hown, hts⟩ hK hN hA hP hD hS (c_X0_become l D cI (A 2) (A 1) xm xn v1 hev1) ⟨va_cnB 1 hts gX1_out_X0_become_n47 rfl rfl rfl (nW.m hN 1 rfl) lk2 hd_X0_become.2 ⟨Nat.le_of_ble_eq_true rfl, Nat.le_of_ble_eq_true rfl⟩, lk3, lk4⟩ (va_recv hK hP (ci := 0) (q0 := 12) rfl rfl) (bp_X1_HH_mn_h A cI xx xn xm xk v1) rfl hl.1 rfl (Nat.le_of_ble_eq_true rfl) dX1_out_8 ⟨Nat.le_of_ble_eq_true rfl, Nat.le_of_ble_eq_true rfl⟩ (fun H locs hP hD hS => ?_)
  have hP : va_P D vwCl (wX A cI xx xn v1 xk) H := hP
  refine lv_iconst (v := (0 : Int32)) hx hb dX1_out_11 (by decide) ?_
  refine lv_istore_n (lv' := [(1, .int (0 : Int32)), (0, .ref ((A 0) 0))]) hx hb dX1_out_12 rfl hl (by decide) rfl (fun ls hl => ?_)
  obtain ⟨K47, hK47, hf⟩ := jnS hf
  have J47 : ∀ (xm_47 : HS) (H : Heap) (locs : List Loc) (ls : Array Slot), K47 xm_47 = some out → va_P D vwCl (wX A cI xx xn xm_47 xk) H → va_D G (wX A cI xx xn xm_47 xk) → va_S G s.heap H locs → lv_has ls 2 [] → WW H locs (F0 m 47 ls []) := by
    intro xm_47 H locs ls hf hP hD hS hl
    subst hK47
    refine (hWW _ _ _).mpr ?_
    refine lv_bipush (v := (-9 : Int32)) hx hb dX1_out_47 (by decide) ?_
    obtain rfl := Option.some.inj hf
    exact W.iret (v := (-9 : Int32)) hx hb hr (fun t ht hW => ⟨⟨(-9 : Int32), (), rfl, rfl, hPt ht hP⟩, hS.F ht⟩) hS.2.2 dX1_out_49
  have P13 : ∀ (n' : Nat) (j1_13 : Int32) (xm_13 : HS) (H : Heap) (locs : List Loc) (ls : Array Slot), L_X1_out_13 xx xn xk K47 n' j1_13 xm_13 = some out → va_P D vwCl (wX A cI xx xn xm_13 xk) H → va_D G (wX A cI xx xn xm_13 xk) → va_S G s.heap H locs → lv_has ls 2 [(0, .ref ((A 0) 0)), (1, .int j1_13)] → WW H locs (F0 m 13 ls []) := by
    intro n'
    induction n' with
    | zero => intro j1_13 xm_13 H locs ls hf; exact absurd (show (none : Option (Int32 × HS)) = some out from hf) (fun q => by cases q)
    | succ n' ih =>
      intro j1_13 xm_13 H locs ls hf hP hD hS hl
      rw [L_X1_out_13] at hf
      refine (hWW _ _ _).mpr ?_
      refine lv_iload_n hx hb dX1_out_13 rfl (lv_at hl 1 rfl) ?_
      refine lv_bipush (v := (60 : Int32)) hx hb dX1_out_14 (by decide) ?_
      refine lv_icmp_gt (tgt := 47) hx hb dX1_out_16 (by decide) (fun c2 => ?_) (fun c2 => ?_)
      · have hf := hT hf c2
        exact (hWW _ _ _).mp (J47 _ _ _ _ hf hP hD hS (lv_sub hl [] rfl))
      · have hf := hF hf c2
        refine lv_aload_n hx hb dX1_out_19 rfl (lv_at hl 0 rfl) ?_
        refine va_get (D := D) (ci := 1) (v := .ref ((A 2) 0)) (C := RX1) (T := TX1) (N := 9) hx hb hts hinX hown hK hP 0 rfl rfl 1 (by decide) lk0 (fun _ h9 => h9) rfl dX1_out_20 ?_
        obtain ⟨v3, hev3, hf⟩ := bS hf
        refine qVN_i (As := []) (rest := []) ⟨hx, hb, hml, hown, hts⟩ hK hN hA hP hD hS (c_X0_pileBits l D cI (A 2) xm_13 v3 hev3) ⟨va_cnB 0 hts gX1_out_X0_pileBits_n151 rfl rfl rfl (nW.m hN 26 rfl) lk2 hd_X0_pileBits.2 ⟨Nat.le_of_ble_eq_true rfl, Nat.le_of_ble_eq_true rfl⟩, lk5, lk6⟩ (va_recv hK hP (ci := 0) (q0 := 12) rfl rfl) (bq_X1_X0_m A cI xx xn xm_13 xk) rfl hl.1 rfl (Nat.le_of_ble_eq_true rfl) dX1_out_23 ⟨Nat.le_of_ble_eq_true rfl, Nat.le_of_ble_eq_true rfl⟩ (fun H locs hP hD hS => ?_)
        refine lv_if_ne (tgt := 31) hx hb dX1_out_26 (by decide) (fun c4 => ?_) (fun c4 => ?_)
        · have hf := hF hf c4
          refine lv_aload_n hx hb dX1_out_31 rfl (lv_at hl 0 rfl) ?_
          refine va_get (D := D) (ci := 1) (v := .ref ((A 2) 0)) (C := RX1) (T := TX1) (N := 9) hx hb hts hinX hown hK hP 0 rfl rfl 1 (by decide) lk0 (fun _ h9 => h9) rfl dX1_out_32 ?_
          refine lv_iconst (v := (1 : Int32)) hx hb dX1_out_35 (by decide) ?_
          refine lv_iconst (v := (1 : Int32)) hx hb dX1_out_36 (by decide) ?_
          obtain ⟨v5, hev5, hf⟩ := bS hf
          refine qVN_i (ws' := (wX A cI xx xn v5.2 xk)) (As := [.int (1 : Int32), .int (1 : Int32)]) (rest := []) ⟨hx, hb, hml, hown, hts⟩ hK hN hA hP hD hS (c_X0_goOn l D cI (A 2) (1 : Int32) (1 : Int32) xm_13 v5 hev5) ⟨va_cnB 2 hts gX1_out_X0_goOn_n97 rfl rfl rfl (nW.m hN 12 rfl) lk2 hd_X0_goOn.2 ⟨Nat.le_of_ble_eq_true rfl, Nat.le_of_ble_eq_true rfl⟩, lk7, lk8⟩ (va_recv hK hP (ci := 0) (q0 := 12) rfl rfl) (bp_X1_X0_m_h A cI xx xn xm_13 xk v5.2) rfl hl.1 rfl (Nat.le_of_ble_eq_true rfl) dX1_out_37 ⟨Nat.le_of_ble_eq_true rfl, Nat.le_of_ble_eq_true rfl⟩ (fun H locs hP hD hS => ?_)
          have hP : va_P D vwCl (wX A cI xx xn v5.2 xk) H := hP
          refine lv_pop hx hb dX1_out_40 rfl ?_
          refine lv_iinc (v := (j1_13 + (1 : Int32))) (lv' := [(1, .int (j1_13 + (1 : Int32))), (0, .ref ((A 0) 0))]) hx hb dX1_out_41 hl (k := 1) rfl rfl (by decide) rfl (fun ls hl => ?_)
          refine lv_goto (tgt := 13) hx hb dX1_out_44 (by decide) ?_
          exact (hWW _ _ _).mp (ih _ _ _ _ _ hf hP hD hS (lv_sub hl [1, 0] rfl))
        · have hf := hT hf c4
          refine lv_iload_n hx hb dX1_out_29 rfl (lv_at hl 1 rfl) ?_
          obtain rfl := Option.some.inj hf
          exact W.iret (v := j1_13) hx hb hr (fun t ht hW => ⟨⟨j1_13, (), rfl, rfl, hPt ht hP⟩, hS.F ht⟩) hS.2.2 dX1_out_30
  exact (hWW _ _ _).mp (P13 _ _ _ _ _ _ hf hP hD hS (lv_sub hl [1, 0] rfl))
set_option maxHeartbeats 4000000 in
set_option maxRecDepth 100000 in
theorem c_X1_ruined (l : Launch) (D : va_G) (cI : ClassId) (A : Nat → Nat → Nat) (j1 : Int32) (xx : HS) (xn : HS) (xm : HS) (xk : HS) (out : Int32 × HS × HS) (hf : f_X1_ruined j1 xx xn xm xk = some out) : uI l D cI yX1_ruined wsX1_ruined ({ frames := 5, cells := 0, slots := 0, locals := 128 } : Room) [.ref ((A 0) 0), .int j1] (wX A cI xx xn xm xk) (wX A cI out.2.1 xn out.2.2 xk) out.1 := by
  intro sz
  refine Met.ofW (cc := cX1_ruined) (maxL := 3) (ret := (some .int)) (by decide) rfl ?_
  intro p e s m args below meth c s₁ Bd hml hv
  obtain ⟨rfl, hsz, hP, hK, hD0, hN⟩ := hv
  have hx := Bd.exec
  have hb := Bd.bytes
  have hr := Bd.returns
  have hts := atoms_spec (ws := wsX1_ruined) Bd.pre
  have hown : s.vm.findClass RX1 = some m.cls := findClass_of_methodNamed Bd.named
  have hlocks := Bd.notSynchronized
  subst hsz
  have hD := hD0.self (sz := s.heap.size)
  generalize hAe : va_A (wX A cI xx xn xm xk) s.heap.size = G at hD ⊢
  have hA : ∀ q : Nat, s.heap.size ≤ q → G q := fun q h => by rw [← hAe]; exact Or.inr h
  have hS : va_S G s.heap s.heap [] := va_S.rf
  have hP : va_P D vwCl (wX A cI xx xn xm xk) s.heap := hP
  have hl := lv_entry ([.ref ((A 0) 0), .int j1]) (n := 3) (Nat.le_of_ble_eq_true rfl)
  rw [lg_entry_eq]
  generalize (lg_sl ([.ref ((A 0) 0), .int j1]) ++ List.replicate (3 - (lg_sl ([.ref ((A 0) 0), .int j1])).length) Slot.unset).toArray = ls at hl ⊢
  have hl : lv_has ls 3 [(0, .ref ((A 0) 0)), (1, .int j1)] := hl
  have hinH : ∀ w ∈ wsX00, w ∈ wsX1_ruined := by decide +kernel
  have hinX : ∀ w ∈ wsX10, w ∈ wsX1_ruined := by decide +kernel
  have lk0 := hts (.fieldLink RX1 10 "LiesBoughtBack" "now" "LLiesBoughtBack$Hall;") (by decide +kernel)
  have lk1 := hts (.initialized RX0) (by decide +kernel)
  have lk2 := hts (.instanceMethod yX0_hasBidder) (by decide +kernel)
  have lk3 := hts (.selects RX0 yX0_hasBidder yX0_hasBidder) (by decide +kernel)
  have lk4 := hts (.fieldLink RX1 16 "LiesBoughtBack" "mind" "LLiesBoughtBack$Hall;") (by decide +kernel)
  have lk5 := hts (.instanceMethod yX0_become) (by decide +kernel)
  have lk6 := hts (.selects RX0 yX0_become yX0_become) (by decide +kernel)
  have lk7 := hts (.instanceMethod yX0_goOn) (by decide +kernel)
  have lk8 := hts (.selects RX0 yX0_goOn yX0_goOn) (by decide +kernel)
  refine W_in ?_
  intro WW hWW
  refine (hWW _ _ _).mpr ?_
  unfold f_X1_ruined at hf
  refine lv_aload_n hx hb dX1_ruined_0 rfl (lv_at hl 0 rfl) ?_
  refine va_get (D := D) (ci := 1) (v := .ref ((A 1) 0)) (C := RX1) (T := TX1) (N := 9) hx hb hts hinX hown hK hP 0 rfl rfl 0 (by decide) lk0 (fun _ h9 => h9) rfl dX1_ruined_1 ?_
  refine lv_iload_n hx hb dX1_ruined_4 rfl (lv_at hl 1 rfl) ?_
  refine qVN_i (As := [.int j1]) (rest := []) ⟨hx, hb, hml, hown, hts⟩ hK hN hA hP hD hS (c_X0_hasBidder l D cI (A 1) j1 xn (f_X0_hasBidder j1 xn) rfl) ⟨va_cnB 1 hts gX1_ruined_X0_hasBidder_n59 rfl rfl rfl (nW.m hN 13 rfl) lk1 hd_X0_hasBidder.2 ⟨Nat.le_of_ble_eq_true rfl, Nat.le_of_ble_eq_true rfl⟩, lk2, lk3⟩ (va_recv hK hP (ci := 0) (q0 := 1) rfl rfl) (bq_X1_X0_n A cI xx xn xm xk) rfl hl.1 rfl (Nat.le_of_ble_eq_true rfl) dX1_ruined_5 ⟨Nat.le_of_ble_eq_true rfl, Nat.le_of_ble_eq_true rfl⟩ (fun H locs hP hD hS => ?_)
  refine lv_if_ne (tgt := 17) hx hb dX1_ruined_8 (by decide) (fun c1 => ?_) (fun c1 => ?_)
  · have hf := hF hf c1
    refine lv_aload_n hx hb dX1_ruined_17 rfl (lv_at hl 0 rfl) ?_
    refine va_get (D := D) (ci := 1) (v := .ref ((A 2) 0)) (C := RX1) (T := TX1) (N := 9) hx hb hts hinX hown hK hP 0 rfl rfl 1 (by decide) lk4 (fun _ h9 => h9) rfl dX1_ruined_18 ?_
    refine lv_aload_n hx hb dX1_ruined_21 rfl (lv_at hl 0 rfl) ?_
    refine va_get (D := D) (ci := 1) (v := .ref ((A 1) 0)) (C := RX1) (T := TX1) (N := 9) hx hb hts hinX hown hK hP 0 rfl rfl 0 (by decide) lk0 (fun _ h9 => h9) rfl dX1_ruined_22 ?_
    obtain ⟨v2, hev2, hf⟩ := bS hf
    refine qVN_v (ws' := (wX A cI xx xn v2 xk)) (As := [.ref ((A 1) 0)]) (rest := []) ⟨hx, hb, hml, hown, hts⟩ hK hN hA hP hD hS (c_X0_become l D cI (A 2) (A 1) xm xn v2 hev2) ⟨va_cnB 1 hts gX1_ruined_X0_become_n47 rfl rfl rfl (nW.m hN 1 rfl) lk1 hd_X0_become.2 ⟨Nat.le_of_ble_eq_true rfl, Nat.le_of_ble_eq_true rfl⟩, lk5, lk6⟩ (va_recv hK hP (ci := 0) (q0 := 12) rfl rfl) (bp_X1_HH_mn_h A cI xx xn xm xk v2) rfl hl.1 rfl (Nat.le_of_ble_eq_true rfl) dX1_ruined_25 ⟨Nat.le_of_ble_eq_true rfl, Nat.le_of_ble_eq_true rfl⟩ (fun H locs hP hD hS => ?_)
    have hP : va_P D vwCl (wX A cI xx xn v2 xk) H := hP
    refine lv_iconst (v := (0 : Int32)) hx hb dX1_ruined_28 (by decide) ?_
    refine lv_istore_n (lv' := [(2, .int (0 : Int32)), (0, .ref ((A 0) 0)), (1, .int j1)]) hx hb dX1_ruined_29 rfl hl (by decide) rfl (fun ls hl => ?_)
    obtain ⟨K68, hK68, hf⟩ := jnS hf
    have J68 : ∀ (xx_68 : HS) (xm_68 : HS) (H : Heap) (locs : List Loc) (ls : Array Slot), K68 xx_68 xm_68 = some out → va_P D vwCl (wX A cI xx_68 xn xm_68 xk) H → va_D G (wX A cI xx_68 xn xm_68 xk) → va_S G s.heap H locs → lv_has ls 3 [] → WW H locs (F0 m 68 ls []) := by
      intro xx_68 xm_68 H locs ls hf hP hD hS hl
      subst hK68
      refine (hWW _ _ _).mpr ?_
      refine lv_bipush (v := (-9 : Int32)) hx hb dX1_ruined_68 (by decide) ?_
      obtain rfl := Option.some.inj hf
      exact W.iret (v := (-9 : Int32)) hx hb hr (fun t ht hW => ⟨⟨(-9 : Int32), (), rfl, rfl, hPt ht hP⟩, hS.F ht⟩) hS.2.2 dX1_ruined_70
    have P30 : ∀ (n' : Nat) (j2_30 : Int32) (xx_30 : HS) (xm_30 : HS) (H : Heap) (locs : List Loc) (ls : Array Slot), L_X1_ruined_30 j1 xn xk K68 n' j2_30 xx_30 xm_30 = some out → va_P D vwCl (wX A cI xx_30 xn xm_30 xk) H → va_D G (wX A cI xx_30 xn xm_30 xk) → va_S G s.heap H locs → lv_has ls 3 [(0, .ref ((A 0) 0)), (1, .int j1), (2, .int j2_30)] → WW H locs (F0 m 30 ls []) := by
      intro n'
      induction n' with
      | zero => intro j2_30 xx_30 xm_30 H locs ls hf; exact absurd (show (none : Option (Int32 × HS × HS)) = some out from hf) (fun q => by cases q)
      | succ n' ih =>
        intro j2_30 xx_30 xm_30 H locs ls hf hP hD hS hl
        rw [L_X1_ruined_30] at hf
        refine (hWW _ _ _).mpr ?_
        refine lv_iload_n hx hb dX1_ruined_30 rfl (lv_at hl 2 rfl) ?_
        refine lv_bipush (v := (60 : Int32)) hx hb dX1_ruined_31 (by decide) ?_
        refine lv_icmp_gt (tgt := 68) hx hb dX1_ruined_33 (by decide) (fun c3 => ?_) (fun c3 => ?_)
        · have hf := hT hf c3
          exact (hWW _ _ _).mp (J68 _ _ _ _ _ hf hP hD hS (lv_sub hl [] rfl))
        · have hf := hF hf c3
          refine lv_aload_n hx hb dX1_ruined_36 rfl (lv_at hl 0 rfl) ?_
          refine va_get (D := D) (ci := 1) (v := .ref ((A 2) 0)) (C := RX1) (T := TX1) (N := 9) hx hb hts hinX hown hK hP 0 rfl rfl 1 (by decide) lk4 (fun _ h9 => h9) rfl dX1_ruined_37 ?_
          refine va_getN (D := D) (ci := 0) (v := .ref ((A 2) 10)) (C := RX0) (T := TX0) (N := 13) hx hb hts hinH hown hK hP 12 rfl rfl 12 (by decide) (nW.f hN 11 rfl) (fun _ h9 => h9) rfl dX1_ruined_40 ?_
          refine lv_iload_n hx hb dX1_ruined_43 rfl (lv_at hl 1 rfl) ?_
          refine qS_i (As := [.ref ((A 2) 10), .int j1]) (rest := []) ⟨hx, hb, hml, hown, hts⟩ hK hN hA hP hD hS (c_X1_at l D cI 6 (by decide) ((A 2) 10) (xm_30 9) j1) (va_cwS 2 hts gX1_ruined_X1_at rfl rfl rfl hd_X1_at.2 ⟨Nat.le_of_ble_eq_true rfl, Nat.le_of_ble_eq_true rfl⟩) (bA_X1_m_9 A cI xx_30 xn xm_30 xk) rfl hl.1 rfl (Nat.le_of_ble_eq_true rfl) dX1_ruined_44 ⟨Nat.le_of_ble_eq_true rfl, Nat.le_of_ble_eq_true rfl⟩ (fun H locs hP hD hS => ?_)
          refine lv_if_ne (tgt := 52) hx hb dX1_ruined_47 (by decide) (fun c4 => ?_) (fun c4 => ?_)
          · have hf := hF hf c4
            refine lv_aload_n hx hb dX1_ruined_52 rfl (lv_at hl 0 rfl) ?_
            refine va_get (D := D) (ci := 1) (v := .ref ((A 2) 0)) (C := RX1) (T := TX1) (N := 9) hx hb hts hinX hown hK hP 0 rfl rfl 1 (by decide) lk4 (fun _ h9 => h9) rfl dX1_ruined_53 ?_
            refine lv_iconst (v := (1 : Int32)) hx hb dX1_ruined_56 (by decide) ?_
            refine lv_iconst (v := (1 : Int32)) hx hb dX1_ruined_57 (by decide) ?_
            obtain ⟨v5, hev5, hf⟩ := bS hf
            refine qVN_i (ws' := (wX A cI xx_30 xn v5.2 xk)) (As := [.int (1 : Int32), .int (1 : Int32)]) (rest := []) ⟨hx, hb, hml, hown, hts⟩ hK hN hA hP hD hS (c_X0_goOn l D cI (A 2) (1 : Int32) (1 : Int32) xm_30 v5 hev5) ⟨va_cnB 2 hts gX1_ruined_X0_goOn_n97 rfl rfl rfl (nW.m hN 12 rfl) lk1 hd_X0_goOn.2 ⟨Nat.le_of_ble_eq_true rfl, Nat.le_of_ble_eq_true rfl⟩, lk7, lk8⟩ (va_recv hK hP (ci := 0) (q0 := 12) rfl rfl) (bp_X1_X0_m_h A cI xx_30 xn xm_30 xk v5.2) rfl hl.1 rfl (Nat.le_of_ble_eq_true rfl) dX1_ruined_58 ⟨Nat.le_of_ble_eq_true rfl, Nat.le_of_ble_eq_true rfl⟩ (fun H locs hP hD hS => ?_)
            have hP : va_P D vwCl (wX A cI xx_30 xn v5.2 xk) H := hP
            refine lv_pop hx hb dX1_ruined_61 rfl ?_
            refine lv_iinc (v := (j2_30 + (1 : Int32))) (lv' := [(2, .int (j2_30 + (1 : Int32))), (0, .ref ((A 0) 0)), (1, .int j1)]) hx hb dX1_ruined_62 hl (k := 2) rfl rfl (by decide) rfl (fun ls hl => ?_)
            refine lv_goto (tgt := 30) hx hb dX1_ruined_65 (by decide) ?_
            exact (hWW _ _ _).mp (ih _ _ _ _ _ _ hf hP hD hS (lv_sub hl [1, 2, 0] rfl))
          · have hf := hT hf c4
            refine lv_iload_n hx hb dX1_ruined_50 rfl (lv_at hl 2 rfl) ?_
            obtain rfl := Option.some.inj hf
            exact W.iret (v := j2_30) hx hb hr (fun t ht hW => ⟨⟨j2_30, (), rfl, rfl, hPt ht hP⟩, hS.F ht⟩) hS.2.2 dX1_ruined_51
    exact (hWW _ _ _).mp (P30 _ _ _ _ _ _ _ hf hP hD hS (lv_sub hl [1, 2, 0] rfl))
  · have hf := hT hf c1
    refine lv_aload_n hx hb dX1_ruined_11 rfl (lv_at hl 0 rfl) ?_
    refine lv_iconst (v := (-1 : Int32)) hx hb dX1_ruined_12 (by decide) ?_
    obtain ⟨v6, hev6, hf⟩ := bS hf
    refine qV_i (ws' := (wX A cI v6.2 xn xm xk)) (As := [.int (-1 : Int32)]) (rest := []) ⟨hx, hb, hml, hown, hts⟩ hK hN hA hP hD hS (c_X1_refuse l D cI A (-1 : Int32) xx xn xm xk v6 hev6) (cwV 1 hts gX1_ruined_X1_refuse rfl rfl rfl hd_X1_refuse ⟨Nat.le_of_ble_eq_true rfl, Nat.le_of_ble_eq_true rfl⟩) (va_recv hK hP (ci := 1) (q0 := 0) rfl rfl) (bp_X1_X1_xnmk_x A cI xx xn xm xk v6.2) rfl hl.1 rfl (Nat.le_of_ble_eq_true rfl) dX1_ruined_13 ⟨Nat.le_of_ble_eq_true rfl, Nat.le_of_ble_eq_true rfl⟩ (fun H locs hP hD hS => ?_)
    have hP : va_P D vwCl (wX A cI v6.2 xn xm xk) H := hP
    obtain rfl := Option.some.inj hf
    exact W.iret (v := v6.1) hx hb hr (fun t ht hW => ⟨⟨v6.1, (), rfl, rfl, hPt ht hP⟩, hS.F ht⟩) hS.2.2 dX1_ruined_16
set_option maxHeartbeats 4000000 in
set_option maxRecDepth 100000 in
theorem c_X1_lots (l : Launch) (D : va_G) (cI : ClassId) (A : Nat → Nat → Nat) (j1 : Int32) (j2 : Int32) (j3 : Int32) (xx : HS) (xn : HS) (xm : HS) (xk : HS) (out : Int32 × HS × HS) (hf : f_X1_lots j1 j2 j3 xx xn xm xk = some out) : uI l D cI yX1_lots wsX1_lots ({ frames := 5, cells := 0, slots := 0, locals := 128 } : Room) [.ref ((A 0) 0), .int j1, .int j2, .int j3] (wX A cI xx xn xm xk) (wX A cI out.2.1 xn out.2.2 xk) out.1 := by
  intro sz
  refine Met.ofW (cc := cX1_lots) (maxL := 8) (ret := (some .int)) (by decide) rfl ?_
  intro p e s m args below meth c s₁ Bd hml hv
  obtain ⟨rfl, hsz, hP, hK, hD0, hN⟩ := hv
  have hx := Bd.exec
  have hb := Bd.bytes
  have hr := Bd.returns
  have hts := atoms_spec (ws := wsX1_lots) Bd.pre
  have hown : s.vm.findClass RX1 = some m.cls := findClass_of_methodNamed Bd.named
  have hlocks := Bd.notSynchronized
  subst hsz
  have hD := hD0.self (sz := s.heap.size)
  generalize hAe : va_A (wX A cI xx xn xm xk) s.heap.size = G at hD ⊢
  have hA : ∀ q : Nat, s.heap.size ≤ q → G q := fun q h => by rw [← hAe]; exact Or.inr h
  have hS : va_S G s.heap s.heap [] := va_S.rf
  have hP : va_P D vwCl (wX A cI xx xn xm xk) s.heap := hP
  have hl := lv_entry ([.ref ((A 0) 0), .int j1, .int j2, .int j3]) (n := 8) (Nat.le_of_ble_eq_true rfl)
  rw [lg_entry_eq]
  generalize (lg_sl ([.ref ((A 0) 0), .int j1, .int j2, .int j3]) ++ List.replicate (8 - (lg_sl ([.ref ((A 0) 0), .int j1, .int j2, .int j3])).length) Slot.unset).toArray = ls at hl ⊢
  have hl : lv_has ls 8 [(0, .ref ((A 0) 0)), (1, .int j1), (2, .int j2), (3, .int j3)] := hl
  have hinX : ∀ w ∈ wsX10, w ∈ wsX1_lots := by decide +kernel
  have lk0 := hts (.fieldLink RX1 16 "LiesBoughtBack" "mind" "LLiesBoughtBack$Hall;") (by decide +kernel)
  have lk1 := hts (.fieldLink RX1 10 "LiesBoughtBack" "now" "LLiesBoughtBack$Hall;") (by decide +kernel)
  have lk2 := hts (.initialized RX0) (by decide +kernel)
  have lk3 := hts (.instanceMethod yX0_become) (by decide +kernel)
  have lk4 := hts (.selects RX0 yX0_become yX0_become) (by decide +kernel)
  have lk5 := hts (.instanceMethod yX0_drawPurses) (by decide +kernel)
  have lk6 := hts (.selects RX0 yX0_drawPurses yX0_drawPurses) (by decide +kernel)
  have lk7 := hts (.instanceMethod yX0_allToPile) (by decide +kernel)
  have lk8 := hts (.selects RX0 yX0_allToPile yX0_allToPile) (by decide +kernel)
  have lk9 := hts (.instanceMethod yX0_goOn) (by decide +kernel)
  have lk10 := hts (.selects RX0 yX0_goOn yX0_goOn) (by decide +kernel)
  have lk11 := hts (.instanceMethod yX0_allBelieved) (by decide +kernel)
  have lk12 := hts (.selects RX0 yX0_allBelieved yX0_allBelieved) (by decide +kernel)
  have lk13 := hts (.instanceMethod yX0_heldCount) (by decide +kernel)
  have lk14 := hts (.selects RX0 yX0_heldCount yX0_heldCount) (by decide +kernel)
  refine W_in ?_
  intro WW hWW
  refine (hWW _ _ _).mpr ?_
  unfold f_X1_lots at hf
  refine lv_iload_n hx hb dX1_lots_0 rfl (lv_at hl 1 rfl) ?_
  refine lv_iconst (v := (1 : Int32)) hx hb dX1_lots_1 (by decide) ?_
  refine lv_bipush (v := (20 : Int32)) hx hb dX1_lots_2 (by decide) ?_
  refine qS_i (As := [.int j1, .int (1 : Int32), .int (20 : Int32)]) (rest := []) ⟨hx, hb, hml, hown, hts⟩ hK hN hA hP hD hS (c_X1_beyond l D cI j1 (1 : Int32) (20 : Int32) (f_X1_beyond j1 (1 : Int32) (20 : Int32)) rfl) (va_cwS 3 hts gX1_lots_X1_beyond rfl rfl rfl hd_X1_beyond.2 ⟨Nat.le_of_ble_eq_true rfl, Nat.le_of_ble_eq_true rfl⟩) Bp_e rfl hl.1 rfl (Nat.le_of_ble_eq_true rfl) dX1_lots_4 ⟨Nat.le_of_ble_eq_true rfl, Nat.le_of_ble_eq_true rfl⟩ (fun H locs hP hD hS => ?_)
  refine lv_istore (lv' := [(4, .int (f_X1_beyond j1 (1 : Int32) (20 : Int32))), (0, .ref ((A 0) 0)), (1, .int j1), (2, .int j2), (3, .int j3)]) hx hb dX1_lots_7 hl (by decide) rfl (fun ls hl => ?_)
  refine lv_iload hx hb dX1_lots_9 (lv_at hl 0 rfl) ?_
  refine lv_if_eq (tgt := 21) hx hb dX1_lots_11 (by decide) (fun c1 => ?_) (fun c1 => ?_)
  · have hf := hT hf c1
    refine lv_iload_n hx hb dX1_lots_21 rfl (lv_at hl 4 rfl) ?_
    refine lv_if_lt (tgt := 30) hx hb dX1_lots_22 (by decide) (fun c2 => ?_) (fun c2 => ?_)
    · have hf := hT hf c2
      refine lv_aload_n hx hb dX1_lots_30 rfl (lv_at hl 1 rfl) ?_
      refine lv_bipush (v := (-2 : Int32)) hx hb dX1_lots_31 (by decide) ?_
      obtain ⟨v3, hev3, hf⟩ := bS hf
      refine qV_i (ws' := (wX A cI v3.2 xn xm xk)) (As := [.int (-2 : Int32)]) (rest := []) ⟨hx, hb, hml, hown, hts⟩ hK hN hA hP hD hS (c_X1_refuse l D cI A (-2 : Int32) xx xn xm xk v3 hev3) (cwV 1 hts gX1_lots_X1_refuse rfl rfl rfl hd_X1_refuse ⟨Nat.le_of_ble_eq_true rfl, Nat.le_of_ble_eq_true rfl⟩) (va_recv hK hP (ci := 1) (q0 := 0) rfl rfl) (bp_X1_X1_xnmk_x A cI xx xn xm xk v3.2) rfl hl.1 rfl (Nat.le_of_ble_eq_true rfl) dX1_lots_33 ⟨Nat.le_of_ble_eq_true rfl, Nat.le_of_ble_eq_true rfl⟩ (fun H locs hP hD hS => ?_)
      have hP : va_P D vwCl (wX A cI v3.2 xn xm xk) H := hP
      obtain rfl := Option.some.inj hf
      exact W.iret (v := v3.1) hx hb hr (fun t ht hW => ⟨⟨v3.1, (), rfl, rfl, hPt ht hP⟩, hS.F ht⟩) hS.2.2 dX1_lots_36
    · have hf := hF hf c2
      refine lv_iload_n hx hb dX1_lots_25 rfl (lv_at hl 4 rfl) ?_
      refine lv_iconst (v := (1 : Int32)) hx hb dX1_lots_26 (by decide) ?_
      refine lv_icmp_le (tgt := 37) hx hb dX1_lots_27 (by decide) (fun c4 => ?_) (fun c4 => ?_)
      · have hf := hT hf c4
        refine lv_iload_n hx hb dX1_lots_37 rfl (lv_at hl 3 rfl) ?_
        refine lv_istore (lv' := [(5, .int j2), (4, .int (f_X1_beyond j1 (1 : Int32) (20 : Int32))), (0, .ref ((A 0) 0)), (1, .int j1), (2, .int j2), (3, .int j3)]) hx hb dX1_lots_38 hl (by decide) rfl (fun ls hl => ?_)
        refine lv_iconst (v := (0 : Int32)) hx hb dX1_lots_40 (by decide) ?_
        refine lv_istore (lv' := [(6, .int (0 : Int32)), (5, .int j2), (4, .int (f_X1_beyond j1 (1 : Int32) (20 : Int32))), (0, .ref ((A 0) 0)), (1, .int j1), (2, .int j2), (3, .int j3)]) hx hb dX1_lots_41 hl (by decide) rfl (fun ls hl => ?_)
        refine lv_iconst (v := (0 : Int32)) hx hb dX1_lots_43 (by decide) ?_
        refine lv_istore (lv' := [(7, .int (0 : Int32)), (6, .int (0 : Int32)), (5, .int j2), (4, .int (f_X1_beyond j1 (1 : Int32) (20 : Int32))), (0, .ref ((A 0) 0)), (1, .int j1), (2, .int j2), (3, .int j3)]) hx hb dX1_lots_44 hl (by decide) rfl (fun ls hl => ?_)
        obtain ⟨K123, hK123, hf⟩ := jnS hf
        have J123 : ∀ (j6_123 : Int32) (xx_123 : HS) (xm_123 : HS) (H : Heap) (locs : List Loc) (ls : Array Slot), K123 j6_123 xx_123 xm_123 = some out → va_P D vwCl (wX A cI xx_123 xn xm_123 xk) H → va_D G (wX A cI xx_123 xn xm_123 xk) → va_S G s.heap H locs → lv_has ls 8 [(6, .int j6_123)] → WW H locs (F0 m 123 ls []) := by
          intro j6_123 xx_123 xm_123 H locs ls hf hP hD hS hl
          subst hK123
          refine (hWW _ _ _).mpr ?_
          refine lv_iload hx hb dX1_lots_123 (lv_at hl 0 rfl) ?_
          obtain rfl := Option.some.inj hf
          exact W.iret (v := j6_123) hx hb hr (fun t ht hW => ⟨⟨j6_123, (), rfl, rfl, hPt ht hP⟩, hS.F ht⟩) hS.2.2 dX1_lots_125
        have P46 : ∀ (n' : Nat) (j5_46 : Int32) (j6_46 : Int32) (j7_46 : Int32) (xx_46 : HS) (xm_46 : HS) (H : Heap) (locs : List Loc) (ls : Array Slot), L_X1_lots_46 j1 j2 j3 xn xk K123 n' j5_46 j6_46 j7_46 xx_46 xm_46 = some out → va_P D vwCl (wX A cI xx_46 xn xm_46 xk) H → va_D G (wX A cI xx_46 xn xm_46 xk) → va_S G s.heap H locs → lv_has ls 8 [(0, .ref ((A 0) 0)), (1, .int j1), (3, .int j3), (5, .int j5_46), (6, .int j6_46), (7, .int j7_46)] → WW H locs (F0 m 46 ls []) := by
          intro n'
          induction n' with
          | zero => intro j5_46 j6_46 j7_46 xx_46 xm_46 H locs ls hf; exact absurd (show (none : Option (Int32 × HS × HS)) = some out from hf) (fun q => by cases q)
          | succ n' ih =>
            intro j5_46 j6_46 j7_46 xx_46 xm_46 H locs ls hf hP hD hS hl
            rw [L_X1_lots_46] at hf
            refine (hWW _ _ _).mpr ?_
            refine lv_iload hx hb dX1_lots_46 (lv_at hl 5 rfl) ?_
            refine lv_iload_n hx hb dX1_lots_48 rfl (lv_at hl 1 rfl) ?_
            refine lv_icmp_ge (tgt := 123) hx hb dX1_lots_49 (by decide) (fun c5 => ?_) (fun c5 => ?_)
            · have hf := hT hf c5
              exact (hWW _ _ _).mp (J123 _ _ _ _ _ _ hf hP hD hS (lv_sub hl [4] rfl))
            · have hf := hF hf c5
              refine lv_aload_n hx hb dX1_lots_52 rfl (lv_at hl 0 rfl) ?_
              refine va_get (D := D) (ci := 1) (v := .ref ((A 2) 0)) (C := RX1) (T := TX1) (N := 9) hx hb hts hinX hown hK hP 0 rfl rfl 1 (by decide) lk0 (fun _ h9 => h9) rfl dX1_lots_53 ?_
              refine lv_aload_n hx hb dX1_lots_56 rfl (lv_at hl 0 rfl) ?_
              refine va_get (D := D) (ci := 1) (v := .ref ((A 1) 0)) (C := RX1) (T := TX1) (N := 9) hx hb hts hinX hown hK hP 0 rfl rfl 0 (by decide) lk1 (fun _ h9 => h9) rfl dX1_lots_57 ?_
              obtain ⟨v6, hev6, hf⟩ := bS hf
              refine qVN_v (ws' := (wX A cI xx_46 xn v6 xk)) (As := [.ref ((A 1) 0)]) (rest := []) ⟨hx, hb, hml, hown, hts⟩ hK hN hA hP hD hS (c_X0_become l D cI (A 2) (A 1) xm_46 xn v6 hev6) ⟨va_cnB 1 hts gX1_lots_X0_become_n47 rfl rfl rfl (nW.m hN 1 rfl) lk2 hd_X0_become.2 ⟨Nat.le_of_ble_eq_true rfl, Nat.le_of_ble_eq_true rfl⟩, lk3, lk4⟩ (va_recv hK hP (ci := 0) (q0 := 12) rfl rfl) (bp_X1_HH_mn_h A cI xx_46 xn xm_46 xk v6) rfl hl.1 rfl (Nat.le_of_ble_eq_true rfl) dX1_lots_60 ⟨Nat.le_of_ble_eq_true rfl, Nat.le_of_ble_eq_true rfl⟩ (fun H locs hP hD hS => ?_)
              have hP : va_P D vwCl (wX A cI xx_46 xn v6 xk) H := hP
              refine lv_aload_n hx hb dX1_lots_63 rfl (lv_at hl 0 rfl) ?_
              refine va_get (D := D) (ci := 1) (v := .ref ((A 2) 0)) (C := RX1) (T := TX1) (N := 9) hx hb hts hinX hown hK hP 0 rfl rfl 1 (by decide) lk0 (fun _ h9 => h9) rfl dX1_lots_64 ?_
              refine lv_iload hx hb dX1_lots_67 (lv_at hl 3 rfl) ?_
              obtain ⟨v7, hev7, hf⟩ := bS hf
              refine qVN_i (ws' := (wX A cI xx_46 xn v7.2 xk)) (As := [.int j5_46]) (rest := []) ⟨hx, hb, hml, hown, hts⟩ hK hN hA hP hD hS (c_X0_drawPurses l D cI (A 2) j5_46 v6 v7 hev7) ⟨va_cnB 1 hts gX1_lots_X0_drawPurses_n180 rfl rfl rfl (nW.m hN 31 rfl) lk2 hd_X0_drawPurses.2 ⟨Nat.le_of_ble_eq_true rfl, Nat.le_of_ble_eq_true rfl⟩, lk5, lk6⟩ (va_recv hK hP (ci := 0) (q0 := 12) rfl rfl) (bp_X1_X0_m_h A cI xx_46 xn v6 xk v7.2) rfl hl.1 rfl (Nat.le_of_ble_eq_true rfl) dX1_lots_69 ⟨Nat.le_of_ble_eq_true rfl, Nat.le_of_ble_eq_true rfl⟩ (fun H locs hP hD hS => ?_)
              have hP : va_P D vwCl (wX A cI xx_46 xn v7.2 xk) H := hP
              refine lv_istore (lv' := [(5, .int v7.1), (0, .ref ((A 0) 0)), (1, .int j1), (3, .int j3), (6, .int j6_46), (7, .int j7_46)]) hx hb dX1_lots_72 hl (by decide) rfl (fun ls hl => ?_)
              refine lv_aload_n hx hb dX1_lots_74 rfl (lv_at hl 1 rfl) ?_
              refine va_get (D := D) (ci := 1) (v := .ref ((A 2) 0)) (C := RX1) (T := TX1) (N := 9) hx hb hts hinX hown hK hP 0 rfl rfl 1 (by decide) lk0 (fun _ h9 => h9) rfl dX1_lots_75 ?_
              obtain ⟨v8, hev8, hf⟩ := bS hf
              refine qVN_v (ws' := (wX A cI xx_46 xn v8 xk)) (As := []) (rest := []) ⟨hx, hb, hml, hown, hts⟩ hK hN hA hP hD hS (c_X0_allToPile l D cI (A 2) v7.2 v8 hev8) ⟨va_cnB 0 hts gX1_lots_X0_allToPile_n183 rfl rfl rfl (nW.m hN 32 rfl) lk2 hd_X0_allToPile.2 ⟨Nat.le_of_ble_eq_true rfl, Nat.le_of_ble_eq_true rfl⟩, lk7, lk8⟩ (va_recv hK hP (ci := 0) (q0 := 12) rfl rfl) (bp_X1_X0_m_h A cI xx_46 xn v7.2 xk v8) rfl hl.1 rfl (Nat.le_of_ble_eq_true rfl) dX1_lots_78 ⟨Nat.le_of_ble_eq_true rfl, Nat.le_of_ble_eq_true rfl⟩ (fun H locs hP hD hS => ?_)
              have hP : va_P D vwCl (wX A cI xx_46 xn v8 xk) H := hP
              refine lv_aload_n hx hb dX1_lots_81 rfl (lv_at hl 1 rfl) ?_
              refine va_get (D := D) (ci := 1) (v := .ref ((A 2) 0)) (C := RX1) (T := TX1) (N := 9) hx hb hts hinX hown hK hP 0 rfl rfl 1 (by decide) lk0 (fun _ h9 => h9) rfl dX1_lots_82 ?_
              refine lv_iconst (v := (2 : Int32)) hx hb dX1_lots_85 (by decide) ?_
              refine lv_iconst (v := (1 : Int32)) hx hb dX1_lots_86 (by decide) ?_
              obtain ⟨v9, hev9, hf⟩ := bS hf
              refine qVN_i (ws' := (wX A cI xx_46 xn v9.2 xk)) (As := [.int (2 : Int32), .int (1 : Int32)]) (rest := []) ⟨hx, hb, hml, hown, hts⟩ hK hN hA hP hD hS (c_X0_goOn l D cI (A 2) (2 : Int32) (1 : Int32) v8 v9 hev9) ⟨va_cnB 2 hts gX1_lots_X0_goOn_n97 rfl rfl rfl (nW.m hN 12 rfl) lk2 hd_X0_goOn.2 ⟨Nat.le_of_ble_eq_true rfl, Nat.le_of_ble_eq_true rfl⟩, lk9, lk10⟩ (va_recv hK hP (ci := 0) (q0 := 12) rfl rfl) (bp_X1_X0_m_h A cI xx_46 xn v8 xk v9.2) rfl hl.1 rfl (Nat.le_of_ble_eq_true rfl) dX1_lots_87 ⟨Nat.le_of_ble_eq_true rfl, Nat.le_of_ble_eq_true rfl⟩ (fun H locs hP hD hS => ?_)
              have hP : va_P D vwCl (wX A cI xx_46 xn v9.2 xk) H := hP
              refine lv_pop hx hb dX1_lots_90 rfl ?_
              refine lv_iload hx hb dX1_lots_91 (lv_at hl 4 rfl) ?_
              refine lv_iload_n hx hb dX1_lots_93 rfl (lv_at hl 3 rfl) ?_
              refine lv_if_ne (tgt := 107) hx hb dX1_lots_94 (by decide) (fun c10 => ?_) (fun c10 => ?_)
              · have hf := hF hf c10
                refine lv_aload_n hx hb dX1_lots_107 rfl (lv_at hl 1 rfl) ?_
                refine va_get (D := D) (ci := 1) (v := .ref ((A 2) 0)) (C := RX1) (T := TX1) (N := 9) hx hb hts hinX hown hK hP 0 rfl rfl 1 (by decide) lk0 (fun _ h9 => h9) rfl dX1_lots_108 ?_
                obtain ⟨v11, hev11, hf⟩ := bS hf
                refine qVN_i (As := []) (rest := [.int j6_46]) ⟨hx, hb, hml, hown, hts⟩ hK hN hA hP hD hS (c_X0_allBelieved l D cI (A 2) v9.2 v11 hev11) ⟨va_cnB 0 hts gX1_lots_X0_allBelieved_n174 rfl rfl rfl (nW.m hN 30 rfl) lk2 hd_X0_allBelieved.2 ⟨Nat.le_of_ble_eq_true rfl, Nat.le_of_ble_eq_true rfl⟩, lk11, lk12⟩ (va_recv hK hP (ci := 0) (q0 := 12) rfl rfl) (bq_X1_X0_m A cI xx_46 xn v9.2 xk) rfl hl.1 rfl (Nat.le_of_ble_eq_true rfl) dX1_lots_111 ⟨Nat.le_of_ble_eq_true rfl, Nat.le_of_ble_eq_true rfl⟩ (fun H locs hP hD hS => ?_)
                refine lv_iadd hx hb dX1_lots_114 ?_
                refine lv_istore (lv' := [(6, .int (j6_46 + v11)), (5, .int v7.1), (0, .ref ((A 0) 0)), (1, .int j1), (3, .int j3), (7, .int j7_46)]) hx hb dX1_lots_115 hl (by decide) rfl (fun ls hl => ?_)
                refine lv_iinc (v := (j7_46 + (1 : Int32))) (lv' := [(7, .int (j7_46 + (1 : Int32))), (6, .int (j6_46 + v11)), (5, .int v7.1), (0, .ref ((A 0) 0)), (1, .int j1), (3, .int j3)]) hx hb dX1_lots_117 hl (k := 5) rfl rfl (by decide) rfl (fun ls hl => ?_)
                refine lv_goto (tgt := 46) hx hb dX1_lots_120 (by decide) ?_
                exact (hWW _ _ _).mp (ih _ _ _ _ _ _ _ _ hf hP hD hS (lv_sub hl [3, 4, 5, 2, 1, 0] rfl))
              · have hf := hT hf c10
                refine lv_aload_n hx hb dX1_lots_97 rfl (lv_at hl 1 rfl) ?_
                refine va_get (D := D) (ci := 1) (v := .ref ((A 2) 0)) (C := RX1) (T := TX1) (N := 9) hx hb hts hinX hown hK hP 0 rfl rfl 1 (by decide) lk0 (fun _ h9 => h9) rfl dX1_lots_98 ?_
                obtain ⟨v12, hev12, hf⟩ := bS hf
                refine qVN_i (As := []) (rest := [.int j6_46]) ⟨hx, hb, hml, hown, hts⟩ hK hN hA hP hD hS (c_X0_heldCount l D cI (A 2) v9.2 v12 hev12) ⟨va_cnB 0 hts gX1_lots_X0_heldCount_n101 rfl rfl rfl (nW.m hN 18 rfl) lk2 hd_X0_heldCount.2 ⟨Nat.le_of_ble_eq_true rfl, Nat.le_of_ble_eq_true rfl⟩, lk13, lk14⟩ (va_recv hK hP (ci := 0) (q0 := 12) rfl rfl) (bq_X1_X0_m A cI xx_46 xn v9.2 xk) rfl hl.1 rfl (Nat.le_of_ble_eq_true rfl) dX1_lots_101 ⟨Nat.le_of_ble_eq_true rfl, Nat.le_of_ble_eq_true rfl⟩ (fun H locs hP hD hS => ?_)
                refine lv_goto (tgt := 114) hx hb dX1_lots_104 (by decide) ?_
                refine lv_iadd hx hb dX1_lots_114 ?_
                refine lv_istore (lv' := [(6, .int (j6_46 + v12)), (5, .int v7.1), (0, .ref ((A 0) 0)), (1, .int j1), (3, .int j3), (7, .int j7_46)]) hx hb dX1_lots_115 hl (by decide) rfl (fun ls hl => ?_)
                refine lv_iinc (v := (j7_46 + (1 : Int32))) (lv' := [(7, .int (j7_46 + (1 : Int32))), (6, .int (j6_46 + v12)), (5, .int v7.1), (0, .ref ((A 0) 0)), (1, .int j1), (3, .int j3)]) hx hb dX1_lots_117 hl (k := 5) rfl rfl (by decide) rfl (fun ls hl => ?_)
                refine lv_goto (tgt := 46) hx hb dX1_lots_120 (by decide) ?_
                exact (hWW _ _ _).mp (ih _ _ _ _ _ _ _ _ hf hP hD hS (lv_sub hl [3, 4, 5, 2, 1, 0] rfl))
        exact (hWW _ _ _).mp (P46 _ _ _ _ _ _ _ _ _ hf hP hD hS (lv_sub hl [4, 5, 7, 2, 1, 0] rfl))
      · have hf := hF hf c4
        refine lv_aload_n hx hb dX1_lots_30 rfl (lv_at hl 1 rfl) ?_
        refine lv_bipush (v := (-2 : Int32)) hx hb dX1_lots_31 (by decide) ?_
        obtain ⟨v13, hev13, hf⟩ := bS hf
        refine qV_i (ws' := (wX A cI v13.2 xn xm xk)) (As := [.int (-2 : Int32)]) (rest := []) ⟨hx, hb, hml, hown, hts⟩ hK hN hA hP hD hS (c_X1_refuse l D cI A (-2 : Int32) xx xn xm xk v13 hev13) (cwV 1 hts gX1_lots_X1_refuse rfl rfl rfl hd_X1_refuse ⟨Nat.le_of_ble_eq_true rfl, Nat.le_of_ble_eq_true rfl⟩) (va_recv hK hP (ci := 1) (q0 := 0) rfl rfl) (bp_X1_X1_xnmk_x A cI xx xn xm xk v13.2) rfl hl.1 rfl (Nat.le_of_ble_eq_true rfl) dX1_lots_33 ⟨Nat.le_of_ble_eq_true rfl, Nat.le_of_ble_eq_true rfl⟩ (fun H locs hP hD hS => ?_)
        have hP : va_P D vwCl (wX A cI v13.2 xn xm xk) H := hP
        obtain rfl := Option.some.inj hf
        exact W.iret (v := v13.1) hx hb hr (fun t ht hW => ⟨⟨v13.1, (), rfl, rfl, hPt ht hP⟩, hS.F ht⟩) hS.2.2 dX1_lots_36
  · have hf := hF hf c1
    refine lv_aload_n hx hb dX1_lots_14 rfl (lv_at hl 1 rfl) ?_
    refine lv_iload hx hb dX1_lots_15 (lv_at hl 0 rfl) ?_
    obtain ⟨v14, hev14, hf⟩ := bS hf
    refine qV_i (ws' := (wX A cI v14.2 xn xm xk)) (As := [.int (f_X1_beyond j1 (1 : Int32) (20 : Int32))]) (rest := []) ⟨hx, hb, hml, hown, hts⟩ hK hN hA hP hD hS (c_X1_refuse l D cI A (f_X1_beyond j1 (1 : Int32) (20 : Int32)) xx xn xm xk v14 hev14) (cwV 1 hts gX1_lots_X1_refuse rfl rfl rfl hd_X1_refuse ⟨Nat.le_of_ble_eq_true rfl, Nat.le_of_ble_eq_true rfl⟩) (va_recv hK hP (ci := 1) (q0 := 0) rfl rfl) (bp_X1_X1_xnmk_x A cI xx xn xm xk v14.2) rfl hl.1 rfl (Nat.le_of_ble_eq_true rfl) dX1_lots_17 ⟨Nat.le_of_ble_eq_true rfl, Nat.le_of_ble_eq_true rfl⟩ (fun H locs hP hD hS => ?_)
    have hP : va_P D vwCl (wX A cI v14.2 xn xm xk) H := hP
    obtain rfl := Option.some.inj hf
    exact W.iret (v := v14.1) hx hb hr (fun t ht hW => ⟨⟨v14.1, (), rfl, rfl, hPt ht hP⟩, hS.F ht⟩) hS.2.2 dX1_lots_20
set_option maxHeartbeats 4000000 in
set_option maxRecDepth 100000 in
theorem c_X1_goStuttering (l : Launch) (D : va_G) (cI : ClassId) (A : Nat → Nat → Nat) (j1 : Int32) (j2 : Int32) (j3 : Int32) (j4 : Int32) (xx : HS) (xn : HS) (xm : HS) (xk : HS) (out : Int64 × HS) (hf : f_X1_goStuttering j1 j2 j3 j4 xx xn xm xk = some out) : uL l D cI yX1_goStuttering wsX1_goStuttering ({ frames := 5, cells := 0, slots := 0, locals := 128 } : Room) [.ref ((A 0) 0), .int j1, .int j2, .int j3, .int j4] (wX A cI xx xn xm xk) (wX A cI xx xn out.2 xk) out.1 := by
  intro sz
  refine Met.ofW (cc := cX1_goStuttering) (maxL := 9) (ret := (some .long)) (by decide) rfl ?_
  intro p e s m args below meth c s₁ Bd hml hv
  obtain ⟨rfl, hsz, hP, hK, hD0, hN⟩ := hv
  have hx := Bd.exec
  have hb := Bd.bytes
  have hr := Bd.returns
  have hts := atoms_spec (ws := wsX1_goStuttering) Bd.pre
  have hown : s.vm.findClass RX1 = some m.cls := findClass_of_methodNamed Bd.named
  have hlocks := Bd.notSynchronized
  subst hsz
  have hD := hD0.self (sz := s.heap.size)
  generalize hAe : va_A (wX A cI xx xn xm xk) s.heap.size = G at hD ⊢
  have hA : ∀ q : Nat, s.heap.size ≤ q → G q := fun q h => by rw [← hAe]; exact Or.inr h
  have hS : va_S G s.heap s.heap [] := va_S.rf
  have hP : va_P D vwCl (wX A cI xx xn xm xk) s.heap := hP
  have hl := lv_entry ([.ref ((A 0) 0), .int j1, .int j2, .int j3, .int j4]) (n := 9) (Nat.le_of_ble_eq_true rfl)
  rw [lg_entry_eq]
  generalize (lg_sl ([.ref ((A 0) 0), .int j1, .int j2, .int j3, .int j4]) ++ List.replicate (9 - (lg_sl ([.ref ((A 0) 0), .int j1, .int j2, .int j3, .int j4])).length) Slot.unset).toArray = ls at hl ⊢
  have hl : lv_has ls 9 [(0, .ref ((A 0) 0)), (1, .int j1), (2, .int j2), (3, .int j3), (4, .int j4)] := hl
  have hinX : ∀ w ∈ wsX10, w ∈ wsX1_goStuttering := by decide +kernel
  have lk0 := hts (.fieldLink RX1 16 "LiesBoughtBack" "mind" "LLiesBoughtBack$Hall;") (by decide +kernel)
  have lk1 := hts (.fieldLink RX1 10 "LiesBoughtBack" "now" "LLiesBoughtBack$Hall;") (by decide +kernel)
  have lk2 := hts (.initialized RX0) (by decide +kernel)
  have lk3 := hts (.instanceMethod yX0_become) (by decide +kernel)
  have lk4 := hts (.selects RX0 yX0_become yX0_become) (by decide +kernel)
  have lk5 := hts (.instanceMethod yX0_inPile) (by decide +kernel)
  have lk6 := hts (.selects RX0 yX0_inPile yX0_inPile) (by decide +kernel)
  have lk7 := hts (.instanceMethod yX0_goOn) (by decide +kernel)
  have lk8 := hts (.selects RX0 yX0_goOn yX0_goOn) (by decide +kernel)
  refine W_in ?_
  intro WW hWW
  refine (hWW _ _ _).mpr ?_
  unfold f_X1_goStuttering at hf
  refine lv_aload_n hx hb dX1_goStuttering_0 rfl (lv_at hl 0 rfl) ?_
  refine va_get (D := D) (ci := 1) (v := .ref ((A 2) 0)) (C := RX1) (T := TX1) (N := 9) hx hb hts hinX hown hK hP 0 rfl rfl 1 (by decide) lk0 (fun _ h9 => h9) rfl dX1_goStuttering_1 ?_
  refine lv_aload_n hx hb dX1_goStuttering_4 rfl (lv_at hl 0 rfl) ?_
  refine va_get (D := D) (ci := 1) (v := .ref ((A 1) 0)) (C := RX1) (T := TX1) (N := 9) hx hb hts hinX hown hK hP 0 rfl rfl 0 (by decide) lk1 (fun _ h9 => h9) rfl dX1_goStuttering_5 ?_
  obtain ⟨v1, hev1, hf⟩ := bS hf
  refine qVN_v (ws' := (wX A cI xx xn v1 xk)) (As := [.ref ((A 1) 0)]) (rest := []) ⟨hx, hb, hml, hown, hts⟩ hK hN hA hP hD hS (c_X0_become l D cI (A 2) (A 1) xm xn v1 hev1) ⟨va_cnB 1 hts gX1_goStuttering_X0_become_n47 rfl rfl rfl (nW.m hN 1 rfl) lk2 hd_X0_become.2 ⟨Nat.le_of_ble_eq_true rfl, Nat.le_of_ble_eq_true rfl⟩, lk3, lk4⟩ (va_recv hK hP (ci := 0) (q0 := 12) rfl rfl) (bp_X1_HH_mn_h A cI xx xn xm xk v1) rfl hl.1 rfl (Nat.le_of_ble_eq_true rfl) dX1_goStuttering_8 ⟨Nat.le_of_ble_eq_true rfl, Nat.le_of_ble_eq_true rfl⟩ (fun H locs hP hD hS => ?_)
  have hP : va_P D vwCl (wX A cI xx xn v1 xk) H := hP
  refine lv_lconst (v := (1 : Int64)) hx hb dX1_goStuttering_11 (by decide) ?_
  refine lv_lstore (lv' := [(5, .long (1 : Int64)), (0, .ref ((A 0) 0)), (1, .int j1), (2, .int j2), (3, .int j3), (4, .int j4)]) hx hb dX1_goStuttering_12 hl (by decide) rfl (fun ls hl => ?_)
  refine lv_iconst (v := (0 : Int32)) hx hb dX1_goStuttering_14 (by decide) ?_
  refine lv_istore (lv' := [(7, .int (0 : Int32)), (5, .long (1 : Int64)), (0, .ref ((A 0) 0)), (1, .int j1), (2, .int j2), (3, .int j3), (4, .int j4)]) hx hb dX1_goStuttering_15 hl (by decide) rfl (fun ls hl => ?_)
  obtain ⟨K82, hK82, hf⟩ := jnS hf
  have J82 : ∀ (j5_82 : Int64) (xm_82 : HS) (H : Heap) (locs : List Loc) (ls : Array Slot), K82 j5_82 xm_82 = some out → va_P D vwCl (wX A cI xx xn xm_82 xk) H → va_D G (wX A cI xx xn xm_82 xk) → va_S G s.heap H locs → lv_has ls 9 [(5, .long j5_82)] → WW H locs (F0 m 82 ls []) := by
    intro j5_82 xm_82 H locs ls hf hP hD hS hl
    subst hK82
    refine (hWW _ _ _).mpr ?_
    refine lv_lload hx hb dX1_goStuttering_82 (lv_at hl 0 rfl) ?_
    obtain rfl := Option.some.inj hf
    exact W.lret (v := j5_82) hx hb hr (fun t ht hW => ⟨⟨j5_82, (), rfl, rfl, hPt ht hP⟩, hS.F ht⟩) hS.2.2 dX1_goStuttering_84
  have P17 : ∀ (n' : Nat) (j5_17 : Int64) (j7_17 : Int32) (xm_17 : HS) (H : Heap) (locs : List Loc) (ls : Array Slot), L_X1_goStuttering_17 j1 j2 j3 j4 xx xn xk K82 n' j5_17 j7_17 xm_17 = some out → va_P D vwCl (wX A cI xx xn xm_17 xk) H → va_D G (wX A cI xx xn xm_17 xk) → va_S G s.heap H locs → lv_has ls 9 [(0, .ref ((A 0) 0)), (1, .int j1), (2, .int j2), (3, .int j3), (4, .int j4), (5, .long j5_17), (7, .int j7_17)] → WW H locs (F0 m 17 ls []) := by
    intro n'
    induction n' with
    | zero => intro j5_17 j7_17 xm_17 H locs ls hf; exact absurd (show (none : Option (Int64 × HS)) = some out from hf) (fun q => by cases q)
    | succ n' ih =>
      intro j5_17 j7_17 xm_17 H locs ls hf hP hD hS hl
      rw [L_X1_goStuttering_17] at hf
      refine (hWW _ _ _).mpr ?_
      refine lv_iload hx hb dX1_goStuttering_17 (lv_at hl 6 rfl) ?_
      refine lv_iload_n hx hb dX1_goStuttering_19 rfl (lv_at hl 2 rfl) ?_
      refine lv_icmp_ge (tgt := 82) hx hb dX1_goStuttering_20 (by decide) (fun c2 => ?_) (fun c2 => ?_)
      · have hf := hT hf c2
        exact (hWW _ _ _).mp (J82 _ _ _ _ _ hf hP hD hS (lv_sub hl [5] rfl))
      · have hf := hF hf c2
        refine lv_iload hx hb dX1_goStuttering_23 (lv_at hl 4 rfl) ?_
        refine lv_iload hx hb dX1_goStuttering_25 (lv_at hl 6 rfl) ?_
        refine lv_ishr hx hb dX1_goStuttering_27 ?_
        refine lv_iconst (v := (1 : Int32)) hx hb dX1_goStuttering_28 (by decide) ?_
        refine lv_iand hx hb dX1_goStuttering_29 ?_
        refine lv_if_ne (tgt := 37) hx hb dX1_goStuttering_30 (by decide) (fun c3 => ?_) (fun c3 => ?_)
        · have hf := hF hf c3
          refine lv_iconst (v := (0 : Int32)) hx hb dX1_goStuttering_37 (by decide) ?_
          refine lv_istore (lv' := [(8, .int (0 : Int32)), (0, .ref ((A 0) 0)), (1, .int j1), (2, .int j2), (3, .int j3), (4, .int j4), (5, .long j5_17), (7, .int j7_17)]) hx hb dX1_goStuttering_38 hl (by decide) rfl (fun ls hl => ?_)
          refine lv_iload hx hb dX1_goStuttering_40 (lv_at hl 0 rfl) ?_
          obtain ⟨K54, hK54, hf⟩ := jnS hf
          have J54 : ∀ (j5_54 : Int64) (j7_54 : Int32) (j8_54 : Int32) (xm_54 : HS) (H : Heap) (locs : List Loc) (ls : Array Slot), K54 j5_54 j7_54 j8_54 xm_54 = some out → va_P D vwCl (wX A cI xx xn xm_54 xk) H → va_D G (wX A cI xx xn xm_54 xk) → va_S G s.heap H locs → lv_has ls 9 [(0, .ref ((A 0) 0)), (1, .int j1), (2, .int j2), (3, .int j3), (4, .int j4), (5, .long j5_54), (7, .int j7_54), (8, .int j8_54)] → WW H locs (F0 m 54 ls []) := by
            intro j5_54 j7_54 j8_54 xm_54 H locs ls hf hP hD hS hl
            subst hK54
            refine (hWW _ _ _).mpr ?_
            refine lv_aload_n hx hb dX1_goStuttering_54 rfl (lv_at hl 0 rfl) ?_
            refine va_get (D := D) (ci := 1) (v := .ref ((A 2) 0)) (C := RX1) (T := TX1) (N := 9) hx hb hts hinX hown hK hP 0 rfl rfl 1 (by decide) lk0 (fun _ h9 => h9) rfl dX1_goStuttering_55 ?_
            refine lv_iload_n hx hb dX1_goStuttering_58 rfl (lv_at hl 1 rfl) ?_
            refine qVN_i (As := [.int j1]) (rest := []) ⟨hx, hb, hml, hown, hts⟩ hK hN hA hP hD hS (c_X0_inPile l D cI (A 2) j1 xm_54 (f_X0_inPile j1 xm_54) rfl) ⟨va_cnB 1 hts gX1_goStuttering_X0_inPile_n72 rfl rfl rfl (nW.m hN 15 rfl) lk2 hd_X0_inPile.2 ⟨Nat.le_of_ble_eq_true rfl, Nat.le_of_ble_eq_true rfl⟩, lk5, lk6⟩ (va_recv hK hP (ci := 0) (q0 := 12) rfl rfl) (bq_X1_X0_m A cI xx xn xm_54 xk) rfl hl.1 rfl (Nat.le_of_ble_eq_true rfl) dX1_goStuttering_59 ⟨Nat.le_of_ble_eq_true rfl, Nat.le_of_ble_eq_true rfl⟩ (fun H locs hP hD hS => ?_)
            refine lv_if_eq (tgt := 76) hx hb dX1_goStuttering_62 (by decide) (fun c4 => ?_) (fun c4 => ?_)
            · have hf := hT hf c4
              refine lv_iinc (v := (j7_54 + (1 : Int32))) (lv' := [(7, .int (j7_54 + (1 : Int32))), (0, .ref ((A 0) 0)), (1, .int j1), (2, .int j2), (3, .int j3), (4, .int j4), (5, .long j5_54), (8, .int j8_54)]) hx hb dX1_goStuttering_76 hl (k := 6) rfl rfl (by decide) rfl (fun ls hl => ?_)
              refine lv_goto (tgt := 17) hx hb dX1_goStuttering_79 (by decide) ?_
              exact (hWW _ _ _).mp (ih _ _ _ _ _ _ hf hP hD hS (lv_sub hl [1, 2, 3, 4, 5, 6, 0] rfl))
            · have hf := hF hf c4
              refine lv_aload_n hx hb dX1_goStuttering_65 rfl (lv_at hl 0 rfl) ?_
              refine va_get (D := D) (ci := 1) (v := .ref ((A 2) 0)) (C := RX1) (T := TX1) (N := 9) hx hb hts hinX hown hK hP 0 rfl rfl 1 (by decide) lk0 (fun _ h9 => h9) rfl dX1_goStuttering_66 ?_
              refine lv_iconst (v := (1 : Int32)) hx hb dX1_goStuttering_69 (by decide) ?_
              refine lv_iload hx hb dX1_goStuttering_70 (lv_at hl 7 rfl) ?_
              obtain ⟨v5, hev5, hf⟩ := bS hf
              refine qVN_i (ws' := (wX A cI xx xn v5.2 xk)) (As := [.int (1 : Int32), .int j8_54]) (rest := []) ⟨hx, hb, hml, hown, hts⟩ hK hN hA hP hD hS (c_X0_goOn l D cI (A 2) (1 : Int32) j8_54 xm_54 v5 hev5) ⟨va_cnB 2 hts gX1_goStuttering_X0_goOn_n97 rfl rfl rfl (nW.m hN 12 rfl) lk2 hd_X0_goOn.2 ⟨Nat.le_of_ble_eq_true rfl, Nat.le_of_ble_eq_true rfl⟩, lk7, lk8⟩ (va_recv hK hP (ci := 0) (q0 := 12) rfl rfl) (bp_X1_X0_m_h A cI xx xn xm_54 xk v5.2) rfl hl.1 rfl (Nat.le_of_ble_eq_true rfl) dX1_goStuttering_72 ⟨Nat.le_of_ble_eq_true rfl, Nat.le_of_ble_eq_true rfl⟩ (fun H locs hP hD hS => ?_)
              have hP : va_P D vwCl (wX A cI xx xn v5.2 xk) H := hP
              refine lv_pop hx hb dX1_goStuttering_75 rfl ?_
              refine lv_iinc (v := (j7_54 + (1 : Int32))) (lv' := [(7, .int (j7_54 + (1 : Int32))), (0, .ref ((A 0) 0)), (1, .int j1), (2, .int j2), (3, .int j3), (4, .int j4), (5, .long j5_54), (8, .int j8_54)]) hx hb dX1_goStuttering_76 hl (k := 6) rfl rfl (by decide) rfl (fun ls hl => ?_)
              refine lv_goto (tgt := 17) hx hb dX1_goStuttering_79 (by decide) ?_
              exact (hWW _ _ _).mp (ih _ _ _ _ _ _ hf hP hD hS (lv_sub hl [1, 2, 3, 4, 5, 6, 0] rfl))
          refine lv_if_eq (tgt := 54) hx hb dX1_goStuttering_42 (by decide) (fun c6 => ?_) (fun c6 => ?_)
          · exact (hWW _ _ _).mp (J54 _ _ _ _ _ _ _ hf hP hD hS (lv_sub hl [1, 2, 3, 4, 5, 6, 7, 0] rfl))
          · exact absurd c6 (by decide)
        · have hf := hT hf c3
          refine lv_iconst (v := (1 : Int32)) hx hb dX1_goStuttering_33 (by decide) ?_
          refine lv_goto (tgt := 38) hx hb dX1_goStuttering_34 (by decide) ?_
          refine lv_istore (lv' := [(8, .int (1 : Int32)), (0, .ref ((A 0) 0)), (1, .int j1), (2, .int j2), (3, .int j3), (4, .int j4), (5, .long j5_17), (7, .int j7_17)]) hx hb dX1_goStuttering_38 hl (by decide) rfl (fun ls hl => ?_)
          refine lv_iload hx hb dX1_goStuttering_40 (lv_at hl 0 rfl) ?_
          obtain ⟨K54, hK54, hf⟩ := jnS hf
          have J54 : ∀ (j5_54 : Int64) (j7_54 : Int32) (j8_54 : Int32) (xm_54 : HS) (H : Heap) (locs : List Loc) (ls : Array Slot), K54 j5_54 j7_54 j8_54 xm_54 = some out → va_P D vwCl (wX A cI xx xn xm_54 xk) H → va_D G (wX A cI xx xn xm_54 xk) → va_S G s.heap H locs → lv_has ls 9 [(0, .ref ((A 0) 0)), (1, .int j1), (2, .int j2), (3, .int j3), (4, .int j4), (5, .long j5_54), (7, .int j7_54), (8, .int j8_54)] → WW H locs (F0 m 54 ls []) := by
            intro j5_54 j7_54 j8_54 xm_54 H locs ls hf hP hD hS hl
            subst hK54
            refine (hWW _ _ _).mpr ?_
            refine lv_aload_n hx hb dX1_goStuttering_54 rfl (lv_at hl 0 rfl) ?_
            refine va_get (D := D) (ci := 1) (v := .ref ((A 2) 0)) (C := RX1) (T := TX1) (N := 9) hx hb hts hinX hown hK hP 0 rfl rfl 1 (by decide) lk0 (fun _ h9 => h9) rfl dX1_goStuttering_55 ?_
            refine lv_iload_n hx hb dX1_goStuttering_58 rfl (lv_at hl 1 rfl) ?_
            refine qVN_i (As := [.int j1]) (rest := []) ⟨hx, hb, hml, hown, hts⟩ hK hN hA hP hD hS (c_X0_inPile l D cI (A 2) j1 xm_54 (f_X0_inPile j1 xm_54) rfl) ⟨va_cnB 1 hts gX1_goStuttering_X0_inPile_n72 rfl rfl rfl (nW.m hN 15 rfl) lk2 hd_X0_inPile.2 ⟨Nat.le_of_ble_eq_true rfl, Nat.le_of_ble_eq_true rfl⟩, lk5, lk6⟩ (va_recv hK hP (ci := 0) (q0 := 12) rfl rfl) (bq_X1_X0_m A cI xx xn xm_54 xk) rfl hl.1 rfl (Nat.le_of_ble_eq_true rfl) dX1_goStuttering_59 ⟨Nat.le_of_ble_eq_true rfl, Nat.le_of_ble_eq_true rfl⟩ (fun H locs hP hD hS => ?_)
            refine lv_if_eq (tgt := 76) hx hb dX1_goStuttering_62 (by decide) (fun c7 => ?_) (fun c7 => ?_)
            · have hf := hT hf c7
              refine lv_iinc (v := (j7_54 + (1 : Int32))) (lv' := [(7, .int (j7_54 + (1 : Int32))), (0, .ref ((A 0) 0)), (1, .int j1), (2, .int j2), (3, .int j3), (4, .int j4), (5, .long j5_54), (8, .int j8_54)]) hx hb dX1_goStuttering_76 hl (k := 6) rfl rfl (by decide) rfl (fun ls hl => ?_)
              refine lv_goto (tgt := 17) hx hb dX1_goStuttering_79 (by decide) ?_
              exact (hWW _ _ _).mp (ih _ _ _ _ _ _ hf hP hD hS (lv_sub hl [1, 2, 3, 4, 5, 6, 0] rfl))
            · have hf := hF hf c7
              refine lv_aload_n hx hb dX1_goStuttering_65 rfl (lv_at hl 0 rfl) ?_
              refine va_get (D := D) (ci := 1) (v := .ref ((A 2) 0)) (C := RX1) (T := TX1) (N := 9) hx hb hts hinX hown hK hP 0 rfl rfl 1 (by decide) lk0 (fun _ h9 => h9) rfl dX1_goStuttering_66 ?_
              refine lv_iconst (v := (1 : Int32)) hx hb dX1_goStuttering_69 (by decide) ?_
              refine lv_iload hx hb dX1_goStuttering_70 (lv_at hl 7 rfl) ?_
              obtain ⟨v8, hev8, hf⟩ := bS hf
              refine qVN_i (ws' := (wX A cI xx xn v8.2 xk)) (As := [.int (1 : Int32), .int j8_54]) (rest := []) ⟨hx, hb, hml, hown, hts⟩ hK hN hA hP hD hS (c_X0_goOn l D cI (A 2) (1 : Int32) j8_54 xm_54 v8 hev8) ⟨va_cnB 2 hts gX1_goStuttering_X0_goOn_n97 rfl rfl rfl (nW.m hN 12 rfl) lk2 hd_X0_goOn.2 ⟨Nat.le_of_ble_eq_true rfl, Nat.le_of_ble_eq_true rfl⟩, lk7, lk8⟩ (va_recv hK hP (ci := 0) (q0 := 12) rfl rfl) (bp_X1_X0_m_h A cI xx xn xm_54 xk v8.2) rfl hl.1 rfl (Nat.le_of_ble_eq_true rfl) dX1_goStuttering_72 ⟨Nat.le_of_ble_eq_true rfl, Nat.le_of_ble_eq_true rfl⟩ (fun H locs hP hD hS => ?_)
              have hP : va_P D vwCl (wX A cI xx xn v8.2 xk) H := hP
              refine lv_pop hx hb dX1_goStuttering_75 rfl ?_
              refine lv_iinc (v := (j7_54 + (1 : Int32))) (lv' := [(7, .int (j7_54 + (1 : Int32))), (0, .ref ((A 0) 0)), (1, .int j1), (2, .int j2), (3, .int j3), (4, .int j4), (5, .long j5_54), (8, .int j8_54)]) hx hb dX1_goStuttering_76 hl (k := 6) rfl rfl (by decide) rfl (fun ls hl => ?_)
              refine lv_goto (tgt := 17) hx hb dX1_goStuttering_79 (by decide) ?_
              exact (hWW _ _ _).mp (ih _ _ _ _ _ _ hf hP hD hS (lv_sub hl [1, 2, 3, 4, 5, 6, 0] rfl))
          refine lv_if_eq (tgt := 54) hx hb dX1_goStuttering_42 (by decide) (fun c9 => ?_) (fun c9 => ?_)
          · exact absurd c9 (by decide)
          · refine lv_lload hx hb dX1_goStuttering_45 (lv_at hl 6 rfl) ?_
            refine lv_iload_n hx hb dX1_goStuttering_47 rfl (lv_at hl 4 rfl) ?_
            refine lv_iconst (v := (1 : Int32)) hx hb dX1_goStuttering_48 (by decide) ?_
            refine lv_isub hx hb dX1_goStuttering_49 ?_
            refine lv_i2l hx hb dX1_goStuttering_50 rfl ?_
            refine lv_lmul hx hb dX1_goStuttering_51 ?_
            refine lv_lstore (lv' := [(5, .long (j5_17 * ((j3 - (1 : Int32))).toInt64)), (8, .int (1 : Int32)), (0, .ref ((A 0) 0)), (1, .int j1), (2, .int j2), (3, .int j3), (4, .int j4), (7, .int j7_17)]) hx hb dX1_goStuttering_52 hl (by decide) rfl (fun ls hl => ?_)
            exact (hWW _ _ _).mp (J54 _ _ _ _ _ _ _ hf hP hD hS (lv_sub hl [2, 3, 4, 5, 6, 0, 7, 1] rfl))
  exact (hWW _ _ _).mp (P17 _ _ _ _ _ _ _ hf hP hD hS (lv_sub hl [2, 3, 4, 5, 6, 1, 0] rfl))
set_option maxHeartbeats 4000000 in
set_option maxRecDepth 100000 in
theorem c_X1_stutter (l : Launch) (D : va_G) (cI : ClassId) (A : Nat → Nat → Nat) (j1 : Int32) (j2 : Int32) (j3 : Int32) (j4 : Int32) (j5 : Int32) (xx : HS) (xn : HS) (xm : HS) (xk : HS) (out : Int64 × HS × HS) (hf : f_X1_stutter j1 j2 j3 j4 j5 xx xn xm xk = some out) : uL l D cI yX1_stutter wsX1_stutter ({ frames := 6, cells := 0, slots := 0, locals := 156 } : Room) [.ref ((A 0) 0), .int j1, .int j2, .int j3, .int j4, .int j5] (wX A cI xx xn xm xk) (wX A cI out.2.1 xn out.2.2 xk) out.1 := by
  intro sz
  refine Met.ofW (cc := cX1_stutter) (maxL := 13) (ret := (some .long)) (by decide) rfl ?_
  intro p e s m args below meth c s₁ Bd hml hv
  obtain ⟨rfl, hsz, hP, hK, hD0, hN⟩ := hv
  have hx := Bd.exec
  have hb := Bd.bytes
  have hr := Bd.returns
  have hts := atoms_spec (ws := wsX1_stutter) Bd.pre
  have hown : s.vm.findClass RX1 = some m.cls := findClass_of_methodNamed Bd.named
  have hlocks := Bd.notSynchronized
  subst hsz
  have hD := hD0.self (sz := s.heap.size)
  generalize hAe : va_A (wX A cI xx xn xm xk) s.heap.size = G at hD ⊢
  have hA : ∀ q : Nat, s.heap.size ≤ q → G q := fun q h => by rw [← hAe]; exact Or.inr h
  have hS : va_S G s.heap s.heap [] := va_S.rf
  have hP : va_P D vwCl (wX A cI xx xn xm xk) s.heap := hP
  have hl := lv_entry ([.ref ((A 0) 0), .int j1, .int j2, .int j3, .int j4, .int j5]) (n := 13) (Nat.le_of_ble_eq_true rfl)
  rw [lg_entry_eq]
  generalize (lg_sl ([.ref ((A 0) 0), .int j1, .int j2, .int j3, .int j4, .int j5]) ++ List.replicate (13 - (lg_sl ([.ref ((A 0) 0), .int j1, .int j2, .int j3, .int j4, .int j5])).length) Slot.unset).toArray = ls at hl ⊢
  have hl : lv_has ls 13 [(0, .ref ((A 0) 0)), (1, .int j1), (2, .int j2), (3, .int j3), (4, .int j4), (5, .int j5)] := hl
  have hinH : ∀ w ∈ wsX00, w ∈ wsX1_stutter := by decide +kernel
  have hinX : ∀ w ∈ wsX10, w ∈ wsX1_stutter := by decide +kernel
  have lk0 := hts (.fieldLink RX1 10 "LiesBoughtBack" "now" "LLiesBoughtBack$Hall;") (by decide +kernel)
  have lk1 := hts (.initialized RX0) (by decide +kernel)
  have lk2 := hts (.instanceMethod yX0_hasBidder) (by decide +kernel)
  have lk3 := hts (.selects RX0 yX0_hasBidder yX0_hasBidder) (by decide +kernel)
  have lk4 := hts (.instanceMethod yX0_hasCard) (by decide +kernel)
  have lk5 := hts (.selects RX0 yX0_hasCard yX0_hasCard) (by decide +kernel)
  have lk6 := hts (.fieldLink RX1 16 "LiesBoughtBack" "mind" "LLiesBoughtBack$Hall;") (by decide +kernel)
  refine W_in ?_
  intro WW hWW
  refine (hWW _ _ _).mpr ?_
  unfold f_X1_stutter at hf
  refine lv_aload_n hx hb dX1_stutter_0 rfl (lv_at hl 0 rfl) ?_
  refine va_get (D := D) (ci := 1) (v := .ref ((A 1) 0)) (C := RX1) (T := TX1) (N := 9) hx hb hts hinX hown hK hP 0 rfl rfl 0 (by decide) lk0 (fun _ h9 => h9) rfl dX1_stutter_1 ?_
  refine lv_iload_n hx hb dX1_stutter_4 rfl (lv_at hl 1 rfl) ?_
  refine qVN_i (As := [.int j1]) (rest := []) ⟨hx, hb, hml, hown, hts⟩ hK hN hA hP hD hS (c_X0_hasBidder l D cI (A 1) j1 xn (f_X0_hasBidder j1 xn) rfl) ⟨va_cnB 1 hts gX1_stutter_X0_hasBidder_n59 rfl rfl rfl (nW.m hN 13 rfl) lk1 hd_X0_hasBidder.2 ⟨Nat.le_of_ble_eq_true rfl, Nat.le_of_ble_eq_true rfl⟩, lk2, lk3⟩ (va_recv hK hP (ci := 0) (q0 := 1) rfl rfl) (bq_X1_X0_n A cI xx xn xm xk) rfl hl.1 rfl (Nat.le_of_ble_eq_true rfl) dX1_stutter_5 ⟨Nat.le_of_ble_eq_true rfl, Nat.le_of_ble_eq_true rfl⟩ (fun H locs hP hD hS => ?_)
  refine lv_if_eq (tgt := 22) hx hb dX1_stutter_8 (by decide) (fun c1 => ?_) (fun c1 => ?_)
  · have hf := hT hf c1
    refine lv_aload_n hx hb dX1_stutter_22 rfl (lv_at hl 0 rfl) ?_
    refine lv_iconst (v := (-1 : Int32)) hx hb dX1_stutter_23 (by decide) ?_
    obtain ⟨v2, hev2, hf⟩ := bS hf
    refine qV_l (ws' := (wX A cI v2.2 xn xm xk)) (As := [.int (-1 : Int32)]) (rest := []) ⟨hx, hb, hml, hown, hts⟩ hK hN hA hP hD hS (c_X1_refuseFar l D cI A (-1 : Int32) xx xn xm xk v2 hev2) (cwV 1 hts gX1_stutter_X1_refuseFar rfl rfl rfl hd_X1_refuseFar ⟨Nat.le_of_ble_eq_true rfl, Nat.le_of_ble_eq_true rfl⟩) (va_recv hK hP (ci := 1) (q0 := 0) rfl rfl) (bp_X1_X1_xnmk_x A cI xx xn xm xk v2.2) rfl hl.1 rfl (Nat.le_of_ble_eq_true rfl) dX1_stutter_24 ⟨Nat.le_of_ble_eq_true rfl, Nat.le_of_ble_eq_true rfl⟩ (fun H locs hP hD hS => ?_)
    have hP : va_P D vwCl (wX A cI v2.2 xn xm xk) H := hP
    obtain rfl := Option.some.inj hf
    exact W.lret (v := v2.1) hx hb hr (fun t ht hW => ⟨⟨v2.1, (), rfl, rfl, hPt ht hP⟩, hS.F ht⟩) hS.2.2 dX1_stutter_27
  · have hf := hF hf c1
    refine lv_aload_n hx hb dX1_stutter_11 rfl (lv_at hl 0 rfl) ?_
    refine va_get (D := D) (ci := 1) (v := .ref ((A 1) 0)) (C := RX1) (T := TX1) (N := 9) hx hb hts hinX hown hK hP 0 rfl rfl 0 (by decide) lk0 (fun _ h9 => h9) rfl dX1_stutter_12 ?_
    refine lv_iload_n hx hb dX1_stutter_15 rfl (lv_at hl 2 rfl) ?_
    refine qVN_i (As := [.int j2]) (rest := []) ⟨hx, hb, hml, hown, hts⟩ hK hN hA hP hD hS (c_X0_hasCard l D cI (A 1) j2 xn (f_X0_hasCard j2 xn) rfl) ⟨va_cnB 1 hts gX1_stutter_X0_hasCard_n69 rfl rfl rfl (nW.m hN 14 rfl) lk1 hd_X0_hasCard.2 ⟨Nat.le_of_ble_eq_true rfl, Nat.le_of_ble_eq_true rfl⟩, lk4, lk5⟩ (va_recv hK hP (ci := 0) (q0 := 1) rfl rfl) (bq_X1_X0_n A cI xx xn xm xk) rfl hl.1 rfl (Nat.le_of_ble_eq_true rfl) dX1_stutter_16 ⟨Nat.le_of_ble_eq_true rfl, Nat.le_of_ble_eq_true rfl⟩ (fun H locs hP hD hS => ?_)
    refine lv_if_ne (tgt := 28) hx hb dX1_stutter_19 (by decide) (fun c3 => ?_) (fun c3 => ?_)
    · have hf := hF hf c3
      refine lv_iload_n hx hb dX1_stutter_28 rfl (lv_at hl 3 rfl) ?_
      refine lv_if_lt (tgt := 38) hx hb dX1_stutter_29 (by decide) (fun c4 => ?_) (fun c4 => ?_)
      · have hf := hT hf c4
        refine lv_aload_n hx hb dX1_stutter_38 rfl (lv_at hl 0 rfl) ?_
        refine lv_bipush (v := (-4 : Int32)) hx hb dX1_stutter_39 (by decide) ?_
        obtain ⟨v5, hev5, hf⟩ := bS hf
        refine qV_l (ws' := (wX A cI v5.2 xn xm xk)) (As := [.int (-4 : Int32)]) (rest := []) ⟨hx, hb, hml, hown, hts⟩ hK hN hA hP hD hS (c_X1_refuseFar l D cI A (-4 : Int32) xx xn xm xk v5 hev5) (cwV 1 hts gX1_stutter_X1_refuseFar rfl rfl rfl hd_X1_refuseFar ⟨Nat.le_of_ble_eq_true rfl, Nat.le_of_ble_eq_true rfl⟩) (va_recv hK hP (ci := 1) (q0 := 0) rfl rfl) (bp_X1_X1_xnmk_x A cI xx xn xm xk v5.2) rfl hl.1 rfl (Nat.le_of_ble_eq_true rfl) dX1_stutter_41 ⟨Nat.le_of_ble_eq_true rfl, Nat.le_of_ble_eq_true rfl⟩ (fun H locs hP hD hS => ?_)
        have hP : va_P D vwCl (wX A cI v5.2 xn xm xk) H := hP
        obtain rfl := Option.some.inj hf
        exact W.lret (v := v5.1) hx hb hr (fun t ht hW => ⟨⟨v5.1, (), rfl, rfl, hPt ht hP⟩, hS.F ht⟩) hS.2.2 dX1_stutter_44
      · have hf := hF hf c4
        refine lv_iload hx hb dX1_stutter_32 (lv_at hl 4 rfl) ?_
        refine lv_iconst (v := (2 : Int32)) hx hb dX1_stutter_34 (by decide) ?_
        refine lv_icmp_ge (tgt := 45) hx hb dX1_stutter_35 (by decide) (fun c6 => ?_) (fun c6 => ?_)
        · have hf := hT hf c6
          refine lv_iload_n hx hb dX1_stutter_45 rfl (lv_at hl 3 rfl) ?_
          refine lv_bipush (v := (7 : Int32)) hx hb dX1_stutter_46 (by decide) ?_
          refine lv_icmp_gt (tgt := 58) hx hb dX1_stutter_48 (by decide) (fun c7 => ?_) (fun c7 => ?_)
          · have hf := hT hf c7
            refine lv_aload_n hx hb dX1_stutter_58 rfl (lv_at hl 0 rfl) ?_
            refine lv_bipush (v := (-6 : Int32)) hx hb dX1_stutter_59 (by decide) ?_
            obtain ⟨v8, hev8, hf⟩ := bS hf
            refine qV_l (ws' := (wX A cI v8.2 xn xm xk)) (As := [.int (-6 : Int32)]) (rest := []) ⟨hx, hb, hml, hown, hts⟩ hK hN hA hP hD hS (c_X1_refuseFar l D cI A (-6 : Int32) xx xn xm xk v8 hev8) (cwV 1 hts gX1_stutter_X1_refuseFar rfl rfl rfl hd_X1_refuseFar ⟨Nat.le_of_ble_eq_true rfl, Nat.le_of_ble_eq_true rfl⟩) (va_recv hK hP (ci := 1) (q0 := 0) rfl rfl) (bp_X1_X1_xnmk_x A cI xx xn xm xk v8.2) rfl hl.1 rfl (Nat.le_of_ble_eq_true rfl) dX1_stutter_61 ⟨Nat.le_of_ble_eq_true rfl, Nat.le_of_ble_eq_true rfl⟩ (fun H locs hP hD hS => ?_)
            have hP : va_P D vwCl (wX A cI v8.2 xn xm xk) H := hP
            obtain rfl := Option.some.inj hf
            exact W.lret (v := v8.1) hx hb hr (fun t ht hW => ⟨⟨v8.1, (), rfl, rfl, hPt ht hP⟩, hS.F ht⟩) hS.2.2 dX1_stutter_64
          · have hf := hF hf c7
            refine lv_iload hx hb dX1_stutter_51 (lv_at hl 4 rfl) ?_
            refine lv_bipush (v := (20 : Int32)) hx hb dX1_stutter_53 (by decide) ?_
            refine lv_icmp_le (tgt := 65) hx hb dX1_stutter_55 (by decide) (fun c9 => ?_) (fun c9 => ?_)
            · have hf := hT hf c9
              refine lv_iload hx hb dX1_stutter_65 (lv_at hl 5 rfl) ?_
              refine lv_if_lt (tgt := 76) hx hb dX1_stutter_67 (by decide) (fun c10 => ?_) (fun c10 => ?_)
              · have hf := hT hf c10
                refine lv_aload_n hx hb dX1_stutter_76 rfl (lv_at hl 0 rfl) ?_
                refine lv_bipush (v := (-2 : Int32)) hx hb dX1_stutter_77 (by decide) ?_
                obtain ⟨v11, hev11, hf⟩ := bS hf
                refine qV_l (ws' := (wX A cI v11.2 xn xm xk)) (As := [.int (-2 : Int32)]) (rest := []) ⟨hx, hb, hml, hown, hts⟩ hK hN hA hP hD hS (c_X1_refuseFar l D cI A (-2 : Int32) xx xn xm xk v11 hev11) (cwV 1 hts gX1_stutter_X1_refuseFar rfl rfl rfl hd_X1_refuseFar ⟨Nat.le_of_ble_eq_true rfl, Nat.le_of_ble_eq_true rfl⟩) (va_recv hK hP (ci := 1) (q0 := 0) rfl rfl) (bp_X1_X1_xnmk_x A cI xx xn xm xk v11.2) rfl hl.1 rfl (Nat.le_of_ble_eq_true rfl) dX1_stutter_79 ⟨Nat.le_of_ble_eq_true rfl, Nat.le_of_ble_eq_true rfl⟩ (fun H locs hP hD hS => ?_)
                have hP : va_P D vwCl (wX A cI v11.2 xn xm xk) H := hP
                obtain rfl := Option.some.inj hf
                exact W.lret (v := v11.1) hx hb hr (fun t ht hW => ⟨⟨v11.1, (), rfl, rfl, hPt ht hP⟩, hS.F ht⟩) hS.2.2 dX1_stutter_82
              · have hf := hF hf c10
                refine lv_iload hx hb dX1_stutter_70 (lv_at hl 5 rfl) ?_
                refine lv_iconst (v := (1 : Int32)) hx hb dX1_stutter_72 (by decide) ?_
                refine lv_icmp_le (tgt := 83) hx hb dX1_stutter_73 (by decide) (fun c12 => ?_) (fun c12 => ?_)
                · have hf := hT hf c12
                  refine lv_lconst (v := (1 : Int64)) hx hb dX1_stutter_83 (by decide) ?_
                  refine lv_lstore (lv' := [(6, .long (1 : Int64)), (0, .ref ((A 0) 0)), (1, .int j1), (2, .int j2), (3, .int j3), (4, .int j4), (5, .int j5)]) hx hb dX1_stutter_84 hl (by decide) rfl (fun ls hl => ?_)
                  refine lv_iconst (v := (0 : Int32)) hx hb dX1_stutter_86 (by decide) ?_
                  refine lv_istore (lv' := [(8, .int (0 : Int32)), (6, .long (1 : Int64)), (0, .ref ((A 0) 0)), (1, .int j1), (2, .int j2), (3, .int j3), (4, .int j4), (5, .int j5)]) hx hb dX1_stutter_87 hl (by decide) rfl (fun ls hl => ?_)
                  obtain ⟨K109, hK109, hf⟩ := jnS hf
                  have J109 : ∀ (j6_109 : Int64) (xx_109 : HS) (xm_109 : HS) (H : Heap) (locs : List Loc) (ls : Array Slot), K109 j6_109 xx_109 xm_109 = some out → va_P D vwCl (wX A cI xx_109 xn xm_109 xk) H → va_D G (wX A cI xx_109 xn xm_109 xk) → va_S G s.heap H locs → lv_has ls 13 [(0, .ref ((A 0) 0)), (1, .int j1), (2, .int j2), (3, .int j3), (4, .int j4), (5, .int j5), (6, .long j6_109)] → WW H locs (F0 m 109 ls []) := by
                    intro j6_109 xx_109 xm_109 H locs ls hf hP hD hS hl
                    subst hK109
                    refine (hWW _ _ _).mpr ?_
                    refine lv_lconst (v := (0 : Int64)) hx hb dX1_stutter_109 (by decide) ?_
                    refine lv_lstore (lv' := [(8, .long (0 : Int64)), (0, .ref ((A 0) 0)), (1, .int j1), (2, .int j2), (3, .int j3), (4, .int j4), (5, .int j5), (6, .long j6_109)]) hx hb dX1_stutter_110 hl (by decide) rfl (fun ls hl => ?_)
                    refine lv_iconst (v := (0 : Int32)) hx hb dX1_stutter_112 (by decide) ?_
                    refine lv_istore (lv' := [(10, .int (0 : Int32)), (8, .long (0 : Int64)), (0, .ref ((A 0) 0)), (1, .int j1), (2, .int j2), (3, .int j3), (4, .int j4), (5, .int j5), (6, .long j6_109)]) hx hb dX1_stutter_113 hl (by decide) rfl (fun ls hl => ?_)
                    obtain ⟨K163, hK163, hf⟩ := jnS hf
                    have J163 : ∀ (j6_163 : Int64) (j8_163 : Int64) (xx_163 : HS) (xm_163 : HS) (H : Heap) (locs : List Loc) (ls : Array Slot), K163 j6_163 j8_163 xx_163 xm_163 = some out → va_P D vwCl (wX A cI xx_163 xn xm_163 xk) H → va_D G (wX A cI xx_163 xn xm_163 xk) → va_S G s.heap H locs → lv_has ls 13 [(5, .int j5), (6, .long j6_163), (8, .long j8_163)] → WW H locs (F0 m 163 ls []) := by
                      intro j6_163 j8_163 xx_163 xm_163 H locs ls hf hP hD hS hl
                      subst hK163
                      refine (hWW _ _ _).mpr ?_
                      refine lv_lload hx hb dX1_stutter_163 (lv_at hl 2 rfl) ?_
                      refine lv_lload hx hb dX1_stutter_165 (lv_at hl 1 rfl) ?_
                      refine lv_iload hx hb dX1_stutter_167 (lv_at hl 0 rfl) ?_
                      obtain ⟨v13, hev13, hf⟩ := bS hf
                      refine qS_l (As := [.long j8_163, .long j6_163, .int j5]) (rest := []) ⟨hx, hb, hml, hown, hts⟩ hK hN hA hP hD hS (c_X1_inLeastTerms l D cI j8_163 j6_163 j5 v13 hev13) (va_cwS 3 hts gX1_stutter_X1_inLeastTerms rfl rfl rfl hd_X1_inLeastTerms.2 ⟨Nat.le_of_ble_eq_true rfl, Nat.le_of_ble_eq_true rfl⟩) Bp_e rfl hl.1 rfl (Nat.le_of_ble_eq_true rfl) dX1_stutter_169 ⟨Nat.le_of_ble_eq_true rfl, Nat.le_of_ble_eq_true rfl⟩ (fun H locs hP hD hS => ?_)
                      obtain rfl := Option.some.inj hf
                      exact W.lret (v := v13) hx hb hr (fun t ht hW => ⟨⟨v13, (), rfl, rfl, hPt ht hP⟩, hS.F ht⟩) hS.2.2 dX1_stutter_172
                    have P115 : ∀ (n' : Nat) (j6_115 : Int64) (j8_115 : Int64) (j10_115 : Int32) (xx_115 : HS) (xm_115 : HS) (H : Heap) (locs : List Loc) (ls : Array Slot), L_X1_stutter_115 j1 j2 j3 j4 j5 xn xk K163 n' j6_115 j8_115 j10_115 xx_115 xm_115 = some out → va_P D vwCl (wX A cI xx_115 xn xm_115 xk) H → va_D G (wX A cI xx_115 xn xm_115 xk) → va_S G s.heap H locs → lv_has ls 13 [(0, .ref ((A 0) 0)), (1, .int j1), (2, .int j2), (3, .int j3), (4, .int j4), (5, .int j5), (6, .long j6_115), (8, .long j8_115), (10, .int j10_115)] → WW H locs (F0 m 115 ls []) := by
                      intro n'
                      induction n' with
                      | zero => intro j6_115 j8_115 j10_115 xx_115 xm_115 H locs ls hf; exact absurd (show (none : Option (Int64 × HS × HS)) = some out from hf) (fun q => by cases q)
                      | succ n' ih =>
                        intro j6_115 j8_115 j10_115 xx_115 xm_115 H locs ls hf hP hD hS hl
                        rw [L_X1_stutter_115] at hf
                        refine (hWW _ _ _).mpr ?_
                        refine lv_iload hx hb dX1_stutter_115 (lv_at hl 8 rfl) ?_
                        refine lv_iconst (v := (1 : Int32)) hx hb dX1_stutter_117 (by decide) ?_
                        refine lv_iload_n hx hb dX1_stutter_118 rfl (lv_at hl 3 rfl) ?_
                        refine lv_ishl hx hb dX1_stutter_119 ?_
                        refine lv_icmp_ge (tgt := 163) hx hb dX1_stutter_120 (by decide) (fun c14 => ?_) (fun c14 => ?_)
                        · have hf := hT hf c14
                          exact (hWW _ _ _).mp (J163 _ _ _ _ _ _ _ hf hP hD hS (lv_sub hl [5, 6, 7] rfl))
                        · have hf := hF hf c14
                          refine lv_aload_n hx hb dX1_stutter_123 rfl (lv_at hl 0 rfl) ?_
                          refine lv_iload_n hx hb dX1_stutter_124 rfl (lv_at hl 2 rfl) ?_
                          refine lv_iload_n hx hb dX1_stutter_125 rfl (lv_at hl 3 rfl) ?_
                          refine lv_iload hx hb dX1_stutter_126 (lv_at hl 4 rfl) ?_
                          refine lv_iload hx hb dX1_stutter_128 (lv_at hl 8 rfl) ?_
                          obtain ⟨v15, hev15, hf⟩ := bS hf
                          refine qV_l (ws' := (wX A cI xx_115 xn v15.2 xk)) (As := [.int j2, .int j3, .int j4, .int j10_115]) (rest := []) ⟨hx, hb, hml, hown, hts⟩ hK hN hA hP hD hS (c_X1_goStuttering l D cI A j2 j3 j4 j10_115 xx_115 xn xm_115 xk v15 hev15) (cwV 4 hts gX1_stutter_X1_goStuttering rfl rfl rfl hd_X1_goStuttering ⟨Nat.le_of_ble_eq_true rfl, Nat.le_of_ble_eq_true rfl⟩) (va_recv hK hP (ci := 1) (q0 := 0) rfl rfl) (bp_X1_X1_xnmk_m A cI xx_115 xn xm_115 xk v15.2) rfl hl.1 rfl (Nat.le_of_ble_eq_true rfl) dX1_stutter_130 ⟨Nat.le_of_ble_eq_true rfl, Nat.le_of_ble_eq_true rfl⟩ (fun H locs hP hD hS => ?_)
                          have hP : va_P D vwCl (wX A cI xx_115 xn v15.2 xk) H := hP
                          refine lv_lstore (lv' := [(11, .long v15.1), (0, .ref ((A 0) 0)), (1, .int j1), (2, .int j2), (3, .int j3), (4, .int j4), (5, .int j5), (6, .long j6_115), (8, .long j8_115), (10, .int j10_115)]) hx hb dX1_stutter_133 hl (by decide) rfl (fun ls hl => ?_)
                          refine lv_aload_n hx hb dX1_stutter_135 rfl (lv_at hl 1 rfl) ?_
                          refine va_get (D := D) (ci := 1) (v := .ref ((A 2) 0)) (C := RX1) (T := TX1) (N := 9) hx hb hts hinX hown hK hP 0 rfl rfl 1 (by decide) lk6 (fun _ h9 => h9) rfl dX1_stutter_136 ?_
                          refine va_getN (D := D) (ci := 0) (v := .ref ((A 2) 5)) (C := RX0) (T := TX0) (N := 13) hx hb hts hinH hown hK hP 12 rfl rfl 7 (by decide) (nW.f hN 7 rfl) (fun _ h9 => h9) rfl dX1_stutter_139 ?_
                          refine lv_iload_n hx hb dX1_stutter_142 rfl (lv_at hl 3 rfl) ?_
                          refine qS_i (As := [.ref ((A 2) 5), .int j2]) (rest := []) ⟨hx, hb, hml, hown, hts⟩ hK hN hA hP hD hS (c_X1_at l D cI 8 (by decide) ((A 2) 5) (v15.2 4) j2) (va_cwS 2 hts gX1_stutter_X1_at rfl rfl rfl hd_X1_at.2 ⟨Nat.le_of_ble_eq_true rfl, Nat.le_of_ble_eq_true rfl⟩) (bA_X1_m_4 A cI xx_115 xn v15.2 xk) rfl hl.1 rfl (Nat.le_of_ble_eq_true rfl) dX1_stutter_143 ⟨Nat.le_of_ble_eq_true rfl, Nat.le_of_ble_eq_true rfl⟩ (fun H locs hP hD hS => ?_)
                          refine lv_iload_n hx hb dX1_stutter_146 rfl (lv_at hl 2 rfl) ?_
                          refine lv_icmp_ne (tgt := 157) hx hb dX1_stutter_147 (by decide) (fun c16 => ?_) (fun c16 => ?_)
                          · have hf := hF hf c16
                            refine lv_iinc (v := (j10_115 + (1 : Int32))) (lv' := [(10, .int (j10_115 + (1 : Int32))), (11, .long v15.1), (0, .ref ((A 0) 0)), (1, .int j1), (2, .int j2), (3, .int j3), (4, .int j4), (5, .int j5), (6, .long j6_115), (8, .long j8_115)]) hx hb dX1_stutter_157 hl (k := 9) rfl rfl (by decide) rfl (fun ls hl => ?_)
                            refine lv_goto (tgt := 115) hx hb dX1_stutter_160 (by decide) ?_
                            exact (hWW _ _ _).mp (ih _ _ _ _ _ _ _ _ hf hP hD hS (lv_sub hl [2, 3, 4, 5, 6, 7, 8, 9, 0] rfl))
                          · have hf := hT hf c16
                            refine lv_lload hx hb dX1_stutter_150 (lv_at hl 8 rfl) ?_
                            refine lv_lload hx hb dX1_stutter_152 (lv_at hl 0 rfl) ?_
                            refine lv_ladd hx hb dX1_stutter_154 ?_
                            refine lv_lstore (lv' := [(8, .long (j8_115 + v15.1)), (11, .long v15.1), (0, .ref ((A 0) 0)), (1, .int j1), (2, .int j2), (3, .int j3), (4, .int j4), (5, .int j5), (6, .long j6_115), (10, .int j10_115)]) hx hb dX1_stutter_155 hl (by decide) rfl (fun ls hl => ?_)
                            refine lv_iinc (v := (j10_115 + (1 : Int32))) (lv' := [(10, .int (j10_115 + (1 : Int32))), (8, .long (j8_115 + v15.1)), (11, .long v15.1), (0, .ref ((A 0) 0)), (1, .int j1), (2, .int j2), (3, .int j3), (4, .int j4), (5, .int j5), (6, .long j6_115)]) hx hb dX1_stutter_157 hl (k := 9) rfl rfl (by decide) rfl (fun ls hl => ?_)
                            refine lv_goto (tgt := 115) hx hb dX1_stutter_160 (by decide) ?_
                            exact (hWW _ _ _).mp (ih _ _ _ _ _ _ _ _ hf hP hD hS (lv_sub hl [3, 4, 5, 6, 7, 8, 9, 1, 0] rfl))
                    exact (hWW _ _ _).mp (P115 _ _ _ _ _ _ _ _ _ hf hP hD hS (lv_sub hl [2, 3, 4, 5, 6, 7, 8, 1, 0] rfl))
                  have P89 : ∀ (n' : Nat) (j6_89 : Int64) (j8_89 : Int32) (xx_89 : HS) (xm_89 : HS) (H : Heap) (locs : List Loc) (ls : Array Slot), L_X1_stutter_89 j1 j2 j3 j4 j5 xn xk K109 n' j6_89 j8_89 xx_89 xm_89 = some out → va_P D vwCl (wX A cI xx_89 xn xm_89 xk) H → va_D G (wX A cI xx_89 xn xm_89 xk) → va_S G s.heap H locs → lv_has ls 13 [(0, .ref ((A 0) 0)), (1, .int j1), (2, .int j2), (3, .int j3), (4, .int j4), (5, .int j5), (6, .long j6_89), (8, .int j8_89)] → WW H locs (F0 m 89 ls []) := by
                    intro n'
                    induction n' with
                    | zero => intro j6_89 j8_89 xx_89 xm_89 H locs ls hf; exact absurd (show (none : Option (Int64 × HS × HS)) = some out from hf) (fun q => by cases q)
                    | succ n' ih =>
                      intro j6_89 j8_89 xx_89 xm_89 H locs ls hf hP hD hS hl
                      rw [L_X1_stutter_89] at hf
                      refine (hWW _ _ _).mpr ?_
                      refine lv_iload hx hb dX1_stutter_89 (lv_at hl 7 rfl) ?_
                      refine lv_iload_n hx hb dX1_stutter_91 rfl (lv_at hl 3 rfl) ?_
                      refine lv_icmp_ge (tgt := 109) hx hb dX1_stutter_92 (by decide) (fun c17 => ?_) (fun c17 => ?_)
                      · have hf := hT hf c17
                        exact (hWW _ _ _).mp (J109 _ _ _ _ _ _ hf hP hD hS (lv_sub hl [0, 1, 2, 3, 4, 5, 6] rfl))
                      · have hf := hF hf c17
                        refine lv_lload hx hb dX1_stutter_95 (lv_at hl 6 rfl) ?_
                        refine lv_iload hx hb dX1_stutter_97 (lv_at hl 4 rfl) ?_
                        refine lv_i2l hx hb dX1_stutter_99 rfl ?_
                        refine lv_lmul hx hb dX1_stutter_100 ?_
                        refine lv_lstore (lv' := [(6, .long (j6_89 * (j4).toInt64)), (0, .ref ((A 0) 0)), (1, .int j1), (2, .int j2), (3, .int j3), (4, .int j4), (5, .int j5), (8, .int j8_89)]) hx hb dX1_stutter_101 hl (by decide) rfl (fun ls hl => ?_)
                        refine lv_iinc (v := (j8_89 + (1 : Int32))) (lv' := [(8, .int (j8_89 + (1 : Int32))), (6, .long (j6_89 * (j4).toInt64)), (0, .ref ((A 0) 0)), (1, .int j1), (2, .int j2), (3, .int j3), (4, .int j4), (5, .int j5)]) hx hb dX1_stutter_103 hl (k := 7) rfl rfl (by decide) rfl (fun ls hl => ?_)
                        refine lv_goto (tgt := 89) hx hb dX1_stutter_106 (by decide) ?_
                        exact (hWW _ _ _).mp (ih _ _ _ _ _ _ _ hf hP hD hS (lv_sub hl [2, 3, 4, 5, 6, 7, 1, 0] rfl))
                  exact (hWW _ _ _).mp (P89 _ _ _ _ _ _ _ _ hf hP hD hS (lv_sub hl [2, 3, 4, 5, 6, 7, 1, 0] rfl))
                · have hf := hF hf c12
                  refine lv_aload_n hx hb dX1_stutter_76 rfl (lv_at hl 0 rfl) ?_
                  refine lv_bipush (v := (-2 : Int32)) hx hb dX1_stutter_77 (by decide) ?_
                  obtain ⟨v18, hev18, hf⟩ := bS hf
                  refine qV_l (ws' := (wX A cI v18.2 xn xm xk)) (As := [.int (-2 : Int32)]) (rest := []) ⟨hx, hb, hml, hown, hts⟩ hK hN hA hP hD hS (c_X1_refuseFar l D cI A (-2 : Int32) xx xn xm xk v18 hev18) (cwV 1 hts gX1_stutter_X1_refuseFar rfl rfl rfl hd_X1_refuseFar ⟨Nat.le_of_ble_eq_true rfl, Nat.le_of_ble_eq_true rfl⟩) (va_recv hK hP (ci := 1) (q0 := 0) rfl rfl) (bp_X1_X1_xnmk_x A cI xx xn xm xk v18.2) rfl hl.1 rfl (Nat.le_of_ble_eq_true rfl) dX1_stutter_79 ⟨Nat.le_of_ble_eq_true rfl, Nat.le_of_ble_eq_true rfl⟩ (fun H locs hP hD hS => ?_)
                  have hP : va_P D vwCl (wX A cI v18.2 xn xm xk) H := hP
                  obtain rfl := Option.some.inj hf
                  exact W.lret (v := v18.1) hx hb hr (fun t ht hW => ⟨⟨v18.1, (), rfl, rfl, hPt ht hP⟩, hS.F ht⟩) hS.2.2 dX1_stutter_82
            · have hf := hF hf c9
              refine lv_aload_n hx hb dX1_stutter_58 rfl (lv_at hl 0 rfl) ?_
              refine lv_bipush (v := (-6 : Int32)) hx hb dX1_stutter_59 (by decide) ?_
              obtain ⟨v19, hev19, hf⟩ := bS hf
              refine qV_l (ws' := (wX A cI v19.2 xn xm xk)) (As := [.int (-6 : Int32)]) (rest := []) ⟨hx, hb, hml, hown, hts⟩ hK hN hA hP hD hS (c_X1_refuseFar l D cI A (-6 : Int32) xx xn xm xk v19 hev19) (cwV 1 hts gX1_stutter_X1_refuseFar rfl rfl rfl hd_X1_refuseFar ⟨Nat.le_of_ble_eq_true rfl, Nat.le_of_ble_eq_true rfl⟩) (va_recv hK hP (ci := 1) (q0 := 0) rfl rfl) (bp_X1_X1_xnmk_x A cI xx xn xm xk v19.2) rfl hl.1 rfl (Nat.le_of_ble_eq_true rfl) dX1_stutter_61 ⟨Nat.le_of_ble_eq_true rfl, Nat.le_of_ble_eq_true rfl⟩ (fun H locs hP hD hS => ?_)
              have hP : va_P D vwCl (wX A cI v19.2 xn xm xk) H := hP
              obtain rfl := Option.some.inj hf
              exact W.lret (v := v19.1) hx hb hr (fun t ht hW => ⟨⟨v19.1, (), rfl, rfl, hPt ht hP⟩, hS.F ht⟩) hS.2.2 dX1_stutter_64
        · have hf := hF hf c6
          refine lv_aload_n hx hb dX1_stutter_38 rfl (lv_at hl 0 rfl) ?_
          refine lv_bipush (v := (-4 : Int32)) hx hb dX1_stutter_39 (by decide) ?_
          obtain ⟨v20, hev20, hf⟩ := bS hf
          refine qV_l (ws' := (wX A cI v20.2 xn xm xk)) (As := [.int (-4 : Int32)]) (rest := []) ⟨hx, hb, hml, hown, hts⟩ hK hN hA hP hD hS (c_X1_refuseFar l D cI A (-4 : Int32) xx xn xm xk v20 hev20) (cwV 1 hts gX1_stutter_X1_refuseFar rfl rfl rfl hd_X1_refuseFar ⟨Nat.le_of_ble_eq_true rfl, Nat.le_of_ble_eq_true rfl⟩) (va_recv hK hP (ci := 1) (q0 := 0) rfl rfl) (bp_X1_X1_xnmk_x A cI xx xn xm xk v20.2) rfl hl.1 rfl (Nat.le_of_ble_eq_true rfl) dX1_stutter_41 ⟨Nat.le_of_ble_eq_true rfl, Nat.le_of_ble_eq_true rfl⟩ (fun H locs hP hD hS => ?_)
          have hP : va_P D vwCl (wX A cI v20.2 xn xm xk) H := hP
          obtain rfl := Option.some.inj hf
          exact W.lret (v := v20.1) hx hb hr (fun t ht hW => ⟨⟨v20.1, (), rfl, rfl, hPt ht hP⟩, hS.F ht⟩) hS.2.2 dX1_stutter_44
    · have hf := hT hf c3
      refine lv_aload_n hx hb dX1_stutter_22 rfl (lv_at hl 0 rfl) ?_
      refine lv_iconst (v := (-1 : Int32)) hx hb dX1_stutter_23 (by decide) ?_
      obtain ⟨v21, hev21, hf⟩ := bS hf
      refine qV_l (ws' := (wX A cI v21.2 xn xm xk)) (As := [.int (-1 : Int32)]) (rest := []) ⟨hx, hb, hml, hown, hts⟩ hK hN hA hP hD hS (c_X1_refuseFar l D cI A (-1 : Int32) xx xn xm xk v21 hev21) (cwV 1 hts gX1_stutter_X1_refuseFar rfl rfl rfl hd_X1_refuseFar ⟨Nat.le_of_ble_eq_true rfl, Nat.le_of_ble_eq_true rfl⟩) (va_recv hK hP (ci := 1) (q0 := 0) rfl rfl) (bp_X1_X1_xnmk_x A cI xx xn xm xk v21.2) rfl hl.1 rfl (Nat.le_of_ble_eq_true rfl) dX1_stutter_24 ⟨Nat.le_of_ble_eq_true rfl, Nat.le_of_ble_eq_true rfl⟩ (fun H locs hP hD hS => ?_)
      have hP : va_P D vwCl (wX A cI v21.2 xn xm xk) H := hP
      obtain rfl := Option.some.inj hf
      exact W.lret (v := v21.1) hx hb hr (fun t ht hW => ⟨⟨v21.1, (), rfl, rfl, hPt ht hP⟩, hS.F ht⟩) hS.2.2 dX1_stutter_27
set_option maxHeartbeats 4000000 in
set_option maxRecDepth 100000 in
theorem c_X1_purseFor (l : Launch) (D : va_G) (cI : ClassId) (A : Nat → Nat → Nat) (j1 : Int32) (j2 : Int32) (xx : HS) (xn : HS) (xm : HS) (xk : HS) (out : Int32 × HS × HS) (hf : f_X1_purseFor j1 j2 xx xn xm xk = some out) : uI l D cI yX1_purseFor wsX1_purseFor ({ frames := 5, cells := 0, slots := 0, locals := 128 } : Room) [.ref ((A 0) 0), .int j1, .int j2] (wX A cI xx xn xm xk) (wX A cI out.2.1 xn out.2.2 xk) out.1 := by
  intro sz
  refine Met.ofW (cc := cX1_purseFor) (maxL := 4) (ret := (some .int)) (by decide) rfl ?_
  intro p e s m args below meth c s₁ Bd hml hv
  obtain ⟨rfl, hsz, hP, hK, hD0, hN⟩ := hv
  have hx := Bd.exec
  have hb := Bd.bytes
  have hr := Bd.returns
  have hts := atoms_spec (ws := wsX1_purseFor) Bd.pre
  have hown : s.vm.findClass RX1 = some m.cls := findClass_of_methodNamed Bd.named
  have hlocks := Bd.notSynchronized
  subst hsz
  have hD := hD0.self (sz := s.heap.size)
  generalize hAe : va_A (wX A cI xx xn xm xk) s.heap.size = G at hD ⊢
  have hA : ∀ q : Nat, s.heap.size ≤ q → G q := fun q h => by rw [← hAe]; exact Or.inr h
  have hS : va_S G s.heap s.heap [] := va_S.rf
  have hP : va_P D vwCl (wX A cI xx xn xm xk) s.heap := hP
  have hl := lv_entry ([.ref ((A 0) 0), .int j1, .int j2]) (n := 4) (Nat.le_of_ble_eq_true rfl)
  rw [lg_entry_eq]
  generalize (lg_sl ([.ref ((A 0) 0), .int j1, .int j2]) ++ List.replicate (4 - (lg_sl ([.ref ((A 0) 0), .int j1, .int j2])).length) Slot.unset).toArray = ls at hl ⊢
  have hl : lv_has ls 4 [(0, .ref ((A 0) 0)), (1, .int j1), (2, .int j2)] := hl
  have hinH : ∀ w ∈ wsX00, w ∈ wsX1_purseFor := by decide +kernel
  have hinX : ∀ w ∈ wsX10, w ∈ wsX1_purseFor := by decide +kernel
  have lk0 := hts (.fieldLink RX1 10 "LiesBoughtBack" "now" "LLiesBoughtBack$Hall;") (by decide +kernel)
  have lk1 := hts (.initialized RX0) (by decide +kernel)
  have lk2 := hts (.instanceMethod yX0_hasBidder) (by decide +kernel)
  have lk3 := hts (.selects RX0 yX0_hasBidder yX0_hasBidder) (by decide +kernel)
  have lk4 := hts (.instanceMethod yX0_hasCard) (by decide +kernel)
  have lk5 := hts (.selects RX0 yX0_hasCard yX0_hasCard) (by decide +kernel)
  have lk6 := hts (.instanceMethod yX0_inPile) (by decide +kernel)
  have lk7 := hts (.selects RX0 yX0_inPile yX0_inPile) (by decide +kernel)
  have lk8 := hts (.fieldLink RX1 16 "LiesBoughtBack" "mind" "LLiesBoughtBack$Hall;") (by decide +kernel)
  have lk9 := hts (.instanceMethod yX0_become) (by decide +kernel)
  have lk10 := hts (.selects RX0 yX0_become yX0_become) (by decide +kernel)
  have lk11 := hts (.instanceMethod yX0_goOn) (by decide +kernel)
  have lk12 := hts (.selects RX0 yX0_goOn yX0_goOn) (by decide +kernel)
  refine W_in ?_
  intro WW hWW
  refine (hWW _ _ _).mpr ?_
  unfold f_X1_purseFor at hf
  refine lv_aload_n hx hb dX1_purseFor_0 rfl (lv_at hl 0 rfl) ?_
  refine va_get (D := D) (ci := 1) (v := .ref ((A 1) 0)) (C := RX1) (T := TX1) (N := 9) hx hb hts hinX hown hK hP 0 rfl rfl 0 (by decide) lk0 (fun _ h9 => h9) rfl dX1_purseFor_1 ?_
  refine lv_iload_n hx hb dX1_purseFor_4 rfl (lv_at hl 1 rfl) ?_
  refine qVN_i (As := [.int j1]) (rest := []) ⟨hx, hb, hml, hown, hts⟩ hK hN hA hP hD hS (c_X0_hasBidder l D cI (A 1) j1 xn (f_X0_hasBidder j1 xn) rfl) ⟨va_cnB 1 hts gX1_purseFor_X0_hasBidder_n59 rfl rfl rfl (nW.m hN 13 rfl) lk1 hd_X0_hasBidder.2 ⟨Nat.le_of_ble_eq_true rfl, Nat.le_of_ble_eq_true rfl⟩, lk2, lk3⟩ (va_recv hK hP (ci := 0) (q0 := 1) rfl rfl) (bq_X1_X0_n A cI xx xn xm xk) rfl hl.1 rfl (Nat.le_of_ble_eq_true rfl) dX1_purseFor_5 ⟨Nat.le_of_ble_eq_true rfl, Nat.le_of_ble_eq_true rfl⟩ (fun H locs hP hD hS => ?_)
  refine lv_if_eq (tgt := 22) hx hb dX1_purseFor_8 (by decide) (fun c1 => ?_) (fun c1 => ?_)
  · have hf := hT hf c1
    refine lv_aload_n hx hb dX1_purseFor_22 rfl (lv_at hl 0 rfl) ?_
    refine lv_iconst (v := (-1 : Int32)) hx hb dX1_purseFor_23 (by decide) ?_
    obtain ⟨v2, hev2, hf⟩ := bS hf
    refine qV_i (ws' := (wX A cI v2.2 xn xm xk)) (As := [.int (-1 : Int32)]) (rest := []) ⟨hx, hb, hml, hown, hts⟩ hK hN hA hP hD hS (c_X1_refuse l D cI A (-1 : Int32) xx xn xm xk v2 hev2) (cwV 1 hts gX1_purseFor_X1_refuse rfl rfl rfl hd_X1_refuse ⟨Nat.le_of_ble_eq_true rfl, Nat.le_of_ble_eq_true rfl⟩) (va_recv hK hP (ci := 1) (q0 := 0) rfl rfl) (bp_X1_X1_xnmk_x A cI xx xn xm xk v2.2) rfl hl.1 rfl (Nat.le_of_ble_eq_true rfl) dX1_purseFor_24 ⟨Nat.le_of_ble_eq_true rfl, Nat.le_of_ble_eq_true rfl⟩ (fun H locs hP hD hS => ?_)
    have hP : va_P D vwCl (wX A cI v2.2 xn xm xk) H := hP
    obtain rfl := Option.some.inj hf
    exact W.iret (v := v2.1) hx hb hr (fun t ht hW => ⟨⟨v2.1, (), rfl, rfl, hPt ht hP⟩, hS.F ht⟩) hS.2.2 dX1_purseFor_27
  · have hf := hF hf c1
    refine lv_aload_n hx hb dX1_purseFor_11 rfl (lv_at hl 0 rfl) ?_
    refine va_get (D := D) (ci := 1) (v := .ref ((A 1) 0)) (C := RX1) (T := TX1) (N := 9) hx hb hts hinX hown hK hP 0 rfl rfl 0 (by decide) lk0 (fun _ h9 => h9) rfl dX1_purseFor_12 ?_
    refine lv_iload_n hx hb dX1_purseFor_15 rfl (lv_at hl 2 rfl) ?_
    refine qVN_i (As := [.int j2]) (rest := []) ⟨hx, hb, hml, hown, hts⟩ hK hN hA hP hD hS (c_X0_hasCard l D cI (A 1) j2 xn (f_X0_hasCard j2 xn) rfl) ⟨va_cnB 1 hts gX1_purseFor_X0_hasCard_n69 rfl rfl rfl (nW.m hN 14 rfl) lk1 hd_X0_hasCard.2 ⟨Nat.le_of_ble_eq_true rfl, Nat.le_of_ble_eq_true rfl⟩, lk4, lk5⟩ (va_recv hK hP (ci := 0) (q0 := 1) rfl rfl) (bq_X1_X0_n A cI xx xn xm xk) rfl hl.1 rfl (Nat.le_of_ble_eq_true rfl) dX1_purseFor_16 ⟨Nat.le_of_ble_eq_true rfl, Nat.le_of_ble_eq_true rfl⟩ (fun H locs hP hD hS => ?_)
    refine lv_if_ne (tgt := 28) hx hb dX1_purseFor_19 (by decide) (fun c3 => ?_) (fun c3 => ?_)
    · have hf := hF hf c3
      refine lv_aload_n hx hb dX1_purseFor_28 rfl (lv_at hl 0 rfl) ?_
      refine va_get (D := D) (ci := 1) (v := .ref ((A 1) 0)) (C := RX1) (T := TX1) (N := 9) hx hb hts hinX hown hK hP 0 rfl rfl 0 (by decide) lk0 (fun _ h9 => h9) rfl dX1_purseFor_29 ?_
      refine lv_iload_n hx hb dX1_purseFor_32 rfl (lv_at hl 2 rfl) ?_
      refine qVN_i (As := [.int j2]) (rest := []) ⟨hx, hb, hml, hown, hts⟩ hK hN hA hP hD hS (c_X0_inPile l D cI (A 1) j2 xn (f_X0_inPile j2 xn) rfl) ⟨va_cnB 1 hts gX1_purseFor_X0_inPile_n72 rfl rfl rfl (nW.m hN 15 rfl) lk1 hd_X0_inPile.2 ⟨Nat.le_of_ble_eq_true rfl, Nat.le_of_ble_eq_true rfl⟩, lk6, lk7⟩ (va_recv hK hP (ci := 0) (q0 := 1) rfl rfl) (bq_X1_X0_n A cI xx xn xm xk) rfl hl.1 rfl (Nat.le_of_ble_eq_true rfl) dX1_purseFor_33 ⟨Nat.le_of_ble_eq_true rfl, Nat.le_of_ble_eq_true rfl⟩ (fun H locs hP hD hS => ?_)
      refine lv_if_ne (tgt := 46) hx hb dX1_purseFor_36 (by decide) (fun c4 => ?_) (fun c4 => ?_)
      · have hf := hF hf c4
        refine lv_iconst (v := (0 : Int32)) hx hb dX1_purseFor_46 (by decide) ?_
        refine lv_istore_n (lv' := [(3, .int (0 : Int32)), (0, .ref ((A 0) 0)), (1, .int j1), (2, .int j2)]) hx hb dX1_purseFor_47 rfl hl (by decide) rfl (fun ls hl => ?_)
        obtain ⟨K110, hK110, hf⟩ := jnS hf
        have J110 : ∀ (xx_110 : HS) (xm_110 : HS) (H : Heap) (locs : List Loc) (ls : Array Slot), K110 xx_110 xm_110 = some out → va_P D vwCl (wX A cI xx_110 xn xm_110 xk) H → va_D G (wX A cI xx_110 xn xm_110 xk) → va_S G s.heap H locs → lv_has ls 4 [] → WW H locs (F0 m 110 ls []) := by
          intro xx_110 xm_110 H locs ls hf hP hD hS hl
          subst hK110
          refine (hWW _ _ _).mpr ?_
          refine lv_bipush (v := (-9 : Int32)) hx hb dX1_purseFor_110 (by decide) ?_
          obtain rfl := Option.some.inj hf
          exact W.iret (v := (-9 : Int32)) hx hb hr (fun t ht hW => ⟨⟨(-9 : Int32), (), rfl, rfl, hPt ht hP⟩, hS.F ht⟩) hS.2.2 dX1_purseFor_112
        have P48 : ∀ (n' : Nat) (j3_48 : Int32) (xx_48 : HS) (xm_48 : HS) (H : Heap) (locs : List Loc) (ls : Array Slot), L_X1_purseFor_48 j1 j2 xn xk K110 n' j3_48 xx_48 xm_48 = some out → va_P D vwCl (wX A cI xx_48 xn xm_48 xk) H → va_D G (wX A cI xx_48 xn xm_48 xk) → va_S G s.heap H locs → lv_has ls 4 [(0, .ref ((A 0) 0)), (1, .int j1), (2, .int j2), (3, .int j3_48)] → WW H locs (F0 m 48 ls []) := by
          intro n'
          induction n' with
          | zero => intro j3_48 xx_48 xm_48 H locs ls hf; exact absurd (show (none : Option (Int32 × HS × HS)) = some out from hf) (fun q => by cases q)
          | succ n' ih =>
            intro j3_48 xx_48 xm_48 H locs ls hf hP hD hS hl
            rw [L_X1_purseFor_48] at hf
            refine (hWW _ _ _).mpr ?_
            refine lv_iload_n hx hb dX1_purseFor_48 rfl (lv_at hl 3 rfl) ?_
            refine lv_bipush (v := (99 : Int32)) hx hb dX1_purseFor_49 (by decide) ?_
            refine lv_icmp_gt (tgt := 110) hx hb dX1_purseFor_51 (by decide) (fun c5 => ?_) (fun c5 => ?_)
            · have hf := hT hf c5
              exact (hWW _ _ _).mp (J110 _ _ _ _ _ hf hP hD hS (lv_sub hl [] rfl))
            · have hf := hF hf c5
              refine lv_aload_n hx hb dX1_purseFor_54 rfl (lv_at hl 0 rfl) ?_
              refine va_get (D := D) (ci := 1) (v := .ref ((A 2) 0)) (C := RX1) (T := TX1) (N := 9) hx hb hts hinX hown hK hP 0 rfl rfl 1 (by decide) lk8 (fun _ h9 => h9) rfl dX1_purseFor_55 ?_
              refine lv_aload_n hx hb dX1_purseFor_58 rfl (lv_at hl 0 rfl) ?_
              refine va_get (D := D) (ci := 1) (v := .ref ((A 1) 0)) (C := RX1) (T := TX1) (N := 9) hx hb hts hinX hown hK hP 0 rfl rfl 0 (by decide) lk0 (fun _ h9 => h9) rfl dX1_purseFor_59 ?_
              obtain ⟨v6, hev6, hf⟩ := bS hf
              refine qVN_v (ws' := (wX A cI xx_48 xn v6 xk)) (As := [.ref ((A 1) 0)]) (rest := []) ⟨hx, hb, hml, hown, hts⟩ hK hN hA hP hD hS (c_X0_become l D cI (A 2) (A 1) xm_48 xn v6 hev6) ⟨va_cnB 1 hts gX1_purseFor_X0_become_n47 rfl rfl rfl (nW.m hN 1 rfl) lk1 hd_X0_become.2 ⟨Nat.le_of_ble_eq_true rfl, Nat.le_of_ble_eq_true rfl⟩, lk9, lk10⟩ (va_recv hK hP (ci := 0) (q0 := 12) rfl rfl) (bp_X1_HH_mn_h A cI xx_48 xn xm_48 xk v6) rfl hl.1 rfl (Nat.le_of_ble_eq_true rfl) dX1_purseFor_62 ⟨Nat.le_of_ble_eq_true rfl, Nat.le_of_ble_eq_true rfl⟩ (fun H locs hP hD hS => ?_)
              have hP : va_P D vwCl (wX A cI xx_48 xn v6 xk) H := hP
              refine lv_aload_n hx hb dX1_purseFor_65 rfl (lv_at hl 0 rfl) ?_
              refine va_get (D := D) (ci := 1) (v := .ref ((A 2) 0)) (C := RX1) (T := TX1) (N := 9) hx hb hts hinX hown hK hP 0 rfl rfl 1 (by decide) lk8 (fun _ h9 => h9) rfl dX1_purseFor_66 ?_
              refine va_getN (D := D) (ci := 0) (v := .ref ((A 2) 9)) (C := RX0) (T := TX0) (N := 13) hx hb hts hinH hown hK hP 12 rfl rfl 11 (by decide) (nW.f hN 10 rfl) (fun _ h9 => h9) rfl dX1_purseFor_69 ?_
              refine lv_iload_n hx hb dX1_purseFor_72 rfl (lv_at hl 1 rfl) ?_
              refine lv_iload_n hx hb dX1_purseFor_73 rfl (lv_at hl 3 rfl) ?_
              obtain ⟨xm_v7, exm_v7, hf⟩ := jnS hf
              refine qS_v (ws' := (wX A cI xx_48 xn xm_v7 xk)) (As := [.ref ((A 2) 9), .int j1, .int j3_48]) (rest := []) ⟨hx, hb, hml, hown, hts⟩ hK hN hA hP hD hS (c_X1_put l D cI 6 (by decide) ((A 2) 9) (v6 8) j1 j3_48) (va_cwS 3 hts gX1_purseFor_X1_put rfl rfl rfl hd_X1_put.2 ⟨Nat.le_of_ble_eq_true rfl, Nat.le_of_ble_eq_true rfl⟩) ((bP_X1_m_8 A cI xx_48 xn v6 xk (ptv 6 (v6 8) j1 j3_48) _ exm_v7)) rfl hl.1 rfl (Nat.le_of_ble_eq_true rfl) dX1_purseFor_74 ⟨Nat.le_of_ble_eq_true rfl, Nat.le_of_ble_eq_true rfl⟩ (fun H locs hP hD hS => ?_)
              refine lv_aload_n hx hb dX1_purseFor_77 rfl (lv_at hl 0 rfl) ?_
              refine va_get (D := D) (ci := 1) (v := .ref ((A 2) 0)) (C := RX1) (T := TX1) (N := 9) hx hb hts hinX hown hK hP 0 rfl rfl 1 (by decide) lk8 (fun _ h9 => h9) rfl dX1_purseFor_78 ?_
              refine lv_iconst (v := (1 : Int32)) hx hb dX1_purseFor_81 (by decide) ?_
              refine lv_iconst (v := (1 : Int32)) hx hb dX1_purseFor_82 (by decide) ?_
              obtain ⟨v8, hev8, hf⟩ := bS hf
              refine qVN_i (ws' := (wX A cI xx_48 xn v8.2 xk)) (As := [.int (1 : Int32), .int (1 : Int32)]) (rest := []) ⟨hx, hb, hml, hown, hts⟩ hK hN hA hP hD hS (c_X0_goOn l D cI (A 2) (1 : Int32) (1 : Int32) xm_v7 v8 hev8) ⟨va_cnB 2 hts gX1_purseFor_X0_goOn_n97 rfl rfl rfl (nW.m hN 12 rfl) lk1 hd_X0_goOn.2 ⟨Nat.le_of_ble_eq_true rfl, Nat.le_of_ble_eq_true rfl⟩, lk11, lk12⟩ (va_recv hK hP (ci := 0) (q0 := 12) rfl rfl) (bp_X1_X0_m_h A cI xx_48 xn xm_v7 xk v8.2) rfl hl.1 rfl (Nat.le_of_ble_eq_true rfl) dX1_purseFor_83 ⟨Nat.le_of_ble_eq_true rfl, Nat.le_of_ble_eq_true rfl⟩ (fun H locs hP hD hS => ?_)
              have hP : va_P D vwCl (wX A cI xx_48 xn v8.2 xk) H := hP
              refine lv_pop hx hb dX1_purseFor_86 rfl ?_
              refine lv_aload_n hx hb dX1_purseFor_87 rfl (lv_at hl 0 rfl) ?_
              refine va_get (D := D) (ci := 1) (v := .ref ((A 2) 0)) (C := RX1) (T := TX1) (N := 9) hx hb hts hinX hown hK hP 0 rfl rfl 1 (by decide) lk8 (fun _ h9 => h9) rfl dX1_purseFor_88 ?_
              refine va_getN (D := D) (ci := 0) (v := .ref ((A 2) 5)) (C := RX0) (T := TX0) (N := 13) hx hb hts hinH hown hK hP 12 rfl rfl 7 (by decide) (nW.f hN 7 rfl) (fun _ h9 => h9) rfl dX1_purseFor_91 ?_
              refine lv_iload_n hx hb dX1_purseFor_94 rfl (lv_at hl 2 rfl) ?_
              refine qS_i (As := [.ref ((A 2) 5), .int j2]) (rest := []) ⟨hx, hb, hml, hown, hts⟩ hK hN hA hP hD hS (c_X1_at l D cI 8 (by decide) ((A 2) 5) (v8.2 4) j2) (va_cwS 2 hts gX1_purseFor_X1_at rfl rfl rfl hd_X1_at.2 ⟨Nat.le_of_ble_eq_true rfl, Nat.le_of_ble_eq_true rfl⟩) (bA_X1_m_4 A cI xx_48 xn v8.2 xk) rfl hl.1 rfl (Nat.le_of_ble_eq_true rfl) dX1_purseFor_95 ⟨Nat.le_of_ble_eq_true rfl, Nat.le_of_ble_eq_true rfl⟩ (fun H locs hP hD hS => ?_)
              refine lv_iload_n hx hb dX1_purseFor_98 rfl (lv_at hl 1 rfl) ?_
              refine lv_icmp_ne (tgt := 104) hx hb dX1_purseFor_99 (by decide) (fun c9 => ?_) (fun c9 => ?_)
              · have hf := hF hf c9
                refine lv_iinc (v := (j3_48 + (1 : Int32))) (lv' := [(3, .int (j3_48 + (1 : Int32))), (0, .ref ((A 0) 0)), (1, .int j1), (2, .int j2)]) hx hb dX1_purseFor_104 hl (k := 3) rfl rfl (by decide) rfl (fun ls hl => ?_)
                refine lv_goto (tgt := 48) hx hb dX1_purseFor_107 (by decide) ?_
                exact (hWW _ _ _).mp (ih _ _ _ _ _ _ hf hP hD hS (lv_sub hl [1, 2, 3, 0] rfl))
              · have hf := hT hf c9
                refine lv_iload_n hx hb dX1_purseFor_102 rfl (lv_at hl 3 rfl) ?_
                obtain rfl := Option.some.inj hf
                exact W.iret (v := j3_48) hx hb hr (fun t ht hW => ⟨⟨j3_48, (), rfl, rfl, hPt ht hP⟩, hS.F ht⟩) hS.2.2 dX1_purseFor_103
        exact (hWW _ _ _).mp (P48 _ _ _ _ _ _ _ hf hP hD hS (lv_sub hl [1, 2, 3, 0] rfl))
      · have hf := hT hf c4
        refine lv_aload_n hx hb dX1_purseFor_39 rfl (lv_at hl 0 rfl) ?_
        refine lv_bipush (v := (-3 : Int32)) hx hb dX1_purseFor_40 (by decide) ?_
        obtain ⟨v10, hev10, hf⟩ := bS hf
        refine qV_i (ws' := (wX A cI v10.2 xn xm xk)) (As := [.int (-3 : Int32)]) (rest := []) ⟨hx, hb, hml, hown, hts⟩ hK hN hA hP hD hS (c_X1_refuse l D cI A (-3 : Int32) xx xn xm xk v10 hev10) (cwV 1 hts gX1_purseFor_X1_refuse rfl rfl rfl hd_X1_refuse ⟨Nat.le_of_ble_eq_true rfl, Nat.le_of_ble_eq_true rfl⟩) (va_recv hK hP (ci := 1) (q0 := 0) rfl rfl) (bp_X1_X1_xnmk_x A cI xx xn xm xk v10.2) rfl hl.1 rfl (Nat.le_of_ble_eq_true rfl) dX1_purseFor_42 ⟨Nat.le_of_ble_eq_true rfl, Nat.le_of_ble_eq_true rfl⟩ (fun H locs hP hD hS => ?_)
        have hP : va_P D vwCl (wX A cI v10.2 xn xm xk) H := hP
        obtain rfl := Option.some.inj hf
        exact W.iret (v := v10.1) hx hb hr (fun t ht hW => ⟨⟨v10.1, (), rfl, rfl, hPt ht hP⟩, hS.F ht⟩) hS.2.2 dX1_purseFor_45
    · have hf := hT hf c3
      refine lv_aload_n hx hb dX1_purseFor_22 rfl (lv_at hl 0 rfl) ?_
      refine lv_iconst (v := (-1 : Int32)) hx hb dX1_purseFor_23 (by decide) ?_
      obtain ⟨v11, hev11, hf⟩ := bS hf
      refine qV_i (ws' := (wX A cI v11.2 xn xm xk)) (As := [.int (-1 : Int32)]) (rest := []) ⟨hx, hb, hml, hown, hts⟩ hK hN hA hP hD hS (c_X1_refuse l D cI A (-1 : Int32) xx xn xm xk v11 hev11) (cwV 1 hts gX1_purseFor_X1_refuse rfl rfl rfl hd_X1_refuse ⟨Nat.le_of_ble_eq_true rfl, Nat.le_of_ble_eq_true rfl⟩) (va_recv hK hP (ci := 1) (q0 := 0) rfl rfl) (bp_X1_X1_xnmk_x A cI xx xn xm xk v11.2) rfl hl.1 rfl (Nat.le_of_ble_eq_true rfl) dX1_purseFor_24 ⟨Nat.le_of_ble_eq_true rfl, Nat.le_of_ble_eq_true rfl⟩ (fun H locs hP hD hS => ?_)
      have hP : va_P D vwCl (wX A cI v11.2 xn xm xk) H := hP
      obtain rfl := Option.some.inj hf
      exact W.iret (v := v11.1) hx hb hr (fun t ht hW => ⟨⟨v11.1, (), rfl, rfl, hPt ht hP⟩, hS.F ht⟩) hS.2.2 dX1_purseFor_27
set_option maxHeartbeats 4000000 in
set_option maxRecDepth 100000 in
theorem c_X1_first (l : Launch) (D : va_G) (cI : ClassId) (A : Nat → Nat → Nat) (j1 : Int32) (j2 : Int32) (xx : HS) (xn : HS) (xm : HS) (xk : HS) (out : Int32 × HS × HS) (hf : f_X1_first j1 j2 xx xn xm xk = some out) : uI l D cI yX1_first wsX1_first ({ frames := 5, cells := 0, slots := 0, locals := 128 } : Room) [.ref ((A 0) 0), .int j1, .int j2] (wX A cI xx xn xm xk) (wX A cI out.2.1 xn out.2.2 xk) out.1 := by
  intro sz
  refine Met.ofW (cc := cX1_first) (maxL := 8) (ret := (some .int)) (by decide) rfl ?_
  intro p e s m args below meth c s₁ Bd hml hv
  obtain ⟨rfl, hsz, hP, hK, hD0, hN⟩ := hv
  have hx := Bd.exec
  have hb := Bd.bytes
  have hr := Bd.returns
  have hts := atoms_spec (ws := wsX1_first) Bd.pre
  have hown : s.vm.findClass RX1 = some m.cls := findClass_of_methodNamed Bd.named
  have hlocks := Bd.notSynchronized
  subst hsz
  have hD := hD0.self (sz := s.heap.size)
  generalize hAe : va_A (wX A cI xx xn xm xk) s.heap.size = G at hD ⊢
  have hA : ∀ q : Nat, s.heap.size ≤ q → G q := fun q h => by rw [← hAe]; exact Or.inr h
  have hS : va_S G s.heap s.heap [] := va_S.rf
  have hP : va_P D vwCl (wX A cI xx xn xm xk) s.heap := hP
  have hl := lv_entry ([.ref ((A 0) 0), .int j1, .int j2]) (n := 8) (Nat.le_of_ble_eq_true rfl)
  rw [lg_entry_eq]
  generalize (lg_sl ([.ref ((A 0) 0), .int j1, .int j2]) ++ List.replicate (8 - (lg_sl ([.ref ((A 0) 0), .int j1, .int j2])).length) Slot.unset).toArray = ls at hl ⊢
  have hl : lv_has ls 8 [(0, .ref ((A 0) 0)), (1, .int j1), (2, .int j2)] := hl
  have hinH : ∀ w ∈ wsX00, w ∈ wsX1_first := by decide +kernel
  have hinX : ∀ w ∈ wsX10, w ∈ wsX1_first := by decide +kernel
  have lk0 := hts (.fieldLink RX1 10 "LiesBoughtBack" "now" "LLiesBoughtBack$Hall;") (by decide +kernel)
  have lk1 := hts (.initialized RX0) (by decide +kernel)
  have lk2 := hts (.instanceMethod yX0_hasBidder) (by decide +kernel)
  have lk3 := hts (.selects RX0 yX0_hasBidder yX0_hasBidder) (by decide +kernel)
  have lk4 := hts (.fieldLink RX1 16 "LiesBoughtBack" "mind" "LLiesBoughtBack$Hall;") (by decide +kernel)
  have lk5 := hts (.instanceMethod yX0_become) (by decide +kernel)
  have lk6 := hts (.selects RX0 yX0_become yX0_become) (by decide +kernel)
  have lk7 := hts (.instanceMethod yX0_goOn) (by decide +kernel)
  have lk8 := hts (.selects RX0 yX0_goOn yX0_goOn) (by decide +kernel)
  have lk9 := hts (.instanceMethod yX0_heldBy) (by decide +kernel)
  have lk10 := hts (.selects RX0 yX0_heldBy yX0_heldBy) (by decide +kernel)
  have lk11 := hts (.instanceMethod yX0_inPile) (by decide +kernel)
  have lk12 := hts (.selects RX0 yX0_inPile yX0_inPile) (by decide +kernel)
  have lk13 := hts (.instanceMethod yX0_toFront) (by decide +kernel)
  have lk14 := hts (.selects RX0 yX0_toFront yX0_toFront) (by decide +kernel)
  refine W_in ?_
  intro WW hWW
  refine (hWW _ _ _).mpr ?_
  unfold f_X1_first at hf
  refine lv_aload_n hx hb dX1_first_0 rfl (lv_at hl 0 rfl) ?_
  refine va_get (D := D) (ci := 1) (v := .ref ((A 1) 0)) (C := RX1) (T := TX1) (N := 9) hx hb hts hinX hown hK hP 0 rfl rfl 0 (by decide) lk0 (fun _ h9 => h9) rfl dX1_first_1 ?_
  refine lv_iload_n hx hb dX1_first_4 rfl (lv_at hl 1 rfl) ?_
  refine qVN_i (As := [.int j1]) (rest := []) ⟨hx, hb, hml, hown, hts⟩ hK hN hA hP hD hS (c_X0_hasBidder l D cI (A 1) j1 xn (f_X0_hasBidder j1 xn) rfl) ⟨va_cnB 1 hts gX1_first_X0_hasBidder_n59 rfl rfl rfl (nW.m hN 13 rfl) lk1 hd_X0_hasBidder.2 ⟨Nat.le_of_ble_eq_true rfl, Nat.le_of_ble_eq_true rfl⟩, lk2, lk3⟩ (va_recv hK hP (ci := 0) (q0 := 1) rfl rfl) (bq_X1_X0_n A cI xx xn xm xk) rfl hl.1 rfl (Nat.le_of_ble_eq_true rfl) dX1_first_5 ⟨Nat.le_of_ble_eq_true rfl, Nat.le_of_ble_eq_true rfl⟩ (fun H locs hP hD hS => ?_)
  refine lv_if_ne (tgt := 17) hx hb dX1_first_8 (by decide) (fun c1 => ?_) (fun c1 => ?_)
  · have hf := hF hf c1
    refine lv_iload_n hx hb dX1_first_17 rfl (lv_at hl 2 rfl) ?_
    refine lv_iconst (v := (0 : Int32)) hx hb dX1_first_18 (by decide) ?_
    refine lv_bipush (v := (20 : Int32)) hx hb dX1_first_19 (by decide) ?_
    refine qS_i (As := [.int j2, .int (0 : Int32), .int (20 : Int32)]) (rest := []) ⟨hx, hb, hml, hown, hts⟩ hK hN hA hP hD hS (c_X1_beyond l D cI j2 (0 : Int32) (20 : Int32) (f_X1_beyond j2 (0 : Int32) (20 : Int32)) rfl) (va_cwS 3 hts gX1_first_X1_beyond rfl rfl rfl hd_X1_beyond.2 ⟨Nat.le_of_ble_eq_true rfl, Nat.le_of_ble_eq_true rfl⟩) Bp_e rfl hl.1 rfl (Nat.le_of_ble_eq_true rfl) dX1_first_21 ⟨Nat.le_of_ble_eq_true rfl, Nat.le_of_ble_eq_true rfl⟩ (fun H locs hP hD hS => ?_)
    refine lv_istore_n (lv' := [(3, .int (f_X1_beyond j2 (0 : Int32) (20 : Int32))), (0, .ref ((A 0) 0)), (1, .int j1), (2, .int j2)]) hx hb dX1_first_24 rfl hl (by decide) rfl (fun ls hl => ?_)
    refine lv_iload_n hx hb dX1_first_25 rfl (lv_at hl 0 rfl) ?_
    refine lv_if_eq (tgt := 35) hx hb dX1_first_26 (by decide) (fun c2 => ?_) (fun c2 => ?_)
    · have hf := hT hf c2
      refine lv_aload_n hx hb dX1_first_35 rfl (lv_at hl 1 rfl) ?_
      refine va_get (D := D) (ci := 1) (v := .ref ((A 2) 0)) (C := RX1) (T := TX1) (N := 9) hx hb hts hinX hown hK hP 0 rfl rfl 1 (by decide) lk4 (fun _ h9 => h9) rfl dX1_first_36 ?_
      refine lv_aload_n hx hb dX1_first_39 rfl (lv_at hl 1 rfl) ?_
      refine va_get (D := D) (ci := 1) (v := .ref ((A 1) 0)) (C := RX1) (T := TX1) (N := 9) hx hb hts hinX hown hK hP 0 rfl rfl 0 (by decide) lk0 (fun _ h9 => h9) rfl dX1_first_40 ?_
      obtain ⟨v3, hev3, hf⟩ := bS hf
      refine qVN_v (ws' := (wX A cI xx xn v3 xk)) (As := [.ref ((A 1) 0)]) (rest := []) ⟨hx, hb, hml, hown, hts⟩ hK hN hA hP hD hS (c_X0_become l D cI (A 2) (A 1) xm xn v3 hev3) ⟨va_cnB 1 hts gX1_first_X0_become_n47 rfl rfl rfl (nW.m hN 1 rfl) lk1 hd_X0_become.2 ⟨Nat.le_of_ble_eq_true rfl, Nat.le_of_ble_eq_true rfl⟩, lk5, lk6⟩ (va_recv hK hP (ci := 0) (q0 := 12) rfl rfl) (bp_X1_HH_mn_h A cI xx xn xm xk v3) rfl hl.1 rfl (Nat.le_of_ble_eq_true rfl) dX1_first_43 ⟨Nat.le_of_ble_eq_true rfl, Nat.le_of_ble_eq_true rfl⟩ (fun H locs hP hD hS => ?_)
      have hP : va_P D vwCl (wX A cI xx xn v3 xk) H := hP
      refine lv_aload_n hx hb dX1_first_46 rfl (lv_at hl 1 rfl) ?_
      refine va_get (D := D) (ci := 1) (v := .ref ((A 2) 0)) (C := RX1) (T := TX1) (N := 9) hx hb hts hinX hown hK hP 0 rfl rfl 1 (by decide) lk4 (fun _ h9 => h9) rfl dX1_first_47 ?_
      refine lv_iload_n hx hb dX1_first_50 rfl (lv_at hl 3 rfl) ?_
      refine lv_iconst (v := (1 : Int32)) hx hb dX1_first_51 (by decide) ?_
      obtain ⟨v4, hev4, hf⟩ := bS hf
      refine qVN_i (ws' := (wX A cI xx xn v4.2 xk)) (As := [.int j2, .int (1 : Int32)]) (rest := []) ⟨hx, hb, hml, hown, hts⟩ hK hN hA hP hD hS (c_X0_goOn l D cI (A 2) j2 (1 : Int32) v3 v4 hev4) ⟨va_cnB 2 hts gX1_first_X0_goOn_n97 rfl rfl rfl (nW.m hN 12 rfl) lk1 hd_X0_goOn.2 ⟨Nat.le_of_ble_eq_true rfl, Nat.le_of_ble_eq_true rfl⟩, lk7, lk8⟩ (va_recv hK hP (ci := 0) (q0 := 12) rfl rfl) (bp_X1_X0_m_h A cI xx xn v3 xk v4.2) rfl hl.1 rfl (Nat.le_of_ble_eq_true rfl) dX1_first_52 ⟨Nat.le_of_ble_eq_true rfl, Nat.le_of_ble_eq_true rfl⟩ (fun H locs hP hD hS => ?_)
      have hP : va_P D vwCl (wX A cI xx xn v4.2 xk) H := hP
      refine lv_pop hx hb dX1_first_55 rfl ?_
      refine lv_aload_n hx hb dX1_first_56 rfl (lv_at hl 1 rfl) ?_
      refine va_get (D := D) (ci := 1) (v := .ref ((A 2) 0)) (C := RX1) (T := TX1) (N := 9) hx hb hts hinX hown hK hP 0 rfl rfl 1 (by decide) lk4 (fun _ h9 => h9) rfl dX1_first_57 ?_
      refine lv_iload_n hx hb dX1_first_60 rfl (lv_at hl 2 rfl) ?_
      obtain ⟨v5, hev5, hf⟩ := bS hf
      refine qVN_i (As := [.int j1]) (rest := []) ⟨hx, hb, hml, hown, hts⟩ hK hN hA hP hD hS (c_X0_heldBy l D cI (A 2) j1 v4.2 v5 hev5) ⟨va_cnB 1 hts gX1_first_X0_heldBy_n190 rfl rfl rfl (nW.m hN 33 rfl) lk1 hd_X0_heldBy.2 ⟨Nat.le_of_ble_eq_true rfl, Nat.le_of_ble_eq_true rfl⟩, lk9, lk10⟩ (va_recv hK hP (ci := 0) (q0 := 12) rfl rfl) (bq_X1_X0_m A cI xx xn v4.2 xk) rfl hl.1 rfl (Nat.le_of_ble_eq_true rfl) dX1_first_61 ⟨Nat.le_of_ble_eq_true rfl, Nat.le_of_ble_eq_true rfl⟩ (fun H locs hP hD hS => ?_)
      refine lv_istore (lv' := [(4, .int v5), (3, .int (f_X1_beyond j2 (0 : Int32) (20 : Int32))), (0, .ref ((A 0) 0)), (1, .int j1), (2, .int j2)]) hx hb dX1_first_64 hl (by decide) rfl (fun ls hl => ?_)
      refine lv_bipush (v := (-9 : Int32)) hx hb dX1_first_66 (by decide) ?_
      refine lv_istore (lv' := [(5, .int (-9 : Int32)), (4, .int v5), (3, .int (f_X1_beyond j2 (0 : Int32) (20 : Int32))), (0, .ref ((A 0) 0)), (1, .int j1), (2, .int j2)]) hx hb dX1_first_68 hl (by decide) rfl (fun ls hl => ?_)
      refine lv_iconst (v := (0 : Int32)) hx hb dX1_first_70 (by decide) ?_
      refine lv_istore (lv' := [(6, .int (0 : Int32)), (5, .int (-9 : Int32)), (4, .int v5), (3, .int (f_X1_beyond j2 (0 : Int32) (20 : Int32))), (0, .ref ((A 0) 0)), (1, .int j1), (2, .int j2)]) hx hb dX1_first_71 hl (by decide) rfl (fun ls hl => ?_)
      obtain ⟨K158, hK158, hf⟩ := jnS hf
      have J158 : ∀ (j5_158 : Int32) (xx_158 : HS) (xm_158 : HS) (H : Heap) (locs : List Loc) (ls : Array Slot), K158 j5_158 xx_158 xm_158 = some out → va_P D vwCl (wX A cI xx_158 xn xm_158 xk) H → va_D G (wX A cI xx_158 xn xm_158 xk) → va_S G s.heap H locs → lv_has ls 8 [(5, .int j5_158)] → WW H locs (F0 m 158 ls []) := by
        intro j5_158 xx_158 xm_158 H locs ls hf hP hD hS hl
        subst hK158
        refine (hWW _ _ _).mpr ?_
        refine lv_iload hx hb dX1_first_158 (lv_at hl 0 rfl) ?_
        obtain rfl := Option.some.inj hf
        exact W.iret (v := j5_158) hx hb hr (fun t ht hW => ⟨⟨j5_158, (), rfl, rfl, hPt ht hP⟩, hS.F ht⟩) hS.2.2 dX1_first_160
      have P73 : ∀ (n' : Nat) (j4_73 : Int32) (j5_73 : Int32) (j6_73 : Int32) (xx_73 : HS) (xm_73 : HS) (H : Heap) (locs : List Loc) (ls : Array Slot), L_X1_first_73 j1 j2 xn xk K158 n' j4_73 j5_73 j6_73 xx_73 xm_73 = some out → va_P D vwCl (wX A cI xx_73 xn xm_73 xk) H → va_D G (wX A cI xx_73 xn xm_73 xk) → va_S G s.heap H locs → lv_has ls 8 [(0, .ref ((A 0) 0)), (1, .int j1), (2, .int j2), (4, .int j4_73), (5, .int j5_73), (6, .int j6_73)] → WW H locs (F0 m 73 ls []) := by
        intro n'
        induction n' with
        | zero => intro j4_73 j5_73 j6_73 xx_73 xm_73 H locs ls hf; exact absurd (show (none : Option (Int32 × HS × HS)) = some out from hf) (fun q => by cases q)
        | succ n' ih =>
          intro j4_73 j5_73 j6_73 xx_73 xm_73 H locs ls hf hP hD hS hl
          rw [L_X1_first_73] at hf
          refine (hWW _ _ _).mpr ?_
          refine lv_iload hx hb dX1_first_73 (lv_at hl 5 rfl) ?_
          refine lv_aload_n hx hb dX1_first_75 rfl (lv_at hl 0 rfl) ?_
          refine va_get (D := D) (ci := 1) (v := .ref ((A 1) 0)) (C := RX1) (T := TX1) (N := 9) hx hb hts hinX hown hK hP 0 rfl rfl 0 (by decide) lk0 (fun _ h9 => h9) rfl dX1_first_76 ?_
          refine va_getN (D := D) (ci := 0) (v := .int (xn 10 0)) (C := RX0) (T := TX0) (N := 13) hx hb hts hinH hown hK hP 1 rfl rfl 0 (by decide) (nW.f hN 0 rfl) (fun _ h9 => h9) rfl dX1_first_79 ?_
          refine lv_icmp_ge (tgt := 158) hx hb dX1_first_82 (by decide) (fun c6 => ?_) (fun c6 => ?_)
          · have hf := hT hf c6
            exact (hWW _ _ _).mp (J158 _ _ _ _ _ _ hf hP hD hS (lv_sub hl [4] rfl))
          · have hf := hF hf c6
            refine lv_aload_n hx hb dX1_first_85 rfl (lv_at hl 0 rfl) ?_
            refine va_get (D := D) (ci := 1) (v := .ref ((A 1) 0)) (C := RX1) (T := TX1) (N := 9) hx hb hts hinX hown hK hP 0 rfl rfl 0 (by decide) lk0 (fun _ h9 => h9) rfl dX1_first_86 ?_
            refine lv_iload hx hb dX1_first_89 (lv_at hl 5 rfl) ?_
            refine qVN_i (As := [.int j6_73]) (rest := []) ⟨hx, hb, hml, hown, hts⟩ hK hN hA hP hD hS (c_X0_inPile l D cI (A 1) j6_73 xn (f_X0_inPile j6_73 xn) rfl) ⟨va_cnB 1 hts gX1_first_X0_inPile_n72 rfl rfl rfl (nW.m hN 15 rfl) lk1 hd_X0_inPile.2 ⟨Nat.le_of_ble_eq_true rfl, Nat.le_of_ble_eq_true rfl⟩, lk11, lk12⟩ (va_recv hK hP (ci := 0) (q0 := 1) rfl rfl) (bq_X1_X0_n A cI xx_73 xn xm_73 xk) rfl hl.1 rfl (Nat.le_of_ble_eq_true rfl) dX1_first_91 ⟨Nat.le_of_ble_eq_true rfl, Nat.le_of_ble_eq_true rfl⟩ (fun H locs hP hD hS => ?_)
            refine lv_if_eq (tgt := 152) hx hb dX1_first_94 (by decide) (fun c7 => ?_) (fun c7 => ?_)
            · have hf := hT hf c7
              refine lv_iinc (v := (j6_73 + (1 : Int32))) (lv' := [(6, .int (j6_73 + (1 : Int32))), (0, .ref ((A 0) 0)), (1, .int j1), (2, .int j2), (4, .int j4_73), (5, .int j5_73)]) hx hb dX1_first_152 hl (k := 5) rfl rfl (by decide) rfl (fun ls hl => ?_)
              refine lv_goto (tgt := 73) hx hb dX1_first_155 (by decide) ?_
              exact (hWW _ _ _).mp (ih _ _ _ _ _ _ _ _ hf hP hD hS (lv_sub hl [1, 2, 3, 4, 5, 0] rfl))
            · have hf := hF hf c7
              refine lv_aload_n hx hb dX1_first_97 rfl (lv_at hl 0 rfl) ?_
              refine va_get (D := D) (ci := 1) (v := .ref ((A 2) 0)) (C := RX1) (T := TX1) (N := 9) hx hb hts hinX hown hK hP 0 rfl rfl 1 (by decide) lk4 (fun _ h9 => h9) rfl dX1_first_98 ?_
              refine lv_aload_n hx hb dX1_first_101 rfl (lv_at hl 0 rfl) ?_
              refine va_get (D := D) (ci := 1) (v := .ref ((A 1) 0)) (C := RX1) (T := TX1) (N := 9) hx hb hts hinX hown hK hP 0 rfl rfl 0 (by decide) lk0 (fun _ h9 => h9) rfl dX1_first_102 ?_
              obtain ⟨v8, hev8, hf⟩ := bS hf
              refine qVN_v (ws' := (wX A cI xx_73 xn v8 xk)) (As := [.ref ((A 1) 0)]) (rest := []) ⟨hx, hb, hml, hown, hts⟩ hK hN hA hP hD hS (c_X0_become l D cI (A 2) (A 1) xm_73 xn v8 hev8) ⟨va_cnB 1 hts gX1_first_X0_become_n47 rfl rfl rfl (nW.m hN 1 rfl) lk1 hd_X0_become.2 ⟨Nat.le_of_ble_eq_true rfl, Nat.le_of_ble_eq_true rfl⟩, lk5, lk6⟩ (va_recv hK hP (ci := 0) (q0 := 12) rfl rfl) (bp_X1_HH_mn_h A cI xx_73 xn xm_73 xk v8) rfl hl.1 rfl (Nat.le_of_ble_eq_true rfl) dX1_first_105 ⟨Nat.le_of_ble_eq_true rfl, Nat.le_of_ble_eq_true rfl⟩ (fun H locs hP hD hS => ?_)
              have hP : va_P D vwCl (wX A cI xx_73 xn v8 xk) H := hP
              refine lv_aload_n hx hb dX1_first_108 rfl (lv_at hl 0 rfl) ?_
              refine va_get (D := D) (ci := 1) (v := .ref ((A 2) 0)) (C := RX1) (T := TX1) (N := 9) hx hb hts hinX hown hK hP 0 rfl rfl 1 (by decide) lk4 (fun _ h9 => h9) rfl dX1_first_109 ?_
              refine lv_iload hx hb dX1_first_112 (lv_at hl 5 rfl) ?_
              obtain ⟨v9, hev9, hf⟩ := bS hf
              refine qVN_v (ws' := (wX A cI xx_73 xn v9 xk)) (As := [.int j6_73]) (rest := []) ⟨hx, hb, hml, hown, hts⟩ hK hN hA hP hD hS (c_X0_toFront l D cI (A 2) j6_73 v8 v9 hev9) ⟨va_cnB 1 hts gX1_first_X0_toFront_n193 rfl rfl rfl (nW.m hN 34 rfl) lk1 hd_X0_toFront.2 ⟨Nat.le_of_ble_eq_true rfl, Nat.le_of_ble_eq_true rfl⟩, lk13, lk14⟩ (va_recv hK hP (ci := 0) (q0 := 12) rfl rfl) (bp_X1_X0_m_h A cI xx_73 xn v8 xk v9) rfl hl.1 rfl (Nat.le_of_ble_eq_true rfl) dX1_first_114 ⟨Nat.le_of_ble_eq_true rfl, Nat.le_of_ble_eq_true rfl⟩ (fun H locs hP hD hS => ?_)
              have hP : va_P D vwCl (wX A cI xx_73 xn v9 xk) H := hP
              refine lv_aload_n hx hb dX1_first_117 rfl (lv_at hl 0 rfl) ?_
              refine va_get (D := D) (ci := 1) (v := .ref ((A 2) 0)) (C := RX1) (T := TX1) (N := 9) hx hb hts hinX hown hK hP 0 rfl rfl 1 (by decide) lk4 (fun _ h9 => h9) rfl dX1_first_118 ?_
              refine lv_iload_n hx hb dX1_first_121 rfl (lv_at hl 2 rfl) ?_
              refine lv_iconst (v := (1 : Int32)) hx hb dX1_first_122 (by decide) ?_
              obtain ⟨v10, hev10, hf⟩ := bS hf
              refine qVN_i (ws' := (wX A cI xx_73 xn v10.2 xk)) (As := [.int j2, .int (1 : Int32)]) (rest := []) ⟨hx, hb, hml, hown, hts⟩ hK hN hA hP hD hS (c_X0_goOn l D cI (A 2) j2 (1 : Int32) v9 v10 hev10) ⟨va_cnB 2 hts gX1_first_X0_goOn_n97 rfl rfl rfl (nW.m hN 12 rfl) lk1 hd_X0_goOn.2 ⟨Nat.le_of_ble_eq_true rfl, Nat.le_of_ble_eq_true rfl⟩, lk7, lk8⟩ (va_recv hK hP (ci := 0) (q0 := 12) rfl rfl) (bp_X1_X0_m_h A cI xx_73 xn v9 xk v10.2) rfl hl.1 rfl (Nat.le_of_ble_eq_true rfl) dX1_first_123 ⟨Nat.le_of_ble_eq_true rfl, Nat.le_of_ble_eq_true rfl⟩ (fun H locs hP hD hS => ?_)
              have hP : va_P D vwCl (wX A cI xx_73 xn v10.2 xk) H := hP
              refine lv_pop hx hb dX1_first_126 rfl ?_
              refine lv_aload_n hx hb dX1_first_127 rfl (lv_at hl 0 rfl) ?_
              refine va_get (D := D) (ci := 1) (v := .ref ((A 2) 0)) (C := RX1) (T := TX1) (N := 9) hx hb hts hinX hown hK hP 0 rfl rfl 1 (by decide) lk4 (fun _ h9 => h9) rfl dX1_first_128 ?_
              refine lv_iload_n hx hb dX1_first_131 rfl (lv_at hl 1 rfl) ?_
              obtain ⟨v11, hev11, hf⟩ := bS hf
              refine qVN_i (As := [.int j1]) (rest := []) ⟨hx, hb, hml, hown, hts⟩ hK hN hA hP hD hS (c_X0_heldBy l D cI (A 2) j1 v10.2 v11 hev11) ⟨va_cnB 1 hts gX1_first_X0_heldBy_n190 rfl rfl rfl (nW.m hN 33 rfl) lk1 hd_X0_heldBy.2 ⟨Nat.le_of_ble_eq_true rfl, Nat.le_of_ble_eq_true rfl⟩, lk9, lk10⟩ (va_recv hK hP (ci := 0) (q0 := 12) rfl rfl) (bq_X1_X0_m A cI xx_73 xn v10.2 xk) rfl hl.1 rfl (Nat.le_of_ble_eq_true rfl) dX1_first_132 ⟨Nat.le_of_ble_eq_true rfl, Nat.le_of_ble_eq_true rfl⟩ (fun H locs hP hD hS => ?_)
              refine lv_istore (lv' := [(7, .int v11), (0, .ref ((A 0) 0)), (1, .int j1), (2, .int j2), (4, .int j4_73), (5, .int j5_73), (6, .int j6_73)]) hx hb dX1_first_135 hl (by decide) rfl (fun ls hl => ?_)
              refine lv_iload hx hb dX1_first_137 (lv_at hl 0 rfl) ?_
              refine lv_iload hx hb dX1_first_139 (lv_at hl 4 rfl) ?_
              refine lv_icmp_le (tgt := 152) hx hb dX1_first_141 (by decide) (fun c12 => ?_) (fun c12 => ?_)
              · have hf := hT hf c12
                refine lv_iinc (v := (j6_73 + (1 : Int32))) (lv' := [(6, .int (j6_73 + (1 : Int32))), (7, .int v11), (0, .ref ((A 0) 0)), (1, .int j1), (2, .int j2), (4, .int j4_73), (5, .int j5_73)]) hx hb dX1_first_152 hl (k := 6) rfl rfl (by decide) rfl (fun ls hl => ?_)
                refine lv_goto (tgt := 73) hx hb dX1_first_155 (by decide) ?_
                exact (hWW _ _ _).mp (ih _ _ _ _ _ _ _ _ hf hP hD hS (lv_sub hl [2, 3, 4, 5, 6, 0] rfl))
              · have hf := hF hf c12
                refine lv_iload hx hb dX1_first_144 (lv_at hl 0 rfl) ?_
                refine lv_istore (lv' := [(4, .int v11), (7, .int v11), (0, .ref ((A 0) 0)), (1, .int j1), (2, .int j2), (5, .int j5_73), (6, .int j6_73)]) hx hb dX1_first_146 hl (by decide) rfl (fun ls hl => ?_)
                refine lv_iload hx hb dX1_first_148 (lv_at hl 6 rfl) ?_
                refine lv_istore (lv' := [(5, .int j6_73), (4, .int v11), (7, .int v11), (0, .ref ((A 0) 0)), (1, .int j1), (2, .int j2), (6, .int j6_73)]) hx hb dX1_first_150 hl (by decide) rfl (fun ls hl => ?_)
                refine lv_iinc (v := (j6_73 + (1 : Int32))) (lv' := [(6, .int (j6_73 + (1 : Int32))), (5, .int j6_73), (4, .int v11), (7, .int v11), (0, .ref ((A 0) 0)), (1, .int j1), (2, .int j2)]) hx hb dX1_first_152 hl (k := 6) rfl rfl (by decide) rfl (fun ls hl => ?_)
                refine lv_goto (tgt := 73) hx hb dX1_first_155 (by decide) ?_
                exact (hWW _ _ _).mp (ih _ _ _ _ _ _ _ _ hf hP hD hS (lv_sub hl [4, 5, 6, 2, 1, 0] rfl))
      exact (hWW _ _ _).mp (P73 _ _ _ _ _ _ _ _ _ hf hP hD hS (lv_sub hl [4, 5, 6, 2, 1, 0] rfl))
    · have hf := hF hf c2
      refine lv_aload_n hx hb dX1_first_29 rfl (lv_at hl 1 rfl) ?_
      refine lv_iload_n hx hb dX1_first_30 rfl (lv_at hl 0 rfl) ?_
      obtain ⟨v13, hev13, hf⟩ := bS hf
      refine qV_i (ws' := (wX A cI v13.2 xn xm xk)) (As := [.int (f_X1_beyond j2 (0 : Int32) (20 : Int32))]) (rest := []) ⟨hx, hb, hml, hown, hts⟩ hK hN hA hP hD hS (c_X1_refuse l D cI A (f_X1_beyond j2 (0 : Int32) (20 : Int32)) xx xn xm xk v13 hev13) (cwV 1 hts gX1_first_X1_refuse rfl rfl rfl hd_X1_refuse ⟨Nat.le_of_ble_eq_true rfl, Nat.le_of_ble_eq_true rfl⟩) (va_recv hK hP (ci := 1) (q0 := 0) rfl rfl) (bp_X1_X1_xnmk_x A cI xx xn xm xk v13.2) rfl hl.1 rfl (Nat.le_of_ble_eq_true rfl) dX1_first_31 ⟨Nat.le_of_ble_eq_true rfl, Nat.le_of_ble_eq_true rfl⟩ (fun H locs hP hD hS => ?_)
      have hP : va_P D vwCl (wX A cI v13.2 xn xm xk) H := hP
      obtain rfl := Option.some.inj hf
      exact W.iret (v := v13.1) hx hb hr (fun t ht hW => ⟨⟨v13.1, (), rfl, rfl, hPt ht hP⟩, hS.F ht⟩) hS.2.2 dX1_first_34
  · have hf := hT hf c1
    refine lv_aload_n hx hb dX1_first_11 rfl (lv_at hl 0 rfl) ?_
    refine lv_iconst (v := (-1 : Int32)) hx hb dX1_first_12 (by decide) ?_
    obtain ⟨v14, hev14, hf⟩ := bS hf
    refine qV_i (ws' := (wX A cI v14.2 xn xm xk)) (As := [.int (-1 : Int32)]) (rest := []) ⟨hx, hb, hml, hown, hts⟩ hK hN hA hP hD hS (c_X1_refuse l D cI A (-1 : Int32) xx xn xm xk v14 hev14) (cwV 1 hts gX1_first_X1_refuse rfl rfl rfl hd_X1_refuse ⟨Nat.le_of_ble_eq_true rfl, Nat.le_of_ble_eq_true rfl⟩) (va_recv hK hP (ci := 1) (q0 := 0) rfl rfl) (bp_X1_X1_xnmk_x A cI xx xn xm xk v14.2) rfl hl.1 rfl (Nat.le_of_ble_eq_true rfl) dX1_first_13 ⟨Nat.le_of_ble_eq_true rfl, Nat.le_of_ble_eq_true rfl⟩ (fun H locs hP hD hS => ?_)
    have hP : va_P D vwCl (wX A cI v14.2 xn xm xk) H := hP
    obtain rfl := Option.some.inj hf
    exact W.iret (v := v14.1) hx hb hr (fun t ht hW => ⟨⟨v14.1, (), rfl, rfl, hPt ht hP⟩, hS.F ht⟩) hS.2.2 dX1_first_16
