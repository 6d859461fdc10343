set_option maxHeartbeats 4000000 in
set_option maxRecDepth 100000 in
theorem c_X2_worth (l : Launch) (D : va_G) (cI : ClassId) (A : Nat → Nat) (j1 : Int32) (tt : HS) (out : Int32) (hf : f_X2_worth j1 tt = some out) : uI l D cI yX2_worth wsX2_worth ({ frames := 0, cells := 0, slots := 0, locals := 0 } : Room) [.ref (A 0), .int j1] (wM A cI tt) (wM A cI tt) out := by
  intro sz
  refine Met.ofW (cc := cX2_worth) (maxL := 4) (ret := (some .int)) (by decide) rfl ?_
  intro p e s m args below meth c s₁ Bd hml hv
  obtain ⟨rfl, hsz, hP, hK, hD0, hN⟩ := hv
  have hx := Bd.exec
  have hb := Bd.bytes
  have hr := Bd.returns
  have hts := atoms_spec (ws := wsX2_worth) Bd.pre
  have hown : s.vm.findClass RX2 = some m.cls := findClass_of_methodNamed Bd.named
  have hlocks := Bd.notSynchronized
  subst hsz
  have hD := hD0.self (sz := s.heap.size)
  generalize hAe : va_A (wM A cI tt) s.heap.size = G at hD ⊢
  have hA : ∀ q : Nat, s.heap.size ≤ q → G q := fun q h => by rw [← hAe]; exact Or.inr h
  have hS : va_S G s.heap s.heap [] := va_S.rf
  have hP : va_P D vwCl (wM A cI tt) s.heap := hP
  have hl := lv_entry ([.ref (A 0), .int j1]) (n := 4) (Nat.le_of_ble_eq_true rfl)
  rw [lg_entry_eq]
  generalize (lg_sl ([.ref (A 0), .int j1]) ++ List.replicate (4 - (lg_sl ([.ref (A 0), .int j1])).length) Slot.unset).toArray = ls at hl ⊢
  have hl : lv_has ls 4 [(0, .ref (A 0)), (1, .int j1)] := hl
  have hinM : ∀ w ∈ wsX20, w ∈ wsX2_worth := by decide +kernel
  have lk0 := hts (.fieldLink RX2 16 "LiesBoughtBackModel" "size" "[I") (by decide +kernel)
  have lk1 := hts (.fieldLink RX2 22 "LiesBoughtBackModel" "age" "[I") (by decide +kernel)
  have lk2 := hts (.fieldLink RX2 13 "LiesBoughtBackModel" "sort" "[I") (by decide +kernel)
  refine W_in ?_
  intro WW hWW
  refine (hWW _ _ _).mpr ?_
  unfold f_X2_worth at hf
  refine lv_aload_n hx hb dX2_worth_0 rfl (lv_at hl 0 rfl) ?_
  refine va_get (D := D) (ci := 2) (v := .ref (A 3)) (C := RX2) (T := TX2) (N := 31) hx hb hts hinM hown hK hP 0 rfl rfl 2 (by decide) lk0 (fun _ h9 => h9) rfl dX2_worth_1 ?_
  refine lv_iload_n hx hb dX2_worth_4 rfl (lv_at hl 1 rfl) ?_
  obtain ⟨v1, he, hf⟩ := bS hf
  refine x_iald hx hb hK hP 3 (n := 8) rfl he dX2_worth_5 ?_
  refine lv_iconst (v := (3 : Int32)) hx hb dX2_worth_6 (by decide) ?_
  refine lv_iadd hx hb dX2_worth_7 ?_
  refine lv_istore_n (lv' := [(2, .int (v1 + (3 : Int32))), (0, .ref (A 0)), (1, .int j1)]) hx hb dX2_worth_8 rfl hl (by decide) rfl (fun ls hl => ?_)
  refine lv_iload_n hx hb dX2_worth_9 rfl (lv_at hl 0 rfl) ?_
  refine lv_aload_n hx hb dX2_worth_10 rfl (lv_at hl 1 rfl) ?_
  refine va_get (D := D) (ci := 2) (v := .ref (A 5)) (C := RX2) (T := TX2) (N := 31) hx hb hts hinM hown hK hP 0 rfl rfl 4 (by decide) lk1 (fun _ h9 => h9) rfl dX2_worth_11 ?_
  refine lv_iload_n hx hb dX2_worth_14 rfl (lv_at hl 2 rfl) ?_
  obtain ⟨v2, he, hf⟩ := bS hf
  refine x_iald hx hb hK hP 5 (n := 8) rfl he dX2_worth_15 ?_
  refine lv_iconst (v := (3 : Int32)) hx hb dX2_worth_16 (by decide) ?_
  refine lv_idiv hx hb dX2_worth_17 (by decide) ?_
  refine lv_icmp_le (tgt := 34) hx hb dX2_worth_18 (by decide) (fun c3 => ?_) (fun c3 => ?_)
  · have hf := hT hf c3
    refine lv_iconst (v := (0 : Int32)) hx hb dX2_worth_34 (by decide) ?_
    refine lv_istore_n (lv' := [(3, .int (0 : Int32)), (2, .int (v1 + (3 : Int32))), (0, .ref (A 0)), (1, .int j1)]) hx hb dX2_worth_35 rfl hl (by decide) rfl (fun ls hl => ?_)
    refine lv_aload_n hx hb dX2_worth_36 rfl (lv_at hl 2 rfl) ?_
    refine va_get (D := D) (ci := 2) (v := .ref (A 2)) (C := RX2) (T := TX2) (N := 31) hx hb hts hinM hown hK hP 0 rfl rfl 1 (by decide) lk2 (fun _ h9 => h9) rfl dX2_worth_37 ?_
    refine lv_iload_n hx hb dX2_worth_40 rfl (lv_at hl 3 rfl) ?_
    obtain ⟨v4, he, hf⟩ := bS hf
    refine x_iald hx hb hK hP 2 (n := 8) rfl he dX2_worth_41 ?_
    by_cases c5 : v4 = (1 : Int32)
    · have hf := hT hf c5
      refine sw_in (v := 1) (off := 34) (tgt := 76) hx hb dX2_worth_42 ((congrArg Int32.toInt c5).trans (by decide)) (by decide) (by decide) (by decide) (by decide) ?_
      refine lv_iload_n hx hb dX2_worth_76 rfl (lv_at hl 1 rfl) ?_
      refine lv_iconst (v := (2 : Int32)) hx hb dX2_worth_77 (by decide) ?_
      refine lv_idiv hx hb dX2_worth_78 (by decide) ?_
      obtain rfl := Option.some.inj hf
      exact W.iret (v := ((v1 + (3 : Int32)) / (2 : Int32))) hx hb hr (fun t ht hW => ⟨⟨((v1 + (3 : Int32)) / (2 : Int32)), (), rfl, rfl, hPt ht hP⟩, hS.F ht⟩) hS.2.2 dX2_worth_79
    have hf := hF hf c5
    by_cases c6 : v4 = (2 : Int32)
    · have hf := hT hf c6
      refine sw_in (v := 2) (off := 38) (tgt := 80) hx hb dX2_worth_42 ((congrArg Int32.toInt c6).trans (by decide)) (by decide) (by decide) (by decide) (by decide) ?_
      refine lv_iconst (v := (4 : Int32)) hx hb dX2_worth_80 (by decide) ?_
      refine lv_iload_n hx hb dX2_worth_81 rfl (lv_at hl 1 rfl) ?_
      refine lv_imul hx hb dX2_worth_82 ?_
      obtain rfl := Option.some.inj hf
      exact W.iret (v := ((4 : Int32) * (v1 + (3 : Int32)))) hx hb hr (fun t ht hW => ⟨⟨((4 : Int32) * (v1 + (3 : Int32))), (), rfl, rfl, hPt ht hP⟩, hS.F ht⟩) hS.2.2 dX2_worth_83
    have hf := hF hf c6
    by_cases c7 : v4 = (3 : Int32)
    · have hf := hT hf c7
      refine sw_in (v := 3) (off := 42) (tgt := 84) hx hb dX2_worth_42 ((congrArg Int32.toInt c7).trans (by decide)) (by decide) (by decide) (by decide) (by decide) ?_
      refine lv_iload_n hx hb dX2_worth_84 rfl (lv_at hl 0 rfl) ?_
      obtain rfl := Option.some.inj hf
      exact W.iret (v := (0 : Int32)) hx hb hr (fun t ht hW => ⟨⟨(0 : Int32), (), rfl, rfl, hPt ht hP⟩, hS.F ht⟩) hS.2.2 dX2_worth_85
    have hf := hF hf c7
    by_cases c8 : v4 = (4 : Int32)
    · have hf := hT hf c8
      refine sw_in (v := 4) (off := 44) (tgt := 86) hx hb dX2_worth_42 ((congrArg Int32.toInt c8).trans (by decide)) (by decide) (by decide) (by decide) (by decide) ?_
      refine lv_iconst (v := (0 : Int32)) hx hb dX2_worth_86 (by decide) ?_
      obtain rfl := Option.some.inj hf
      exact W.iret (v := (0 : Int32)) hx hb hr (fun t ht hW => ⟨⟨(0 : Int32), (), rfl, rfl, hPt ht hP⟩, hS.F ht⟩) hS.2.2 dX2_worth_87
    have hf := hF hf c8
    by_cases c9 : v4 = (5 : Int32)
    · have hf := hT hf c9
      refine sw_in (v := 5) (off := 46) (tgt := 88) hx hb dX2_worth_42 ((congrArg Int32.toInt c9).trans (by decide)) (by decide) (by decide) (by decide) (by decide) ?_
      refine lv_iload_n hx hb dX2_worth_88 rfl (lv_at hl 0 rfl) ?_
      refine lv_iconst (v := (2 : Int32)) hx hb dX2_worth_89 (by decide) ?_
      refine lv_idiv hx hb dX2_worth_90 (by decide) ?_
      obtain rfl := Option.some.inj hf
      exact W.iret (v := ((0 : Int32) / (2 : Int32))) hx hb hr (fun t ht hW => ⟨⟨((0 : Int32) / (2 : Int32)), (), rfl, rfl, hPt ht hP⟩, hS.F ht⟩) hS.2.2 dX2_worth_91
    have hf := hF hf c9
    refine lv_tableOut (tgt := 92) hx hb dX2_worth_42 (by have z0 := lv_neT (a := 1) c5 (by decide); have z1 := lv_neT (a := 2) c6 (by decide); have z2 := lv_neT (a := 3) c7 (by decide); have z3 := lv_neT (a := 4) c8 (by decide); have z4 := lv_neT (a := 5) c9 (by decide); omega) (by decide) ?_
    refine lv_iload_n hx hb dX2_worth_92 rfl (lv_at hl 1 rfl) ?_
    obtain rfl := Option.some.inj hf
    exact W.iret (v := (v1 + (3 : Int32))) hx hb hr (fun t ht hW => ⟨⟨(v1 + (3 : Int32)), (), rfl, rfl, hPt ht hP⟩, hS.F ht⟩) hS.2.2 dX2_worth_93
  · have hf := hF hf c3
    refine lv_iload_n hx hb dX2_worth_21 rfl (lv_at hl 0 rfl) ?_
    refine lv_aload_n hx hb dX2_worth_22 rfl (lv_at hl 1 rfl) ?_
    refine va_get (D := D) (ci := 2) (v := .ref (A 5)) (C := RX2) (T := TX2) (N := 31) hx hb hts hinM hown hK hP 0 rfl rfl 4 (by decide) lk1 (fun _ h9 => h9) rfl dX2_worth_23 ?_
    refine lv_iload_n hx hb dX2_worth_26 rfl (lv_at hl 2 rfl) ?_
    obtain ⟨v10, he, hf⟩ := bS hf
    refine x_iald hx hb hK hP 5 (n := 8) rfl he dX2_worth_27 ?_
    refine lv_iconst (v := (3 : Int32)) hx hb dX2_worth_28 (by decide) ?_
    refine lv_idiv hx hb dX2_worth_29 (by decide) ?_
    refine lv_isub hx hb dX2_worth_30 ?_
    refine lv_goto (tgt := 35) hx hb dX2_worth_31 (by decide) ?_
    refine lv_istore_n (lv' := [(3, .int ((v1 + (3 : Int32)) - (v10 / (3 : Int32)))), (2, .int (v1 + (3 : Int32))), (0, .ref (A 0)), (1, .int j1)]) hx hb dX2_worth_35 rfl hl (by decide) rfl (fun ls hl => ?_)
    refine lv_aload_n hx hb dX2_worth_36 rfl (lv_at hl 2 rfl) ?_
    refine va_get (D := D) (ci := 2) (v := .ref (A 2)) (C := RX2) (T := TX2) (N := 31) hx hb hts hinM hown hK hP 0 rfl rfl 1 (by decide) lk2 (fun _ h9 => h9) rfl dX2_worth_37 ?_
    refine lv_iload_n hx hb dX2_worth_40 rfl (lv_at hl 3 rfl) ?_
    obtain ⟨v11, he, hf⟩ := bS hf
    refine x_iald hx hb hK hP 2 (n := 8) rfl he dX2_worth_41 ?_
    by_cases c12 : v11 = (1 : Int32)
    · have hf := hT hf c12
      refine sw_in (v := 1) (off := 34) (tgt := 76) hx hb dX2_worth_42 ((congrArg Int32.toInt c12).trans (by decide)) (by decide) (by decide) (by decide) (by decide) ?_
      refine lv_iload_n hx hb dX2_worth_76 rfl (lv_at hl 1 rfl) ?_
      refine lv_iconst (v := (2 : Int32)) hx hb dX2_worth_77 (by decide) ?_
      refine lv_idiv hx hb dX2_worth_78 (by decide) ?_
      obtain rfl := Option.some.inj hf
      exact W.iret (v := ((v1 + (3 : Int32)) / (2 : Int32))) hx hb hr (fun t ht hW => ⟨⟨((v1 + (3 : Int32)) / (2 : Int32)), (), rfl, rfl, hPt ht hP⟩, hS.F ht⟩) hS.2.2 dX2_worth_79
    have hf := hF hf c12
    by_cases c13 : v11 = (2 : Int32)
    · have hf := hT hf c13
      refine sw_in (v := 2) (off := 38) (tgt := 80) hx hb dX2_worth_42 ((congrArg Int32.toInt c13).trans (by decide)) (by decide) (by decide) (by decide) (by decide) ?_
      refine lv_iconst (v := (4 : Int32)) hx hb dX2_worth_80 (by decide) ?_
      refine lv_iload_n hx hb dX2_worth_81 rfl (lv_at hl 1 rfl) ?_
      refine lv_imul hx hb dX2_worth_82 ?_
      obtain rfl := Option.some.inj hf
      exact W.iret (v := ((4 : Int32) * (v1 + (3 : Int32)))) hx hb hr (fun t ht hW => ⟨⟨((4 : Int32) * (v1 + (3 : Int32))), (), rfl, rfl, hPt ht hP⟩, hS.F ht⟩) hS.2.2 dX2_worth_83
    have hf := hF hf c13
    by_cases c14 : v11 = (3 : Int32)
    · have hf := hT hf c14
      refine sw_in (v := 3) (off := 42) (tgt := 84) hx hb dX2_worth_42 ((congrArg Int32.toInt c14).trans (by decide)) (by decide) (by decide) (by decide) (by decide) ?_
      refine lv_iload_n hx hb dX2_worth_84 rfl (lv_at hl 0 rfl) ?_
      obtain rfl := Option.some.inj hf
      exact W.iret (v := ((v1 + (3 : Int32)) - (v10 / (3 : Int32)))) hx hb hr (fun t ht hW => ⟨⟨((v1 + (3 : Int32)) - (v10 / (3 : Int32))), (), rfl, rfl, hPt ht hP⟩, hS.F ht⟩) hS.2.2 dX2_worth_85
    have hf := hF hf c14
    by_cases c15 : v11 = (4 : Int32)
    · have hf := hT hf c15
      refine sw_in (v := 4) (off := 44) (tgt := 86) hx hb dX2_worth_42 ((congrArg Int32.toInt c15).trans (by decide)) (by decide) (by decide) (by decide) (by decide) ?_
      refine lv_iconst (v := (0 : Int32)) hx hb dX2_worth_86 (by decide) ?_
      obtain rfl := Option.some.inj hf
      exact W.iret (v := (0 : Int32)) hx hb hr (fun t ht hW => ⟨⟨(0 : Int32), (), rfl, rfl, hPt ht hP⟩, hS.F ht⟩) hS.2.2 dX2_worth_87
    have hf := hF hf c15
    by_cases c16 : v11 = (5 : Int32)
    · have hf := hT hf c16
      refine sw_in (v := 5) (off := 46) (tgt := 88) hx hb dX2_worth_42 ((congrArg Int32.toInt c16).trans (by decide)) (by decide) (by decide) (by decide) (by decide) ?_
      refine lv_iload_n hx hb dX2_worth_88 rfl (lv_at hl 0 rfl) ?_
      refine lv_iconst (v := (2 : Int32)) hx hb dX2_worth_89 (by decide) ?_
      refine lv_idiv hx hb dX2_worth_90 (by decide) ?_
      obtain rfl := Option.some.inj hf
      exact W.iret (v := (((v1 + (3 : Int32)) - (v10 / (3 : Int32))) / (2 : Int32))) hx hb hr (fun t ht hW => ⟨⟨(((v1 + (3 : Int32)) - (v10 / (3 : Int32))) / (2 : Int32)), (), rfl, rfl, hPt ht hP⟩, hS.F ht⟩) hS.2.2 dX2_worth_91
    have hf := hF hf c16
    refine lv_tableOut (tgt := 92) hx hb dX2_worth_42 (by have z0 := lv_neT (a := 1) c12 (by decide); have z1 := lv_neT (a := 2) c13 (by decide); have z2 := lv_neT (a := 3) c14 (by decide); have z3 := lv_neT (a := 4) c15 (by decide); have z4 := lv_neT (a := 5) c16 (by decide); omega) (by decide) ?_
    refine lv_iload_n hx hb dX2_worth_92 rfl (lv_at hl 1 rfl) ?_
    obtain rfl := Option.some.inj hf
    exact W.iret (v := (v1 + (3 : Int32))) hx hb hr (fun t ht hW => ⟨⟨(v1 + (3 : Int32)), (), rfl, rfl, hPt ht hP⟩, hS.F ht⟩) hS.2.2 dX2_worth_93
set_option maxHeartbeats 4000000 in
set_option maxRecDepth 100000 in
theorem c_X2_isAgainst (l : Launch) (D : va_G) (cI : ClassId) (A : Nat → Nat) (j1 : Int32) (j2 : Int32) (tt : HS) (out : Int32) (hf : f_X2_isAgainst j1 j2 tt = some out) : uI l D cI yX2_isAgainst wsX2_isAgainst ({ frames := 1, cells := 0, slots := 0, locals := 21 } : Room) [.ref (A 0), .int j1, .int j2] (wM A cI tt) (wM A cI tt) out := by
  intro sz
  refine Met.ofW (cc := cX2_isAgainst) (maxL := 4) (ret := (some .boolean)) (by decide) rfl ?_
  intro p e s m args below meth c s₁ Bd hml hv
  obtain ⟨rfl, hsz, hP, hK, hD0, hN⟩ := hv
  have hx := Bd.exec
  have hb := Bd.bytes
  have hr := Bd.returns
  have hts := atoms_spec (ws := wsX2_isAgainst) Bd.pre
  have hown : s.vm.findClass RX2 = some m.cls := findClass_of_methodNamed Bd.named
  have hlocks := Bd.notSynchronized
  subst hsz
  have hD := hD0.self (sz := s.heap.size)
  generalize hAe : va_A (wM A cI tt) s.heap.size = G at hD ⊢
  have hA : ∀ q : Nat, s.heap.size ≤ q → G q := fun q h => by rw [← hAe]; exact Or.inr h
  have hS : va_S G s.heap s.heap [] := va_S.rf
  have hP : va_P D vwCl (wM A cI tt) s.heap := hP
  have hl := lv_entry ([.ref (A 0), .int j1, .int j2]) (n := 4) (Nat.le_of_ble_eq_true rfl)
  rw [lg_entry_eq]
  generalize (lg_sl ([.ref (A 0), .int j1, .int j2]) ++ List.replicate (4 - (lg_sl ([.ref (A 0), .int j1, .int j2])).length) Slot.unset).toArray = ls at hl ⊢
  have hl : lv_has ls 4 [(0, .ref (A 0)), (1, .int j1), (2, .int j2)] := hl
  have hinM : ∀ w ∈ wsX20, w ∈ wsX2_isAgainst := by decide +kernel
  have lk0 := hts (.fieldLink RX2 19 "LiesBoughtBackModel" "teller" "[I") (by decide +kernel)
  have lk1 := hts (.fieldLink RX2 40 "LiesBoughtBackModel" "belief" "[I") (by decide +kernel)
  refine W_in ?_
  intro WW hWW
  refine (hWW _ _ _).mpr ?_
  unfold f_X2_isAgainst at hf
  refine lv_aload_n hx hb dX2_isAgainst_0 rfl (lv_at hl 0 rfl) ?_
  refine va_get (D := D) (ci := 2) (v := .ref (A 4)) (C := RX2) (T := TX2) (N := 31) hx hb hts hinM hown hK hP 0 rfl rfl 3 (by decide) lk0 (fun _ h9 => h9) rfl dX2_isAgainst_1 ?_
  refine lv_iload_n hx hb dX2_isAgainst_4 rfl (lv_at hl 2 rfl) ?_
  obtain ⟨v1, he, hf⟩ := bS hf
  refine x_iald hx hb hK hP 4 (n := 8) rfl he dX2_isAgainst_5 ?_
  refine lv_istore_n (lv' := [(3, .int v1), (0, .ref (A 0)), (1, .int j1), (2, .int j2)]) hx hb dX2_isAgainst_6 rfl hl (by decide) rfl (fun ls hl => ?_)
  refine lv_iload_n hx hb dX2_isAgainst_7 rfl (lv_at hl 0 rfl) ?_
  refine lv_iload_n hx hb dX2_isAgainst_8 rfl (lv_at hl 2 rfl) ?_
  refine lv_icmp_eq (tgt := 39) hx hb dX2_isAgainst_9 (by decide) (fun c2 => ?_) (fun c2 => ?_)
  · have hf := hT hf c2
    refine lv_iconst (v := (0 : Int32)) hx hb dX2_isAgainst_39 (by decide) ?_
    obtain rfl := Option.some.inj hf
    exact W.zret (ty := .boolean) (v := (0 : Int32)) hx hb hr rfl (fun t ht hW => ⟨⟨(0 : Int32), (), rfl, rfl, hPt ht hP⟩, hS.F ht⟩) hS.2.2 dX2_isAgainst_40
  · have hf := hF hf c2
    refine lv_aload_n hx hb dX2_isAgainst_12 rfl (lv_at hl 1 rfl) ?_
    refine lv_iload_n hx hb dX2_isAgainst_13 rfl (lv_at hl 0 rfl) ?_
    refine qV_i (As := [.int v1]) (rest := []) ⟨hx, hb, hml, hown, hts⟩ hK hN hA hP hD hS (c_X2_isBidder l D cI A v1 tt (f_X2_isBidder v1 tt) rfl) (cwV 1 hts gX2_isAgainst_X2_isBidder rfl rfl rfl hd_X2_isBidder ⟨Nat.le_of_ble_eq_true rfl, Nat.le_of_ble_eq_true rfl⟩) (va_recv hK hP (ci := 2) (q0 := 0) rfl rfl) (bq_X2_X2_t A cI tt) rfl hl.1 rfl (Nat.le_of_ble_eq_true rfl) dX2_isAgainst_14 ⟨Nat.le_of_ble_eq_true rfl, Nat.le_of_ble_eq_true rfl⟩ (fun H locs hP hD hS => ?_)
    refine lv_if_eq (tgt := 39) hx hb dX2_isAgainst_17 (by decide) (fun c3 => ?_) (fun c3 => ?_)
    · have hf := hT hf c3
      refine lv_iconst (v := (0 : Int32)) hx hb dX2_isAgainst_39 (by decide) ?_
      obtain rfl := Option.some.inj hf
      exact W.zret (ty := .boolean) (v := (0 : Int32)) hx hb hr rfl (fun t ht hW => ⟨⟨(0 : Int32), (), rfl, rfl, hPt ht hP⟩, hS.F ht⟩) hS.2.2 dX2_isAgainst_40
    · have hf := hF hf c3
      refine lv_aload_n hx hb dX2_isAgainst_20 rfl (lv_at hl 1 rfl) ?_
      refine va_get (D := D) (ci := 2) (v := .ref (A 11)) (C := RX2) (T := TX2) (N := 31) hx hb hts hinM hown hK hP 0 rfl rfl 10 (by decide) lk1 (fun _ h9 => h9) rfl dX2_isAgainst_21 ?_
      refine lv_iload_n hx hb dX2_isAgainst_24 rfl (lv_at hl 0 rfl) ?_
      obtain ⟨v4, he, hf⟩ := bS hf
      refine x_iald hx hb hK hP 11 (n := 6) rfl he dX2_isAgainst_25 ?_
      refine lv_aload_n hx hb dX2_isAgainst_26 rfl (lv_at hl 1 rfl) ?_
      refine va_get (D := D) (ci := 2) (v := .ref (A 11)) (C := RX2) (T := TX2) (N := 31) hx hb hts hinM hown hK hP 0 rfl rfl 10 (by decide) lk1 (fun _ h9 => h9) rfl dX2_isAgainst_27 ?_
      refine lv_iload_n hx hb dX2_isAgainst_30 rfl (lv_at hl 2 rfl) ?_
      obtain ⟨v5, he, hf⟩ := bS hf
      refine x_iald hx hb hK hP 11 (n := 6) rfl he dX2_isAgainst_31 ?_
      refine lv_icmp_le (tgt := 39) hx hb dX2_isAgainst_32 (by decide) (fun c6 => ?_) (fun c6 => ?_)
      · have hf := hT hf c6
        refine lv_iconst (v := (0 : Int32)) hx hb dX2_isAgainst_39 (by decide) ?_
        obtain rfl := Option.some.inj hf
        exact W.zret (ty := .boolean) (v := (0 : Int32)) hx hb hr rfl (fun t ht hW => ⟨⟨(0 : Int32), (), rfl, rfl, hPt ht hP⟩, hS.F ht⟩) hS.2.2 dX2_isAgainst_40
      · have hf := hF hf c6
        refine lv_iconst (v := (1 : Int32)) hx hb dX2_isAgainst_35 (by decide) ?_
        refine lv_goto (tgt := 40) hx hb dX2_isAgainst_36 (by decide) ?_
        obtain rfl := Option.some.inj hf
        exact W.zret (ty := .boolean) (v := (1 : Int32)) hx hb hr rfl (fun t ht hW => ⟨⟨(1 : Int32), (), rfl, rfl, hPt ht hP⟩, hS.F ht⟩) hS.2.2 dX2_isAgainst_40
set_option maxHeartbeats 4000000 in
set_option maxRecDepth 100000 in
theorem c_X2_likes (l : Launch) (D : va_G) (cI : ClassId) (A : Nat → Nat) (j1 : Int32) (j2 : Int32) (tt : HS) (out : Int32) (hf : f_X2_likes j1 j2 tt = some out) : uI l D cI yX2_likes wsX2_likes ({ frames := 2, cells := 0, slots := 0, locals := 44 } : Room) [.ref (A 0), .int j1, .int j2] (wM A cI tt) (wM A cI tt) out := by
  intro sz
  refine Met.ofW (cc := cX2_likes) (maxL := 5) (ret := (some .int)) (by decide) rfl ?_
  intro p e s m args below meth c s₁ Bd hml hv
  obtain ⟨rfl, hsz, hP, hK, hD0, hN⟩ := hv
  have hx := Bd.exec
  have hb := Bd.bytes
  have hr := Bd.returns
  have hts := atoms_spec (ws := wsX2_likes) Bd.pre
  have hown : s.vm.findClass RX2 = some m.cls := findClass_of_methodNamed Bd.named
  have hlocks := Bd.notSynchronized
  subst hsz
  have hD := hD0.self (sz := s.heap.size)
  generalize hAe : va_A (wM A cI tt) s.heap.size = G at hD ⊢
  have hA : ∀ q : Nat, s.heap.size ≤ q → G q := fun q h => by rw [← hAe]; exact Or.inr h
  have hS : va_S G s.heap s.heap [] := va_S.rf
  have hP : va_P D vwCl (wM A cI tt) s.heap := hP
  have hl := lv_entry ([.ref (A 0), .int j1, .int j2]) (n := 5) (Nat.le_of_ble_eq_true rfl)
  rw [lg_entry_eq]
  generalize (lg_sl ([.ref (A 0), .int j1, .int j2]) ++ List.replicate (5 - (lg_sl ([.ref (A 0), .int j1, .int j2])).length) Slot.unset).toArray = ls at hl ⊢
  have hl : lv_has ls 5 [(0, .ref (A 0)), (1, .int j1), (2, .int j2)] := hl
  have hinM : ∀ w ∈ wsX20, w ∈ wsX2_likes := by decide +kernel
  have lk0 := hts (.fieldLink RX2 19 "LiesBoughtBackModel" "teller" "[I") (by decide +kernel)
  have lk1 := hts (.fieldLink RX2 31 "LiesBoughtBackModel" "kind" "[I") (by decide +kernel)
  have lk2 := hts (.fieldLink RX2 34 "LiesBoughtBackModel" "figure" "[I") (by decide +kernel)
  refine W_in ?_
  intro WW hWW
  refine (hWW _ _ _).mpr ?_
  unfold f_X2_likes at hf
  refine lv_aload_n hx hb dX2_likes_0 rfl (lv_at hl 0 rfl) ?_
  refine va_get (D := D) (ci := 2) (v := .ref (A 4)) (C := RX2) (T := TX2) (N := 31) hx hb hts hinM hown hK hP 0 rfl rfl 3 (by decide) lk0 (fun _ h9 => h9) rfl dX2_likes_1 ?_
  refine lv_iload_n hx hb dX2_likes_4 rfl (lv_at hl 2 rfl) ?_
  obtain ⟨v1, he, hf⟩ := bS hf
  refine x_iald hx hb hK hP 4 (n := 8) rfl he dX2_likes_5 ?_
  refine lv_iload_n hx hb dX2_likes_6 rfl (lv_at hl 1 rfl) ?_
  refine lv_icmp_ne (tgt := 14) hx hb dX2_likes_7 (by decide) (fun c2 => ?_) (fun c2 => ?_)
  · have hf := hF hf c2
    refine lv_iconst (v := (0 : Int32)) hx hb dX2_likes_14 (by decide) ?_
    refine lv_istore_n (lv' := [(3, .int (0 : Int32)), (0, .ref (A 0)), (1, .int j1), (2, .int j2)]) hx hb dX2_likes_15 rfl hl (by decide) rfl (fun ls hl => ?_)
    refine lv_iload_n hx hb dX2_likes_16 rfl (lv_at hl 0 rfl) ?_
    refine lv_if_eq (tgt := 35) hx hb dX2_likes_17 (by decide) (fun c3 => ?_) (fun c3 => ?_)
    · refine lv_aload_n hx hb dX2_likes_35 rfl (lv_at hl 1 rfl) ?_
      refine lv_iload_n hx hb dX2_likes_36 rfl (lv_at hl 3 rfl) ?_
      obtain ⟨v4, hev4, hf⟩ := bS hf
      refine qV_i (As := [.int j2]) (rest := []) ⟨hx, hb, hml, hown, hts⟩ hK hN hA hP hD hS (c_X2_worth l D cI A j2 tt v4 hev4) (cwV 1 hts gX2_likes_X2_worth rfl rfl rfl hd_X2_worth ⟨Nat.le_of_ble_eq_true rfl, Nat.le_of_ble_eq_true rfl⟩) (va_recv hK hP (ci := 2) (q0 := 0) rfl rfl) (bq_X2_X2_t A cI tt) rfl hl.1 rfl (Nat.le_of_ble_eq_true rfl) dX2_likes_37 ⟨Nat.le_of_ble_eq_true rfl, Nat.le_of_ble_eq_true rfl⟩ (fun H locs hP hD hS => ?_)
      refine lv_iconst (v := (2 : Int32)) hx hb dX2_likes_40 (by decide) ?_
      refine lv_idiv hx hb dX2_likes_41 (by decide) ?_
      refine lv_istore (lv' := [(4, .int (v4 / (2 : Int32))), (3, .int (0 : Int32)), (0, .ref (A 0)), (1, .int j1), (2, .int j2)]) hx hb dX2_likes_42 hl (by decide) rfl (fun ls hl => ?_)
      refine lv_aload_n hx hb dX2_likes_44 rfl (lv_at hl 2 rfl) ?_
      refine va_get (D := D) (ci := 2) (v := .ref (A 8)) (C := RX2) (T := TX2) (N := 31) hx hb hts hinM hown hK hP 0 rfl rfl 7 (by decide) lk1 (fun _ h9 => h9) rfl dX2_likes_45 ?_
      refine lv_iload_n hx hb dX2_likes_48 rfl (lv_at hl 3 rfl) ?_
      obtain ⟨v5, he, hf⟩ := bS hf
      refine x_iald hx hb hK hP 8 (n := 6) rfl he dX2_likes_49 ?_
      by_cases c6 : v5 = (1 : Int32)
      · have hf := hT hf c6
        refine sw_in (v := 1) (off := 34) (tgt := 84) hx hb dX2_likes_50 ((congrArg Int32.toInt c6).trans (by decide)) (by decide) (by decide) (by decide) (by decide) ?_
        refine lv_iload hx hb dX2_likes_84 (lv_at hl 0 rfl) ?_
        refine lv_iconst (v := (3 : Int32)) hx hb dX2_likes_86 (by decide) ?_
        refine lv_icmp_le (tgt := 97) hx hb dX2_likes_87 (by decide) (fun c7 => ?_) (fun c7 => ?_)
        · have hf := hT hf c7
          refine lv_iconst (v := (0 : Int32)) hx hb dX2_likes_97 (by decide) ?_
          obtain rfl := Option.some.inj hf
          exact W.iret (v := (0 : Int32)) hx hb hr (fun t ht hW => ⟨⟨(0 : Int32), (), rfl, rfl, hPt ht hP⟩, hS.F ht⟩) hS.2.2 dX2_likes_98
        · have hf := hF hf c7
          refine lv_iload hx hb dX2_likes_90 (lv_at hl 0 rfl) ?_
          refine lv_iconst (v := (3 : Int32)) hx hb dX2_likes_92 (by decide) ?_
          refine lv_isub hx hb dX2_likes_93 ?_
          refine lv_goto (tgt := 98) hx hb dX2_likes_94 (by decide) ?_
          obtain rfl := Option.some.inj hf
          exact W.iret (v := ((v4 / (2 : Int32)) - (3 : Int32))) hx hb hr (fun t ht hW => ⟨⟨((v4 / (2 : Int32)) - (3 : Int32)), (), rfl, rfl, hPt ht hP⟩, hS.F ht⟩) hS.2.2 dX2_likes_98
      have hf := hF hf c6
      by_cases c8 : v5 = (2 : Int32)
      · have hf := hT hf c8
        refine sw_in (v := 2) (off := 49) (tgt := 99) hx hb dX2_likes_50 ((congrArg Int32.toInt c8).trans (by decide)) (by decide) (by decide) (by decide) (by decide) ?_
        refine lv_aload_n hx hb dX2_likes_99 rfl (lv_at hl 2 rfl) ?_
        refine lv_iload_n hx hb dX2_likes_100 rfl (lv_at hl 3 rfl) ?_
        refine lv_iload_n hx hb dX2_likes_101 rfl (lv_at hl 4 rfl) ?_
        obtain ⟨v9, hev9, hf⟩ := bS hf
        refine qV_i (As := [.int j1, .int j2]) (rest := []) ⟨hx, hb, hml, hown, hts⟩ hK hN hA hP hD hS (c_X2_isAgainst l D cI A j1 j2 tt v9 hev9) (cwV 2 hts gX2_likes_X2_isAgainst rfl rfl rfl hd_X2_isAgainst ⟨Nat.le_of_ble_eq_true rfl, Nat.le_of_ble_eq_true rfl⟩) (va_recv hK hP (ci := 2) (q0 := 0) rfl rfl) (bq_X2_X2_t A cI tt) rfl hl.1 rfl (Nat.le_of_ble_eq_true rfl) dX2_likes_102 ⟨Nat.le_of_ble_eq_true rfl, Nat.le_of_ble_eq_true rfl⟩ (fun H locs hP hD hS => ?_)
        refine lv_if_eq (tgt := 115) hx hb dX2_likes_105 (by decide) (fun c10 => ?_) (fun c10 => ?_)
        · have hf := hT hf c10
          refine lv_iload hx hb dX2_likes_115 (lv_at hl 0 rfl) ?_
          obtain rfl := Option.some.inj hf
          exact W.iret (v := (v4 / (2 : Int32))) hx hb hr (fun t ht hW => ⟨⟨(v4 / (2 : Int32)), (), rfl, rfl, hPt ht hP⟩, hS.F ht⟩) hS.2.2 dX2_likes_117
        · have hf := hF hf c10
          refine lv_iconst (v := (2 : Int32)) hx hb dX2_likes_108 (by decide) ?_
          refine lv_iload hx hb dX2_likes_109 (lv_at hl 0 rfl) ?_
          refine lv_imul hx hb dX2_likes_111 ?_
          refine lv_goto (tgt := 117) hx hb dX2_likes_112 (by decide) ?_
          obtain rfl := Option.some.inj hf
          exact W.iret (v := ((2 : Int32) * (v4 / (2 : Int32)))) hx hb hr (fun t ht hW => ⟨⟨((2 : Int32) * (v4 / (2 : Int32))), (), rfl, rfl, hPt ht hP⟩, hS.F ht⟩) hS.2.2 dX2_likes_117
      have hf := hF hf c8
      by_cases c11 : v5 = (3 : Int32)
      · have hf := hT hf c11
        refine sw_in (v := 3) (off := 68) (tgt := 118) hx hb dX2_likes_50 ((congrArg Int32.toInt c11).trans (by decide)) (by decide) (by decide) (by decide) (by decide) ?_
        refine lv_iload hx hb dX2_likes_118 (lv_at hl 0 rfl) ?_
        refine lv_iconst (v := (5 : Int32)) hx hb dX2_likes_120 (by decide) ?_
        refine lv_iadd hx hb dX2_likes_121 ?_
        obtain rfl := Option.some.inj hf
        exact W.iret (v := ((v4 / (2 : Int32)) + (5 : Int32))) hx hb hr (fun t ht hW => ⟨⟨((v4 / (2 : Int32)) + (5 : Int32)), (), rfl, rfl, hPt ht hP⟩, hS.F ht⟩) hS.2.2 dX2_likes_122
      have hf := hF hf c11
      by_cases c12 : v5 = (4 : Int32)
      · have hf := hT hf c12
        refine sw_in (v := 4) (off := 73) (tgt := 123) hx hb dX2_likes_50 ((congrArg Int32.toInt c12).trans (by decide)) (by decide) (by decide) (by decide) (by decide) ?_
        refine lv_iload_n hx hb dX2_likes_123 rfl (lv_at hl 1 rfl) ?_
        refine lv_if_eq (tgt := 135) hx hb dX2_likes_124 (by decide) (fun c13 => ?_) (fun c13 => ?_)
        · refine lv_iconst (v := (0 : Int32)) hx hb dX2_likes_135 (by decide) ?_
          obtain rfl := Option.some.inj hf
          exact W.iret (v := (0 : Int32)) hx hb hr (fun t ht hW => ⟨⟨(0 : Int32), (), rfl, rfl, hPt ht hP⟩, hS.F ht⟩) hS.2.2 dX2_likes_136
        · exact absurd c13 (by decide)
      have hf := hF hf c12
      by_cases c14 : v5 = (5 : Int32)
      · have hf := hT hf c14
        refine sw_in (v := 5) (off := 87) (tgt := 137) hx hb dX2_likes_50 ((congrArg Int32.toInt c14).trans (by decide)) (by decide) (by decide) (by decide) (by decide) ?_
        refine lv_iconst (v := (2 : Int32)) hx hb dX2_likes_137 (by decide) ?_
        refine lv_iload hx hb dX2_likes_138 (lv_at hl 0 rfl) ?_
        refine lv_iconst (v := (5 : Int32)) hx hb dX2_likes_140 (by decide) ?_
        refine lv_iadd hx hb dX2_likes_141 ?_
        refine lv_imul hx hb dX2_likes_142 ?_
        obtain rfl := Option.some.inj hf
        exact W.iret (v := ((2 : Int32) * ((v4 / (2 : Int32)) + (5 : Int32)))) hx hb hr (fun t ht hW => ⟨⟨((2 : Int32) * ((v4 / (2 : Int32)) + (5 : Int32))), (), rfl, rfl, hPt ht hP⟩, hS.F ht⟩) hS.2.2 dX2_likes_143
      have hf := hF hf c14
      refine lv_tableOut (tgt := 144) hx hb dX2_likes_50 (by have z0 := lv_neT (a := 1) c6 (by decide); have z1 := lv_neT (a := 2) c8 (by decide); have z2 := lv_neT (a := 3) c11 (by decide); have z3 := lv_neT (a := 4) c12 (by decide); have z4 := lv_neT (a := 5) c14 (by decide); omega) (by decide) ?_
      refine lv_iload hx hb dX2_likes_144 (lv_at hl 0 rfl) ?_
      obtain rfl := Option.some.inj hf
      exact W.iret (v := (v4 / (2 : Int32))) hx hb hr (fun t ht hW => ⟨⟨(v4 / (2 : Int32)), (), rfl, rfl, hPt ht hP⟩, hS.F ht⟩) hS.2.2 dX2_likes_146
    · exact absurd c3 (by decide)
  · have hf := hT hf c2
    refine lv_iconst (v := (1 : Int32)) hx hb dX2_likes_10 (by decide) ?_
    refine lv_goto (tgt := 15) hx hb dX2_likes_11 (by decide) ?_
    refine lv_istore_n (lv' := [(3, .int (1 : Int32)), (0, .ref (A 0)), (1, .int j1), (2, .int j2)]) hx hb dX2_likes_15 rfl hl (by decide) rfl (fun ls hl => ?_)
    refine lv_iload_n hx hb dX2_likes_16 rfl (lv_at hl 0 rfl) ?_
    refine lv_if_eq (tgt := 35) hx hb dX2_likes_17 (by decide) (fun c15 => ?_) (fun c15 => ?_)
    · exact absurd c15 (by decide)
    · refine lv_aload_n hx hb dX2_likes_20 rfl (lv_at hl 1 rfl) ?_
      refine lv_iload_n hx hb dX2_likes_21 rfl (lv_at hl 3 rfl) ?_
      obtain ⟨v16, hev16, hf⟩ := bS hf
      refine qV_i (As := [.int j2]) (rest := []) ⟨hx, hb, hml, hown, hts⟩ hK hN hA hP hD hS (c_X2_worth l D cI A j2 tt v16 hev16) (cwV 1 hts gX2_likes_X2_worth rfl rfl rfl hd_X2_worth ⟨Nat.le_of_ble_eq_true rfl, Nat.le_of_ble_eq_true rfl⟩) (va_recv hK hP (ci := 2) (q0 := 0) rfl rfl) (bq_X2_X2_t A cI tt) rfl hl.1 rfl (Nat.le_of_ble_eq_true rfl) dX2_likes_22 ⟨Nat.le_of_ble_eq_true rfl, Nat.le_of_ble_eq_true rfl⟩ (fun H locs hP hD hS => ?_)
      refine lv_aload_n hx hb dX2_likes_25 rfl (lv_at hl 1 rfl) ?_
      refine va_get (D := D) (ci := 2) (v := .ref (A 9)) (C := RX2) (T := TX2) (N := 31) hx hb hts hinM hown hK hP 0 rfl rfl 8 (by decide) lk2 (fun _ h9 => h9) rfl dX2_likes_26 ?_
      refine lv_iload_n hx hb dX2_likes_29 rfl (lv_at hl 2 rfl) ?_
      obtain ⟨v17, he, hf⟩ := bS hf
      refine x_iald hx hb hK hP 9 (n := 6) rfl he dX2_likes_30 ?_
      refine lv_iadd hx hb dX2_likes_31 ?_
      refine lv_goto (tgt := 42) hx hb dX2_likes_32 (by decide) ?_
      refine lv_istore (lv' := [(4, .int (v16 + v17)), (3, .int (1 : Int32)), (0, .ref (A 0)), (1, .int j1), (2, .int j2)]) hx hb dX2_likes_42 hl (by decide) rfl (fun ls hl => ?_)
      refine lv_aload_n hx hb dX2_likes_44 rfl (lv_at hl 2 rfl) ?_
      refine va_get (D := D) (ci := 2) (v := .ref (A 8)) (C := RX2) (T := TX2) (N := 31) hx hb hts hinM hown hK hP 0 rfl rfl 7 (by decide) lk1 (fun _ h9 => h9) rfl dX2_likes_45 ?_
      refine lv_iload_n hx hb dX2_likes_48 rfl (lv_at hl 3 rfl) ?_
      obtain ⟨v18, he, hf⟩ := bS hf
      refine x_iald hx hb hK hP 8 (n := 6) rfl he dX2_likes_49 ?_
      by_cases c19 : v18 = (1 : Int32)
      · have hf := hT hf c19
        refine sw_in (v := 1) (off := 34) (tgt := 84) hx hb dX2_likes_50 ((congrArg Int32.toInt c19).trans (by decide)) (by decide) (by decide) (by decide) (by decide) ?_
        refine lv_iload hx hb dX2_likes_84 (lv_at hl 0 rfl) ?_
        refine lv_iconst (v := (3 : Int32)) hx hb dX2_likes_86 (by decide) ?_
        refine lv_icmp_le (tgt := 97) hx hb dX2_likes_87 (by decide) (fun c20 => ?_) (fun c20 => ?_)
        · have hf := hT hf c20
          refine lv_iconst (v := (0 : Int32)) hx hb dX2_likes_97 (by decide) ?_
          obtain rfl := Option.some.inj hf
          exact W.iret (v := (0 : Int32)) hx hb hr (fun t ht hW => ⟨⟨(0 : Int32), (), rfl, rfl, hPt ht hP⟩, hS.F ht⟩) hS.2.2 dX2_likes_98
        · have hf := hF hf c20
          refine lv_iload hx hb dX2_likes_90 (lv_at hl 0 rfl) ?_
          refine lv_iconst (v := (3 : Int32)) hx hb dX2_likes_92 (by decide) ?_
          refine lv_isub hx hb dX2_likes_93 ?_
          refine lv_goto (tgt := 98) hx hb dX2_likes_94 (by decide) ?_
          obtain rfl := Option.some.inj hf
          exact W.iret (v := ((v16 + v17) - (3 : Int32))) hx hb hr (fun t ht hW => ⟨⟨((v16 + v17) - (3 : Int32)), (), rfl, rfl, hPt ht hP⟩, hS.F ht⟩) hS.2.2 dX2_likes_98
      have hf := hF hf c19
      by_cases c21 : v18 = (2 : Int32)
      · have hf := hT hf c21
        refine sw_in (v := 2) (off := 49) (tgt := 99) hx hb dX2_likes_50 ((congrArg Int32.toInt c21).trans (by decide)) (by decide) (by decide) (by decide) (by decide) ?_
        refine lv_aload_n hx hb dX2_likes_99 rfl (lv_at hl 2 rfl) ?_
        refine lv_iload_n hx hb dX2_likes_100 rfl (lv_at hl 3 rfl) ?_
        refine lv_iload_n hx hb dX2_likes_101 rfl (lv_at hl 4 rfl) ?_
        obtain ⟨v22, hev22, hf⟩ := bS hf
        refine qV_i (As := [.int j1, .int j2]) (rest := []) ⟨hx, hb, hml, hown, hts⟩ hK hN hA hP hD hS (c_X2_isAgainst l D cI A j1 j2 tt v22 hev22) (cwV 2 hts gX2_likes_X2_isAgainst rfl rfl rfl hd_X2_isAgainst ⟨Nat.le_of_ble_eq_true rfl, Nat.le_of_ble_eq_true rfl⟩) (va_recv hK hP (ci := 2) (q0 := 0) rfl rfl) (bq_X2_X2_t A cI tt) rfl hl.1 rfl (Nat.le_of_ble_eq_true rfl) dX2_likes_102 ⟨Nat.le_of_ble_eq_true rfl, Nat.le_of_ble_eq_true rfl⟩ (fun H locs hP hD hS => ?_)
        refine lv_if_eq (tgt := 115) hx hb dX2_likes_105 (by decide) (fun c23 => ?_) (fun c23 => ?_)
        · have hf := hT hf c23
          refine lv_iload hx hb dX2_likes_115 (lv_at hl 0 rfl) ?_
          obtain rfl := Option.some.inj hf
          exact W.iret (v := (v16 + v17)) hx hb hr (fun t ht hW => ⟨⟨(v16 + v17), (), rfl, rfl, hPt ht hP⟩, hS.F ht⟩) hS.2.2 dX2_likes_117
        · have hf := hF hf c23
          refine lv_iconst (v := (2 : Int32)) hx hb dX2_likes_108 (by decide) ?_
          refine lv_iload hx hb dX2_likes_109 (lv_at hl 0 rfl) ?_
          refine lv_imul hx hb dX2_likes_111 ?_
          refine lv_goto (tgt := 117) hx hb dX2_likes_112 (by decide) ?_
          obtain rfl := Option.some.inj hf
          exact W.iret (v := ((2 : Int32) * (v16 + v17))) hx hb hr (fun t ht hW => ⟨⟨((2 : Int32) * (v16 + v17)), (), rfl, rfl, hPt ht hP⟩, hS.F ht⟩) hS.2.2 dX2_likes_117
      have hf := hF hf c21
      by_cases c24 : v18 = (3 : Int32)
      · have hf := hT hf c24
        refine sw_in (v := 3) (off := 68) (tgt := 118) hx hb dX2_likes_50 ((congrArg Int32.toInt c24).trans (by decide)) (by decide) (by decide) (by decide) (by decide) ?_
        refine lv_iload hx hb dX2_likes_118 (lv_at hl 0 rfl) ?_
        refine lv_iconst (v := (5 : Int32)) hx hb dX2_likes_120 (by decide) ?_
        refine lv_iadd hx hb dX2_likes_121 ?_
        obtain rfl := Option.some.inj hf
        exact W.iret (v := ((v16 + v17) + (5 : Int32))) hx hb hr (fun t ht hW => ⟨⟨((v16 + v17) + (5 : Int32)), (), rfl, rfl, hPt ht hP⟩, hS.F ht⟩) hS.2.2 dX2_likes_122
      have hf := hF hf c24
      by_cases c25 : v18 = (4 : Int32)
      · have hf := hT hf c25
        refine sw_in (v := 4) (off := 73) (tgt := 123) hx hb dX2_likes_50 ((congrArg Int32.toInt c25).trans (by decide)) (by decide) (by decide) (by decide) (by decide) ?_
        refine lv_iload_n hx hb dX2_likes_123 rfl (lv_at hl 1 rfl) ?_
        refine lv_if_eq (tgt := 135) hx hb dX2_likes_124 (by decide) (fun c26 => ?_) (fun c26 => ?_)
        · exact absurd c26 (by decide)
        · refine lv_aload_n hx hb dX2_likes_127 rfl (lv_at hl 2 rfl) ?_
          refine lv_iload_n hx hb dX2_likes_128 rfl (lv_at hl 4 rfl) ?_
          obtain ⟨v27, hev27, hf⟩ := bS hf
          refine qV_i (As := [.int j2]) (rest := []) ⟨hx, hb, hml, hown, hts⟩ hK hN hA hP hD hS (c_X2_worth l D cI A j2 tt v27 hev27) (cwV 1 hts gX2_likes_X2_worth rfl rfl rfl hd_X2_worth ⟨Nat.le_of_ble_eq_true rfl, Nat.le_of_ble_eq_true rfl⟩) (va_recv hK hP (ci := 2) (q0 := 0) rfl rfl) (bq_X2_X2_t A cI tt) rfl hl.1 rfl (Nat.le_of_ble_eq_true rfl) dX2_likes_129 ⟨Nat.le_of_ble_eq_true rfl, Nat.le_of_ble_eq_true rfl⟩ (fun H locs hP hD hS => ?_)
          refine lv_goto (tgt := 136) hx hb dX2_likes_132 (by decide) ?_
          obtain rfl := Option.some.inj hf
          exact W.iret (v := v27) hx hb hr (fun t ht hW => ⟨⟨v27, (), rfl, rfl, hPt ht hP⟩, hS.F ht⟩) hS.2.2 dX2_likes_136
      have hf := hF hf c25
      by_cases c28 : v18 = (5 : Int32)
      · have hf := hT hf c28
        refine sw_in (v := 5) (off := 87) (tgt := 137) hx hb dX2_likes_50 ((congrArg Int32.toInt c28).trans (by decide)) (by decide) (by decide) (by decide) (by decide) ?_
        refine lv_iconst (v := (2 : Int32)) hx hb dX2_likes_137 (by decide) ?_
        refine lv_iload hx hb dX2_likes_138 (lv_at hl 0 rfl) ?_
        refine lv_iconst (v := (5 : Int32)) hx hb dX2_likes_140 (by decide) ?_
        refine lv_iadd hx hb dX2_likes_141 ?_
        refine lv_imul hx hb dX2_likes_142 ?_
        obtain rfl := Option.some.inj hf
        exact W.iret (v := ((2 : Int32) * ((v16 + v17) + (5 : Int32)))) hx hb hr (fun t ht hW => ⟨⟨((2 : Int32) * ((v16 + v17) + (5 : Int32))), (), rfl, rfl, hPt ht hP⟩, hS.F ht⟩) hS.2.2 dX2_likes_143
      have hf := hF hf c28
      refine lv_tableOut (tgt := 144) hx hb dX2_likes_50 (by have z0 := lv_neT (a := 1) c19 (by decide); have z1 := lv_neT (a := 2) c21 (by decide); have z2 := lv_neT (a := 3) c24 (by decide); have z3 := lv_neT (a := 4) c25 (by decide); have z4 := lv_neT (a := 5) c28 (by decide); omega) (by decide) ?_
      refine lv_iload hx hb dX2_likes_144 (lv_at hl 0 rfl) ?_
      obtain rfl := Option.some.inj hf
      exact W.iret (v := (v16 + v17)) hx hb hr (fun t ht hW => ⟨⟨(v16 + v17), (), rfl, rfl, hPt ht hP⟩, hS.F ht⟩) hS.2.2 dX2_likes_146
set_option maxHeartbeats 4000000 in
set_option maxRecDepth 100000 in
theorem c_X2_bidOf (l : Launch) (D : va_G) (cI : ClassId) (A : Nat → Nat) (j1 : Int32) (j2 : Int32) (tt : HS) (out : Int32) (hf : f_X2_bidOf j1 j2 tt = some out) : uI l D cI yX2_bidOf wsX2_bidOf ({ frames := 3, cells := 0, slots := 0, locals := 68 } : Room) [.ref (A 0), .int j1, .int j2] (wM A cI tt) (wM A cI tt) out := by
  intro sz
  refine Met.ofW (cc := cX2_bidOf) (maxL := 3) (ret := (some .int)) (by decide) rfl ?_
  intro p e s m args below meth c s₁ Bd hml hv
  obtain ⟨rfl, hsz, hP, hK, hD0, hN⟩ := hv
  have hx := Bd.exec
  have hb := Bd.bytes
  have hr := Bd.returns
  have hts := atoms_spec (ws := wsX2_bidOf) Bd.pre
  have hown : s.vm.findClass RX2 = some m.cls := findClass_of_methodNamed Bd.named
  have hlocks := Bd.notSynchronized
  subst hsz
  have hD := hD0.self (sz := s.heap.size)
  generalize hAe : va_A (wM A cI tt) s.heap.size = G at hD ⊢
  have hA : ∀ q : Nat, s.heap.size ≤ q → G q := fun q h => by rw [← hAe]; exact Or.inr h
  have hS : va_S G s.heap s.heap [] := va_S.rf
  have hP : va_P D vwCl (wM A cI tt) s.heap := hP
  have hl := lv_entry ([.ref (A 0), .int j1, .int j2]) (n := 3) (Nat.le_of_ble_eq_true rfl)
  rw [lg_entry_eq]
  generalize (lg_sl ([.ref (A 0), .int j1, .int j2]) ++ List.replicate (3 - (lg_sl ([.ref (A 0), .int j1, .int j2])).length) Slot.unset).toArray = ls at hl ⊢
  have hl : lv_has ls 3 [(0, .ref (A 0)), (1, .int j1), (2, .int j2)] := hl
  have hinM : ∀ w ∈ wsX20, w ∈ wsX2_bidOf := by decide +kernel
  have lk0 := hts (.fieldLink RX2 37 "LiesBoughtBackModel" "purse" "[I") (by decide +kernel)
  refine W_in ?_
  intro WW hWW
  refine (hWW _ _ _).mpr ?_
  unfold f_X2_bidOf at hf
  refine lv_aload_n hx hb dX2_bidOf_0 rfl (lv_at hl 0 rfl) ?_
  refine lv_iload_n hx hb dX2_bidOf_1 rfl (lv_at hl 1 rfl) ?_
  refine lv_iload_n hx hb dX2_bidOf_2 rfl (lv_at hl 2 rfl) ?_
  obtain ⟨v1, hev1, hf⟩ := bS hf
  refine qV_i (As := [.int j1, .int j2]) (rest := []) ⟨hx, hb, hml, hown, hts⟩ hK hN hA hP hD hS (c_X2_likes l D cI A j1 j2 tt v1 hev1) (cwV 2 hts gX2_bidOf_X2_likes rfl rfl rfl hd_X2_likes ⟨Nat.le_of_ble_eq_true rfl, Nat.le_of_ble_eq_true rfl⟩) (va_recv hK hP (ci := 2) (q0 := 0) rfl rfl) (bq_X2_X2_t A cI tt) rfl hl.1 rfl (Nat.le_of_ble_eq_true rfl) dX2_bidOf_3 ⟨Nat.le_of_ble_eq_true rfl, Nat.le_of_ble_eq_true rfl⟩ (fun H locs hP hD hS => ?_)
  refine lv_aload_n hx hb dX2_bidOf_6 rfl (lv_at hl 0 rfl) ?_
  refine va_get (D := D) (ci := 2) (v := .ref (A 10)) (C := RX2) (T := TX2) (N := 31) hx hb hts hinM hown hK hP 0 rfl rfl 9 (by decide) lk0 (fun _ h9 => h9) rfl dX2_bidOf_7 ?_
  refine lv_iload_n hx hb dX2_bidOf_10 rfl (lv_at hl 1 rfl) ?_
  obtain ⟨v2, he, hf⟩ := bS hf
  refine x_iald hx hb hK hP 10 (n := 6) rfl he dX2_bidOf_11 ?_
  refine lv_icmp_ge (tgt := 24) hx hb dX2_bidOf_12 (by decide) (fun c3 => ?_) (fun c3 => ?_)
  · have hf := hT hf c3
    refine lv_aload_n hx hb dX2_bidOf_24 rfl (lv_at hl 0 rfl) ?_
    refine va_get (D := D) (ci := 2) (v := .ref (A 10)) (C := RX2) (T := TX2) (N := 31) hx hb hts hinM hown hK hP 0 rfl rfl 9 (by decide) lk0 (fun _ h9 => h9) rfl dX2_bidOf_25 ?_
    refine lv_iload_n hx hb dX2_bidOf_28 rfl (lv_at hl 1 rfl) ?_
    obtain ⟨v4, he, hf⟩ := bS hf
    refine x_iald hx hb hK hP 10 (n := 6) rfl he dX2_bidOf_29 ?_
    obtain rfl := Option.some.inj hf
    exact W.iret (v := v4) hx hb hr (fun t ht hW => ⟨⟨v4, (), rfl, rfl, hPt ht hP⟩, hS.F ht⟩) hS.2.2 dX2_bidOf_30
  · have hf := hF hf c3
    refine lv_aload_n hx hb dX2_bidOf_15 rfl (lv_at hl 0 rfl) ?_
    refine lv_iload_n hx hb dX2_bidOf_16 rfl (lv_at hl 1 rfl) ?_
    refine lv_iload_n hx hb dX2_bidOf_17 rfl (lv_at hl 2 rfl) ?_
    obtain ⟨v5, hev5, hf⟩ := bS hf
    refine qV_i (As := [.int j1, .int j2]) (rest := []) ⟨hx, hb, hml, hown, hts⟩ hK hN hA hP hD hS (c_X2_likes l D cI A j1 j2 tt v5 hev5) (cwV 2 hts gX2_bidOf_X2_likes rfl rfl rfl hd_X2_likes ⟨Nat.le_of_ble_eq_true rfl, Nat.le_of_ble_eq_true rfl⟩) (va_recv hK hP (ci := 2) (q0 := 0) rfl rfl) (bq_X2_X2_t A cI tt) rfl hl.1 rfl (Nat.le_of_ble_eq_true rfl) dX2_bidOf_18 ⟨Nat.le_of_ble_eq_true rfl, Nat.le_of_ble_eq_true rfl⟩ (fun H locs hP hD hS => ?_)
    refine lv_goto (tgt := 30) hx hb dX2_bidOf_21 (by decide) ?_
    obtain rfl := Option.some.inj hf
    exact W.iret (v := v5) hx hb hr (fun t ht hW => ⟨⟨v5, (), rfl, rfl, hPt ht hP⟩, hS.F ht⟩) hS.2.2 dX2_bidOf_30
set_option maxHeartbeats 4000000 in
set_option maxRecDepth 100000 in
theorem c_X2_bidNow (l : Launch) (D : va_G) (cI : ClassId) (A : Nat → Nat) (j1 : Int32) (j2 : Int32) (tt : HS) (out : Int32) (hf : f_X2_bidNow j1 j2 tt = some out) : uI l D cI yX2_bidNow wsX2_bidNow ({ frames := 4, cells := 0, slots := 0, locals := 90 } : Room) [.ref (A 0), .int j1, .int j2] (wM A cI tt) (wM A cI tt) out := by
  intro sz
  refine Met.ofW (cc := cX2_bidNow) (maxL := 3) (ret := (some .int)) (by decide) rfl ?_
  intro p e s m args below meth c s₁ Bd hml hv
  obtain ⟨rfl, hsz, hP, hK, hD0, hN⟩ := hv
  have hx := Bd.exec
  have hb := Bd.bytes
  have hr := Bd.returns
  have hts := atoms_spec (ws := wsX2_bidNow) Bd.pre
  have hown : s.vm.findClass RX2 = some m.cls := findClass_of_methodNamed Bd.named
  have hlocks := Bd.notSynchronized
  subst hsz
  have hD := hD0.self (sz := s.heap.size)
  generalize hAe : va_A (wM A cI tt) s.heap.size = G at hD ⊢
  have hA : ∀ q : Nat, s.heap.size ≤ q → G q := fun q h => by rw [← hAe]; exact Or.inr h
  have hS : va_S G s.heap s.heap [] := va_S.rf
  have hP : va_P D vwCl (wM A cI tt) s.heap := hP
  have hl := lv_entry ([.ref (A 0), .int j1, .int j2]) (n := 3) (Nat.le_of_ble_eq_true rfl)
  rw [lg_entry_eq]
  generalize (lg_sl ([.ref (A 0), .int j1, .int j2]) ++ List.replicate (3 - (lg_sl ([.ref (A 0), .int j1, .int j2])).length) Slot.unset).toArray = ls at hl ⊢
  have hl : lv_has ls 3 [(0, .ref (A 0)), (1, .int j1), (2, .int j2)] := hl
  have hinM : ∀ w ∈ wsX20, w ∈ wsX2_bidNow := by decide +kernel
  have lk0 := hts (.fieldLink RX2 189 "LiesBoughtBackModel" "away" "I") (by decide +kernel)
  refine W_in ?_
  intro WW hWW
  refine (hWW _ _ _).mpr ?_
  unfold f_X2_bidNow at hf
  refine lv_aload_n hx hb dX2_bidNow_0 rfl (lv_at hl 0 rfl) ?_
  refine va_get (D := D) (ci := 2) (v := .int (tt 29 0)) (C := RX2) (T := TX2) (N := 31) hx hb hts hinM hown hK hP 0 rfl rfl 25 (by decide) lk0 (fun _ h9 => h9) rfl dX2_bidNow_1 ?_
  refine lv_iload_n hx hb dX2_bidNow_4 rfl (lv_at hl 1 rfl) ?_
  refine qS_i (As := [.int (tt 29 0), .int j1]) (rest := []) ⟨hx, hb, hml, hown, hts⟩ hK hN hA hP hD hS (c_X2_has l D cI (tt 29 0) j1 (f_X2_has (tt 29 0) j1) rfl) (va_cwS 2 hts gX2_bidNow_X2_has rfl rfl rfl hd_X2_has.2 ⟨Nat.le_of_ble_eq_true rfl, Nat.le_of_ble_eq_true rfl⟩) Bp_e rfl hl.1 rfl (Nat.le_of_ble_eq_true rfl) dX2_bidNow_5 ⟨Nat.le_of_ble_eq_true rfl, Nat.le_of_ble_eq_true rfl⟩ (fun H locs hP hD hS => ?_)
  refine lv_if_eq (tgt := 15) hx hb dX2_bidNow_8 (by decide) (fun c1 => ?_) (fun c1 => ?_)
  · have hf := hT hf c1
    refine lv_aload_n hx hb dX2_bidNow_15 rfl (lv_at hl 0 rfl) ?_
    refine lv_iload_n hx hb dX2_bidNow_16 rfl (lv_at hl 1 rfl) ?_
    refine lv_iload_n hx hb dX2_bidNow_17 rfl (lv_at hl 2 rfl) ?_
    obtain ⟨v2, hev2, hf⟩ := bS hf
    refine qV_i (As := [.int j1, .int j2]) (rest := []) ⟨hx, hb, hml, hown, hts⟩ hK hN hA hP hD hS (c_X2_bidOf l D cI A j1 j2 tt v2 hev2) (cwV 2 hts gX2_bidNow_X2_bidOf rfl rfl rfl hd_X2_bidOf ⟨Nat.le_of_ble_eq_true rfl, Nat.le_of_ble_eq_true rfl⟩) (va_recv hK hP (ci := 2) (q0 := 0) rfl rfl) (bq_X2_X2_t A cI tt) rfl hl.1 rfl (Nat.le_of_ble_eq_true rfl) dX2_bidNow_18 ⟨Nat.le_of_ble_eq_true rfl, Nat.le_of_ble_eq_true rfl⟩ (fun H locs hP hD hS => ?_)
    obtain rfl := Option.some.inj hf
    exact W.iret (v := v2) hx hb hr (fun t ht hW => ⟨⟨v2, (), rfl, rfl, hPt ht hP⟩, hS.F ht⟩) hS.2.2 dX2_bidNow_21
  · have hf := hF hf c1
    refine lv_iconst (v := (0 : Int32)) hx hb dX2_bidNow_11 (by decide) ?_
    refine lv_goto (tgt := 21) hx hb dX2_bidNow_12 (by decide) ?_
    obtain rfl := Option.some.inj hf
    exact W.iret (v := (0 : Int32)) hx hb hr (fun t ht hW => ⟨⟨(0 : Int32), (), rfl, rfl, hPt ht hP⟩, hS.F ht⟩) hS.2.2 dX2_bidNow_21
set_option maxHeartbeats 4000000 in
set_option maxRecDepth 100000 in
theorem c_X2_getter (l : Launch) (D : va_G) (cI : ClassId) (A : Nat → Nat) (j1 : Int32) (tt : HS) (out : Int32) (hf : f_X2_getter j1 tt = some out) : uI l D cI yX2_getter wsX2_getter ({ frames := 5, cells := 0, slots := 0, locals := 112 } : Room) [.ref (A 0), .int j1] (wM A cI tt) (wM A cI tt) out := by
  intro sz
  refine Met.ofW (cc := cX2_getter) (maxL := 4) (ret := (some .int)) (by decide) rfl ?_
  intro p e s m args below meth c s₁ Bd hml hv
  obtain ⟨rfl, hsz, hP, hK, hD0, hN⟩ := hv
  have hx := Bd.exec
  have hb := Bd.bytes
  have hr := Bd.returns
  have hts := atoms_spec (ws := wsX2_getter) Bd.pre
  have hown : s.vm.findClass RX2 = some m.cls := findClass_of_methodNamed Bd.named
  have hlocks := Bd.notSynchronized
  subst hsz
  have hD := hD0.self (sz := s.heap.size)
  generalize hAe : va_A (wM A cI tt) s.heap.size = G at hD ⊢
  have hA : ∀ q : Nat, s.heap.size ≤ q → G q := fun q h => by rw [← hAe]; exact Or.inr h
  have hS : va_S G s.heap s.heap [] := va_S.rf
  have hP : va_P D vwCl (wM A cI tt) s.heap := hP
  have hl := lv_entry ([.ref (A 0), .int j1]) (n := 4) (Nat.le_of_ble_eq_true rfl)
  rw [lg_entry_eq]
  generalize (lg_sl ([.ref (A 0), .int j1]) ++ List.replicate (4 - (lg_sl ([.ref (A 0), .int j1])).length) Slot.unset).toArray = ls at hl ⊢
  have hl : lv_has ls 4 [(0, .ref (A 0)), (1, .int j1)] := hl
  have hinM : ∀ w ∈ wsX20, w ∈ wsX2_getter := by decide +kernel
  have lk0 := hts (.fieldLink RX2 73 "LiesBoughtBackModel" "bidders" "I") (by decide +kernel)
  refine W_in ?_
  intro WW hWW
  refine (hWW _ _ _).mpr ?_
  unfold f_X2_getter at hf
  refine lv_bipush (v := (-9 : Int32)) hx hb dX2_getter_0 (by decide) ?_
  refine lv_istore_n (lv' := [(2, .int (-9 : Int32)), (0, .ref (A 0)), (1, .int j1)]) hx hb dX2_getter_2 rfl hl (by decide) rfl (fun ls hl => ?_)
  refine lv_iconst (v := (0 : Int32)) hx hb dX2_getter_3 (by decide) ?_
  refine lv_istore_n (lv' := [(3, .int (0 : Int32)), (2, .int (-9 : Int32)), (0, .ref (A 0)), (1, .int j1)]) hx hb dX2_getter_4 rfl hl (by decide) rfl (fun ls hl => ?_)
  obtain ⟨K44, hK44, hf⟩ := jnS hf
  have J44 : ∀ (j2_44 : Int32) (H : Heap) (locs : List Loc) (ls : Array Slot), K44 j2_44 = some out → va_P D vwCl (wM A cI tt) H → va_D G (wM A cI tt) → va_S G s.heap H locs → lv_has ls 4 [(2, .int j2_44)] → WW H locs (F0 m 44 ls []) := by
    intro j2_44 H locs ls hf hP hD hS hl
    subst hK44
    refine (hWW _ _ _).mpr ?_
    refine lv_iload_n hx hb dX2_getter_44 rfl (lv_at hl 0 rfl) ?_
    obtain rfl := Option.some.inj hf
    exact W.iret (v := j2_44) hx hb hr (fun t ht hW => ⟨⟨j2_44, (), rfl, rfl, hPt ht hP⟩, hS.F ht⟩) hS.2.2 dX2_getter_45
  have P5 : ∀ (n' : Nat) (j2_5 : Int32) (j3_5 : Int32) (H : Heap) (locs : List Loc) (ls : Array Slot), L_X2_getter_5 j1 tt K44 n' j2_5 j3_5 = some out → va_P D vwCl (wM A cI tt) H → va_D G (wM A cI tt) → va_S G s.heap H locs → lv_has ls 4 [(0, .ref (A 0)), (1, .int j1), (2, .int j2_5), (3, .int j3_5)] → WW H locs (F0 m 5 ls []) := by
    intro n'
    induction n' with
    | zero => intro j2_5 j3_5 H locs ls hf; exact absurd (show (none : Option (Int32)) = some out from hf) (fun q => by cases q)
    | succ n' ih =>
      intro j2_5 j3_5 H locs ls hf hP hD hS hl
      rw [L_X2_getter_5] at hf
      refine (hWW _ _ _).mpr ?_
      refine lv_iload_n hx hb dX2_getter_5 rfl (lv_at hl 3 rfl) ?_
      refine lv_aload_n hx hb dX2_getter_6 rfl (lv_at hl 0 rfl) ?_
      refine va_get (D := D) (ci := 2) (v := .int (tt 21 0)) (C := RX2) (T := TX2) (N := 31) hx hb hts hinM hown hK hP 0 rfl rfl 12 (by decide) lk0 (fun _ h9 => h9) rfl dX2_getter_7 ?_
      refine lv_icmp_ge (tgt := 44) hx hb dX2_getter_10 (by decide) (fun c1 => ?_) (fun c1 => ?_)
      · have hf := hT hf c1
        exact (hWW _ _ _).mp (J44 _ _ _ _ hf hP hD hS (lv_sub hl [2] rfl))
      · have hf := hF hf c1
        refine lv_aload_n hx hb dX2_getter_13 rfl (lv_at hl 0 rfl) ?_
        refine lv_iload_n hx hb dX2_getter_14 rfl (lv_at hl 3 rfl) ?_
        refine lv_iload_n hx hb dX2_getter_15 rfl (lv_at hl 1 rfl) ?_
        obtain ⟨v2, hev2, hf⟩ := bS hf
        refine qV_i (As := [.int j3_5, .int j1]) (rest := []) ⟨hx, hb, hml, hown, hts⟩ hK hN hA hP hD hS (c_X2_bidNow l D cI A j3_5 j1 tt v2 hev2) (cwV 2 hts gX2_getter_X2_bidNow rfl rfl rfl hd_X2_bidNow ⟨Nat.le_of_ble_eq_true rfl, Nat.le_of_ble_eq_true rfl⟩) (va_recv hK hP (ci := 2) (q0 := 0) rfl rfl) (bq_X2_X2_t A cI tt) rfl hl.1 rfl (Nat.le_of_ble_eq_true rfl) dX2_getter_16 ⟨Nat.le_of_ble_eq_true rfl, Nat.le_of_ble_eq_true rfl⟩ (fun H locs hP hD hS => ?_)
        refine lv_iload_n hx hb dX2_getter_19 rfl (lv_at hl 2 rfl) ?_
        refine lv_if_ge (tgt := 27) hx hb dX2_getter_20 (by decide) (fun c3 => ?_) (fun c3 => ?_)
        · have hf := hT hf c3
          refine lv_aload_n hx hb dX2_getter_27 rfl (lv_at hl 0 rfl) ?_
          refine lv_iload_n hx hb dX2_getter_28 rfl (lv_at hl 2 rfl) ?_
          refine lv_iload_n hx hb dX2_getter_29 rfl (lv_at hl 1 rfl) ?_
          obtain ⟨v4, hev4, hf⟩ := bS hf
          refine qV_i (As := [.int j2_5, .int j1]) (rest := [.int v2]) ⟨hx, hb, hml, hown, hts⟩ hK hN hA hP hD hS (c_X2_bidNow l D cI A j2_5 j1 tt v4 hev4) (cwV 2 hts gX2_getter_X2_bidNow rfl rfl rfl hd_X2_bidNow ⟨Nat.le_of_ble_eq_true rfl, Nat.le_of_ble_eq_true rfl⟩) (va_recv hK hP (ci := 2) (q0 := 0) rfl rfl) (bq_X2_X2_t A cI tt) rfl hl.1 rfl (Nat.le_of_ble_eq_true rfl) dX2_getter_30 ⟨Nat.le_of_ble_eq_true rfl, Nat.le_of_ble_eq_true rfl⟩ (fun H locs hP hD hS => ?_)
          refine lv_icmp_le (tgt := 38) hx hb dX2_getter_33 (by decide) (fun c5 => ?_) (fun c5 => ?_)
          · have hf := hT hf c5
            refine lv_iinc (v := (j3_5 + (1 : Int32))) (lv' := [(3, .int (j3_5 + (1 : Int32))), (0, .ref (A 0)), (1, .int j1), (2, .int j2_5)]) hx hb dX2_getter_38 hl (k := 3) rfl rfl (by decide) rfl (fun ls hl => ?_)
            refine lv_goto (tgt := 5) hx hb dX2_getter_41 (by decide) ?_
            exact (hWW _ _ _).mp (ih _ _ _ _ _ hf hP hD hS (lv_sub hl [1, 2, 3, 0] rfl))
          · have hf := hF hf c5
            refine lv_iload_n hx hb dX2_getter_36 rfl (lv_at hl 3 rfl) ?_
            refine lv_istore_n (lv' := [(2, .int j3_5), (0, .ref (A 0)), (1, .int j1), (3, .int j3_5)]) hx hb dX2_getter_37 rfl hl (by decide) rfl (fun ls hl => ?_)
            refine lv_iinc (v := (j3_5 + (1 : Int32))) (lv' := [(3, .int (j3_5 + (1 : Int32))), (2, .int j3_5), (0, .ref (A 0)), (1, .int j1)]) hx hb dX2_getter_38 hl (k := 3) rfl rfl (by decide) rfl (fun ls hl => ?_)
            refine lv_goto (tgt := 5) hx hb dX2_getter_41 (by decide) ?_
            exact (hWW _ _ _).mp (ih _ _ _ _ _ hf hP hD hS (lv_sub hl [2, 3, 1, 0] rfl))
        · have hf := hF hf c3
          refine lv_iconst (v := (0 : Int32)) hx hb dX2_getter_23 (by decide) ?_
          refine lv_goto (tgt := 33) hx hb dX2_getter_24 (by decide) ?_
          refine lv_icmp_le (tgt := 38) hx hb dX2_getter_33 (by decide) (fun c6 => ?_) (fun c6 => ?_)
          · have hf := hT hf c6
            refine lv_iinc (v := (j3_5 + (1 : Int32))) (lv' := [(3, .int (j3_5 + (1 : Int32))), (0, .ref (A 0)), (1, .int j1), (2, .int j2_5)]) hx hb dX2_getter_38 hl (k := 3) rfl rfl (by decide) rfl (fun ls hl => ?_)
            refine lv_goto (tgt := 5) hx hb dX2_getter_41 (by decide) ?_
            exact (hWW _ _ _).mp (ih _ _ _ _ _ hf hP hD hS (lv_sub hl [1, 2, 3, 0] rfl))
          · have hf := hF hf c6
            refine lv_iload_n hx hb dX2_getter_36 rfl (lv_at hl 3 rfl) ?_
            refine lv_istore_n (lv' := [(2, .int j3_5), (0, .ref (A 0)), (1, .int j1), (3, .int j3_5)]) hx hb dX2_getter_37 rfl hl (by decide) rfl (fun ls hl => ?_)
            refine lv_iinc (v := (j3_5 + (1 : Int32))) (lv' := [(3, .int (j3_5 + (1 : Int32))), (2, .int j3_5), (0, .ref (A 0)), (1, .int j1)]) hx hb dX2_getter_38 hl (k := 3) rfl rfl (by decide) rfl (fun ls hl => ?_)
            refine lv_goto (tgt := 5) hx hb dX2_getter_41 (by decide) ?_
            exact (hWW _ _ _).mp (ih _ _ _ _ _ hf hP hD hS (lv_sub hl [2, 3, 1, 0] rfl))
  exact (hWW _ _ _).mp (P5 _ _ _ _ _ _ hf hP hD hS (lv_sub hl [2, 3, 1, 0] rfl))
set_option maxHeartbeats 4000000 in
set_option maxRecDepth 100000 in
theorem c_X2_priceFor (l : Launch) (D : va_G) (cI : ClassId) (A : Nat → Nat) (j1 : Int32) (j2 : Int32) (tt : HS) (out : Int32) (hf : f_X2_priceFor j1 j2 tt = some out) : uI l D cI yX2_priceFor wsX2_priceFor ({ frames := 5, cells := 0, slots := 0, locals := 112 } : Room) [.ref (A 0), .int j1, .int j2] (wM A cI tt) (wM A cI tt) out := by
  intro sz
  refine Met.ofW (cc := cX2_priceFor) (maxL := 5) (ret := (some .int)) (by decide) rfl ?_
  intro p e s m args below meth c s₁ Bd hml hv
  obtain ⟨rfl, hsz, hP, hK, hD0, hN⟩ := hv
  have hx := Bd.exec
  have hb := Bd.bytes
  have hr := Bd.returns
  have hts := atoms_spec (ws := wsX2_priceFor) Bd.pre
  have hown : s.vm.findClass RX2 = some m.cls := findClass_of_methodNamed Bd.named
  have hlocks := Bd.notSynchronized
  subst hsz
  have hD := hD0.self (sz := s.heap.size)
  generalize hAe : va_A (wM A cI tt) s.heap.size = G at hD ⊢
  have hA : ∀ q : Nat, s.heap.size ≤ q → G q := fun q h => by rw [← hAe]; exact Or.inr h
  have hS : va_S G s.heap s.heap [] := va_S.rf
  have hP : va_P D vwCl (wM A cI tt) s.heap := hP
  have hl := lv_entry ([.ref (A 0), .int j1, .int j2]) (n := 5) (Nat.le_of_ble_eq_true rfl)
  rw [lg_entry_eq]
  generalize (lg_sl ([.ref (A 0), .int j1, .int j2]) ++ List.replicate (5 - (lg_sl ([.ref (A 0), .int j1, .int j2])).length) Slot.unset).toArray = ls at hl ⊢
  have hl : lv_has ls 5 [(0, .ref (A 0)), (1, .int j1), (2, .int j2)] := hl
  have hinM : ∀ w ∈ wsX20, w ∈ wsX2_priceFor := by decide +kernel
  have lk0 := hts (.fieldLink RX2 73 "LiesBoughtBackModel" "bidders" "I") (by decide +kernel)
  refine W_in ?_
  intro WW hWW
  refine (hWW _ _ _).mpr ?_
  unfold f_X2_priceFor at hf
  refine lv_iconst (v := (0 : Int32)) hx hb dX2_priceFor_0 (by decide) ?_
  refine lv_istore_n (lv' := [(3, .int (0 : Int32)), (0, .ref (A 0)), (1, .int j1), (2, .int j2)]) hx hb dX2_priceFor_1 rfl hl (by decide) rfl (fun ls hl => ?_)
  refine lv_iconst (v := (0 : Int32)) hx hb dX2_priceFor_2 (by decide) ?_
  refine lv_istore (lv' := [(4, .int (0 : Int32)), (3, .int (0 : Int32)), (0, .ref (A 0)), (1, .int j1), (2, .int j2)]) hx hb dX2_priceFor_3 hl (by decide) rfl (fun ls hl => ?_)
  obtain ⟨K49, hK49, hf⟩ := jnS hf
  have J49 : ∀ (j3_49 : Int32) (H : Heap) (locs : List Loc) (ls : Array Slot), K49 j3_49 = some out → va_P D vwCl (wM A cI tt) H → va_D G (wM A cI tt) → va_S G s.heap H locs → lv_has ls 5 [(0, .ref (A 0)), (1, .int j1), (2, .int j2), (3, .int j3_49)] → WW H locs (F0 m 49 ls []) := by
    intro j3_49 H locs ls hf hP hD hS hl
    subst hK49
    refine (hWW _ _ _).mpr ?_
    refine lv_iload_n hx hb dX2_priceFor_49 rfl (lv_at hl 3 rfl) ?_
    refine lv_iconst (v := (1 : Int32)) hx hb dX2_priceFor_50 (by decide) ?_
    refine lv_iadd hx hb dX2_priceFor_51 ?_
    refine lv_aload_n hx hb dX2_priceFor_52 rfl (lv_at hl 0 rfl) ?_
    refine lv_iload_n hx hb dX2_priceFor_53 rfl (lv_at hl 1 rfl) ?_
    refine lv_iload_n hx hb dX2_priceFor_54 rfl (lv_at hl 2 rfl) ?_
    obtain ⟨v1, hev1, hf⟩ := bS hf
    refine qV_i (As := [.int j1, .int j2]) (rest := [.int (j3_49 + (1 : Int32))]) ⟨hx, hb, hml, hown, hts⟩ hK hN hA hP hD hS (c_X2_bidNow l D cI A j1 j2 tt v1 hev1) (cwV 2 hts gX2_priceFor_X2_bidNow rfl rfl rfl hd_X2_bidNow ⟨Nat.le_of_ble_eq_true rfl, Nat.le_of_ble_eq_true rfl⟩) (va_recv hK hP (ci := 2) (q0 := 0) rfl rfl) (bq_X2_X2_t A cI tt) rfl hl.1 rfl (Nat.le_of_ble_eq_true rfl) dX2_priceFor_55 ⟨Nat.le_of_ble_eq_true rfl, Nat.le_of_ble_eq_true rfl⟩ (fun H locs hP hD hS => ?_)
    refine lv_icmp_ge (tgt := 67) hx hb dX2_priceFor_58 (by decide) (fun c2 => ?_) (fun c2 => ?_)
    · have hf := hT hf c2
      refine lv_aload_n hx hb dX2_priceFor_67 rfl (lv_at hl 0 rfl) ?_
      refine lv_iload_n hx hb dX2_priceFor_68 rfl (lv_at hl 1 rfl) ?_
      refine lv_iload_n hx hb dX2_priceFor_69 rfl (lv_at hl 2 rfl) ?_
      obtain ⟨v3, hev3, hf⟩ := bS hf
      refine qV_i (As := [.int j1, .int j2]) (rest := []) ⟨hx, hb, hml, hown, hts⟩ hK hN hA hP hD hS (c_X2_bidNow l D cI A j1 j2 tt v3 hev3) (cwV 2 hts gX2_priceFor_X2_bidNow rfl rfl rfl hd_X2_bidNow ⟨Nat.le_of_ble_eq_true rfl, Nat.le_of_ble_eq_true rfl⟩) (va_recv hK hP (ci := 2) (q0 := 0) rfl rfl) (bq_X2_X2_t A cI tt) rfl hl.1 rfl (Nat.le_of_ble_eq_true rfl) dX2_priceFor_70 ⟨Nat.le_of_ble_eq_true rfl, Nat.le_of_ble_eq_true rfl⟩ (fun H locs hP hD hS => ?_)
      obtain rfl := Option.some.inj hf
      exact W.iret (v := v3) hx hb hr (fun t ht hW => ⟨⟨v3, (), rfl, rfl, hPt ht hP⟩, hS.F ht⟩) hS.2.2 dX2_priceFor_73
    · have hf := hF hf c2
      refine lv_iload_n hx hb dX2_priceFor_61 rfl (lv_at hl 3 rfl) ?_
      refine lv_iconst (v := (1 : Int32)) hx hb dX2_priceFor_62 (by decide) ?_
      refine lv_iadd hx hb dX2_priceFor_63 ?_
      refine lv_goto (tgt := 73) hx hb dX2_priceFor_64 (by decide) ?_
      obtain rfl := Option.some.inj hf
      exact W.iret (v := (j3_49 + (1 : Int32))) hx hb hr (fun t ht hW => ⟨⟨(j3_49 + (1 : Int32)), (), rfl, rfl, hPt ht hP⟩, hS.F ht⟩) hS.2.2 dX2_priceFor_73
  have P5 : ∀ (n' : Nat) (j3_5 : Int32) (j4_5 : Int32) (H : Heap) (locs : List Loc) (ls : Array Slot), L_X2_priceFor_5 j1 j2 tt K49 n' j3_5 j4_5 = some out → va_P D vwCl (wM A cI tt) H → va_D G (wM A cI tt) → va_S G s.heap H locs → lv_has ls 5 [(0, .ref (A 0)), (1, .int j1), (2, .int j2), (3, .int j3_5), (4, .int j4_5)] → WW H locs (F0 m 5 ls []) := by
    intro n'
    induction n' with
    | zero => intro j3_5 j4_5 H locs ls hf; exact absurd (show (none : Option (Int32)) = some out from hf) (fun q => by cases q)
    | succ n' ih =>
      intro j3_5 j4_5 H locs ls hf hP hD hS hl
      rw [L_X2_priceFor_5] at hf
      refine (hWW _ _ _).mpr ?_
      refine lv_iload hx hb dX2_priceFor_5 (lv_at hl 4 rfl) ?_
      refine lv_aload_n hx hb dX2_priceFor_7 rfl (lv_at hl 0 rfl) ?_
      refine va_get (D := D) (ci := 2) (v := .int (tt 21 0)) (C := RX2) (T := TX2) (N := 31) hx hb hts hinM hown hK hP 0 rfl rfl 12 (by decide) lk0 (fun _ h9 => h9) rfl dX2_priceFor_8 ?_
      refine lv_icmp_ge (tgt := 49) hx hb dX2_priceFor_11 (by decide) (fun c4 => ?_) (fun c4 => ?_)
      · have hf := hT hf c4
        exact (hWW _ _ _).mp (J49 _ _ _ _ hf hP hD hS (lv_sub hl [0, 1, 2, 3] rfl))
      · have hf := hF hf c4
        refine lv_iload hx hb dX2_priceFor_14 (lv_at hl 4 rfl) ?_
        refine lv_iload_n hx hb dX2_priceFor_16 rfl (lv_at hl 1 rfl) ?_
        refine lv_icmp_eq (tgt := 41) hx hb dX2_priceFor_17 (by decide) (fun c5 => ?_) (fun c5 => ?_)
        · have hf := hT hf c5
          refine lv_iload_n hx hb dX2_priceFor_41 rfl (lv_at hl 3 rfl) ?_
          refine lv_istore_n (lv' := [(3, .int j3_5), (0, .ref (A 0)), (1, .int j1), (2, .int j2), (4, .int j4_5)]) hx hb dX2_priceFor_42 rfl hl (by decide) rfl (fun ls hl => ?_)
          refine lv_iinc (v := (j4_5 + (1 : Int32))) (lv' := [(4, .int (j4_5 + (1 : Int32))), (3, .int j3_5), (0, .ref (A 0)), (1, .int j1), (2, .int j2)]) hx hb dX2_priceFor_43 hl (k := 4) rfl rfl (by decide) rfl (fun ls hl => ?_)
          refine lv_goto (tgt := 5) hx hb dX2_priceFor_46 (by decide) ?_
          exact (hWW _ _ _).mp (ih _ _ _ _ _ hf hP hD hS (lv_sub hl [2, 3, 4, 1, 0] rfl))
        · have hf := hF hf c5
          refine lv_aload_n hx hb dX2_priceFor_20 rfl (lv_at hl 0 rfl) ?_
          refine lv_iload hx hb dX2_priceFor_21 (lv_at hl 4 rfl) ?_
          refine lv_iload_n hx hb dX2_priceFor_23 rfl (lv_at hl 2 rfl) ?_
          obtain ⟨v6, hev6, hf⟩ := bS hf
          refine qV_i (As := [.int j4_5, .int j2]) (rest := []) ⟨hx, hb, hml, hown, hts⟩ hK hN hA hP hD hS (c_X2_bidNow l D cI A j4_5 j2 tt v6 hev6) (cwV 2 hts gX2_priceFor_X2_bidNow rfl rfl rfl hd_X2_bidNow ⟨Nat.le_of_ble_eq_true rfl, Nat.le_of_ble_eq_true rfl⟩) (va_recv hK hP (ci := 2) (q0 := 0) rfl rfl) (bq_X2_X2_t A cI tt) rfl hl.1 rfl (Nat.le_of_ble_eq_true rfl) dX2_priceFor_24 ⟨Nat.le_of_ble_eq_true rfl, Nat.le_of_ble_eq_true rfl⟩ (fun H locs hP hD hS => ?_)
          refine lv_iload_n hx hb dX2_priceFor_27 rfl (lv_at hl 3 rfl) ?_
          refine lv_icmp_le (tgt := 41) hx hb dX2_priceFor_28 (by decide) (fun c7 => ?_) (fun c7 => ?_)
          · have hf := hT hf c7
            refine lv_iload_n hx hb dX2_priceFor_41 rfl (lv_at hl 3 rfl) ?_
            refine lv_istore_n (lv' := [(3, .int j3_5), (0, .ref (A 0)), (1, .int j1), (2, .int j2), (4, .int j4_5)]) hx hb dX2_priceFor_42 rfl hl (by decide) rfl (fun ls hl => ?_)
            refine lv_iinc (v := (j4_5 + (1 : Int32))) (lv' := [(4, .int (j4_5 + (1 : Int32))), (3, .int j3_5), (0, .ref (A 0)), (1, .int j1), (2, .int j2)]) hx hb dX2_priceFor_43 hl (k := 4) rfl rfl (by decide) rfl (fun ls hl => ?_)
            refine lv_goto (tgt := 5) hx hb dX2_priceFor_46 (by decide) ?_
            exact (hWW _ _ _).mp (ih _ _ _ _ _ hf hP hD hS (lv_sub hl [2, 3, 4, 1, 0] rfl))
          · have hf := hF hf c7
            refine lv_aload_n hx hb dX2_priceFor_31 rfl (lv_at hl 0 rfl) ?_
            refine lv_iload hx hb dX2_priceFor_32 (lv_at hl 4 rfl) ?_
            refine lv_iload_n hx hb dX2_priceFor_34 rfl (lv_at hl 2 rfl) ?_
            obtain ⟨v8, hev8, hf⟩ := bS hf
            refine qV_i (As := [.int j4_5, .int j2]) (rest := []) ⟨hx, hb, hml, hown, hts⟩ hK hN hA hP hD hS (c_X2_bidNow l D cI A j4_5 j2 tt v8 hev8) (cwV 2 hts gX2_priceFor_X2_bidNow rfl rfl rfl hd_X2_bidNow ⟨Nat.le_of_ble_eq_true rfl, Nat.le_of_ble_eq_true rfl⟩) (va_recv hK hP (ci := 2) (q0 := 0) rfl rfl) (bq_X2_X2_t A cI tt) rfl hl.1 rfl (Nat.le_of_ble_eq_true rfl) dX2_priceFor_35 ⟨Nat.le_of_ble_eq_true rfl, Nat.le_of_ble_eq_true rfl⟩ (fun H locs hP hD hS => ?_)
            refine lv_goto (tgt := 42) hx hb dX2_priceFor_38 (by decide) ?_
            refine lv_istore_n (lv' := [(3, .int v8), (0, .ref (A 0)), (1, .int j1), (2, .int j2), (4, .int j4_5)]) hx hb dX2_priceFor_42 rfl hl (by decide) rfl (fun ls hl => ?_)
            refine lv_iinc (v := (j4_5 + (1 : Int32))) (lv' := [(4, .int (j4_5 + (1 : Int32))), (3, .int v8), (0, .ref (A 0)), (1, .int j1), (2, .int j2)]) hx hb dX2_priceFor_43 hl (k := 4) rfl rfl (by decide) rfl (fun ls hl => ?_)
            refine lv_goto (tgt := 5) hx hb dX2_priceFor_46 (by decide) ?_
            exact (hWW _ _ _).mp (ih _ _ _ _ _ hf hP hD hS (lv_sub hl [2, 3, 4, 1, 0] rfl))
  exact (hWW _ _ _).mp (P5 _ _ _ _ _ _ hf hP hD hS (lv_sub hl [2, 3, 4, 1, 0] rfl))
set_option maxHeartbeats 4000000 in
set_option maxRecDepth 100000 in
theorem c_X2_sellsOne (l : Launch) (D : va_G) (cI : ClassId) (A : Nat → Nat) (j1 : Int32) (tt : HS) (out : Int32 × HS) (hf : f_X2_sellsOne j1 tt = some out) : uI l D cI yX2_sellsOne wsX2_sellsOne ({ frames := 6, cells := 0, slots := 0, locals := 136 } : Room) [.ref (A 0), .int j1] (wM A cI tt) (wM A cI out.2) out.1 := by
  intro sz
  refine Met.ofW (cc := cX2_sellsOne) (maxL := 5) (ret := (some .int)) (by decide) rfl ?_
  intro p e s m args below meth c s₁ Bd hml hv
  obtain ⟨rfl, hsz, hP, hK, hD0, hN⟩ := hv
  have hx := Bd.exec
  have hb := Bd.bytes
  have hr := Bd.returns
  have hts := atoms_spec (ws := wsX2_sellsOne) Bd.pre
  have hown : s.vm.findClass RX2 = some m.cls := findClass_of_methodNamed Bd.named
  have hlocks := Bd.notSynchronized
  subst hsz
  have hD := hD0.self (sz := s.heap.size)
  generalize hAe : va_A (wM A cI tt) s.heap.size = G at hD ⊢
  have hA : ∀ q : Nat, s.heap.size ≤ q → G q := fun q h => by rw [← hAe]; exact Or.inr h
  have hS : va_S G s.heap s.heap [] := va_S.rf
  have hP : va_P D vwCl (wM A cI tt) s.heap := hP
  have hl := lv_entry ([.ref (A 0), .int j1]) (n := 5) (Nat.le_of_ble_eq_true rfl)
  rw [lg_entry_eq]
  generalize (lg_sl ([.ref (A 0), .int j1]) ++ List.replicate (5 - (lg_sl ([.ref (A 0), .int j1])).length) Slot.unset).toArray = ls at hl ⊢
  have hl : lv_has ls 5 [(0, .ref (A 0)), (1, .int j1)] := hl
  have hinM : ∀ w ∈ wsX20, w ∈ wsX2_sellsOne := by decide +kernel
  have lk0 := hts (.fieldLink RX2 37 "LiesBoughtBackModel" "purse" "[I") (by decide +kernel)
  have lk1 := hts (.fieldLink RX2 58 "LiesBoughtBackModel" "paid" "[I") (by decide +kernel)
  have lk2 := hts (.fieldLink RX2 25 "LiesBoughtBackModel" "holder" "[I") (by decide +kernel)
  have lk3 := hts (.fieldLink RX2 19 "LiesBoughtBackModel" "teller" "[I") (by decide +kernel)
  have lk4 := hts (.fieldLink RX2 40 "LiesBoughtBackModel" "belief" "[I") (by decide +kernel)
  refine W_in ?_
  intro WW hWW
  refine (hWW _ _ _).mpr ?_
  unfold f_X2_sellsOne at hf
  refine lv_aload_n hx hb dX2_sellsOne_0 rfl (lv_at hl 0 rfl) ?_
  refine lv_iload_n hx hb dX2_sellsOne_1 rfl (lv_at hl 1 rfl) ?_
  obtain ⟨v1, hev1, hf⟩ := bS hf
  refine qV_i (As := [.int j1]) (rest := []) ⟨hx, hb, hml, hown, hts⟩ hK hN hA hP hD hS (c_X2_getter l D cI A j1 tt v1 hev1) (cwV 1 hts gX2_sellsOne_X2_getter rfl rfl rfl hd_X2_getter ⟨Nat.le_of_ble_eq_true rfl, Nat.le_of_ble_eq_true rfl⟩) (va_recv hK hP (ci := 2) (q0 := 0) rfl rfl) (bq_X2_X2_t A cI tt) rfl hl.1 rfl (Nat.le_of_ble_eq_true rfl) dX2_sellsOne_2 ⟨Nat.le_of_ble_eq_true rfl, Nat.le_of_ble_eq_true rfl⟩ (fun H locs hP hD hS => ?_)
  refine lv_istore_n (lv' := [(2, .int v1), (0, .ref (A 0)), (1, .int j1)]) hx hb dX2_sellsOne_5 rfl hl (by decide) rfl (fun ls hl => ?_)
  refine lv_iload_n hx hb dX2_sellsOne_6 rfl (lv_at hl 0 rfl) ?_
  refine lv_if_ge (tgt := 13) hx hb dX2_sellsOne_7 (by decide) (fun c2 => ?_) (fun c2 => ?_)
  · have hf := hT hf c2
    refine lv_aload_n hx hb dX2_sellsOne_13 rfl (lv_at hl 1 rfl) ?_
    refine lv_iload_n hx hb dX2_sellsOne_14 rfl (lv_at hl 0 rfl) ?_
    refine lv_iload_n hx hb dX2_sellsOne_15 rfl (lv_at hl 2 rfl) ?_
    obtain ⟨v3, hev3, hf⟩ := bS hf
    refine qV_i (As := [.int v1, .int j1]) (rest := []) ⟨hx, hb, hml, hown, hts⟩ hK hN hA hP hD hS (c_X2_priceFor l D cI A v1 j1 tt v3 hev3) (cwV 2 hts gX2_sellsOne_X2_priceFor rfl rfl rfl hd_X2_priceFor ⟨Nat.le_of_ble_eq_true rfl, Nat.le_of_ble_eq_true rfl⟩) (va_recv hK hP (ci := 2) (q0 := 0) rfl rfl) (bq_X2_X2_t A cI tt) rfl hl.1 rfl (Nat.le_of_ble_eq_true rfl) dX2_sellsOne_16 ⟨Nat.le_of_ble_eq_true rfl, Nat.le_of_ble_eq_true rfl⟩ (fun H locs hP hD hS => ?_)
    refine lv_istore_n (lv' := [(3, .int v3), (2, .int v1), (0, .ref (A 0)), (1, .int j1)]) hx hb dX2_sellsOne_19 rfl hl (by decide) rfl (fun ls hl => ?_)
    refine lv_aload_n hx hb dX2_sellsOne_20 rfl (lv_at hl 2 rfl) ?_
    refine lv_iload_n hx hb dX2_sellsOne_21 rfl (lv_at hl 3 rfl) ?_
    obtain ⟨v4, hev4, hf⟩ := bS hf
    refine qV_i (As := [.int j1]) (rest := []) ⟨hx, hb, hml, hown, hts⟩ hK hN hA hP hD hS (c_X2_worth l D cI A j1 tt v4 hev4) (cwV 1 hts gX2_sellsOne_X2_worth rfl rfl rfl hd_X2_worth ⟨Nat.le_of_ble_eq_true rfl, Nat.le_of_ble_eq_true rfl⟩) (va_recv hK hP (ci := 2) (q0 := 0) rfl rfl) (bq_X2_X2_t A cI tt) rfl hl.1 rfl (Nat.le_of_ble_eq_true rfl) dX2_sellsOne_22 ⟨Nat.le_of_ble_eq_true rfl, Nat.le_of_ble_eq_true rfl⟩ (fun H locs hP hD hS => ?_)
    refine lv_iconst (v := (4 : Int32)) hx hb dX2_sellsOne_25 (by decide) ?_
    refine lv_idiv hx hb dX2_sellsOne_26 (by decide) ?_
    refine lv_iconst (v := (1 : Int32)) hx hb dX2_sellsOne_27 (by decide) ?_
    refine lv_iadd hx hb dX2_sellsOne_28 ?_
    refine lv_istore (lv' := [(4, .int ((v4 / (4 : Int32)) + (1 : Int32))), (3, .int v3), (2, .int v1), (0, .ref (A 0)), (1, .int j1)]) hx hb dX2_sellsOne_29 hl (by decide) rfl (fun ls hl => ?_)
    refine lv_aload_n hx hb dX2_sellsOne_31 rfl (lv_at hl 3 rfl) ?_
    refine va_get (D := D) (ci := 2) (v := .ref (A 10)) (C := RX2) (T := TX2) (N := 31) hx hb hts hinM hown hK hP 0 rfl rfl 9 (by decide) lk0 (fun _ h9 => h9) rfl dX2_sellsOne_32 ?_
    refine lv_iload_n hx hb dX2_sellsOne_35 rfl (lv_at hl 2 rfl) ?_
    refine lv_dup2_11 hx hb dX2_sellsOne_36 rfl rfl ?_
    obtain ⟨v5, he, hf⟩ := bS hf
    refine x_iald hx hb hK hP 10 (n := 6) rfl he dX2_sellsOne_37 ?_
    refine lv_iload_n hx hb dX2_sellsOne_38 rfl (lv_at hl 1 rfl) ?_
    refine lv_isub hx hb dX2_sellsOne_39 ?_
    obtain ⟨v6, he, hf⟩ := bS hf
    obtain ⟨tt_v7, ett_v7, hf⟩ := jnS hf
    refine x_iast (ws' := (wM A cI tt_v7)) hx hb hK hP hD hS 10 (n := 6) rfl he ((sa_X2_t_9 A cI tt v6).trans (congrArg (fun z => wM A cI z) ett_v7.symm)) dX2_sellsOne_40 (fun H locs hP hD hS => ?_)
    refine lv_aload_n hx hb dX2_sellsOne_41 rfl (lv_at hl 3 rfl) ?_
    refine va_get (D := D) (ci := 2) (v := .ref (A 17)) (C := RX2) (T := TX2) (N := 31) hx hb hts hinM hown hK hP 0 rfl rfl 26 (by decide) lk1 (fun _ h9 => h9) rfl dX2_sellsOne_42 ?_
    refine lv_iload_n hx hb dX2_sellsOne_45 rfl (lv_at hl 2 rfl) ?_
    refine lv_dup2_11 hx hb dX2_sellsOne_46 rfl rfl ?_
    obtain ⟨v8, he, hf⟩ := bS hf
    refine x_iald hx hb hK hP 17 (n := 6) rfl he dX2_sellsOne_47 ?_
    refine lv_iload_n hx hb dX2_sellsOne_48 rfl (lv_at hl 1 rfl) ?_
    refine lv_iadd hx hb dX2_sellsOne_49 ?_
    obtain ⟨v9, he, hf⟩ := bS hf
    obtain ⟨tt_v10, ett_v10, hf⟩ := jnS hf
    refine x_iast (ws' := (wM A cI tt_v10)) hx hb hK hP hD hS 17 (n := 6) rfl he ((sa_X2_t_16 A cI tt_v7 v9).trans (congrArg (fun z => wM A cI z) ett_v10.symm)) dX2_sellsOne_50 (fun H locs hP hD hS => ?_)
    refine lv_aload_n hx hb dX2_sellsOne_51 rfl (lv_at hl 3 rfl) ?_
    refine va_get (D := D) (ci := 2) (v := .ref (A 6)) (C := RX2) (T := TX2) (N := 31) hx hb hts hinM hown hK hP 0 rfl rfl 5 (by decide) lk2 (fun _ h9 => h9) rfl dX2_sellsOne_52 ?_
    refine lv_iload_n hx hb dX2_sellsOne_55 rfl (lv_at hl 4 rfl) ?_
    refine lv_iload_n hx hb dX2_sellsOne_56 rfl (lv_at hl 2 rfl) ?_
    refine lv_iconst (v := (1 : Int32)) hx hb dX2_sellsOne_57 (by decide) ?_
    refine lv_iadd hx hb dX2_sellsOne_58 ?_
    obtain ⟨v11, he, hf⟩ := bS hf
    obtain ⟨tt_v12, ett_v12, hf⟩ := jnS hf
    refine x_iast (ws' := (wM A cI tt_v12)) hx hb hK hP hD hS 6 (n := 8) rfl he ((sa_X2_t_5 A cI tt_v10 v11).trans (congrArg (fun z => wM A cI z) ett_v12.symm)) dX2_sellsOne_59 (fun H locs hP hD hS => ?_)
    refine lv_aload_n hx hb dX2_sellsOne_60 rfl (lv_at hl 3 rfl) ?_
    refine va_get (D := D) (ci := 2) (v := .ref (A 4)) (C := RX2) (T := TX2) (N := 31) hx hb hts hinM hown hK hP 0 rfl rfl 3 (by decide) lk3 (fun _ h9 => h9) rfl dX2_sellsOne_61 ?_
    refine lv_iload_n hx hb dX2_sellsOne_64 rfl (lv_at hl 4 rfl) ?_
    obtain ⟨v13, he, hf⟩ := bS hf
    refine x_iald hx hb hK hP 4 (n := 8) rfl he dX2_sellsOne_65 ?_
    refine lv_iload_n hx hb dX2_sellsOne_66 rfl (lv_at hl 2 rfl) ?_
    refine lv_icmp_ne (tgt := 92) hx hb dX2_sellsOne_67 (by decide) (fun c14 => ?_) (fun c14 => ?_)
    · have hf := hF hf c14
      refine lv_aload_n hx hb dX2_sellsOne_92 rfl (lv_at hl 3 rfl) ?_
      refine lv_aload_n hx hb dX2_sellsOne_93 rfl (lv_at hl 3 rfl) ?_
      refine va_get (D := D) (ci := 2) (v := .ref (A 4)) (C := RX2) (T := TX2) (N := 31) hx hb hts hinM hown hK hP 0 rfl rfl 3 (by decide) lk3 (fun _ h9 => h9) rfl dX2_sellsOne_94 ?_
      refine lv_iload_n hx hb dX2_sellsOne_97 rfl (lv_at hl 4 rfl) ?_
      obtain ⟨v15, he, hf⟩ := bS hf
      refine x_iald hx hb hK hP 4 (n := 8) rfl he dX2_sellsOne_98 ?_
      refine qV_i (As := [.int v15]) (rest := []) ⟨hx, hb, hml, hown, hts⟩ hK hN hA hP hD hS (c_X2_isBidder l D cI A v15 tt_v12 (f_X2_isBidder v15 tt_v12) rfl) (cwV 1 hts gX2_sellsOne_X2_isBidder rfl rfl rfl hd_X2_isBidder ⟨Nat.le_of_ble_eq_true rfl, Nat.le_of_ble_eq_true rfl⟩) (va_recv hK hP (ci := 2) (q0 := 0) rfl rfl) (bq_X2_X2_t A cI tt_v12) rfl hl.1 rfl (Nat.le_of_ble_eq_true rfl) dX2_sellsOne_99 ⟨Nat.le_of_ble_eq_true rfl, Nat.le_of_ble_eq_true rfl⟩ (fun H locs hP hD hS => ?_)
      refine lv_if_eq (tgt := 135) hx hb dX2_sellsOne_102 (by decide) (fun c16 => ?_) (fun c16 => ?_)
      · have hf := hT hf c16
        refine lv_iload_n hx hb dX2_sellsOne_135 rfl (lv_at hl 2 rfl) ?_
        obtain rfl := Option.some.inj hf
        exact W.iret (v := v1) hx hb hr (fun t ht hW => ⟨⟨v1, (), rfl, rfl, hPt ht hP⟩, hS.F ht⟩) hS.2.2 dX2_sellsOne_136
      · have hf := hF hf c16
        refine lv_aload_n hx hb dX2_sellsOne_105 rfl (lv_at hl 3 rfl) ?_
        refine va_get (D := D) (ci := 2) (v := .ref (A 11)) (C := RX2) (T := TX2) (N := 31) hx hb hts hinM hown hK hP 0 rfl rfl 10 (by decide) lk4 (fun _ h9 => h9) rfl dX2_sellsOne_106 ?_
        refine lv_aload_n hx hb dX2_sellsOne_109 rfl (lv_at hl 3 rfl) ?_
        refine va_get (D := D) (ci := 2) (v := .ref (A 4)) (C := RX2) (T := TX2) (N := 31) hx hb hts hinM hown hK hP 0 rfl rfl 3 (by decide) lk3 (fun _ h9 => h9) rfl dX2_sellsOne_110 ?_
        refine lv_iload_n hx hb dX2_sellsOne_113 rfl (lv_at hl 4 rfl) ?_
        obtain ⟨v17, he, hf⟩ := bS hf
        refine x_iald hx hb hK hP 4 (n := 8) rfl he dX2_sellsOne_114 ?_
        refine lv_aload_n hx hb dX2_sellsOne_115 rfl (lv_at hl 3 rfl) ?_
        refine va_get (D := D) (ci := 2) (v := .ref (A 11)) (C := RX2) (T := TX2) (N := 31) hx hb hts hinM hown hK hP 0 rfl rfl 10 (by decide) lk4 (fun _ h9 => h9) rfl dX2_sellsOne_116 ?_
        refine lv_aload_n hx hb dX2_sellsOne_119 rfl (lv_at hl 3 rfl) ?_
        refine va_get (D := D) (ci := 2) (v := .ref (A 4)) (C := RX2) (T := TX2) (N := 31) hx hb hts hinM hown hK hP 0 rfl rfl 3 (by decide) lk3 (fun _ h9 => h9) rfl dX2_sellsOne_120 ?_
        refine lv_iload_n hx hb dX2_sellsOne_123 rfl (lv_at hl 4 rfl) ?_
        obtain ⟨v18, he, hf⟩ := bS hf
        refine x_iald hx hb hK hP 4 (n := 8) rfl he dX2_sellsOne_124 ?_
        obtain ⟨v19, he, hf⟩ := bS hf
        refine x_iald hx hb hK hP 11 (n := 6) rfl he dX2_sellsOne_125 ?_
        refine lv_iload hx hb dX2_sellsOne_126 (lv_at hl 0 rfl) ?_
        refine lv_isub hx hb dX2_sellsOne_128 ?_
        refine lv_bipush (v := (99 : Int32)) hx hb dX2_sellsOne_129 (by decide) ?_
        refine qS_i (As := [.int (v19 - ((v4 / (4 : Int32)) + (1 : Int32))), .int (99 : Int32)]) (rest := [.int v17, .ref (A 11)]) ⟨hx, hb, hml, hown, hts⟩ hK hN hA hP hD hS (c_X2_held l D cI (v19 - ((v4 / (4 : Int32)) + (1 : Int32))) (99 : Int32) (f_X2_held (v19 - ((v4 / (4 : Int32)) + (1 : Int32))) (99 : Int32)) rfl) (va_cwS 2 hts gX2_sellsOne_X2_held rfl rfl rfl hd_X2_held.2 ⟨Nat.le_of_ble_eq_true rfl, Nat.le_of_ble_eq_true rfl⟩) Bp_e rfl hl.1 rfl (Nat.le_of_ble_eq_true rfl) dX2_sellsOne_131 ⟨Nat.le_of_ble_eq_true rfl, Nat.le_of_ble_eq_true rfl⟩ (fun H locs hP hD hS => ?_)
        obtain ⟨v20, he, hf⟩ := bS hf
        obtain ⟨tt_v21, ett_v21, hf⟩ := jnS hf
        refine x_iast (ws' := (wM A cI tt_v21)) hx hb hK hP hD hS 11 (n := 6) rfl he ((sa_X2_t_10 A cI tt_v12 v20).trans (congrArg (fun z => wM A cI z) ett_v21.symm)) dX2_sellsOne_134 (fun H locs hP hD hS => ?_)
        refine lv_iload_n hx hb dX2_sellsOne_135 rfl (lv_at hl 2 rfl) ?_
        obtain rfl := Option.some.inj hf
        exact W.iret (v := v1) hx hb hr (fun t ht hW => ⟨⟨v1, (), rfl, rfl, hPt ht hP⟩, hS.F ht⟩) hS.2.2 dX2_sellsOne_136
    · have hf := hT hf c14
      refine lv_aload_n hx hb dX2_sellsOne_70 rfl (lv_at hl 3 rfl) ?_
      refine va_get (D := D) (ci := 2) (v := .ref (A 11)) (C := RX2) (T := TX2) (N := 31) hx hb hts hinM hown hK hP 0 rfl rfl 10 (by decide) lk4 (fun _ h9 => h9) rfl dX2_sellsOne_71 ?_
      refine lv_iload_n hx hb dX2_sellsOne_74 rfl (lv_at hl 2 rfl) ?_
      refine lv_aload_n hx hb dX2_sellsOne_75 rfl (lv_at hl 3 rfl) ?_
      refine va_get (D := D) (ci := 2) (v := .ref (A 11)) (C := RX2) (T := TX2) (N := 31) hx hb hts hinM hown hK hP 0 rfl rfl 10 (by decide) lk4 (fun _ h9 => h9) rfl dX2_sellsOne_76 ?_
      refine lv_iload_n hx hb dX2_sellsOne_79 rfl (lv_at hl 2 rfl) ?_
      obtain ⟨v22, he, hf⟩ := bS hf
      refine x_iald hx hb hK hP 11 (n := 6) rfl he dX2_sellsOne_80 ?_
      refine lv_iconst (v := (2 : Int32)) hx hb dX2_sellsOne_81 (by decide) ?_
      refine lv_iadd hx hb dX2_sellsOne_82 ?_
      refine lv_bipush (v := (99 : Int32)) hx hb dX2_sellsOne_83 (by decide) ?_
      refine qS_i (As := [.int (v22 + (2 : Int32)), .int (99 : Int32)]) (rest := [.int v1, .ref (A 11)]) ⟨hx, hb, hml, hown, hts⟩ hK hN hA hP hD hS (c_X2_held l D cI (v22 + (2 : Int32)) (99 : Int32) (f_X2_held (v22 + (2 : Int32)) (99 : Int32)) rfl) (va_cwS 2 hts gX2_sellsOne_X2_held rfl rfl rfl hd_X2_held.2 ⟨Nat.le_of_ble_eq_true rfl, Nat.le_of_ble_eq_true rfl⟩) Bp_e rfl hl.1 rfl (Nat.le_of_ble_eq_true rfl) dX2_sellsOne_85 ⟨Nat.le_of_ble_eq_true rfl, Nat.le_of_ble_eq_true rfl⟩ (fun H locs hP hD hS => ?_)
      obtain ⟨v23, he, hf⟩ := bS hf
      obtain ⟨tt_v24, ett_v24, hf⟩ := jnS hf
      refine x_iast (ws' := (wM A cI tt_v24)) hx hb hK hP hD hS 11 (n := 6) rfl he ((sa_X2_t_10 A cI tt_v12 v23).trans (congrArg (fun z => wM A cI z) ett_v24.symm)) dX2_sellsOne_88 (fun H locs hP hD hS => ?_)
      refine lv_goto (tgt := 135) hx hb dX2_sellsOne_89 (by decide) ?_
      refine lv_iload_n hx hb dX2_sellsOne_135 rfl (lv_at hl 2 rfl) ?_
      obtain rfl := Option.some.inj hf
      exact W.iret (v := v1) hx hb hr (fun t ht hW => ⟨⟨v1, (), rfl, rfl, hPt ht hP⟩, hS.F ht⟩) hS.2.2 dX2_sellsOne_136
  · have hf := hF hf c2
    refine lv_bipush (v := (-9 : Int32)) hx hb dX2_sellsOne_10 (by decide) ?_
    obtain rfl := Option.some.inj hf
    exact W.iret (v := (-9 : Int32)) hx hb hr (fun t ht hW => ⟨⟨(-9 : Int32), (), rfl, rfl, hPt ht hP⟩, hS.F ht⟩) hS.2.2 dX2_sellsOne_12
set_option maxHeartbeats 4000000 in
set_option maxRecDepth 100000 in
theorem c_X2_goesMonth (l : Launch) (D : va_G) (cI : ClassId) (A : Nat → Nat) (j1 : Int32) (tt : HS) (out : HS) (hf : f_X2_goesMonth j1 tt = some out) : uV l D cI yX2_goesMonth wsX2_goesMonth ({ frames := 7, cells := 0, slots := 0, locals := 160 } : Room) [.ref (A 0), .int j1] (wM A cI tt) (wM A cI out) := by
  intro sz
  refine Met.ofW (cc := cX2_goesMonth) (maxL := 3) (ret := none) (by decide) rfl ?_
  intro p e s m args below meth c s₁ Bd hml hv
  obtain ⟨rfl, hsz, hP, hK, hD0, hN⟩ := hv
  have hx := Bd.exec
  have hb := Bd.bytes
  have hr := Bd.returns
  have hts := atoms_spec (ws := wsX2_goesMonth) Bd.pre
  have hown : s.vm.findClass RX2 = some m.cls := findClass_of_methodNamed Bd.named
  have hlocks := Bd.notSynchronized
  subst hsz
  have hD := hD0.self (sz := s.heap.size)
  generalize hAe : va_A (wM A cI tt) s.heap.size = G at hD ⊢
  have hA : ∀ q : Nat, s.heap.size ≤ q → G q := fun q h => by rw [← hAe]; exact Or.inr h
  have hS : va_S G s.heap s.heap [] := va_S.rf
  have hP : va_P D vwCl (wM A cI tt) s.heap := hP
  have hl := lv_entry ([.ref (A 0), .int j1]) (n := 3) (Nat.le_of_ble_eq_true rfl)
  rw [lg_entry_eq]
  generalize (lg_sl ([.ref (A 0), .int j1]) ++ List.replicate (3 - (lg_sl ([.ref (A 0), .int j1])).length) Slot.unset).toArray = ls at hl ⊢
  have hl : lv_has ls 3 [(0, .ref (A 0)), (1, .int j1)] := hl
  have hinM : ∀ w ∈ wsX20, w ∈ wsX2_goesMonth := by decide +kernel
  have lk0 := hts (.fieldLink RX2 129 "LiesBoughtBackModel" "month" "I") (by decide +kernel)
  have lk1 := hts (.fieldLink RX2 73 "LiesBoughtBackModel" "bidders" "I") (by decide +kernel)
  have lk2 := hts (.fieldLink RX2 37 "LiesBoughtBackModel" "purse" "[I") (by decide +kernel)
  have lk3 := hts (.fieldLink RX2 67 "LiesBoughtBackModel" "cards" "I") (by decide +kernel)
  have lk4 := hts (.fieldLink RX2 22 "LiesBoughtBackModel" "age" "[I") (by decide +kernel)
  have lk5 := hts (.fieldLink RX2 25 "LiesBoughtBackModel" "holder" "[I") (by decide +kernel)
  have lk6 := hts (.fieldLink RX2 28 "LiesBoughtBackModel" "order" "[I") (by decide +kernel)
  refine W_in ?_
  intro WW hWW
  refine (hWW _ _ _).mpr ?_
  unfold f_X2_goesMonth at hf
  refine lv_aload_n hx hb dX2_goesMonth_0 rfl (lv_at hl 0 rfl) ?_
  refine lv_dup hx hb dX2_goesMonth_1 rfl ?_
  refine va_get (D := D) (ci := 2) (v := .int (tt 22 0)) (C := RX2) (T := TX2) (N := 31) hx hb hts hinM hown hK hP 0 rfl rfl 13 (by decide) lk0 (fun _ h9 => h9) rfl dX2_goesMonth_2 ?_
  refine lv_iconst (v := (1 : Int32)) hx hb dX2_goesMonth_5 (by decide) ?_
  refine lv_iadd hx hb dX2_goesMonth_6 ?_
  obtain ⟨tt_v1, ett_v1, hf⟩ := jnS hf
  refine va_put (D := D) (ci := 2) (v := .int ((tt 22 0) + (1 : Int32))) (ty := .int) (C := RX2) (T := TX2) (N := 31) hx hb hts hinM tyX2 tyX2_ok nmX2 hown hK hP hD hS 0 rfl rfl 13 (by decide) lk0 (fun _ h9 => h9) rfl (by decide +kernel) rfl rfl (Nat.le_of_ble_eq_true rfl) dX2_goesMonth_7 (fun H locs hP hD hS => ?_)
  have hE : _ = (wM A cI tt_v1) := ((sf_X2_t_22 A cI tt ((tt 22 0) + (1 : Int32))).trans (congrArg (fun z => wM A cI z) ett_v1.symm))
  have hP : va_P D vwCl (wM A cI tt_v1) H := hE ▸ hP
  have hD : va_D G (wM A cI tt_v1) := hE ▸ hD
  refine lv_iconst (v := (0 : Int32)) hx hb dX2_goesMonth_10 (by decide) ?_
  refine lv_istore_n (lv' := [(2, .int (0 : Int32)), (0, .ref (A 0)), (1, .int j1)]) hx hb dX2_goesMonth_11 rfl hl (by decide) rfl (fun ls hl => ?_)
  obtain ⟨K55, hK55, hf⟩ := jnS hf
  have J55 : ∀ (tt_55 : HS) (H : Heap) (locs : List Loc) (ls : Array Slot), K55 tt_55 = some out → va_P D vwCl (wM A cI tt_55) H → va_D G (wM A cI tt_55) → va_S G s.heap H locs → lv_has ls 3 [(0, .ref (A 0))] → WW H locs (F0 m 55 ls []) := by
    intro tt_55 H locs ls hf hP hD hS hl
    subst hK55
    refine (hWW _ _ _).mpr ?_
    refine lv_iconst (v := (0 : Int32)) hx hb dX2_goesMonth_55 (by decide) ?_
    refine lv_istore_n (lv' := [(2, .int (0 : Int32)), (0, .ref (A 0))]) hx hb dX2_goesMonth_56 rfl hl (by decide) rfl (fun ls hl => ?_)
    obtain ⟨K108, hK108, hf⟩ := jnS hf
    have J108 : ∀ (tt_108 : HS) (H : Heap) (locs : List Loc) (ls : Array Slot), K108 tt_108 = some out → va_P D vwCl (wM A cI tt_108) H → va_D G (wM A cI tt_108) → va_S G s.heap H locs → lv_has ls 3 [(0, .ref (A 0))] → WW H locs (F0 m 108 ls []) := by
      intro tt_108 H locs ls hf hP hD hS hl
      subst hK108
      refine (hWW _ _ _).mpr ?_
      refine lv_iconst (v := (0 : Int32)) hx hb dX2_goesMonth_108 (by decide) ?_
      refine lv_istore_n (lv' := [(2, .int (0 : Int32)), (0, .ref (A 0))]) hx hb dX2_goesMonth_109 rfl hl (by decide) rfl (fun ls hl => ?_)
      obtain ⟨K144, hK144, hf⟩ := jnS hf
      have J144 : ∀ (tt_144 : HS) (H : Heap) (locs : List Loc) (ls : Array Slot), K144 tt_144 = some out → va_P D vwCl (wM A cI tt_144) H → va_D G (wM A cI tt_144) → va_S G s.heap H locs → lv_has ls 3 [] → WW H locs (F0 m 144 ls []) := by
        intro tt_144 H locs ls hf hP hD hS hl
        subst hK144
        refine (hWW _ _ _).mpr ?_
        obtain rfl := Option.some.inj hf
        exact W.vret hx hb hr (fun t ht hW => ⟨⟨(), rfl, trivial, hPt ht hP⟩, hS.F ht⟩) hS.2.2 dX2_goesMonth_144
      have P110 : ∀ (n' : Nat) (j2_110 : Int32) (tt_110 : HS) (H : Heap) (locs : List Loc) (ls : Array Slot), L_X2_goesMonth_110 j1 K144 n' j2_110 tt_110 = some out → va_P D vwCl (wM A cI tt_110) H → va_D G (wM A cI tt_110) → va_S G s.heap H locs → lv_has ls 3 [(0, .ref (A 0)), (2, .int j2_110)] → WW H locs (F0 m 110 ls []) := by
        intro n'
        induction n' with
        | zero => intro j2_110 tt_110 H locs ls hf; exact absurd (show (none : Option (HS)) = some out from hf) (fun q => by cases q)
        | succ n' ih =>
          intro j2_110 tt_110 H locs ls hf hP hD hS hl
          rw [L_X2_goesMonth_110] at hf
          refine (hWW _ _ _).mpr ?_
          refine lv_iload_n hx hb dX2_goesMonth_110 rfl (lv_at hl 1 rfl) ?_
          refine lv_aload_n hx hb dX2_goesMonth_111 rfl (lv_at hl 0 rfl) ?_
          refine va_get (D := D) (ci := 2) (v := .int (tt_110 21 0)) (C := RX2) (T := TX2) (N := 31) hx hb hts hinM hown hK hP 0 rfl rfl 12 (by decide) lk1 (fun _ h9 => h9) rfl dX2_goesMonth_112 ?_
          refine lv_icmp_ge (tgt := 144) hx hb dX2_goesMonth_115 (by decide) (fun c2 => ?_) (fun c2 => ?_)
          · have hf := hT hf c2
            exact (hWW _ _ _).mp (J144 _ _ _ _ hf hP hD hS (lv_sub hl [] rfl))
          · have hf := hF hf c2
            refine lv_aload_n hx hb dX2_goesMonth_118 rfl (lv_at hl 0 rfl) ?_
            refine va_get (D := D) (ci := 2) (v := .ref (A 10)) (C := RX2) (T := TX2) (N := 31) hx hb hts hinM hown hK hP 0 rfl rfl 9 (by decide) lk2 (fun _ h9 => h9) rfl dX2_goesMonth_119 ?_
            refine lv_iload_n hx hb dX2_goesMonth_122 rfl (lv_at hl 1 rfl) ?_
            refine lv_aload_n hx hb dX2_goesMonth_123 rfl (lv_at hl 0 rfl) ?_
            refine va_get (D := D) (ci := 2) (v := .ref (A 10)) (C := RX2) (T := TX2) (N := 31) hx hb hts hinM hown hK hP 0 rfl rfl 9 (by decide) lk2 (fun _ h9 => h9) rfl dX2_goesMonth_124 ?_
            refine lv_iload_n hx hb dX2_goesMonth_127 rfl (lv_at hl 1 rfl) ?_
            obtain ⟨v3, he, hf⟩ := bS hf
            refine x_iald hx hb hK hP 10 (n := 6) rfl he dX2_goesMonth_128 ?_
            refine lv_iconst (v := (5 : Int32)) hx hb dX2_goesMonth_129 (by decide) ?_
            refine lv_iadd hx hb dX2_goesMonth_130 ?_
            refine lv_sipush (v := (999 : Int32)) hx hb dX2_goesMonth_131 (by decide) ?_
            refine qS_i (As := [.int (v3 + (5 : Int32)), .int (999 : Int32)]) (rest := [.int j2_110, .ref (A 10)]) ⟨hx, hb, hml, hown, hts⟩ hK hN hA hP hD hS (c_X2_held l D cI (v3 + (5 : Int32)) (999 : Int32) (f_X2_held (v3 + (5 : Int32)) (999 : Int32)) rfl) (va_cwS 2 hts gX2_goesMonth_X2_held rfl rfl rfl hd_X2_held.2 ⟨Nat.le_of_ble_eq_true rfl, Nat.le_of_ble_eq_true rfl⟩) Bp_e rfl hl.1 rfl (Nat.le_of_ble_eq_true rfl) dX2_goesMonth_134 ⟨Nat.le_of_ble_eq_true rfl, Nat.le_of_ble_eq_true rfl⟩ (fun H locs hP hD hS => ?_)
            obtain ⟨v4, he, hf⟩ := bS hf
            obtain ⟨tt_v5, ett_v5, hf⟩ := jnS hf
            refine x_iast (ws' := (wM A cI tt_v5)) hx hb hK hP hD hS 10 (n := 6) rfl he ((sa_X2_t_9 A cI tt_110 v4).trans (congrArg (fun z => wM A cI z) ett_v5.symm)) dX2_goesMonth_137 (fun H locs hP hD hS => ?_)
            refine lv_iinc (v := (j2_110 + (1 : Int32))) (lv' := [(2, .int (j2_110 + (1 : Int32))), (0, .ref (A 0))]) hx hb dX2_goesMonth_138 hl (k := 1) rfl rfl (by decide) rfl (fun ls hl => ?_)
            refine lv_goto (tgt := 110) hx hb dX2_goesMonth_141 (by decide) ?_
            exact (hWW _ _ _).mp (ih _ _ _ _ _ hf hP hD hS (lv_sub hl [1, 0] rfl))
      exact (hWW _ _ _).mp (P110 _ _ _ _ _ _ hf hP hD hS (lv_sub hl [1, 0] rfl))
    have P57 : ∀ (n' : Nat) (j2_57 : Int32) (tt_57 : HS) (H : Heap) (locs : List Loc) (ls : Array Slot), L_X2_goesMonth_57 j1 K108 n' j2_57 tt_57 = some out → va_P D vwCl (wM A cI tt_57) H → va_D G (wM A cI tt_57) → va_S G s.heap H locs → lv_has ls 3 [(0, .ref (A 0)), (2, .int j2_57)] → WW H locs (F0 m 57 ls []) := by
      intro n'
      induction n' with
      | zero => intro j2_57 tt_57 H locs ls hf; exact absurd (show (none : Option (HS)) = some out from hf) (fun q => by cases q)
      | succ n' ih =>
        intro j2_57 tt_57 H locs ls hf hP hD hS hl
        rw [L_X2_goesMonth_57] at hf
        refine (hWW _ _ _).mpr ?_
        refine lv_iload_n hx hb dX2_goesMonth_57 rfl (lv_at hl 1 rfl) ?_
        refine lv_aload_n hx hb dX2_goesMonth_58 rfl (lv_at hl 0 rfl) ?_
        refine va_get (D := D) (ci := 2) (v := .int (tt_57 20 0)) (C := RX2) (T := TX2) (N := 31) hx hb hts hinM hown hK hP 0 rfl rfl 11 (by decide) lk3 (fun _ h9 => h9) rfl dX2_goesMonth_59 ?_
        refine lv_icmp_ge (tgt := 108) hx hb dX2_goesMonth_62 (by decide) (fun c6 => ?_) (fun c6 => ?_)
        · have hf := hT hf c6
          exact (hWW _ _ _).mp (J108 _ _ _ _ hf hP hD hS (lv_sub hl [0] rfl))
        · have hf := hF hf c6
          refine lv_aload_n hx hb dX2_goesMonth_65 rfl (lv_at hl 0 rfl) ?_
          refine va_get (D := D) (ci := 2) (v := .ref (A 5)) (C := RX2) (T := TX2) (N := 31) hx hb hts hinM hown hK hP 0 rfl rfl 4 (by decide) lk4 (fun _ h9 => h9) rfl dX2_goesMonth_66 ?_
          refine lv_iload_n hx hb dX2_goesMonth_69 rfl (lv_at hl 1 rfl) ?_
          refine lv_aload_n hx hb dX2_goesMonth_70 rfl (lv_at hl 0 rfl) ?_
          refine va_get (D := D) (ci := 2) (v := .ref (A 6)) (C := RX2) (T := TX2) (N := 31) hx hb hts hinM hown hK hP 0 rfl rfl 5 (by decide) lk5 (fun _ h9 => h9) rfl dX2_goesMonth_71 ?_
          refine lv_iload_n hx hb dX2_goesMonth_74 rfl (lv_at hl 1 rfl) ?_
          obtain ⟨v7, he, hf⟩ := bS hf
          refine x_iald hx hb hK hP 6 (n := 8) rfl he dX2_goesMonth_75 ?_
          refine lv_if_ne (tgt := 95) hx hb dX2_goesMonth_76 (by decide) (fun c8 => ?_) (fun c8 => ?_)
          · have hf := hF hf c8
            refine lv_aload_n hx hb dX2_goesMonth_95 rfl (lv_at hl 0 rfl) ?_
            refine va_get (D := D) (ci := 2) (v := .ref (A 5)) (C := RX2) (T := TX2) (N := 31) hx hb hts hinM hown hK hP 0 rfl rfl 4 (by decide) lk4 (fun _ h9 => h9) rfl dX2_goesMonth_96 ?_
            refine lv_iload_n hx hb dX2_goesMonth_99 rfl (lv_at hl 1 rfl) ?_
            obtain ⟨v9, he, hf⟩ := bS hf
            refine x_iald hx hb hK hP 5 (n := 8) rfl he dX2_goesMonth_100 ?_
            obtain ⟨v10, he, hf⟩ := bS hf
            obtain ⟨tt_v11, ett_v11, hf⟩ := jnS hf
            refine x_iast (ws' := (wM A cI tt_v11)) hx hb hK hP hD hS 5 (n := 8) rfl he ((sa_X2_t_4 A cI tt_57 v10).trans (congrArg (fun z => wM A cI z) ett_v11.symm)) dX2_goesMonth_101 (fun H locs hP hD hS => ?_)
            refine lv_iinc (v := (j2_57 + (1 : Int32))) (lv' := [(2, .int (j2_57 + (1 : Int32))), (0, .ref (A 0))]) hx hb dX2_goesMonth_102 hl (k := 1) rfl rfl (by decide) rfl (fun ls hl => ?_)
            refine lv_goto (tgt := 57) hx hb dX2_goesMonth_105 (by decide) ?_
            exact (hWW _ _ _).mp (ih _ _ _ _ _ hf hP hD hS (lv_sub hl [1, 0] rfl))
          · have hf := hT hf c8
            refine lv_aload_n hx hb dX2_goesMonth_79 rfl (lv_at hl 0 rfl) ?_
            refine va_get (D := D) (ci := 2) (v := .ref (A 5)) (C := RX2) (T := TX2) (N := 31) hx hb hts hinM hown hK hP 0 rfl rfl 4 (by decide) lk4 (fun _ h9 => h9) rfl dX2_goesMonth_80 ?_
            refine lv_iload_n hx hb dX2_goesMonth_83 rfl (lv_at hl 1 rfl) ?_
            obtain ⟨v12, he, hf⟩ := bS hf
            refine x_iald hx hb hK hP 5 (n := 8) rfl he dX2_goesMonth_84 ?_
            refine lv_iconst (v := (1 : Int32)) hx hb dX2_goesMonth_85 (by decide) ?_
            refine lv_iadd hx hb dX2_goesMonth_86 ?_
            refine lv_bipush (v := (99 : Int32)) hx hb dX2_goesMonth_87 (by decide) ?_
            refine qS_i (As := [.int (v12 + (1 : Int32)), .int (99 : Int32)]) (rest := [.int j2_57, .ref (A 5)]) ⟨hx, hb, hml, hown, hts⟩ hK hN hA hP hD hS (c_X2_held l D cI (v12 + (1 : Int32)) (99 : Int32) (f_X2_held (v12 + (1 : Int32)) (99 : Int32)) rfl) (va_cwS 2 hts gX2_goesMonth_X2_held rfl rfl rfl hd_X2_held.2 ⟨Nat.le_of_ble_eq_true rfl, Nat.le_of_ble_eq_true rfl⟩) Bp_e rfl hl.1 rfl (Nat.le_of_ble_eq_true rfl) dX2_goesMonth_89 ⟨Nat.le_of_ble_eq_true rfl, Nat.le_of_ble_eq_true rfl⟩ (fun H locs hP hD hS => ?_)
            refine lv_goto (tgt := 101) hx hb dX2_goesMonth_92 (by decide) ?_
            obtain ⟨v13, he, hf⟩ := bS hf
            obtain ⟨tt_v14, ett_v14, hf⟩ := jnS hf
            refine x_iast (ws' := (wM A cI tt_v14)) hx hb hK hP hD hS 5 (n := 8) rfl he ((sa_X2_t_4 A cI tt_57 v13).trans (congrArg (fun z => wM A cI z) ett_v14.symm)) dX2_goesMonth_101 (fun H locs hP hD hS => ?_)
            refine lv_iinc (v := (j2_57 + (1 : Int32))) (lv' := [(2, .int (j2_57 + (1 : Int32))), (0, .ref (A 0))]) hx hb dX2_goesMonth_102 hl (k := 1) rfl rfl (by decide) rfl (fun ls hl => ?_)
            refine lv_goto (tgt := 57) hx hb dX2_goesMonth_105 (by decide) ?_
            exact (hWW _ _ _).mp (ih _ _ _ _ _ hf hP hD hS (lv_sub hl [1, 0] rfl))
    exact (hWW _ _ _).mp (P57 _ _ _ _ _ _ hf hP hD hS (lv_sub hl [1, 0] rfl))
  have P12 : ∀ (n' : Nat) (j2_12 : Int32) (tt_12 : HS) (H : Heap) (locs : List Loc) (ls : Array Slot), L_X2_goesMonth_12 j1 K55 n' j2_12 tt_12 = some out → va_P D vwCl (wM A cI tt_12) H → va_D G (wM A cI tt_12) → va_S G s.heap H locs → lv_has ls 3 [(0, .ref (A 0)), (1, .int j1), (2, .int j2_12)] → WW H locs (F0 m 12 ls []) := by
    intro n'
    induction n' with
    | zero => intro j2_12 tt_12 H locs ls hf; exact absurd (show (none : Option (HS)) = some out from hf) (fun q => by cases q)
    | succ n' ih =>
      intro j2_12 tt_12 H locs ls hf hP hD hS hl
      rw [L_X2_goesMonth_12] at hf
      refine (hWW _ _ _).mpr ?_
      refine lv_iload_n hx hb dX2_goesMonth_12 rfl (lv_at hl 2 rfl) ?_
      refine lv_aload_n hx hb dX2_goesMonth_13 rfl (lv_at hl 0 rfl) ?_
      refine va_get (D := D) (ci := 2) (v := .int (tt_12 20 0)) (C := RX2) (T := TX2) (N := 31) hx hb hts hinM hown hK hP 0 rfl rfl 11 (by decide) lk3 (fun _ h9 => h9) rfl dX2_goesMonth_14 ?_
      refine lv_icmp_ge (tgt := 55) hx hb dX2_goesMonth_17 (by decide) (fun c15 => ?_) (fun c15 => ?_)
      · have hf := hT hf c15
        exact (hWW _ _ _).mp (J55 _ _ _ _ hf hP hD hS (lv_sub hl [0] rfl))
      · have hf := hF hf c15
        refine lv_iload_n hx hb dX2_goesMonth_20 rfl (lv_at hl 1 rfl) ?_
        refine lv_if_ne (tgt := 55) hx hb dX2_goesMonth_21 (by decide) (fun c16 => ?_) (fun c16 => ?_)
        · have hf := hF hf c16
          exact (hWW _ _ _).mp (J55 _ _ _ _ hf hP hD hS (lv_sub hl [0] rfl))
        · have hf := hT hf c16
          refine lv_aload_n hx hb dX2_goesMonth_24 rfl (lv_at hl 0 rfl) ?_
          refine va_get (D := D) (ci := 2) (v := .ref (A 6)) (C := RX2) (T := TX2) (N := 31) hx hb hts hinM hown hK hP 0 rfl rfl 5 (by decide) lk5 (fun _ h9 => h9) rfl dX2_goesMonth_25 ?_
          refine lv_aload_n hx hb dX2_goesMonth_28 rfl (lv_at hl 0 rfl) ?_
          refine va_get (D := D) (ci := 2) (v := .ref (A 7)) (C := RX2) (T := TX2) (N := 31) hx hb hts hinM hown hK hP 0 rfl rfl 6 (by decide) lk6 (fun _ h9 => h9) rfl dX2_goesMonth_29 ?_
          refine lv_iload_n hx hb dX2_goesMonth_32 rfl (lv_at hl 2 rfl) ?_
          obtain ⟨v17, he, hf⟩ := bS hf
          refine x_iald hx hb hK hP 7 (n := 8) rfl he dX2_goesMonth_33 ?_
          obtain ⟨v18, he, hf⟩ := bS hf
          refine x_iald hx hb hK hP 6 (n := 8) rfl he dX2_goesMonth_34 ?_
          refine lv_if_ne (tgt := 49) hx hb dX2_goesMonth_35 (by decide) (fun c19 => ?_) (fun c19 => ?_)
          · have hf := hF hf c19
            refine lv_iinc (v := (j2_12 + (1 : Int32))) (lv' := [(2, .int (j2_12 + (1 : Int32))), (0, .ref (A 0)), (1, .int j1)]) hx hb dX2_goesMonth_49 hl (k := 2) rfl rfl (by decide) rfl (fun ls hl => ?_)
            refine lv_goto (tgt := 12) hx hb dX2_goesMonth_52 (by decide) ?_
            exact (hWW _ _ _).mp (ih _ _ _ _ _ hf hP hD hS (lv_sub hl [1, 2, 0] rfl))
          · have hf := hT hf c19
            refine lv_aload_n hx hb dX2_goesMonth_38 rfl (lv_at hl 0 rfl) ?_
            refine lv_aload_n hx hb dX2_goesMonth_39 rfl (lv_at hl 0 rfl) ?_
            refine va_get (D := D) (ci := 2) (v := .ref (A 7)) (C := RX2) (T := TX2) (N := 31) hx hb hts hinM hown hK hP 0 rfl rfl 6 (by decide) lk6 (fun _ h9 => h9) rfl dX2_goesMonth_40 ?_
            refine lv_iload_n hx hb dX2_goesMonth_43 rfl (lv_at hl 2 rfl) ?_
            obtain ⟨v20, he, hf⟩ := bS hf
            refine x_iald hx hb hK hP 7 (n := 8) rfl he dX2_goesMonth_44 ?_
            obtain ⟨v21, hev21, hf⟩ := bS hf
            refine qV_i (ws' := (wM A cI v21.2)) (As := [.int v20]) (rest := []) ⟨hx, hb, hml, hown, hts⟩ hK hN hA hP hD hS (c_X2_sellsOne l D cI A v20 tt_12 v21 hev21) (cwV 1 hts gX2_goesMonth_X2_sellsOne rfl rfl rfl hd_X2_sellsOne ⟨Nat.le_of_ble_eq_true rfl, Nat.le_of_ble_eq_true rfl⟩) (va_recv hK hP (ci := 2) (q0 := 0) rfl rfl) (bp_X2_X2_t_t A cI tt_12 v21.2) rfl hl.1 rfl (Nat.le_of_ble_eq_true rfl) dX2_goesMonth_45 ⟨Nat.le_of_ble_eq_true rfl, Nat.le_of_ble_eq_true rfl⟩ (fun H locs hP hD hS => ?_)
            have hP : va_P D vwCl (wM A cI v21.2) H := hP
            refine lv_pop hx hb dX2_goesMonth_48 rfl ?_
            refine lv_iinc (v := (j2_12 + (1 : Int32))) (lv' := [(2, .int (j2_12 + (1 : Int32))), (0, .ref (A 0)), (1, .int j1)]) hx hb dX2_goesMonth_49 hl (k := 2) rfl rfl (by decide) rfl (fun ls hl => ?_)
            refine lv_goto (tgt := 12) hx hb dX2_goesMonth_52 (by decide) ?_
            exact (hWW _ _ _).mp (ih _ _ _ _ _ hf hP hD hS (lv_sub hl [1, 2, 0] rfl))
  exact (hWW _ _ _).mp (P12 _ _ _ _ _ _ hf hP hD hS (lv_sub hl [1, 2, 0] rfl))
set_option maxHeartbeats 4000000 in
set_option maxRecDepth 100000 in
theorem c_X2_goes (l : Launch) (D : va_G) (cI : ClassId) (A : Nat → Nat) (j1 : Int32) (tt : HS) (out : HS) (hf : f_X2_goes j1 tt = some out) : uV l D cI yX2_goes wsX2_goes ({ frames := 8, cells := 0, slots := 0, locals := 182 } : Room) [.ref (A 0), .int j1] (wM A cI tt) (wM A cI out) := by
  intro sz
  refine Met.ofW (cc := cX2_goes) (maxL := 3) (ret := none) (by decide) rfl ?_
  intro p e s m args below meth c s₁ Bd hml hv
  obtain ⟨rfl, hsz, hP, hK, hD0, hN⟩ := hv
  have hx := Bd.exec
  have hb := Bd.bytes
  have hr := Bd.returns
  have hts := atoms_spec (ws := wsX2_goes) Bd.pre
  have hown : s.vm.findClass RX2 = some m.cls := findClass_of_methodNamed Bd.named
  have hlocks := Bd.notSynchronized
  subst hsz
  have hD := hD0.self (sz := s.heap.size)
  generalize hAe : va_A (wM A cI tt) s.heap.size = G at hD ⊢
  have hA : ∀ q : Nat, s.heap.size ≤ q → G q := fun q h => by rw [← hAe]; exact Or.inr h
  have hS : va_S G s.heap s.heap [] := va_S.rf
  have hP : va_P D vwCl (wM A cI tt) s.heap := hP
  have hl := lv_entry ([.ref (A 0), .int j1]) (n := 3) (Nat.le_of_ble_eq_true rfl)
  rw [lg_entry_eq]
  generalize (lg_sl ([.ref (A 0), .int j1]) ++ List.replicate (3 - (lg_sl ([.ref (A 0), .int j1])).length) Slot.unset).toArray = ls at hl ⊢
  have hl : lv_has ls 3 [(0, .ref (A 0)), (1, .int j1)] := hl
  refine W_in ?_
  intro WW hWW
  refine (hWW _ _ _).mpr ?_
  unfold f_X2_goes at hf
  refine lv_iconst (v := (0 : Int32)) hx hb dX2_goes_0 (by decide) ?_
  refine lv_istore_n (lv' := [(2, .int (0 : Int32)), (0, .ref (A 0)), (1, .int j1)]) hx hb dX2_goes_1 rfl hl (by decide) rfl (fun ls hl => ?_)
  obtain ⟨K18, hK18, hf⟩ := jnS hf
  have J18 : ∀ (tt_18 : HS) (H : Heap) (locs : List Loc) (ls : Array Slot), K18 tt_18 = some out → va_P D vwCl (wM A cI tt_18) H → va_D G (wM A cI tt_18) → va_S G s.heap H locs → lv_has ls 3 [] → WW H locs (F0 m 18 ls []) := by
    intro tt_18 H locs ls hf hP hD hS hl
    subst hK18
    refine (hWW _ _ _).mpr ?_
    obtain rfl := Option.some.inj hf
    exact W.vret hx hb hr (fun t ht hW => ⟨⟨(), rfl, trivial, hPt ht hP⟩, hS.F ht⟩) hS.2.2 dX2_goes_18
  have P2 : ∀ (n' : Nat) (j2_2 : Int32) (tt_2 : HS) (H : Heap) (locs : List Loc) (ls : Array Slot), L_X2_goes_2 j1 K18 n' j2_2 tt_2 = some out → va_P D vwCl (wM A cI tt_2) H → va_D G (wM A cI tt_2) → va_S G s.heap H locs → lv_has ls 3 [(0, .ref (A 0)), (1, .int j1), (2, .int j2_2)] → WW H locs (F0 m 2 ls []) := by
    intro n'
    induction n' with
    | zero => intro j2_2 tt_2 H locs ls hf; exact absurd (show (none : Option (HS)) = some out from hf) (fun q => by cases q)
    | succ n' ih =>
      intro j2_2 tt_2 H locs ls hf hP hD hS hl
      rw [L_X2_goes_2] at hf
      refine (hWW _ _ _).mpr ?_
      refine lv_iload_n hx hb dX2_goes_2 rfl (lv_at hl 2 rfl) ?_
      refine lv_iload_n hx hb dX2_goes_3 rfl (lv_at hl 1 rfl) ?_
      refine lv_icmp_ge (tgt := 18) hx hb dX2_goes_4 (by decide) (fun c1 => ?_) (fun c1 => ?_)
      · have hf := hT hf c1
        exact (hWW _ _ _).mp (J18 _ _ _ _ hf hP hD hS (lv_sub hl [] rfl))
      · have hf := hF hf c1
        refine lv_aload_n hx hb dX2_goes_7 rfl (lv_at hl 0 rfl) ?_
        refine lv_iconst (v := (0 : Int32)) hx hb dX2_goes_8 (by decide) ?_
        obtain ⟨v2, hev2, hf⟩ := bS hf
        refine qV_v (ws' := (wM A cI v2)) (As := [.int (0 : Int32)]) (rest := []) ⟨hx, hb, hml, hown, hts⟩ hK hN hA hP hD hS (c_X2_goesMonth l D cI A (0 : Int32) tt_2 v2 hev2) (cwV 1 hts gX2_goes_X2_goesMonth rfl rfl rfl hd_X2_goesMonth ⟨Nat.le_of_ble_eq_true rfl, Nat.le_of_ble_eq_true rfl⟩) (va_recv hK hP (ci := 2) (q0 := 0) rfl rfl) (bp_X2_X2_t_t A cI tt_2 v2) rfl hl.1 rfl (Nat.le_of_ble_eq_true rfl) dX2_goes_9 ⟨Nat.le_of_ble_eq_true rfl, Nat.le_of_ble_eq_true rfl⟩ (fun H locs hP hD hS => ?_)
        have hP : va_P D vwCl (wM A cI v2) H := hP
        refine lv_iinc (v := (j2_2 + (1 : Int32))) (lv' := [(2, .int (j2_2 + (1 : Int32))), (0, .ref (A 0)), (1, .int j1)]) hx hb dX2_goes_12 hl (k := 2) rfl rfl (by decide) rfl (fun ls hl => ?_)
        refine lv_goto (tgt := 2) hx hb dX2_goes_15 (by decide) ?_
        exact (hWW _ _ _).mp (ih _ _ _ _ _ hf hP hD hS (lv_sub hl [1, 2, 0] rfl))
  exact (hWW _ _ _).mp (P2 _ _ _ _ _ _ hf hP hD hS (lv_sub hl [1, 2, 0] rfl))
set_option maxHeartbeats 4000000 in
set_option maxRecDepth 100000 in
theorem c_X2_comesMonths (l : Launch) (D : va_G) (cI : ClassId) (A : Nat → Nat) (j1 : Int32) (tt : HS) (out : Int32 × HS) (hf : f_X2_comesMonths j1 tt = some out) : uI l D cI yX2_comesMonths wsX2_comesMonths ({ frames := 9, cells := 0, slots := 0, locals := 204 } : Room) [.ref (A 0), .int j1] (wM A cI tt) (wM A cI out.2) out.1 := by
  intro sz
  refine Met.ofW (cc := cX2_comesMonths) (maxL := 2) (ret := (some .boolean)) (by decide) rfl ?_
  intro p e s m args below meth c s₁ Bd hml hv
  obtain ⟨rfl, hsz, hP, hK, hD0, hN⟩ := hv
  have hx := Bd.exec
  have hb := Bd.bytes
  have hr := Bd.returns
  have hts := atoms_spec (ws := wsX2_comesMonths) Bd.pre
  have hown : s.vm.findClass RX2 = some m.cls := findClass_of_methodNamed Bd.named
  have hlocks := Bd.notSynchronized
  subst hsz
  have hD := hD0.self (sz := s.heap.size)
  generalize hAe : va_A (wM A cI tt) s.heap.size = G at hD ⊢
  have hA : ∀ q : Nat, s.heap.size ≤ q → G q := fun q h => by rw [← hAe]; exact Or.inr h
  have hS : va_S G s.heap s.heap [] := va_S.rf
  have hP : va_P D vwCl (wM A cI tt) s.heap := hP
  have hl := lv_entry ([.ref (A 0), .int j1]) (n := 2) (Nat.le_of_ble_eq_true rfl)
  rw [lg_entry_eq]
  generalize (lg_sl ([.ref (A 0), .int j1]) ++ List.replicate (2 - (lg_sl ([.ref (A 0), .int j1])).length) Slot.unset).toArray = ls at hl ⊢
  have hl : lv_has ls 2 [(0, .ref (A 0)), (1, .int j1)] := hl
  have hinM : ∀ w ∈ wsX20, w ∈ wsX2_comesMonths := by decide +kernel
  have lk0 := hts (.fieldLink RX2 129 "LiesBoughtBackModel" "month" "I") (by decide +kernel)
  refine W_in ?_
  intro WW hWW
  refine (hWW _ _ _).mpr ?_
  unfold f_X2_comesMonths at hf
  refine lv_iload_n hx hb dX2_comesMonths_0 rfl (lv_at hl 1 rfl) ?_
  refine lv_iconst (v := (1 : Int32)) hx hb dX2_comesMonths_1 (by decide) ?_
  refine lv_bipush (v := (60 : Int32)) hx hb dX2_comesMonths_2 (by decide) ?_
  refine qS_i (As := [.int j1, .int (1 : Int32), .int (60 : Int32)]) (rest := []) ⟨hx, hb, hml, hown, hts⟩ hK hN hA hP hD hS (c_X2_isIn l D cI j1 (1 : Int32) (60 : Int32) (f_X2_isIn j1 (1 : Int32) (60 : Int32)) rfl) (va_cwS 3 hts gX2_comesMonths_X2_isIn rfl rfl rfl hd_X2_isIn.2 ⟨Nat.le_of_ble_eq_true rfl, Nat.le_of_ble_eq_true rfl⟩) Bp_e rfl hl.1 rfl (Nat.le_of_ble_eq_true rfl) dX2_comesMonths_4 ⟨Nat.le_of_ble_eq_true rfl, Nat.le_of_ble_eq_true rfl⟩ (fun H locs hP hD hS => ?_)
  refine lv_if_eq (tgt := 22) hx hb dX2_comesMonths_7 (by decide) (fun c1 => ?_) (fun c1 => ?_)
  · have hf := hT hf c1
    refine lv_iconst (v := (0 : Int32)) hx hb dX2_comesMonths_22 (by decide) ?_
    obtain rfl := Option.some.inj hf
    exact W.zret (ty := .boolean) (v := (0 : Int32)) hx hb hr rfl (fun t ht hW => ⟨⟨(0 : Int32), (), rfl, rfl, hPt ht hP⟩, hS.F ht⟩) hS.2.2 dX2_comesMonths_23
  · have hf := hF hf c1
    refine lv_aload_n hx hb dX2_comesMonths_10 rfl (lv_at hl 0 rfl) ?_
    refine va_get (D := D) (ci := 2) (v := .int (tt 22 0)) (C := RX2) (T := TX2) (N := 31) hx hb hts hinM hown hK hP 0 rfl rfl 13 (by decide) lk0 (fun _ h9 => h9) rfl dX2_comesMonths_11 ?_
    refine lv_iload_n hx hb dX2_comesMonths_14 rfl (lv_at hl 1 rfl) ?_
    refine lv_iadd hx hb dX2_comesMonths_15 ?_
    refine lv_sipush (v := (999 : Int32)) hx hb dX2_comesMonths_16 (by decide) ?_
    refine lv_icmp_le (tgt := 24) hx hb dX2_comesMonths_19 (by decide) (fun c2 => ?_) (fun c2 => ?_)
    · have hf := hT hf c2
      refine lv_aload_n hx hb dX2_comesMonths_24 rfl (lv_at hl 0 rfl) ?_
      refine lv_iload_n hx hb dX2_comesMonths_25 rfl (lv_at hl 1 rfl) ?_
      obtain ⟨v3, hev3, hf⟩ := bS hf
      refine qV_v (ws' := (wM A cI v3)) (As := [.int j1]) (rest := []) ⟨hx, hb, hml, hown, hts⟩ hK hN hA hP hD hS (c_X2_goes l D cI A j1 tt v3 hev3) (cwV 1 hts gX2_comesMonths_X2_goes rfl rfl rfl hd_X2_goes ⟨Nat.le_of_ble_eq_true rfl, Nat.le_of_ble_eq_true rfl⟩) (va_recv hK hP (ci := 2) (q0 := 0) rfl rfl) (bp_X2_X2_t_t A cI tt v3) rfl hl.1 rfl (Nat.le_of_ble_eq_true rfl) dX2_comesMonths_26 ⟨Nat.le_of_ble_eq_true rfl, Nat.le_of_ble_eq_true rfl⟩ (fun H locs hP hD hS => ?_)
      have hP : va_P D vwCl (wM A cI v3) H := hP
      refine lv_iconst (v := (1 : Int32)) hx hb dX2_comesMonths_29 (by decide) ?_
      obtain rfl := Option.some.inj hf
      exact W.zret (ty := .boolean) (v := (1 : Int32)) hx hb hr rfl (fun t ht hW => ⟨⟨(1 : Int32), (), rfl, rfl, hPt ht hP⟩, hS.F ht⟩) hS.2.2 dX2_comesMonths_30
    · have hf := hF hf c2
      refine lv_iconst (v := (0 : Int32)) hx hb dX2_comesMonths_22 (by decide) ?_
      obtain rfl := Option.some.inj hf
      exact W.zret (ty := .boolean) (v := (0 : Int32)) hx hb hr rfl (fun t ht hW => ⟨⟨(0 : Int32), (), rfl, rfl, hPt ht hP⟩, hS.F ht⟩) hS.2.2 dX2_comesMonths_23
set_option maxHeartbeats 4000000 in
set_option maxRecDepth 100000 in
theorem c_X2_comes (l : Launch) (D : va_G) (cI : ClassId) (A : Nat → Nat) (j1 : Int32) (tt : HS) (out : Int32 × HS) (hf : f_X2_comes j1 tt = some out) : uI l D cI yX2_comes wsX2_comes ({ frames := 10, cells := 0, slots := 0, locals := 225 } : Room) [.ref (A 0), .int j1] (wM A cI tt) (wM A cI out.2) out.1 := by
  intro sz
  refine Met.ofW (cc := cX2_comes) (maxL := 3) (ret := (some .boolean)) (by decide) rfl ?_
  intro p e s m args below meth c s₁ Bd hml hv
  obtain ⟨rfl, hsz, hP, hK, hD0, hN⟩ := hv
  have hx := Bd.exec
  have hb := Bd.bytes
  have hr := Bd.returns
  have hts := atoms_spec (ws := wsX2_comes) Bd.pre
  have hown : s.vm.findClass RX2 = some m.cls := findClass_of_methodNamed Bd.named
  have hlocks := Bd.notSynchronized
  subst hsz
  have hD := hD0.self (sz := s.heap.size)
  generalize hAe : va_A (wM A cI tt) s.heap.size = G at hD ⊢
  have hA : ∀ q : Nat, s.heap.size ≤ q → G q := fun q h => by rw [← hAe]; exact Or.inr h
  have hS : va_S G s.heap s.heap [] := va_S.rf
  have hP : va_P D vwCl (wM A cI tt) s.heap := hP
  have hl := lv_entry ([.ref (A 0), .int j1]) (n := 3) (Nat.le_of_ble_eq_true rfl)
  rw [lg_entry_eq]
  generalize (lg_sl ([.ref (A 0), .int j1]) ++ List.replicate (3 - (lg_sl ([.ref (A 0), .int j1])).length) Slot.unset).toArray = ls at hl ⊢
  have hl : lv_has ls 3 [(0, .ref (A 0)), (1, .int j1)] := hl
  have hinM : ∀ w ∈ wsX20, w ∈ wsX2_comes := by decide +kernel
  have lk0 := hts (.fieldLink RX2 46 "LiesBoughtBackModel" "letter" "[I") (by decide +kernel)
  have lk1 := hts (.fieldLink RX2 52 "LiesBoughtBackModel" "told" "[I") (by decide +kernel)
  have lk2 := hts (.fieldLink RX2 37 "LiesBoughtBackModel" "purse" "[I") (by decide +kernel)
  refine W_in ?_
  intro WW hWW
  refine (hWW _ _ _).mpr ?_
  unfold f_X2_comes at hf
  refine lv_iconst (v := (3 : Int32)) hx hb dX2_comes_0 (by decide) ?_
  refine lv_iload_n hx hb dX2_comes_1 rfl (lv_at hl 1 rfl) ?_
  refine lv_imul hx hb dX2_comes_2 ?_
  refine lv_istore_n (lv' := [(2, .int ((3 : Int32) * j1)), (0, .ref (A 0)), (1, .int j1)]) hx hb dX2_comes_3 rfl hl (by decide) rfl (fun ls hl => ?_)
  refine lv_aload_n hx hb dX2_comes_4 rfl (lv_at hl 1 rfl) ?_
  refine va_get (D := D) (ci := 2) (v := .ref (A 13)) (C := RX2) (T := TX2) (N := 31) hx hb hts hinM hown hK hP 0 rfl rfl 15 (by decide) lk0 (fun _ h9 => h9) rfl dX2_comes_5 ?_
  refine lv_iload_n hx hb dX2_comes_8 rfl (lv_at hl 2 rfl) ?_
  obtain ⟨v1, he, hf⟩ := bS hf
  refine x_iald hx hb hK hP 13 (n := 48) rfl he dX2_comes_9 ?_
  by_cases c2 : v1 = (98 : Int32)
  · have hf := hT hf c2
    refine lv_lookup (off := 48) (tgt := 58) hx hb dX2_comes_10 (by decide) (by rw [show (v1 : Int32).toInt = 98 from ((congrArg Int32.toInt c2).trans (by decide))]; decide) (by decide) ?_
    refine lv_aload_n hx hb dX2_comes_58 rfl (lv_at hl 1 rfl) ?_
    refine lv_iload_n hx hb dX2_comes_59 rfl (lv_at hl 0 rfl) ?_
    obtain ⟨v3, hev3, hf⟩ := bS hf
    refine qV_i (ws' := (wM A cI v3.2)) (As := [.int ((3 : Int32) * j1)]) (rest := []) ⟨hx, hb, hml, hown, hts⟩ hK hN hA hP hD hS (c_X2_comesBidder l D cI A ((3 : Int32) * j1) tt v3 hev3) (cwV 1 hts gX2_comes_X2_comesBidder rfl rfl rfl hd_X2_comesBidder ⟨Nat.le_of_ble_eq_true rfl, Nat.le_of_ble_eq_true rfl⟩) (va_recv hK hP (ci := 2) (q0 := 0) rfl rfl) (bp_X2_X2_t_t A cI tt v3.2) rfl hl.1 rfl (Nat.le_of_ble_eq_true rfl) dX2_comes_60 ⟨Nat.le_of_ble_eq_true rfl, Nat.le_of_ble_eq_true rfl⟩ (fun H locs hP hD hS => ?_)
    have hP : va_P D vwCl (wM A cI v3.2) H := hP
    obtain ⟨hnb, hf⟩ := nbS hf
    obtain rfl := Option.some.inj hf
    exact W.zret (ty := .boolean) (v := v3.1) hx hb hr hnb (fun t ht hW => ⟨⟨v3.1, (), rfl, rfl, hPt ht hP⟩, hS.F ht⟩) hS.2.2 dX2_comes_63
  have hf := hF hf c2
  by_cases c4 : v1 = (99 : Int32)
  · have hf := hT hf c4
    refine lv_lookup (off := 42) (tgt := 52) hx hb dX2_comes_10 (by decide) (by rw [show (v1 : Int32).toInt = 99 from ((congrArg Int32.toInt c4).trans (by decide))]; decide) (by decide) ?_
    refine lv_aload_n hx hb dX2_comes_52 rfl (lv_at hl 1 rfl) ?_
    refine lv_iload_n hx hb dX2_comes_53 rfl (lv_at hl 0 rfl) ?_
    obtain ⟨v5, hev5, hf⟩ := bS hf
    refine qV_i (ws' := (wM A cI v5.2)) (As := [.int ((3 : Int32) * j1)]) (rest := []) ⟨hx, hb, hml, hown, hts⟩ hK hN hA hP hD hS (c_X2_comesCard l D cI A ((3 : Int32) * j1) tt v5 hev5) (cwV 1 hts gX2_comes_X2_comesCard rfl rfl rfl hd_X2_comesCard ⟨Nat.le_of_ble_eq_true rfl, Nat.le_of_ble_eq_true rfl⟩) (va_recv hK hP (ci := 2) (q0 := 0) rfl rfl) (bp_X2_X2_t_t A cI tt v5.2) rfl hl.1 rfl (Nat.le_of_ble_eq_true rfl) dX2_comes_54 ⟨Nat.le_of_ble_eq_true rfl, Nat.le_of_ble_eq_true rfl⟩ (fun H locs hP hD hS => ?_)
    have hP : va_P D vwCl (wM A cI v5.2) H := hP
    obtain ⟨hnb, hf⟩ := nbS hf
    obtain rfl := Option.some.inj hf
    exact W.zret (ty := .boolean) (v := v5.1) hx hb hr hnb (fun t ht hW => ⟨⟨v5.1, (), rfl, rfl, hPt ht hP⟩, hS.F ht⟩) hS.2.2 dX2_comes_57
  have hf := hF hf c4
  by_cases c6 : v1 = (109 : Int32)
  · have hf := hT hf c6
    refine lv_lookup (off := 90) (tgt := 100) hx hb dX2_comes_10 (by decide) (by rw [show (v1 : Int32).toInt = 109 from ((congrArg Int32.toInt c6).trans (by decide))]; decide) (by decide) ?_
    refine lv_aload_n hx hb dX2_comes_100 rfl (lv_at hl 1 rfl) ?_
    refine lv_aload_n hx hb dX2_comes_101 rfl (lv_at hl 1 rfl) ?_
    refine va_get (D := D) (ci := 2) (v := .ref (A 15)) (C := RX2) (T := TX2) (N := 31) hx hb hts hinM hown hK hP 0 rfl rfl 17 (by decide) lk1 (fun _ h9 => h9) rfl dX2_comes_102 ?_
    refine lv_iload_n hx hb dX2_comes_105 rfl (lv_at hl 0 rfl) ?_
    obtain ⟨v7, he, hf⟩ := bS hf
    refine x_iald hx hb hK hP 15 (n := 144) rfl he dX2_comes_106 ?_
    obtain ⟨v8, hev8, hf⟩ := bS hf
    refine qV_i (ws' := (wM A cI v8.2)) (As := [.int v7]) (rest := []) ⟨hx, hb, hml, hown, hts⟩ hK hN hA hP hD hS (c_X2_comesMonths l D cI A v7 tt v8 hev8) (cwV 1 hts gX2_comes_X2_comesMonths rfl rfl rfl hd_X2_comesMonths ⟨Nat.le_of_ble_eq_true rfl, Nat.le_of_ble_eq_true rfl⟩) (va_recv hK hP (ci := 2) (q0 := 0) rfl rfl) (bp_X2_X2_t_t A cI tt v8.2) rfl hl.1 rfl (Nat.le_of_ble_eq_true rfl) dX2_comes_107 ⟨Nat.le_of_ble_eq_true rfl, Nat.le_of_ble_eq_true rfl⟩ (fun H locs hP hD hS => ?_)
    have hP : va_P D vwCl (wM A cI v8.2) H := hP
    obtain ⟨hnb, hf⟩ := nbS hf
    obtain rfl := Option.some.inj hf
    exact W.zret (ty := .boolean) (v := v8.1) hx hb hr hnb (fun t ht hW => ⟨⟨v8.1, (), rfl, rfl, hPt ht hP⟩, hS.F ht⟩) hS.2.2 dX2_comes_110
  have hf := hF hf c6
  by_cases c9 : v1 = (112 : Int32)
  · have hf := hT hf c9
    refine lv_lookup (off := 54) (tgt := 64) hx hb dX2_comes_10 (by decide) (by rw [show (v1 : Int32).toInt = 112 from ((congrArg Int32.toInt c9).trans (by decide))]; decide) (by decide) ?_
    refine lv_aload_n hx hb dX2_comes_64 rfl (lv_at hl 1 rfl) ?_
    refine lv_aload_n hx hb dX2_comes_65 rfl (lv_at hl 1 rfl) ?_
    refine va_get (D := D) (ci := 2) (v := .ref (A 15)) (C := RX2) (T := TX2) (N := 31) hx hb hts hinM hown hK hP 0 rfl rfl 17 (by decide) lk1 (fun _ h9 => h9) rfl dX2_comes_66 ?_
    refine lv_iload_n hx hb dX2_comes_69 rfl (lv_at hl 0 rfl) ?_
    obtain ⟨v10, he, hf⟩ := bS hf
    refine x_iald hx hb hK hP 15 (n := 144) rfl he dX2_comes_70 ?_
    refine qV_i (As := [.int v10]) (rest := []) ⟨hx, hb, hml, hown, hts⟩ hK hN hA hP hD hS (c_X2_isBidder l D cI A v10 tt (f_X2_isBidder v10 tt) rfl) (cwV 1 hts gX2_comes_X2_isBidder rfl rfl rfl hd_X2_isBidder ⟨Nat.le_of_ble_eq_true rfl, Nat.le_of_ble_eq_true rfl⟩) (va_recv hK hP (ci := 2) (q0 := 0) rfl rfl) (bq_X2_X2_t A cI tt) rfl hl.1 rfl (Nat.le_of_ble_eq_true rfl) dX2_comes_71 ⟨Nat.le_of_ble_eq_true rfl, Nat.le_of_ble_eq_true rfl⟩ (fun H locs hP hD hS => ?_)
    refine lv_if_ne (tgt := 79) hx hb dX2_comes_74 (by decide) (fun c11 => ?_) (fun c11 => ?_)
    · have hf := hF hf c11
      refine lv_aload_n hx hb dX2_comes_79 rfl (lv_at hl 1 rfl) ?_
      refine va_get (D := D) (ci := 2) (v := .ref (A 10)) (C := RX2) (T := TX2) (N := 31) hx hb hts hinM hown hK hP 0 rfl rfl 9 (by decide) lk2 (fun _ h9 => h9) rfl dX2_comes_80 ?_
      refine lv_aload_n hx hb dX2_comes_83 rfl (lv_at hl 1 rfl) ?_
      refine va_get (D := D) (ci := 2) (v := .ref (A 15)) (C := RX2) (T := TX2) (N := 31) hx hb hts hinM hown hK hP 0 rfl rfl 17 (by decide) lk1 (fun _ h9 => h9) rfl dX2_comes_84 ?_
      refine lv_iload_n hx hb dX2_comes_87 rfl (lv_at hl 0 rfl) ?_
      obtain ⟨v12, he, hf⟩ := bS hf
      refine x_iald hx hb hK hP 15 (n := 144) rfl he dX2_comes_88 ?_
      refine lv_aload_n hx hb dX2_comes_89 rfl (lv_at hl 1 rfl) ?_
      refine va_get (D := D) (ci := 2) (v := .ref (A 15)) (C := RX2) (T := TX2) (N := 31) hx hb hts hinM hown hK hP 0 rfl rfl 17 (by decide) lk1 (fun _ h9 => h9) rfl dX2_comes_90 ?_
      refine lv_iload_n hx hb dX2_comes_93 rfl (lv_at hl 0 rfl) ?_
      refine lv_iconst (v := (1 : Int32)) hx hb dX2_comes_94 (by decide) ?_
      refine lv_iadd hx hb dX2_comes_95 ?_
      obtain ⟨v13, he, hf⟩ := bS hf
      refine x_iald hx hb hK hP 15 (n := 144) rfl he dX2_comes_96 ?_
      obtain ⟨v14, he, hf⟩ := bS hf
      obtain ⟨tt_v15, ett_v15, hf⟩ := jnS hf
      refine x_iast (ws' := (wM A cI tt_v15)) hx hb hK hP hD hS 10 (n := 6) rfl he ((sa_X2_t_9 A cI tt v14).trans (congrArg (fun z => wM A cI z) ett_v15.symm)) dX2_comes_97 (fun H locs hP hD hS => ?_)
      refine lv_iconst (v := (1 : Int32)) hx hb dX2_comes_98 (by decide) ?_
      obtain rfl := Option.some.inj hf
      exact W.zret (ty := .boolean) (v := (1 : Int32)) hx hb hr rfl (fun t ht hW => ⟨⟨(1 : Int32), (), rfl, rfl, hPt ht hP⟩, hS.F ht⟩) hS.2.2 dX2_comes_99
    · have hf := hT hf c11
      refine lv_iconst (v := (0 : Int32)) hx hb dX2_comes_77 (by decide) ?_
      obtain rfl := Option.some.inj hf
      exact W.zret (ty := .boolean) (v := (0 : Int32)) hx hb hr rfl (fun t ht hW => ⟨⟨(0 : Int32), (), rfl, rfl, hPt ht hP⟩, hS.F ht⟩) hS.2.2 dX2_comes_78
  have hf := hF hf c9
  refine lv_lookup (off := 101) (tgt := 111) hx hb dX2_comes_10 (by decide) ((lv_osw c2 (by decide)).trans ((lv_osw c4 (by decide)).trans ((lv_osw c6 (by decide)).trans ((lv_osw c9 (by decide)).trans rfl)))) (by decide) ?_
  refine lv_aload_n hx hb dX2_comes_111 rfl (lv_at hl 1 rfl) ?_
  refine lv_aload_n hx hb dX2_comes_112 rfl (lv_at hl 1 rfl) ?_
  refine va_get (D := D) (ci := 2) (v := .ref (A 13)) (C := RX2) (T := TX2) (N := 31) hx hb hts hinM hown hK hP 0 rfl rfl 15 (by decide) lk0 (fun _ h9 => h9) rfl dX2_comes_113 ?_
  refine lv_iload_n hx hb dX2_comes_116 rfl (lv_at hl 2 rfl) ?_
  obtain ⟨v16, he, hf⟩ := bS hf
  refine x_iald hx hb hK hP 13 (n := 48) rfl he dX2_comes_117 ?_
  refine lv_aload_n hx hb dX2_comes_118 rfl (lv_at hl 1 rfl) ?_
  refine va_get (D := D) (ci := 2) (v := .ref (A 15)) (C := RX2) (T := TX2) (N := 31) hx hb hts hinM hown hK hP 0 rfl rfl 17 (by decide) lk1 (fun _ h9 => h9) rfl dX2_comes_119 ?_
  refine lv_iload_n hx hb dX2_comes_122 rfl (lv_at hl 0 rfl) ?_
  obtain ⟨v17, he, hf⟩ := bS hf
  refine x_iald hx hb hK hP 15 (n := 144) rfl he dX2_comes_123 ?_
  refine lv_aload_n hx hb dX2_comes_124 rfl (lv_at hl 1 rfl) ?_
  refine va_get (D := D) (ci := 2) (v := .ref (A 15)) (C := RX2) (T := TX2) (N := 31) hx hb hts hinM hown hK hP 0 rfl rfl 17 (by decide) lk1 (fun _ h9 => h9) rfl dX2_comes_125 ?_
  refine lv_iload_n hx hb dX2_comes_128 rfl (lv_at hl 0 rfl) ?_
  refine lv_iconst (v := (1 : Int32)) hx hb dX2_comes_129 (by decide) ?_
  refine lv_iadd hx hb dX2_comes_130 ?_
  obtain ⟨v18, he, hf⟩ := bS hf
  refine x_iald hx hb hK hP 15 (n := 144) rfl he dX2_comes_131 ?_
  obtain ⟨v19, hev19, hf⟩ := bS hf
  refine qV_i (ws' := (wM A cI v19.2)) (As := [.int v16, .int v17, .int v18]) (rest := []) ⟨hx, hb, hml, hown, hts⟩ hK hN hA hP hD hS (c_X2_comesOf l D cI A v16 v17 v18 tt v19 hev19) (cwV 3 hts gX2_comes_X2_comesOf rfl rfl rfl hd_X2_comesOf ⟨Nat.le_of_ble_eq_true rfl, Nat.le_of_ble_eq_true rfl⟩) (va_recv hK hP (ci := 2) (q0 := 0) rfl rfl) (bp_X2_X2_t_t A cI tt v19.2) rfl hl.1 rfl (Nat.le_of_ble_eq_true rfl) dX2_comes_132 ⟨Nat.le_of_ble_eq_true rfl, Nat.le_of_ble_eq_true rfl⟩ (fun H locs hP hD hS => ?_)
  have hP : va_P D vwCl (wM A cI v19.2) H := hP
  obtain ⟨hnb, hf⟩ := nbS hf
  obtain rfl := Option.some.inj hf
  exact W.zret (ty := .boolean) (v := v19.1) hx hb hr hnb (fun t ht hW => ⟨⟨v19.1, (), rfl, rfl, hPt ht hP⟩, hS.F ht⟩) hS.2.2 dX2_comes_135
set_option maxHeartbeats 4000000 in
set_option maxRecDepth 100000 in
theorem c_X2_passes_1 (l : Launch) (D : va_G) (cI : ClassId) (A : Nat → Nat) (tt : HS) (out : HS) (hf : f_X2_passes_1 tt = some out) : uV l D cI yX2_passes wsX2_passes ({ frames := 0, cells := 0, slots := 0, locals := 0 } : Room) [.ref (A 0), .ref (A 2)] (wM A cI tt) (wM A cI out) := by
  intro sz
  refine Met.ofW (cc := cX2_passes) (maxL := 3) (ret := none) (by decide) rfl ?_
  intro p e s m args below meth c s₁ Bd hml hv
  obtain ⟨rfl, hsz, hP, hK, hD0, hN⟩ := hv
  have hx := Bd.exec
  have hb := Bd.bytes
  have hr := Bd.returns
  have hts := atoms_spec (ws := wsX2_passes) Bd.pre
  have hown : s.vm.findClass RX2 = some m.cls := findClass_of_methodNamed Bd.named
  have hlocks := Bd.notSynchronized
  subst hsz
  have hD := hD0.self (sz := s.heap.size)
  generalize hAe : va_A (wM A cI tt) s.heap.size = G at hD ⊢
  have hA : ∀ q : Nat, s.heap.size ≤ q → G q := fun q h => by rw [← hAe]; exact Or.inr h
  have hS : va_S G s.heap s.heap [] := va_S.rf
  have hP : va_P D vwCl (wM A cI tt) s.heap := hP
  have hl := lv_entry ([.ref (A 0), .ref (A 2)]) (n := 3) (Nat.le_of_ble_eq_true rfl)
  rw [lg_entry_eq]
  generalize (lg_sl ([.ref (A 0), .ref (A 2)]) ++ List.replicate (3 - (lg_sl ([.ref (A 0), .ref (A 2)])).length) Slot.unset).toArray = ls at hl ⊢
  have hl : lv_has ls 3 [(0, .ref (A 0)), (1, .ref (A 2))] := hl
  have hinM : ∀ w ∈ wsX20, w ∈ wsX2_passes := by decide +kernel
  have lk0 := hts (.fieldLink RX2 159 "LiesBoughtBackModel" "isKeeping" "Z") (by decide +kernel)
  have lk1 := hts (.fieldLink RX2 55 "LiesBoughtBackModel" "kept" "[I") (by decide +kernel)
  have lk2 := hts (.fieldLink RX2 163 "LiesBoughtBackModel" "cursor" "I") (by decide +kernel)
  refine W_in ?_
  intro WW hWW
  refine (hWW _ _ _).mpr ?_
  unfold f_X2_passes_1 at hf
  refine lv_iconst (v := (0 : Int32)) hx hb dX2_passes_0 (by decide) ?_
  refine lv_istore_n (lv' := [(2, .int (0 : Int32)), (0, .ref (A 0)), (1, .ref (A 2))]) hx hb dX2_passes_1 rfl hl (by decide) rfl (fun ls hl => ?_)
  obtain ⟨K58, hK58, hf⟩ := jnS hf
  have J58 : ∀ (tt_58 : HS) (H : Heap) (locs : List Loc) (ls : Array Slot), K58 tt_58 = some out → va_P D vwCl (wM A cI tt_58) H → va_D G (wM A cI tt_58) → va_S G s.heap H locs → lv_has ls 3 [] → WW H locs (F0 m 58 ls []) := by
    intro tt_58 H locs ls hf hP hD hS hl
    subst hK58
    refine (hWW _ _ _).mpr ?_
    obtain rfl := Option.some.inj hf
    exact W.vret hx hb hr (fun t ht hW => ⟨⟨(), rfl, trivial, hPt ht hP⟩, hS.F ht⟩) hS.2.2 dX2_passes_58
  have P2 : ∀ (n' : Nat) (j2_2 : Int32) (tt_2 : HS) (H : Heap) (locs : List Loc) (ls : Array Slot), L_X2_passes_1_2  K58 n' j2_2 tt_2 = some out → va_P D vwCl (wM A cI tt_2) H → va_D G (wM A cI tt_2) → va_S G s.heap H locs → lv_has ls 3 [(0, .ref (A 0)), (1, .ref (A 2)), (2, .int j2_2)] → WW H locs (F0 m 2 ls []) := by
    intro n'
    induction n' with
    | zero => intro j2_2 tt_2 H locs ls hf; exact absurd (show (none : Option (HS)) = some out from hf) (fun q => by cases q)
    | succ n' ih =>
      intro j2_2 tt_2 H locs ls hf hP hD hS hl
      rw [L_X2_passes_1_2] at hf
      refine (hWW _ _ _).mpr ?_
      refine lv_iload_n hx hb dX2_passes_2 rfl (lv_at hl 2 rfl) ?_
      refine lv_aload_n hx hb dX2_passes_3 rfl (lv_at hl 1 rfl) ?_
      refine va_alen hx hb hK hP 2 0 rfl rfl (v := (8 : Int32)) rfl dX2_passes_4 ?_
      refine lv_icmp_ge (tgt := 58) hx hb dX2_passes_5 (by decide) (fun c1 => ?_) (fun c1 => ?_)
      · have hf := hT hf c1
        exact (hWW _ _ _).mp (J58 _ _ _ _ hf hP hD hS (lv_sub hl [] rfl))
      · have hf := hF hf c1
        refine lv_aload_n hx hb dX2_passes_8 rfl (lv_at hl 0 rfl) ?_
        refine va_get (D := D) (ci := 2) (v := .int (tt_2 27 0)) (C := RX2) (T := TX2) (N := 31) hx hb hts hinM hown hK hP 0 rfl rfl 23 (by decide) lk0 (fun _ h9 => h9) rfl dX2_passes_9 ?_
        refine lv_if_eq (tgt := 30) hx hb dX2_passes_12 (by decide) (fun c2 => ?_) (fun c2 => ?_)
        · have hf := hT hf c2
          refine lv_aload_n hx hb dX2_passes_30 rfl (lv_at hl 1 rfl) ?_
          refine lv_iload_n hx hb dX2_passes_31 rfl (lv_at hl 2 rfl) ?_
          refine lv_aload_n hx hb dX2_passes_32 rfl (lv_at hl 0 rfl) ?_
          refine va_get (D := D) (ci := 2) (v := .ref (A 16)) (C := RX2) (T := TX2) (N := 31) hx hb hts hinM hown hK hP 0 rfl rfl 21 (by decide) lk1 (fun _ h9 => h9) rfl dX2_passes_33 ?_
          refine lv_aload_n hx hb dX2_passes_36 rfl (lv_at hl 0 rfl) ?_
          refine va_get (D := D) (ci := 2) (v := .int (tt_2 28 0)) (C := RX2) (T := TX2) (N := 31) hx hb hts hinM hown hK hP 0 rfl rfl 24 (by decide) lk2 (fun _ h9 => h9) rfl dX2_passes_37 ?_
          obtain ⟨v3, he, hf⟩ := bS hf
          refine x_iald hx hb hK hP 16 (n := 225) rfl he dX2_passes_40 ?_
          obtain ⟨v4, he, hf⟩ := bS hf
          obtain ⟨tt_v5, ett_v5, hf⟩ := jnS hf
          refine x_iast (ws' := (wM A cI tt_v5)) hx hb hK hP hD hS 2 (n := 8) rfl he ((sa_X2_t_1 A cI tt_2 v4).trans (congrArg (fun z => wM A cI z) ett_v5.symm)) dX2_passes_41 (fun H locs hP hD hS => ?_)
          refine lv_aload_n hx hb dX2_passes_42 rfl (lv_at hl 0 rfl) ?_
          refine lv_dup hx hb dX2_passes_43 rfl ?_
          refine va_get (D := D) (ci := 2) (v := .int (tt_v5 28 0)) (C := RX2) (T := TX2) (N := 31) hx hb hts hinM hown hK hP 0 rfl rfl 24 (by decide) lk2 (fun _ h9 => h9) rfl dX2_passes_44 ?_
          refine lv_iconst (v := (1 : Int32)) hx hb dX2_passes_47 (by decide) ?_
          refine lv_iadd hx hb dX2_passes_48 ?_
          obtain ⟨tt_v6, ett_v6, hf⟩ := jnS hf
          refine va_put (D := D) (ci := 2) (v := .int ((tt_v5 28 0) + (1 : Int32))) (ty := .int) (C := RX2) (T := TX2) (N := 31) hx hb hts hinM tyX2 tyX2_ok nmX2 hown hK hP hD hS 0 rfl rfl 24 (by decide) lk2 (fun _ h9 => h9) rfl (by decide +kernel) rfl rfl (Nat.le_of_ble_eq_true rfl) dX2_passes_49 (fun H locs hP hD hS => ?_)
          have hE : _ = (wM A cI tt_v6) := ((sf_X2_t_28 A cI tt_v5 ((tt_v5 28 0) + (1 : Int32))).trans (congrArg (fun z => wM A cI z) ett_v6.symm))
          have hP : va_P D vwCl (wM A cI tt_v6) H := hE ▸ hP
          have hD : va_D G (wM A cI tt_v6) := hE ▸ hD
          refine lv_iinc (v := (j2_2 + (1 : Int32))) (lv' := [(2, .int (j2_2 + (1 : Int32))), (0, .ref (A 0)), (1, .ref (A 2))]) hx hb dX2_passes_52 hl (k := 2) rfl rfl (by decide) rfl (fun ls hl => ?_)
          refine lv_goto (tgt := 2) hx hb dX2_passes_55 (by decide) ?_
          exact (hWW _ _ _).mp (ih _ _ _ _ _ hf hP hD hS (lv_sub hl [1, 2, 0] rfl))
        · have hf := hF hf c2
          refine lv_aload_n hx hb dX2_passes_15 rfl (lv_at hl 0 rfl) ?_
          refine va_get (D := D) (ci := 2) (v := .ref (A 16)) (C := RX2) (T := TX2) (N := 31) hx hb hts hinM hown hK hP 0 rfl rfl 21 (by decide) lk1 (fun _ h9 => h9) rfl dX2_passes_16 ?_
          refine lv_aload_n hx hb dX2_passes_19 rfl (lv_at hl 0 rfl) ?_
          refine va_get (D := D) (ci := 2) (v := .int (tt_2 28 0)) (C := RX2) (T := TX2) (N := 31) hx hb hts hinM hown hK hP 0 rfl rfl 24 (by decide) lk2 (fun _ h9 => h9) rfl dX2_passes_20 ?_
          refine lv_aload_n hx hb dX2_passes_23 rfl (lv_at hl 1 rfl) ?_
          refine lv_iload_n hx hb dX2_passes_24 rfl (lv_at hl 2 rfl) ?_
          obtain ⟨v7, he, hf⟩ := bS hf
          refine x_iald hx hb hK hP 2 (n := 8) rfl he dX2_passes_25 ?_
          obtain ⟨v8, he, hf⟩ := bS hf
          obtain ⟨tt_v9, ett_v9, hf⟩ := jnS hf
          refine x_iast (ws' := (wM A cI tt_v9)) hx hb hK hP hD hS 16 (n := 225) rfl he ((sa_X2_t_15 A cI tt_2 v8).trans (congrArg (fun z => wM A cI z) ett_v9.symm)) dX2_passes_26 (fun H locs hP hD hS => ?_)
          refine lv_goto (tgt := 42) hx hb dX2_passes_27 (by decide) ?_
          refine lv_aload_n hx hb dX2_passes_42 rfl (lv_at hl 0 rfl) ?_
          refine lv_dup hx hb dX2_passes_43 rfl ?_
          refine va_get (D := D) (ci := 2) (v := .int (tt_v9 28 0)) (C := RX2) (T := TX2) (N := 31) hx hb hts hinM hown hK hP 0 rfl rfl 24 (by decide) lk2 (fun _ h9 => h9) rfl dX2_passes_44 ?_
          refine lv_iconst (v := (1 : Int32)) hx hb dX2_passes_47 (by decide) ?_
          refine lv_iadd hx hb dX2_passes_48 ?_
          obtain ⟨tt_v10, ett_v10, hf⟩ := jnS hf
          refine va_put (D := D) (ci := 2) (v := .int ((tt_v9 28 0) + (1 : Int32))) (ty := .int) (C := RX2) (T := TX2) (N := 31) hx hb hts hinM tyX2 tyX2_ok nmX2 hown hK hP hD hS 0 rfl rfl 24 (by decide) lk2 (fun _ h9 => h9) rfl (by decide +kernel) rfl rfl (Nat.le_of_ble_eq_true rfl) dX2_passes_49 (fun H locs hP hD hS => ?_)
          have hE : _ = (wM A cI tt_v10) := ((sf_X2_t_28 A cI tt_v9 ((tt_v9 28 0) + (1 : Int32))).trans (congrArg (fun z => wM A cI z) ett_v10.symm))
          have hP : va_P D vwCl (wM A cI tt_v10) H := hE ▸ hP
          have hD : va_D G (wM A cI tt_v10) := hE ▸ hD
          refine lv_iinc (v := (j2_2 + (1 : Int32))) (lv' := [(2, .int (j2_2 + (1 : Int32))), (0, .ref (A 0)), (1, .ref (A 2))]) hx hb dX2_passes_52 hl (k := 2) rfl rfl (by decide) rfl (fun ls hl => ?_)
          refine lv_goto (tgt := 2) hx hb dX2_passes_55 (by decide) ?_
          exact (hWW _ _ _).mp (ih _ _ _ _ _ hf hP hD hS (lv_sub hl [1, 2, 0] rfl))
  exact (hWW _ _ _).mp (P2 _ _ _ _ _ _ hf hP hD hS (lv_sub hl [1, 2, 0] rfl))
set_option maxHeartbeats 4000000 in
set_option maxRecDepth 100000 in
theorem c_X2_passes_2 (l : Launch) (D : va_G) (cI : ClassId) (A : Nat → Nat) (tt : HS) (out : HS) (hf : f_X2_passes_2 tt = some out) : uV l D cI yX2_passes wsX2_passes ({ frames := 0, cells := 0, slots := 0, locals := 0 } : Room) [.ref (A 0), .ref (A 3)] (wM A cI tt) (wM A cI out) := by
  intro sz
  refine Met.ofW (cc := cX2_passes) (maxL := 3) (ret := none) (by decide) rfl ?_
  intro p e s m args below meth c s₁ Bd hml hv
  obtain ⟨rfl, hsz, hP, hK, hD0, hN⟩ := hv
  have hx := Bd.exec
  have hb := Bd.bytes
  have hr := Bd.returns
  have hts := atoms_spec (ws := wsX2_passes) Bd.pre
  have hown : s.vm.findClass RX2 = some m.cls := findClass_of_methodNamed Bd.named
  have hlocks := Bd.notSynchronized
  subst hsz
  have hD := hD0.self (sz := s.heap.size)
  generalize hAe : va_A (wM A cI tt) s.heap.size = G at hD ⊢
  have hA : ∀ q : Nat, s.heap.size ≤ q → G q := fun q h => by rw [← hAe]; exact Or.inr h
  have hS : va_S G s.heap s.heap [] := va_S.rf
  have hP : va_P D vwCl (wM A cI tt) s.heap := hP
  have hl := lv_entry ([.ref (A 0), .ref (A 3)]) (n := 3) (Nat.le_of_ble_eq_true rfl)
  rw [lg_entry_eq]
  generalize (lg_sl ([.ref (A 0), .ref (A 3)]) ++ List.replicate (3 - (lg_sl ([.ref (A 0), .ref (A 3)])).length) Slot.unset).toArray = ls at hl ⊢
  have hl : lv_has ls 3 [(0, .ref (A 0)), (1, .ref (A 3))] := hl
  have hinM : ∀ w ∈ wsX20, w ∈ wsX2_passes := by decide +kernel
  have lk0 := hts (.fieldLink RX2 159 "LiesBoughtBackModel" "isKeeping" "Z") (by decide +kernel)
  have lk1 := hts (.fieldLink RX2 55 "LiesBoughtBackModel" "kept" "[I") (by decide +kernel)
  have lk2 := hts (.fieldLink RX2 163 "LiesBoughtBackModel" "cursor" "I") (by decide +kernel)
  refine W_in ?_
  intro WW hWW
  refine (hWW _ _ _).mpr ?_
  unfold f_X2_passes_2 at hf
  refine lv_iconst (v := (0 : Int32)) hx hb dX2_passes_0 (by decide) ?_
  refine lv_istore_n (lv' := [(2, .int (0 : Int32)), (0, .ref (A 0)), (1, .ref (A 3))]) hx hb dX2_passes_1 rfl hl (by decide) rfl (fun ls hl => ?_)
  obtain ⟨K58, hK58, hf⟩ := jnS hf
  have J58 : ∀ (tt_58 : HS) (H : Heap) (locs : List Loc) (ls : Array Slot), K58 tt_58 = some out → va_P D vwCl (wM A cI tt_58) H → va_D G (wM A cI tt_58) → va_S G s.heap H locs → lv_has ls 3 [] → WW H locs (F0 m 58 ls []) := by
    intro tt_58 H locs ls hf hP hD hS hl
    subst hK58
    refine (hWW _ _ _).mpr ?_
    obtain rfl := Option.some.inj hf
    exact W.vret hx hb hr (fun t ht hW => ⟨⟨(), rfl, trivial, hPt ht hP⟩, hS.F ht⟩) hS.2.2 dX2_passes_58
  have P2 : ∀ (n' : Nat) (j2_2 : Int32) (tt_2 : HS) (H : Heap) (locs : List Loc) (ls : Array Slot), L_X2_passes_2_2  K58 n' j2_2 tt_2 = some out → va_P D vwCl (wM A cI tt_2) H → va_D G (wM A cI tt_2) → va_S G s.heap H locs → lv_has ls 3 [(0, .ref (A 0)), (1, .ref (A 3)), (2, .int j2_2)] → WW H locs (F0 m 2 ls []) := by
    intro n'
    induction n' with
    | zero => intro j2_2 tt_2 H locs ls hf; exact absurd (show (none : Option (HS)) = some out from hf) (fun q => by cases q)
    | succ n' ih =>
      intro j2_2 tt_2 H locs ls hf hP hD hS hl
      rw [L_X2_passes_2_2] at hf
      refine (hWW _ _ _).mpr ?_
      refine lv_iload_n hx hb dX2_passes_2 rfl (lv_at hl 2 rfl) ?_
      refine lv_aload_n hx hb dX2_passes_3 rfl (lv_at hl 1 rfl) ?_
      refine va_alen hx hb hK hP 3 0 rfl rfl (v := (8 : Int32)) rfl dX2_passes_4 ?_
      refine lv_icmp_ge (tgt := 58) hx hb dX2_passes_5 (by decide) (fun c1 => ?_) (fun c1 => ?_)
      · have hf := hT hf c1
        exact (hWW _ _ _).mp (J58 _ _ _ _ hf hP hD hS (lv_sub hl [] rfl))
      · have hf := hF hf c1
        refine lv_aload_n hx hb dX2_passes_8 rfl (lv_at hl 0 rfl) ?_
        refine va_get (D := D) (ci := 2) (v := .int (tt_2 27 0)) (C := RX2) (T := TX2) (N := 31) hx hb hts hinM hown hK hP 0 rfl rfl 23 (by decide) lk0 (fun _ h9 => h9) rfl dX2_passes_9 ?_
        refine lv_if_eq (tgt := 30) hx hb dX2_passes_12 (by decide) (fun c2 => ?_) (fun c2 => ?_)
        · have hf := hT hf c2
          refine lv_aload_n hx hb dX2_passes_30 rfl (lv_at hl 1 rfl) ?_
          refine lv_iload_n hx hb dX2_passes_31 rfl (lv_at hl 2 rfl) ?_
          refine lv_aload_n hx hb dX2_passes_32 rfl (lv_at hl 0 rfl) ?_
          refine va_get (D := D) (ci := 2) (v := .ref (A 16)) (C := RX2) (T := TX2) (N := 31) hx hb hts hinM hown hK hP 0 rfl rfl 21 (by decide) lk1 (fun _ h9 => h9) rfl dX2_passes_33 ?_
          refine lv_aload_n hx hb dX2_passes_36 rfl (lv_at hl 0 rfl) ?_
          refine va_get (D := D) (ci := 2) (v := .int (tt_2 28 0)) (C := RX2) (T := TX2) (N := 31) hx hb hts hinM hown hK hP 0 rfl rfl 24 (by decide) lk2 (fun _ h9 => h9) rfl dX2_passes_37 ?_
          obtain ⟨v3, he, hf⟩ := bS hf
          refine x_iald hx hb hK hP 16 (n := 225) rfl he dX2_passes_40 ?_
          obtain ⟨v4, he, hf⟩ := bS hf
          obtain ⟨tt_v5, ett_v5, hf⟩ := jnS hf
          refine x_iast (ws' := (wM A cI tt_v5)) hx hb hK hP hD hS 3 (n := 8) rfl he ((sa_X2_t_2 A cI tt_2 v4).trans (congrArg (fun z => wM A cI z) ett_v5.symm)) dX2_passes_41 (fun H locs hP hD hS => ?_)
          refine lv_aload_n hx hb dX2_passes_42 rfl (lv_at hl 0 rfl) ?_
          refine lv_dup hx hb dX2_passes_43 rfl ?_
          refine va_get (D := D) (ci := 2) (v := .int (tt_v5 28 0)) (C := RX2) (T := TX2) (N := 31) hx hb hts hinM hown hK hP 0 rfl rfl 24 (by decide) lk2 (fun _ h9 => h9) rfl dX2_passes_44 ?_
          refine lv_iconst (v := (1 : Int32)) hx hb dX2_passes_47 (by decide) ?_
          refine lv_iadd hx hb dX2_passes_48 ?_
          obtain ⟨tt_v6, ett_v6, hf⟩ := jnS hf
          refine va_put (D := D) (ci := 2) (v := .int ((tt_v5 28 0) + (1 : Int32))) (ty := .int) (C := RX2) (T := TX2) (N := 31) hx hb hts hinM tyX2 tyX2_ok nmX2 hown hK hP hD hS 0 rfl rfl 24 (by decide) lk2 (fun _ h9 => h9) rfl (by decide +kernel) rfl rfl (Nat.le_of_ble_eq_true rfl) dX2_passes_49 (fun H locs hP hD hS => ?_)
          have hE : _ = (wM A cI tt_v6) := ((sf_X2_t_28 A cI tt_v5 ((tt_v5 28 0) + (1 : Int32))).trans (congrArg (fun z => wM A cI z) ett_v6.symm))
          have hP : va_P D vwCl (wM A cI tt_v6) H := hE ▸ hP
          have hD : va_D G (wM A cI tt_v6) := hE ▸ hD
          refine lv_iinc (v := (j2_2 + (1 : Int32))) (lv' := [(2, .int (j2_2 + (1 : Int32))), (0, .ref (A 0)), (1, .ref (A 3))]) hx hb dX2_passes_52 hl (k := 2) rfl rfl (by decide) rfl (fun ls hl => ?_)
          refine lv_goto (tgt := 2) hx hb dX2_passes_55 (by decide) ?_
          exact (hWW _ _ _).mp (ih _ _ _ _ _ hf hP hD hS (lv_sub hl [1, 2, 0] rfl))
        · have hf := hF hf c2
          refine lv_aload_n hx hb dX2_passes_15 rfl (lv_at hl 0 rfl) ?_
          refine va_get (D := D) (ci := 2) (v := .ref (A 16)) (C := RX2) (T := TX2) (N := 31) hx hb hts hinM hown hK hP 0 rfl rfl 21 (by decide) lk1 (fun _ h9 => h9) rfl dX2_passes_16 ?_
          refine lv_aload_n hx hb dX2_passes_19 rfl (lv_at hl 0 rfl) ?_
          refine va_get (D := D) (ci := 2) (v := .int (tt_2 28 0)) (C := RX2) (T := TX2) (N := 31) hx hb hts hinM hown hK hP 0 rfl rfl 24 (by decide) lk2 (fun _ h9 => h9) rfl dX2_passes_20 ?_
          refine lv_aload_n hx hb dX2_passes_23 rfl (lv_at hl 1 rfl) ?_
          refine lv_iload_n hx hb dX2_passes_24 rfl (lv_at hl 2 rfl) ?_
          obtain ⟨v7, he, hf⟩ := bS hf
          refine x_iald hx hb hK hP 3 (n := 8) rfl he dX2_passes_25 ?_
          obtain ⟨v8, he, hf⟩ := bS hf
          obtain ⟨tt_v9, ett_v9, hf⟩ := jnS hf
          refine x_iast (ws' := (wM A cI tt_v9)) hx hb hK hP hD hS 16 (n := 225) rfl he ((sa_X2_t_15 A cI tt_2 v8).trans (congrArg (fun z => wM A cI z) ett_v9.symm)) dX2_passes_26 (fun H locs hP hD hS => ?_)
          refine lv_goto (tgt := 42) hx hb dX2_passes_27 (by decide) ?_
          refine lv_aload_n hx hb dX2_passes_42 rfl (lv_at hl 0 rfl) ?_
          refine lv_dup hx hb dX2_passes_43 rfl ?_
          refine va_get (D := D) (ci := 2) (v := .int (tt_v9 28 0)) (C := RX2) (T := TX2) (N := 31) hx hb hts hinM hown hK hP 0 rfl rfl 24 (by decide) lk2 (fun _ h9 => h9) rfl dX2_passes_44 ?_
          refine lv_iconst (v := (1 : Int32)) hx hb dX2_passes_47 (by decide) ?_
          refine lv_iadd hx hb dX2_passes_48 ?_
          obtain ⟨tt_v10, ett_v10, hf⟩ := jnS hf
          refine va_put (D := D) (ci := 2) (v := .int ((tt_v9 28 0) + (1 : Int32))) (ty := .int) (C := RX2) (T := TX2) (N := 31) hx hb hts hinM tyX2 tyX2_ok nmX2 hown hK hP hD hS 0 rfl rfl 24 (by decide) lk2 (fun _ h9 => h9) rfl (by decide +kernel) rfl rfl (Nat.le_of_ble_eq_true rfl) dX2_passes_49 (fun H locs hP hD hS => ?_)
          have hE : _ = (wM A cI tt_v10) := ((sf_X2_t_28 A cI tt_v9 ((tt_v9 28 0) + (1 : Int32))).trans (congrArg (fun z => wM A cI z) ett_v10.symm))
          have hP : va_P D vwCl (wM A cI tt_v10) H := hE ▸ hP
          have hD : va_D G (wM A cI tt_v10) := hE ▸ hD
          refine lv_iinc (v := (j2_2 + (1 : Int32))) (lv' := [(2, .int (j2_2 + (1 : Int32))), (0, .ref (A 0)), (1, .ref (A 3))]) hx hb dX2_passes_52 hl (k := 2) rfl rfl (by decide) rfl (fun ls hl => ?_)
          refine lv_goto (tgt := 2) hx hb dX2_passes_55 (by decide) ?_
          exact (hWW _ _ _).mp (ih _ _ _ _ _ hf hP hD hS (lv_sub hl [1, 2, 0] rfl))
  exact (hWW _ _ _).mp (P2 _ _ _ _ _ _ hf hP hD hS (lv_sub hl [1, 2, 0] rfl))
set_option maxHeartbeats 4000000 in
set_option maxRecDepth 100000 in
theorem c_X2_passes_3 (l : Launch) (D : va_G) (cI : ClassId) (A : Nat → Nat) (tt : HS) (out : HS) (hf : f_X2_passes_3 tt = some out) : uV l D cI yX2_passes wsX2_passes ({ frames := 0, cells := 0, slots := 0, locals := 0 } : Room) [.ref (A 0), .ref (A 4)] (wM A cI tt) (wM A cI out) := by
  intro sz
  refine Met.ofW (cc := cX2_passes) (maxL := 3) (ret := none) (by decide) rfl ?_
  intro p e s m args below meth c s₁ Bd hml hv
  obtain ⟨rfl, hsz, hP, hK, hD0, hN⟩ := hv
  have hx := Bd.exec
  have hb := Bd.bytes
  have hr := Bd.returns
  have hts := atoms_spec (ws := wsX2_passes) Bd.pre
  have hown : s.vm.findClass RX2 = some m.cls := findClass_of_methodNamed Bd.named
  have hlocks := Bd.notSynchronized
  subst hsz
  have hD := hD0.self (sz := s.heap.size)
  generalize hAe : va_A (wM A cI tt) s.heap.size = G at hD ⊢
  have hA : ∀ q : Nat, s.heap.size ≤ q → G q := fun q h => by rw [← hAe]; exact Or.inr h
  have hS : va_S G s.heap s.heap [] := va_S.rf
  have hP : va_P D vwCl (wM A cI tt) s.heap := hP
  have hl := lv_entry ([.ref (A 0), .ref (A 4)]) (n := 3) (Nat.le_of_ble_eq_true rfl)
  rw [lg_entry_eq]
  generalize (lg_sl ([.ref (A 0), .ref (A 4)]) ++ List.replicate (3 - (lg_sl ([.ref (A 0), .ref (A 4)])).length) Slot.unset).toArray = ls at hl ⊢
  have hl : lv_has ls 3 [(0, .ref (A 0)), (1, .ref (A 4))] := hl
  have hinM : ∀ w ∈ wsX20, w ∈ wsX2_passes := by decide +kernel
  have lk0 := hts (.fieldLink RX2 159 "LiesBoughtBackModel" "isKeeping" "Z") (by decide +kernel)
  have lk1 := hts (.fieldLink RX2 55 "LiesBoughtBackModel" "kept" "[I") (by decide +kernel)
  have lk2 := hts (.fieldLink RX2 163 "LiesBoughtBackModel" "cursor" "I") (by decide +kernel)
  refine W_in ?_
  intro WW hWW
  refine (hWW _ _ _).mpr ?_
  unfold f_X2_passes_3 at hf
  refine lv_iconst (v := (0 : Int32)) hx hb dX2_passes_0 (by decide) ?_
  refine lv_istore_n (lv' := [(2, .int (0 : Int32)), (0, .ref (A 0)), (1, .ref (A 4))]) hx hb dX2_passes_1 rfl hl (by decide) rfl (fun ls hl => ?_)
  obtain ⟨K58, hK58, hf⟩ := jnS hf
  have J58 : ∀ (tt_58 : HS) (H : Heap) (locs : List Loc) (ls : Array Slot), K58 tt_58 = some out → va_P D vwCl (wM A cI tt_58) H → va_D G (wM A cI tt_58) → va_S G s.heap H locs → lv_has ls 3 [] → WW H locs (F0 m 58 ls []) := by
    intro tt_58 H locs ls hf hP hD hS hl
    subst hK58
    refine (hWW _ _ _).mpr ?_
    obtain rfl := Option.some.inj hf
    exact W.vret hx hb hr (fun t ht hW => ⟨⟨(), rfl, trivial, hPt ht hP⟩, hS.F ht⟩) hS.2.2 dX2_passes_58
  have P2 : ∀ (n' : Nat) (j2_2 : Int32) (tt_2 : HS) (H : Heap) (locs : List Loc) (ls : Array Slot), L_X2_passes_3_2  K58 n' j2_2 tt_2 = some out → va_P D vwCl (wM A cI tt_2) H → va_D G (wM A cI tt_2) → va_S G s.heap H locs → lv_has ls 3 [(0, .ref (A 0)), (1, .ref (A 4)), (2, .int j2_2)] → WW H locs (F0 m 2 ls []) := by
    intro n'
    induction n' with
    | zero => intro j2_2 tt_2 H locs ls hf; exact absurd (show (none : Option (HS)) = some out from hf) (fun q => by cases q)
    | succ n' ih =>
      intro j2_2 tt_2 H locs ls hf hP hD hS hl
      rw [L_X2_passes_3_2] at hf
      refine (hWW _ _ _).mpr ?_
      refine lv_iload_n hx hb dX2_passes_2 rfl (lv_at hl 2 rfl) ?_
      refine lv_aload_n hx hb dX2_passes_3 rfl (lv_at hl 1 rfl) ?_
      refine va_alen hx hb hK hP 4 0 rfl rfl (v := (8 : Int32)) rfl dX2_passes_4 ?_
      refine lv_icmp_ge (tgt := 58) hx hb dX2_passes_5 (by decide) (fun c1 => ?_) (fun c1 => ?_)
      · have hf := hT hf c1
        exact (hWW _ _ _).mp (J58 _ _ _ _ hf hP hD hS (lv_sub hl [] rfl))
      · have hf := hF hf c1
        refine lv_aload_n hx hb dX2_passes_8 rfl (lv_at hl 0 rfl) ?_
        refine va_get (D := D) (ci := 2) (v := .int (tt_2 27 0)) (C := RX2) (T := TX2) (N := 31) hx hb hts hinM hown hK hP 0 rfl rfl 23 (by decide) lk0 (fun _ h9 => h9) rfl dX2_passes_9 ?_
        refine lv_if_eq (tgt := 30) hx hb dX2_passes_12 (by decide) (fun c2 => ?_) (fun c2 => ?_)
        · have hf := hT hf c2
          refine lv_aload_n hx hb dX2_passes_30 rfl (lv_at hl 1 rfl) ?_
          refine lv_iload_n hx hb dX2_passes_31 rfl (lv_at hl 2 rfl) ?_
          refine lv_aload_n hx hb dX2_passes_32 rfl (lv_at hl 0 rfl) ?_
          refine va_get (D := D) (ci := 2) (v := .ref (A 16)) (C := RX2) (T := TX2) (N := 31) hx hb hts hinM hown hK hP 0 rfl rfl 21 (by decide) lk1 (fun _ h9 => h9) rfl dX2_passes_33 ?_
          refine lv_aload_n hx hb dX2_passes_36 rfl (lv_at hl 0 rfl) ?_
          refine va_get (D := D) (ci := 2) (v := .int (tt_2 28 0)) (C := RX2) (T := TX2) (N := 31) hx hb hts hinM hown hK hP 0 rfl rfl 24 (by decide) lk2 (fun _ h9 => h9) rfl dX2_passes_37 ?_
          obtain ⟨v3, he, hf⟩ := bS hf
          refine x_iald hx hb hK hP 16 (n := 225) rfl he dX2_passes_40 ?_
          obtain ⟨v4, he, hf⟩ := bS hf
          obtain ⟨tt_v5, ett_v5, hf⟩ := jnS hf
          refine x_iast (ws' := (wM A cI tt_v5)) hx hb hK hP hD hS 4 (n := 8) rfl he ((sa_X2_t_3 A cI tt_2 v4).trans (congrArg (fun z => wM A cI z) ett_v5.symm)) dX2_passes_41 (fun H locs hP hD hS => ?_)
          refine lv_aload_n hx hb dX2_passes_42 rfl (lv_at hl 0 rfl) ?_
          refine lv_dup hx hb dX2_passes_43 rfl ?_
          refine va_get (D := D) (ci := 2) (v := .int (tt_v5 28 0)) (C := RX2) (T := TX2) (N := 31) hx hb hts hinM hown hK hP 0 rfl rfl 24 (by decide) lk2 (fun _ h9 => h9) rfl dX2_passes_44 ?_
          refine lv_iconst (v := (1 : Int32)) hx hb dX2_passes_47 (by decide) ?_
          refine lv_iadd hx hb dX2_passes_48 ?_
          obtain ⟨tt_v6, ett_v6, hf⟩ := jnS hf
          refine va_put (D := D) (ci := 2) (v := .int ((tt_v5 28 0) + (1 : Int32))) (ty := .int) (C := RX2) (T := TX2) (N := 31) hx hb hts hinM tyX2 tyX2_ok nmX2 hown hK hP hD hS 0 rfl rfl 24 (by decide) lk2 (fun _ h9 => h9) rfl (by decide +kernel) rfl rfl (Nat.le_of_ble_eq_true rfl) dX2_passes_49 (fun H locs hP hD hS => ?_)
          have hE : _ = (wM A cI tt_v6) := ((sf_X2_t_28 A cI tt_v5 ((tt_v5 28 0) + (1 : Int32))).trans (congrArg (fun z => wM A cI z) ett_v6.symm))
          have hP : va_P D vwCl (wM A cI tt_v6) H := hE ▸ hP
          have hD : va_D G (wM A cI tt_v6) := hE ▸ hD
          refine lv_iinc (v := (j2_2 + (1 : Int32))) (lv' := [(2, .int (j2_2 + (1 : Int32))), (0, .ref (A 0)), (1, .ref (A 4))]) hx hb dX2_passes_52 hl (k := 2) rfl rfl (by decide) rfl (fun ls hl => ?_)
          refine lv_goto (tgt := 2) hx hb dX2_passes_55 (by decide) ?_
          exact (hWW _ _ _).mp (ih _ _ _ _ _ hf hP hD hS (lv_sub hl [1, 2, 0] rfl))
        · have hf := hF hf c2
          refine lv_aload_n hx hb dX2_passes_15 rfl (lv_at hl 0 rfl) ?_
          refine va_get (D := D) (ci := 2) (v := .ref (A 16)) (C := RX2) (T := TX2) (N := 31) hx hb hts hinM hown hK hP 0 rfl rfl 21 (by decide) lk1 (fun _ h9 => h9) rfl dX2_passes_16 ?_
          refine lv_aload_n hx hb dX2_passes_19 rfl (lv_at hl 0 rfl) ?_
          refine va_get (D := D) (ci := 2) (v := .int (tt_2 28 0)) (C := RX2) (T := TX2) (N := 31) hx hb hts hinM hown hK hP 0 rfl rfl 24 (by decide) lk2 (fun _ h9 => h9) rfl dX2_passes_20 ?_
          refine lv_aload_n hx hb dX2_passes_23 rfl (lv_at hl 1 rfl) ?_
          refine lv_iload_n hx hb dX2_passes_24 rfl (lv_at hl 2 rfl) ?_
          obtain ⟨v7, he, hf⟩ := bS hf
          refine x_iald hx hb hK hP 4 (n := 8) rfl he dX2_passes_25 ?_
          obtain ⟨v8, he, hf⟩ := bS hf
          obtain ⟨tt_v9, ett_v9, hf⟩ := jnS hf
          refine x_iast (ws' := (wM A cI tt_v9)) hx hb hK hP hD hS 16 (n := 225) rfl he ((sa_X2_t_15 A cI tt_2 v8).trans (congrArg (fun z => wM A cI z) ett_v9.symm)) dX2_passes_26 (fun H locs hP hD hS => ?_)
          refine lv_goto (tgt := 42) hx hb dX2_passes_27 (by decide) ?_
          refine lv_aload_n hx hb dX2_passes_42 rfl (lv_at hl 0 rfl) ?_
          refine lv_dup hx hb dX2_passes_43 rfl ?_
          refine va_get (D := D) (ci := 2) (v := .int (tt_v9 28 0)) (C := RX2) (T := TX2) (N := 31) hx hb hts hinM hown hK hP 0 rfl rfl 24 (by decide) lk2 (fun _ h9 => h9) rfl dX2_passes_44 ?_
          refine lv_iconst (v := (1 : Int32)) hx hb dX2_passes_47 (by decide) ?_
          refine lv_iadd hx hb dX2_passes_48 ?_
          obtain ⟨tt_v10, ett_v10, hf⟩ := jnS hf
          refine va_put (D := D) (ci := 2) (v := .int ((tt_v9 28 0) + (1 : Int32))) (ty := .int) (C := RX2) (T := TX2) (N := 31) hx hb hts hinM tyX2 tyX2_ok nmX2 hown hK hP hD hS 0 rfl rfl 24 (by decide) lk2 (fun _ h9 => h9) rfl (by decide +kernel) rfl rfl (Nat.le_of_ble_eq_true rfl) dX2_passes_49 (fun H locs hP hD hS => ?_)
          have hE : _ = (wM A cI tt_v10) := ((sf_X2_t_28 A cI tt_v9 ((tt_v9 28 0) + (1 : Int32))).trans (congrArg (fun z => wM A cI z) ett_v10.symm))
          have hP : va_P D vwCl (wM A cI tt_v10) H := hE ▸ hP
          have hD : va_D G (wM A cI tt_v10) := hE ▸ hD
          refine lv_iinc (v := (j2_2 + (1 : Int32))) (lv' := [(2, .int (j2_2 + (1 : Int32))), (0, .ref (A 0)), (1, .ref (A 4))]) hx hb dX2_passes_52 hl (k := 2) rfl rfl (by decide) rfl (fun ls hl => ?_)
          refine lv_goto (tgt := 2) hx hb dX2_passes_55 (by decide) ?_
          exact (hWW _ _ _).mp (ih _ _ _ _ _ hf hP hD hS (lv_sub hl [1, 2, 0] rfl))
  exact (hWW _ _ _).mp (P2 _ _ _ _ _ _ hf hP hD hS (lv_sub hl [1, 2, 0] rfl))
set_option maxHeartbeats 4000000 in
set_option maxRecDepth 100000 in
theorem c_X2_passes_4 (l : Launch) (D : va_G) (cI : ClassId) (A : Nat → Nat) (tt : HS) (out : HS) (hf : f_X2_passes_4 tt = some out) : uV l D cI yX2_passes wsX2_passes ({ frames := 0, cells := 0, slots := 0, locals := 0 } : Room) [.ref (A 0), .ref (A 5)] (wM A cI tt) (wM A cI out) := by
  intro sz
  refine Met.ofW (cc := cX2_passes) (maxL := 3) (ret := none) (by decide) rfl ?_
  intro p e s m args below meth c s₁ Bd hml hv
  obtain ⟨rfl, hsz, hP, hK, hD0, hN⟩ := hv
  have hx := Bd.exec
  have hb := Bd.bytes
  have hr := Bd.returns
  have hts := atoms_spec (ws := wsX2_passes) Bd.pre
  have hown : s.vm.findClass RX2 = some m.cls := findClass_of_methodNamed Bd.named
  have hlocks := Bd.notSynchronized
  subst hsz
  have hD := hD0.self (sz := s.heap.size)
  generalize hAe : va_A (wM A cI tt) s.heap.size = G at hD ⊢
  have hA : ∀ q : Nat, s.heap.size ≤ q → G q := fun q h => by rw [← hAe]; exact Or.inr h
  have hS : va_S G s.heap s.heap [] := va_S.rf
  have hP : va_P D vwCl (wM A cI tt) s.heap := hP
  have hl := lv_entry ([.ref (A 0), .ref (A 5)]) (n := 3) (Nat.le_of_ble_eq_true rfl)
  rw [lg_entry_eq]
  generalize (lg_sl ([.ref (A 0), .ref (A 5)]) ++ List.replicate (3 - (lg_sl ([.ref (A 0), .ref (A 5)])).length) Slot.unset).toArray = ls at hl ⊢
  have hl : lv_has ls 3 [(0, .ref (A 0)), (1, .ref (A 5))] := hl
  have hinM : ∀ w ∈ wsX20, w ∈ wsX2_passes := by decide +kernel
  have lk0 := hts (.fieldLink RX2 159 "LiesBoughtBackModel" "isKeeping" "Z") (by decide +kernel)
  have lk1 := hts (.fieldLink RX2 55 "LiesBoughtBackModel" "kept" "[I") (by decide +kernel)
  have lk2 := hts (.fieldLink RX2 163 "LiesBoughtBackModel" "cursor" "I") (by decide +kernel)
  refine W_in ?_
  intro WW hWW
  refine (hWW _ _ _).mpr ?_
  unfold f_X2_passes_4 at hf
  refine lv_iconst (v := (0 : Int32)) hx hb dX2_passes_0 (by decide) ?_
  refine lv_istore_n (lv' := [(2, .int (0 : Int32)), (0, .ref (A 0)), (1, .ref (A 5))]) hx hb dX2_passes_1 rfl hl (by decide) rfl (fun ls hl => ?_)
  obtain ⟨K58, hK58, hf⟩ := jnS hf
  have J58 : ∀ (tt_58 : HS) (H : Heap) (locs : List Loc) (ls : Array Slot), K58 tt_58 = some out → va_P D vwCl (wM A cI tt_58) H → va_D G (wM A cI tt_58) → va_S G s.heap H locs → lv_has ls 3 [] → WW H locs (F0 m 58 ls []) := by
    intro tt_58 H locs ls hf hP hD hS hl
    subst hK58
    refine (hWW _ _ _).mpr ?_
    obtain rfl := Option.some.inj hf
    exact W.vret hx hb hr (fun t ht hW => ⟨⟨(), rfl, trivial, hPt ht hP⟩, hS.F ht⟩) hS.2.2 dX2_passes_58
  have P2 : ∀ (n' : Nat) (j2_2 : Int32) (tt_2 : HS) (H : Heap) (locs : List Loc) (ls : Array Slot), L_X2_passes_4_2  K58 n' j2_2 tt_2 = some out → va_P D vwCl (wM A cI tt_2) H → va_D G (wM A cI tt_2) → va_S G s.heap H locs → lv_has ls 3 [(0, .ref (A 0)), (1, .ref (A 5)), (2, .int j2_2)] → WW H locs (F0 m 2 ls []) := by
    intro n'
    induction n' with
    | zero => intro j2_2 tt_2 H locs ls hf; exact absurd (show (none : Option (HS)) = some out from hf) (fun q => by cases q)
    | succ n' ih =>
      intro j2_2 tt_2 H locs ls hf hP hD hS hl
      rw [L_X2_passes_4_2] at hf
      refine (hWW _ _ _).mpr ?_
      refine lv_iload_n hx hb dX2_passes_2 rfl (lv_at hl 2 rfl) ?_
      refine lv_aload_n hx hb dX2_passes_3 rfl (lv_at hl 1 rfl) ?_
      refine va_alen hx hb hK hP 5 0 rfl rfl (v := (8 : Int32)) rfl dX2_passes_4 ?_
      refine lv_icmp_ge (tgt := 58) hx hb dX2_passes_5 (by decide) (fun c1 => ?_) (fun c1 => ?_)
      · have hf := hT hf c1
        exact (hWW _ _ _).mp (J58 _ _ _ _ hf hP hD hS (lv_sub hl [] rfl))
      · have hf := hF hf c1
        refine lv_aload_n hx hb dX2_passes_8 rfl (lv_at hl 0 rfl) ?_
        refine va_get (D := D) (ci := 2) (v := .int (tt_2 27 0)) (C := RX2) (T := TX2) (N := 31) hx hb hts hinM hown hK hP 0 rfl rfl 23 (by decide) lk0 (fun _ h9 => h9) rfl dX2_passes_9 ?_
        refine lv_if_eq (tgt := 30) hx hb dX2_passes_12 (by decide) (fun c2 => ?_) (fun c2 => ?_)
        · have hf := hT hf c2
          refine lv_aload_n hx hb dX2_passes_30 rfl (lv_at hl 1 rfl) ?_
          refine lv_iload_n hx hb dX2_passes_31 rfl (lv_at hl 2 rfl) ?_
          refine lv_aload_n hx hb dX2_passes_32 rfl (lv_at hl 0 rfl) ?_
          refine va_get (D := D) (ci := 2) (v := .ref (A 16)) (C := RX2) (T := TX2) (N := 31) hx hb hts hinM hown hK hP 0 rfl rfl 21 (by decide) lk1 (fun _ h9 => h9) rfl dX2_passes_33 ?_
          refine lv_aload_n hx hb dX2_passes_36 rfl (lv_at hl 0 rfl) ?_
          refine va_get (D := D) (ci := 2) (v := .int (tt_2 28 0)) (C := RX2) (T := TX2) (N := 31) hx hb hts hinM hown hK hP 0 rfl rfl 24 (by decide) lk2 (fun _ h9 => h9) rfl dX2_passes_37 ?_
          obtain ⟨v3, he, hf⟩ := bS hf
          refine x_iald hx hb hK hP 16 (n := 225) rfl he dX2_passes_40 ?_
          obtain ⟨v4, he, hf⟩ := bS hf
          obtain ⟨tt_v5, ett_v5, hf⟩ := jnS hf
          refine x_iast (ws' := (wM A cI tt_v5)) hx hb hK hP hD hS 5 (n := 8) rfl he ((sa_X2_t_4 A cI tt_2 v4).trans (congrArg (fun z => wM A cI z) ett_v5.symm)) dX2_passes_41 (fun H locs hP hD hS => ?_)
          refine lv_aload_n hx hb dX2_passes_42 rfl (lv_at hl 0 rfl) ?_
          refine lv_dup hx hb dX2_passes_43 rfl ?_
          refine va_get (D := D) (ci := 2) (v := .int (tt_v5 28 0)) (C := RX2) (T := TX2) (N := 31) hx hb hts hinM hown hK hP 0 rfl rfl 24 (by decide) lk2 (fun _ h9 => h9) rfl dX2_passes_44 ?_
          refine lv_iconst (v := (1 : Int32)) hx hb dX2_passes_47 (by decide) ?_
          refine lv_iadd hx hb dX2_passes_48 ?_
          obtain ⟨tt_v6, ett_v6, hf⟩ := jnS hf
          refine va_put (D := D) (ci := 2) (v := .int ((tt_v5 28 0) + (1 : Int32))) (ty := .int) (C := RX2) (T := TX2) (N := 31) hx hb hts hinM tyX2 tyX2_ok nmX2 hown hK hP hD hS 0 rfl rfl 24 (by decide) lk2 (fun _ h9 => h9) rfl (by decide +kernel) rfl rfl (Nat.le_of_ble_eq_true rfl) dX2_passes_49 (fun H locs hP hD hS => ?_)
          have hE : _ = (wM A cI tt_v6) := ((sf_X2_t_28 A cI tt_v5 ((tt_v5 28 0) + (1 : Int32))).trans (congrArg (fun z => wM A cI z) ett_v6.symm))
          have hP : va_P D vwCl (wM A cI tt_v6) H := hE ▸ hP
          have hD : va_D G (wM A cI tt_v6) := hE ▸ hD
          refine lv_iinc (v := (j2_2 + (1 : Int32))) (lv' := [(2, .int (j2_2 + (1 : Int32))), (0, .ref (A 0)), (1, .ref (A 5))]) hx hb dX2_passes_52 hl (k := 2) rfl rfl (by decide) rfl (fun ls hl => ?_)
          refine lv_goto (tgt := 2) hx hb dX2_passes_55 (by decide) ?_
          exact (hWW _ _ _).mp (ih _ _ _ _ _ hf hP hD hS (lv_sub hl [1, 2, 0] rfl))
        · have hf := hF hf c2
          refine lv_aload_n hx hb dX2_passes_15 rfl (lv_at hl 0 rfl) ?_
          refine va_get (D := D) (ci := 2) (v := .ref (A 16)) (C := RX2) (T := TX2) (N := 31) hx hb hts hinM hown hK hP 0 rfl rfl 21 (by decide) lk1 (fun _ h9 => h9) rfl dX2_passes_16 ?_
          refine lv_aload_n hx hb dX2_passes_19 rfl (lv_at hl 0 rfl) ?_
          refine va_get (D := D) (ci := 2) (v := .int (tt_2 28 0)) (C := RX2) (T := TX2) (N := 31) hx hb hts hinM hown hK hP 0 rfl rfl 24 (by decide) lk2 (fun _ h9 => h9) rfl dX2_passes_20 ?_
          refine lv_aload_n hx hb dX2_passes_23 rfl (lv_at hl 1 rfl) ?_
          refine lv_iload_n hx hb dX2_passes_24 rfl (lv_at hl 2 rfl) ?_
          obtain ⟨v7, he, hf⟩ := bS hf
          refine x_iald hx hb hK hP 5 (n := 8) rfl he dX2_passes_25 ?_
          obtain ⟨v8, he, hf⟩ := bS hf
          obtain ⟨tt_v9, ett_v9, hf⟩ := jnS hf
          refine x_iast (ws' := (wM A cI tt_v9)) hx hb hK hP hD hS 16 (n := 225) rfl he ((sa_X2_t_15 A cI tt_2 v8).trans (congrArg (fun z => wM A cI z) ett_v9.symm)) dX2_passes_26 (fun H locs hP hD hS => ?_)
          refine lv_goto (tgt := 42) hx hb dX2_passes_27 (by decide) ?_
          refine lv_aload_n hx hb dX2_passes_42 rfl (lv_at hl 0 rfl) ?_
          refine lv_dup hx hb dX2_passes_43 rfl ?_
          refine va_get (D := D) (ci := 2) (v := .int (tt_v9 28 0)) (C := RX2) (T := TX2) (N := 31) hx hb hts hinM hown hK hP 0 rfl rfl 24 (by decide) lk2 (fun _ h9 => h9) rfl dX2_passes_44 ?_
          refine lv_iconst (v := (1 : Int32)) hx hb dX2_passes_47 (by decide) ?_
          refine lv_iadd hx hb dX2_passes_48 ?_
          obtain ⟨tt_v10, ett_v10, hf⟩ := jnS hf
          refine va_put (D := D) (ci := 2) (v := .int ((tt_v9 28 0) + (1 : Int32))) (ty := .int) (C := RX2) (T := TX2) (N := 31) hx hb hts hinM tyX2 tyX2_ok nmX2 hown hK hP hD hS 0 rfl rfl 24 (by decide) lk2 (fun _ h9 => h9) rfl (by decide +kernel) rfl rfl (Nat.le_of_ble_eq_true rfl) dX2_passes_49 (fun H locs hP hD hS => ?_)
          have hE : _ = (wM A cI tt_v10) := ((sf_X2_t_28 A cI tt_v9 ((tt_v9 28 0) + (1 : Int32))).trans (congrArg (fun z => wM A cI z) ett_v10.symm))
          have hP : va_P D vwCl (wM A cI tt_v10) H := hE ▸ hP
          have hD : va_D G (wM A cI tt_v10) := hE ▸ hD
          refine lv_iinc (v := (j2_2 + (1 : Int32))) (lv' := [(2, .int (j2_2 + (1 : Int32))), (0, .ref (A 0)), (1, .ref (A 5))]) hx hb dX2_passes_52 hl (k := 2) rfl rfl (by decide) rfl (fun ls hl => ?_)
          refine lv_goto (tgt := 2) hx hb dX2_passes_55 (by decide) ?_
          exact (hWW _ _ _).mp (ih _ _ _ _ _ hf hP hD hS (lv_sub hl [1, 2, 0] rfl))
  exact (hWW _ _ _).mp (P2 _ _ _ _ _ _ hf hP hD hS (lv_sub hl [1, 2, 0] rfl))
