/-! the readers of the class: contracts -/
set_option maxRecDepth 100000 in
theorem bp_X1_HH_nm_h (A : Nat → Nat → Nat) (cI : ClassId) (xx xn xm xk zh : HS) : Bp (wX A cI xx xn xm xk) (wHH (A 1) (A 2) cI xn xm) (wHH (A 1) (A 2) cI zh xm) (wX A cI xx zh xm xk) := Bp_2 (p := (([(A 0 0, .inr (1, [.ref (A 1 0), .ref (A 2 0), .ref (A 3 0), .int (xx 3 0), .ref (A 0 1), .int (xx 4 0), .ref (A 0 2), .int (xx 5 0), .ref (A 0 3)]))] : va_W))) (b := (wH (A 1) cI xn)) (q := ([] : va_W)) (g := (wH (A 2) cI xm)) (r := (([(A 3 0, .inr (0, [.int (xk 10 0), .int (xk 11 0), .int (xk 12 0), .ref (A 3 1), .ref (A 3 2), .ref (A 3 3), .ref (A 3 4), .ref (A 3 5), .ref (A 3 6), .ref (A 3 7), .ref (A 3 8), .ref (A 3 9), .ref (A 3 10)])), (A 3 1, .inl (cI, 8, .inl (xk 0))), (A 3 2, .inl (cI, 8, .inl (xk 1))), (A 3 3, .inl (cI, 8, .inl (xk 2))), (A 3 4, .inl (cI, 8, .inl (xk 3))), (A 3 5, .inl (cI, 8, .inl (xk 4))), (A 3 6, .inl (cI, 8, .inl (xk 5))), (A 3 7, .inl (cI, 6, .inl (xk 6))), (A 3 8, .inl (cI, 6, .inl (xk 7))), (A 3 9, .inl (cI, 6, .inl (xk 8))), (A 3 10, .inl (cI, 6, .inl (xk 9))), (A 0 1, .inl (cI, 96, .inl (xx 0)))] : va_W) ++ (([(A 0 2, .inl (cI, 16, .inl (xx 1))), (A 0 3, .inl (cI, 7, .inl (xx 2)))] : va_W)))) (c := (wH (A 1) cI zh)) rfl
theorem ite8 {c : Prop} [Decidable c] {a b : Nat} (ha : a < 8) (hb : b < 8) : (if c then a else b) < 8 := by
  split
  · exact ha
  · exact hb
theorem shape_lt (x : Int32) : f_X1_shapeBehind x < 8 := by
  unfold f_X1_shapeBehind
  repeat (refine ite8 (by decide) ?_)
  decide
theorem c_charAtZ (l : Launch) (D : va_G) (cI : ClassId) (zA zV : Nat → Nat) (i : Nat) (hi : i < 8) (x v : Int32) (h : sAt i x = some v) : vI l D cI zA zV yJ0_charAt_5068e wsJ0_charAt_5068e ({ frames := 3, cells := 0, slots := 0, locals := 64 } : Room) [.ref (zA i), .int x] [] [] v := by
  unfold sAt at h
  by_cases c : x < 0 ∨ (sB i).length ≤ x.toNatClampNeg
  · rw [if_pos c] at h; cases h
  · rw [if_neg c] at h
    obtain ⟨j, hj, e⟩ := nI_of (fun z => c (Or.inl z))
    subst e
    rw [nI_clamp hj] at h
    have hv := Option.some.inj h
    rw [← hv]
    exact c_J0_charAt_5068e l D cI zA zV i hi j (Nat.lt_of_not_le (fun z => c (Or.inr (by rw [nI_clamp hj]; exact z))))
theorem hd_X0_addBidder : yX0_addBidder.cls = RX0 ∧ yX0_addBidder.cls ≠ "java/lang/invoke/MethodHandle" ∧ yX0_addBidder.cls ≠ "java/lang/invoke/VarHandle" ∧ (parseMethodDescriptor yX0_addBidder.desc).map (fun d => d.parameters.length) = some 3 := by decide +kernel
theorem hd_X0_addCard : yX0_addCard.cls = RX0 ∧ yX0_addCard.cls ≠ "java/lang/invoke/MethodHandle" ∧ yX0_addCard.cls ≠ "java/lang/invoke/VarHandle" ∧ (parseMethodDescriptor yX0_addCard.desc).map (fun d => d.parameters.length) = some 3 := by decide +kernel
theorem hd_X0_fillPurse : yX0_fillPurse.cls = RX0 ∧ yX0_fillPurse.cls ≠ "java/lang/invoke/MethodHandle" ∧ yX0_fillPurse.cls ≠ "java/lang/invoke/VarHandle" ∧ (parseMethodDescriptor yX0_fillPurse.desc).map (fun d => d.parameters.length) = some 2 := by decide +kernel
theorem hd_X0_handTo : yX0_handTo.cls = RX0 ∧ yX0_handTo.cls ≠ "java/lang/invoke/MethodHandle" ∧ yX0_handTo.cls ≠ "java/lang/invoke/VarHandle" ∧ (parseMethodDescriptor yX0_handTo.desc).map (fun d => d.parameters.length) = some 2 := by decide +kernel
theorem hd_X0_layInPile : yX0_layInPile.cls = RX0 ∧ yX0_layInPile.cls ≠ "java/lang/invoke/MethodHandle" ∧ yX0_layInPile.cls ≠ "java/lang/invoke/VarHandle" ∧ (parseMethodDescriptor yX0_layInPile.desc).map (fun d => d.parameters.length) = some 1 := by decide +kernel
theorem hd_X1_comes : yX1_comes.cls = RX1 ∧ yX1_comes.cls ≠ "java/lang/invoke/MethodHandle" ∧ yX1_comes.cls ≠ "java/lang/invoke/VarHandle" ∧ (parseMethodDescriptor yX1_comes.desc).map (fun d => d.parameters.length) = some 1 := by decide +kernel
theorem hd_X1_fits : yX1_fits.cls = RX1 ∧ yX1_fits.cls ≠ "java/lang/invoke/MethodHandle" ∧ yX1_fits.cls ≠ "java/lang/invoke/VarHandle" ∧ (parseMethodDescriptor yX1_fits.desc).map (fun d => d.parameters.length) = some 2 := by decide +kernel
theorem hd_X1_number : yX1_number.cls = RX1 ∧ yX1_number.cls ≠ "java/lang/invoke/MethodHandle" ∧ yX1_number.cls ≠ "java/lang/invoke/VarHandle" ∧ (parseMethodDescriptor yX1_number.desc).map (fun d => d.parameters.length) = some 2 := by decide +kernel
theorem hd_X1_shapeBehind : yX1_shapeBehind.cls = RX1 ∧ yX1_shapeBehind.cls ≠ "java/lang/invoke/MethodHandle" ∧ yX1_shapeBehind.cls ≠ "java/lang/invoke/VarHandle" ∧ (parseMethodDescriptor yX1_shapeBehind.desc).map (fun d => d.parameters.length) = some 1 := by decide +kernel
theorem hd_X1_wrongLetter : yX1_wrongLetter.cls = RX1 ∧ yX1_wrongLetter.cls ≠ "java/lang/invoke/MethodHandle" ∧ yX1_wrongLetter.cls ≠ "java/lang/invoke/VarHandle" ∧ (parseMethodDescriptor yX1_wrongLetter.desc).map (fun d => d.parameters.length) = some 1 := by decide +kernel
set_option maxHeartbeats 4000000 in
set_option maxRecDepth 100000 in
theorem c_X1_shapeBehind (l : Launch) (D : va_G) (cI : ClassId) (zA zV : Nat → Nat) (j0 : Int32) (out : Nat) (hf : f_X1_shapeBehind j0 = out) : vR l D cI zA zV yX1_shapeBehind wsX1_shapeBehind ({ frames := 0, cells := 0, slots := 0, locals := 0 } : Room) [.int j0] [] [] (zA out) := by
  intro sz
  refine Met.ofW (cc := cX1_shapeBehind) (maxL := 1) (ret := (some (.object "java/lang/String"))) (by decide) rfl ?_
  intro p e s m args below meth c s₁ Bd hml hv
  obtain ⟨rfl, ⟨hsz, hP, hK, hD0, hN⟩, hz⟩ := hv
  have hx := Bd.exec
  have hb := Bd.bytes
  have hr := Bd.returns
  have hts := atoms_spec (ws := wsX1_shapeBehind) Bd.pre
  have hown : s.vm.findClass RX1 = some m.cls := findClass_of_methodNamed Bd.named
  have hlocks := Bd.notSynchronized
  subst hsz
  have hD := hD0.self (sz := s.heap.size)
  generalize hAe : va_A [] s.heap.size = G at hD hz ⊢
  have hA : ∀ q : Nat, s.heap.size ≤ q → G q := fun q h => by rw [← hAe]; exact Or.inr h
  have hS : va_S G s.heap s.heap [] := va_S.rf
  have hP : va_P D vwCl [] s.heap := hP
  have hl := lv_entry ([.int j0]) (n := 1) (Nat.le_of_ble_eq_true rfl)
  rw [lg_entry_eq]
  generalize (lg_sl ([.int j0]) ++ List.replicate (1 - (lg_sl ([.int j0])).length) Slot.unset).toArray = ls at hl ⊢
  have hl : lv_has ls 1 [(0, .int j0)] := hl
  refine W_in ?_
  intro WW hWW
  refine (hWW _ _ _).mpr ?_
  unfold f_X1_shapeBehind at hf
  refine lv_iload_n hx hb dX1_shapeBehind_0 rfl (lv_at hl 0 rfl) ?_
  by_cases c1 : j0 = (98 : Int32)
  · have hf := hT hf c1
    refine sw_in (v := 98) (off := 110) (tgt := 111) hx hb dX1_shapeBehind_1 ((congrArg Int32.toInt c1).trans (by decide)) (by decide) (by decide) (by decide) (by decide) ?_
    refine va_ldcS hx hb hown (show vk_R RX1 241 "b0000;" (zA 2) s from hz.2.2.2 2 (by decide)) dX1_shapeBehind_111 ?_
    subst hf
    exact W.aret hx hb hr (Or.inl ⟨_, rfl⟩) (Or.inr ⟨_, rfl⟩) (fun t ht hW => ⟨⟨(), zA 2, rfl, trivial, rfl, hPt ht hP⟩, hS.F ht⟩) hS.2.2 dX1_shapeBehind_113
  have hf := hF hf c1
  by_cases c2 : j0 = (99 : Int32)
  · have hf := hT hf c2
    refine sw_in (v := 99) (off := 107) (tgt := 108) hx hb dX1_shapeBehind_1 ((congrArg Int32.toInt c2).trans (by decide)) (by decide) (by decide) (by decide) (by decide) ?_
    refine va_ldcS hx hb hown (show vk_R RX1 239 "c00;" (zA 1) s from hz.2.2.2 1 (by decide)) dX1_shapeBehind_108 ?_
    subst hf
    exact W.aret hx hb hr (Or.inl ⟨_, rfl⟩) (Or.inr ⟨_, rfl⟩) (fun t ht hW => ⟨⟨(), zA 1, rfl, trivial, rfl, hPt ht hP⟩, hS.F ht⟩) hS.2.2 dX1_shapeBehind_110
  have hf := hF hf c2
  by_cases c3 : j0 = (100 : Int32)
  · have hf := hT hf c3
    refine sw_in (v := 100) (off := 122) (tgt := 123) hx hb dX1_shapeBehind_1 ((congrArg Int32.toInt c3).trans (by decide)) (by decide) (by decide) (by decide) (by decide) ?_
    refine va_ldcS hx hb hown (show vk_R RX1 217 "" (zA 0) s from hz.2.2.2 0 (by decide)) dX1_shapeBehind_123 ?_
    subst hf
    exact W.aret hx hb hr (Or.inl ⟨_, rfl⟩) (Or.inr ⟨_, rfl⟩) (fun t ht hW => ⟨⟨(), zA 0, rfl, trivial, rfl, hPt ht hP⟩, hS.F ht⟩) hS.2.2 dX1_shapeBehind_125
  have hf := hF hf c3
  by_cases c4 : j0 = (101 : Int32)
  · have hf := hT hf c4
    refine sw_in (v := 101) (off := 122) (tgt := 123) hx hb dX1_shapeBehind_1 ((congrArg Int32.toInt c4).trans (by decide)) (by decide) (by decide) (by decide) (by decide) ?_
    refine va_ldcS hx hb hown (show vk_R RX1 217 "" (zA 0) s from hz.2.2.2 0 (by decide)) dX1_shapeBehind_123 ?_
    subst hf
    exact W.aret hx hb hr (Or.inl ⟨_, rfl⟩) (Or.inr ⟨_, rfl⟩) (fun t ht hW => ⟨⟨(), zA 0, rfl, trivial, rfl, hPt ht hP⟩, hS.F ht⟩) hS.2.2 dX1_shapeBehind_125
  have hf := hF hf c4
  by_cases c5 : j0 = (102 : Int32)
  · have hf := hT hf c5
    refine sw_in (v := 102) (off := 122) (tgt := 123) hx hb dX1_shapeBehind_1 ((congrArg Int32.toInt c5).trans (by decide)) (by decide) (by decide) (by decide) (by decide) ?_
    refine va_ldcS hx hb hown (show vk_R RX1 217 "" (zA 0) s from hz.2.2.2 0 (by decide)) dX1_shapeBehind_123 ?_
    subst hf
    exact W.aret hx hb hr (Or.inl ⟨_, rfl⟩) (Or.inr ⟨_, rfl⟩) (fun t ht hW => ⟨⟨(), zA 0, rfl, trivial, rfl, hPt ht hP⟩, hS.F ht⟩) hS.2.2 dX1_shapeBehind_125
  have hf := hF hf c5
  by_cases c6 : j0 = (103 : Int32)
  · have hf := hT hf c6
    refine sw_in (v := 103) (off := 116) (tgt := 117) hx hb dX1_shapeBehind_1 ((congrArg Int32.toInt c6).trans (by decide)) (by decide) (by decide) (by decide) (by decide) ?_
    refine va_ldcS hx hb hown (show vk_R RX1 245 "00;" (zA 4) s from hz.2.2.2 4 (by decide)) dX1_shapeBehind_117 ?_
    subst hf
    exact W.aret hx hb hr (Or.inl ⟨_, rfl⟩) (Or.inr ⟨_, rfl⟩) (fun t ht hW => ⟨⟨(), zA 4, rfl, trivial, rfl, hPt ht hP⟩, hS.F ht⟩) hS.2.2 dX1_shapeBehind_119
  have hf := hF hf c6
  by_cases c7 : j0 = (104 : Int32)
  · have hf := hT hf c7
    refine sw_in (v := 104) (off := 122) (tgt := 123) hx hb dX1_shapeBehind_1 ((congrArg Int32.toInt c7).trans (by decide)) (by decide) (by decide) (by decide) (by decide) ?_
    refine va_ldcS hx hb hown (show vk_R RX1 217 "" (zA 0) s from hz.2.2.2 0 (by decide)) dX1_shapeBehind_123 ?_
    subst hf
    exact W.aret hx hb hr (Or.inl ⟨_, rfl⟩) (Or.inr ⟨_, rfl⟩) (fun t ht hW => ⟨⟨(), zA 0, rfl, trivial, rfl, hPt ht hP⟩, hS.F ht⟩) hS.2.2 dX1_shapeBehind_125
  have hf := hF hf c7
  by_cases c8 : j0 = (105 : Int32)
  · have hf := hT hf c8
    refine sw_in (v := 105) (off := 122) (tgt := 123) hx hb dX1_shapeBehind_1 ((congrArg Int32.toInt c8).trans (by decide)) (by decide) (by decide) (by decide) (by decide) ?_
    refine va_ldcS hx hb hown (show vk_R RX1 217 "" (zA 0) s from hz.2.2.2 0 (by decide)) dX1_shapeBehind_123 ?_
    subst hf
    exact W.aret hx hb hr (Or.inl ⟨_, rfl⟩) (Or.inr ⟨_, rfl⟩) (fun t ht hW => ⟨⟨(), zA 0, rfl, trivial, rfl, hPt ht hP⟩, hS.F ht⟩) hS.2.2 dX1_shapeBehind_125
  have hf := hF hf c8
  by_cases c9 : j0 = (106 : Int32)
  · have hf := hT hf c9
    refine sw_in (v := 106) (off := 122) (tgt := 123) hx hb dX1_shapeBehind_1 ((congrArg Int32.toInt c9).trans (by decide)) (by decide) (by decide) (by decide) (by decide) ?_
    refine va_ldcS hx hb hown (show vk_R RX1 217 "" (zA 0) s from hz.2.2.2 0 (by decide)) dX1_shapeBehind_123 ?_
    subst hf
    exact W.aret hx hb hr (Or.inl ⟨_, rfl⟩) (Or.inr ⟨_, rfl⟩) (fun t ht hW => ⟨⟨(), zA 0, rfl, trivial, rfl, hPt ht hP⟩, hS.F ht⟩) hS.2.2 dX1_shapeBehind_125
  have hf := hF hf c9
  by_cases c10 : j0 = (107 : Int32)
  · have hf := hT hf c10
    refine sw_in (v := 107) (off := 122) (tgt := 123) hx hb dX1_shapeBehind_1 ((congrArg Int32.toInt c10).trans (by decide)) (by decide) (by decide) (by decide) (by decide) ?_
    refine va_ldcS hx hb hown (show vk_R RX1 217 "" (zA 0) s from hz.2.2.2 0 (by decide)) dX1_shapeBehind_123 ?_
    subst hf
    exact W.aret hx hb hr (Or.inl ⟨_, rfl⟩) (Or.inr ⟨_, rfl⟩) (fun t ht hW => ⟨⟨(), zA 0, rfl, trivial, rfl, hPt ht hP⟩, hS.F ht⟩) hS.2.2 dX1_shapeBehind_125
  have hf := hF hf c10
  by_cases c11 : j0 = (108 : Int32)
  · have hf := hT hf c11
    refine sw_in (v := 108) (off := 122) (tgt := 123) hx hb dX1_shapeBehind_1 ((congrArg Int32.toInt c11).trans (by decide)) (by decide) (by decide) (by decide) (by decide) ?_
    refine va_ldcS hx hb hown (show vk_R RX1 217 "" (zA 0) s from hz.2.2.2 0 (by decide)) dX1_shapeBehind_123 ?_
    subst hf
    exact W.aret hx hb hr (Or.inl ⟨_, rfl⟩) (Or.inr ⟨_, rfl⟩) (fun t ht hW => ⟨⟨(), zA 0, rfl, trivial, rfl, hPt ht hP⟩, hS.F ht⟩) hS.2.2 dX1_shapeBehind_125
  have hf := hF hf c11
  by_cases c12 : j0 = (109 : Int32)
  · have hf := hT hf c12
    refine sw_in (v := 109) (off := 116) (tgt := 117) hx hb dX1_shapeBehind_1 ((congrArg Int32.toInt c12).trans (by decide)) (by decide) (by decide) (by decide) (by decide) ?_
    refine va_ldcS hx hb hown (show vk_R RX1 245 "00;" (zA 4) s from hz.2.2.2 4 (by decide)) dX1_shapeBehind_117 ?_
    subst hf
    exact W.aret hx hb hr (Or.inl ⟨_, rfl⟩) (Or.inr ⟨_, rfl⟩) (fun t ht hW => ⟨⟨(), zA 4, rfl, trivial, rfl, hPt ht hP⟩, hS.F ht⟩) hS.2.2 dX1_shapeBehind_119
  have hf := hF hf c12
  by_cases c13 : j0 = (110 : Int32)
  · have hf := hT hf c13
    refine sw_in (v := 110) (off := 122) (tgt := 123) hx hb dX1_shapeBehind_1 ((congrArg Int32.toInt c13).trans (by decide)) (by decide) (by decide) (by decide) (by decide) ?_
    refine va_ldcS hx hb hown (show vk_R RX1 217 "" (zA 0) s from hz.2.2.2 0 (by decide)) dX1_shapeBehind_123 ?_
    subst hf
    exact W.aret hx hb hr (Or.inl ⟨_, rfl⟩) (Or.inr ⟨_, rfl⟩) (fun t ht hW => ⟨⟨(), zA 0, rfl, trivial, rfl, hPt ht hP⟩, hS.F ht⟩) hS.2.2 dX1_shapeBehind_125
  have hf := hF hf c13
  by_cases c14 : j0 = (111 : Int32)
  · have hf := hT hf c14
    refine sw_in (v := 111) (off := 122) (tgt := 123) hx hb dX1_shapeBehind_1 ((congrArg Int32.toInt c14).trans (by decide)) (by decide) (by decide) (by decide) (by decide) ?_
    refine va_ldcS hx hb hown (show vk_R RX1 217 "" (zA 0) s from hz.2.2.2 0 (by decide)) dX1_shapeBehind_123 ?_
    subst hf
    exact W.aret hx hb hr (Or.inl ⟨_, rfl⟩) (Or.inr ⟨_, rfl⟩) (fun t ht hW => ⟨⟨(), zA 0, rfl, trivial, rfl, hPt ht hP⟩, hS.F ht⟩) hS.2.2 dX1_shapeBehind_125
  have hf := hF hf c14
  by_cases c15 : j0 = (112 : Int32)
  · have hf := hT hf c15
    refine sw_in (v := 112) (off := 113) (tgt := 114) hx hb dX1_shapeBehind_1 ((congrArg Int32.toInt c15).trans (by decide)) (by decide) (by decide) (by decide) (by decide) ?_
    refine va_ldcS hx hb hown (show vk_R RX1 243 "0000;" (zA 3) s from hz.2.2.2 3 (by decide)) dX1_shapeBehind_114 ?_
    subst hf
    exact W.aret hx hb hr (Or.inl ⟨_, rfl⟩) (Or.inr ⟨_, rfl⟩) (fun t ht hW => ⟨⟨(), zA 3, rfl, trivial, rfl, hPt ht hP⟩, hS.F ht⟩) hS.2.2 dX1_shapeBehind_116
  have hf := hF hf c15
  by_cases c16 : j0 = (113 : Int32)
  · have hf := hT hf c16
    refine sw_in (v := 113) (off := 122) (tgt := 123) hx hb dX1_shapeBehind_1 ((congrArg Int32.toInt c16).trans (by decide)) (by decide) (by decide) (by decide) (by decide) ?_
    refine va_ldcS hx hb hown (show vk_R RX1 217 "" (zA 0) s from hz.2.2.2 0 (by decide)) dX1_shapeBehind_123 ?_
    subst hf
    exact W.aret hx hb hr (Or.inl ⟨_, rfl⟩) (Or.inr ⟨_, rfl⟩) (fun t ht hW => ⟨⟨(), zA 0, rfl, trivial, rfl, hPt ht hP⟩, hS.F ht⟩) hS.2.2 dX1_shapeBehind_125
  have hf := hF hf c16
  by_cases c17 : j0 = (114 : Int32)
  · have hf := hT hf c17
    refine sw_in (v := 114) (off := 119) (tgt := 120) hx hb dX1_shapeBehind_1 ((congrArg Int32.toInt c17).trans (by decide)) (by decide) (by decide) (by decide) (by decide) ?_
    refine va_ldcS hx hb hown (show vk_R RX1 247 "0;" (zA 5) s from hz.2.2.2 5 (by decide)) dX1_shapeBehind_120 ?_
    subst hf
    exact W.aret hx hb hr (Or.inl ⟨_, rfl⟩) (Or.inr ⟨_, rfl⟩) (fun t ht hW => ⟨⟨(), zA 5, rfl, trivial, rfl, hPt ht hP⟩, hS.F ht⟩) hS.2.2 dX1_shapeBehind_122
  have hf := hF hf c17
  by_cases c18 : j0 = (115 : Int32)
  · have hf := hT hf c18
    refine sw_in (v := 115) (off := 122) (tgt := 123) hx hb dX1_shapeBehind_1 ((congrArg Int32.toInt c18).trans (by decide)) (by decide) (by decide) (by decide) (by decide) ?_
    refine va_ldcS hx hb hown (show vk_R RX1 217 "" (zA 0) s from hz.2.2.2 0 (by decide)) dX1_shapeBehind_123 ?_
    subst hf
    exact W.aret hx hb hr (Or.inl ⟨_, rfl⟩) (Or.inr ⟨_, rfl⟩) (fun t ht hW => ⟨⟨(), zA 0, rfl, trivial, rfl, hPt ht hP⟩, hS.F ht⟩) hS.2.2 dX1_shapeBehind_125
  have hf := hF hf c18
  by_cases c19 : j0 = (116 : Int32)
  · have hf := hT hf c19
    refine sw_in (v := 116) (off := 122) (tgt := 123) hx hb dX1_shapeBehind_1 ((congrArg Int32.toInt c19).trans (by decide)) (by decide) (by decide) (by decide) (by decide) ?_
    refine va_ldcS hx hb hown (show vk_R RX1 217 "" (zA 0) s from hz.2.2.2 0 (by decide)) dX1_shapeBehind_123 ?_
    subst hf
    exact W.aret hx hb hr (Or.inl ⟨_, rfl⟩) (Or.inr ⟨_, rfl⟩) (fun t ht hW => ⟨⟨(), zA 0, rfl, trivial, rfl, hPt ht hP⟩, hS.F ht⟩) hS.2.2 dX1_shapeBehind_125
  have hf := hF hf c19
  by_cases c20 : j0 = (117 : Int32)
  · have hf := hT hf c20
    refine sw_in (v := 117) (off := 122) (tgt := 123) hx hb dX1_shapeBehind_1 ((congrArg Int32.toInt c20).trans (by decide)) (by decide) (by decide) (by decide) (by decide) ?_
    refine va_ldcS hx hb hown (show vk_R RX1 217 "" (zA 0) s from hz.2.2.2 0 (by decide)) dX1_shapeBehind_123 ?_
    subst hf
    exact W.aret hx hb hr (Or.inl ⟨_, rfl⟩) (Or.inr ⟨_, rfl⟩) (fun t ht hW => ⟨⟨(), zA 0, rfl, trivial, rfl, hPt ht hP⟩, hS.F ht⟩) hS.2.2 dX1_shapeBehind_125
  have hf := hF hf c20
  by_cases c21 : j0 = (118 : Int32)
  · have hf := hT hf c21
    refine sw_in (v := 118) (off := 122) (tgt := 123) hx hb dX1_shapeBehind_1 ((congrArg Int32.toInt c21).trans (by decide)) (by decide) (by decide) (by decide) (by decide) ?_
    refine va_ldcS hx hb hown (show vk_R RX1 217 "" (zA 0) s from hz.2.2.2 0 (by decide)) dX1_shapeBehind_123 ?_
    subst hf
    exact W.aret hx hb hr (Or.inl ⟨_, rfl⟩) (Or.inr ⟨_, rfl⟩) (fun t ht hW => ⟨⟨(), zA 0, rfl, trivial, rfl, hPt ht hP⟩, hS.F ht⟩) hS.2.2 dX1_shapeBehind_125
  have hf := hF hf c21
  by_cases c22 : j0 = (119 : Int32)
  · have hf := hT hf c22
    refine sw_in (v := 119) (off := 122) (tgt := 123) hx hb dX1_shapeBehind_1 ((congrArg Int32.toInt c22).trans (by decide)) (by decide) (by decide) (by decide) (by decide) ?_
    refine va_ldcS hx hb hown (show vk_R RX1 217 "" (zA 0) s from hz.2.2.2 0 (by decide)) dX1_shapeBehind_123 ?_
    subst hf
    exact W.aret hx hb hr (Or.inl ⟨_, rfl⟩) (Or.inr ⟨_, rfl⟩) (fun t ht hW => ⟨⟨(), zA 0, rfl, trivial, rfl, hPt ht hP⟩, hS.F ht⟩) hS.2.2 dX1_shapeBehind_125
  have hf := hF hf c22
  by_cases c23 : j0 = (120 : Int32)
  · have hf := hT hf c23
    refine sw_in (v := 120) (off := 116) (tgt := 117) hx hb dX1_shapeBehind_1 ((congrArg Int32.toInt c23).trans (by decide)) (by decide) (by decide) (by decide) (by decide) ?_
    refine va_ldcS hx hb hown (show vk_R RX1 245 "00;" (zA 4) s from hz.2.2.2 4 (by decide)) dX1_shapeBehind_117 ?_
    subst hf
    exact W.aret hx hb hr (Or.inl ⟨_, rfl⟩) (Or.inr ⟨_, rfl⟩) (fun t ht hW => ⟨⟨(), zA 4, rfl, trivial, rfl, hPt ht hP⟩, hS.F ht⟩) hS.2.2 dX1_shapeBehind_119
  have hf := hF hf c23
  refine lv_tableOut (tgt := 123) hx hb dX1_shapeBehind_1 (by have z0 := lv_neT (a := 98) c1 (by decide); have z1 := lv_neT (a := 99) c2 (by decide); have z2 := lv_neT (a := 100) c3 (by decide); have z3 := lv_neT (a := 101) c4 (by decide); have z4 := lv_neT (a := 102) c5 (by decide); have z5 := lv_neT (a := 103) c6 (by decide); have z6 := lv_neT (a := 104) c7 (by decide); have z7 := lv_neT (a := 105) c8 (by decide); have z8 := lv_neT (a := 106) c9 (by decide); have z9 := lv_neT (a := 107) c10 (by decide); have z10 := lv_neT (a := 108) c11 (by decide); have z11 := lv_neT (a := 109) c12 (by decide); have z12 := lv_neT (a := 110) c13 (by decide); have z13 := lv_neT (a := 111) c14 (by decide); have z14 := lv_neT (a := 112) c15 (by decide); have z15 := lv_neT (a := 113) c16 (by decide); have z16 := lv_neT (a := 114) c17 (by decide); have z17 := lv_neT (a := 115) c18 (by decide); have z18 := lv_neT (a := 116) c19 (by decide); have z19 := lv_neT (a := 117) c20 (by decide); have z20 := lv_neT (a := 118) c21 (by decide); have z21 := lv_neT (a := 119) c22 (by decide); have z22 := lv_neT (a := 120) c23 (by decide); omega) (by decide) ?_
  refine va_ldcS hx hb hown (show vk_R RX1 217 "" (zA 0) s from hz.2.2.2 0 (by decide)) dX1_shapeBehind_123 ?_
  subst hf
  exact W.aret hx hb hr (Or.inl ⟨_, rfl⟩) (Or.inr ⟨_, rfl⟩) (fun t ht hW => ⟨⟨(), zA 0, rfl, trivial, rfl, hPt ht hP⟩, hS.F ht⟩) hS.2.2 dX1_shapeBehind_125
set_option maxHeartbeats 4000000 in
set_option maxRecDepth 100000 in
theorem c_X1_fits (l : Launch) (D : va_G) (cI : ClassId) (zA zV : Nat → Nat) (j0 : Int32) (j1 : Int32) (out : Int32) (hf : f_X1_fits j0 j1 = out) : vI l D cI zA zV yX1_fits wsX1_fits ({ frames := 4, cells := 0, slots := 0, locals := 91 } : Room) [.int j0, .int j1] [] [] out := by
  intro sz
  refine Met.ofW (cc := cX1_fits) (maxL := 2) (ret := (some .boolean)) (by decide) rfl ?_
  intro p e s m args below meth c s₁ Bd hml hv
  obtain ⟨rfl, ⟨hsz, hP, hK, hD0, hN⟩, hz⟩ := hv
  have hx := Bd.exec
  have hb := Bd.bytes
  have hr := Bd.returns
  have hts := atoms_spec (ws := wsX1_fits) Bd.pre
  have hown : s.vm.findClass RX1 = some m.cls := findClass_of_methodNamed Bd.named
  have hlocks := Bd.notSynchronized
  subst hsz
  have hD := hD0.self (sz := s.heap.size)
  generalize hAe : va_A [] s.heap.size = G at hD hz ⊢
  have hA : ∀ q : Nat, s.heap.size ≤ q → G q := fun q h => by rw [← hAe]; exact Or.inr h
  have hS : va_S G s.heap s.heap [] := va_S.rf
  have hP : va_P D vwCl [] s.heap := hP
  have hl := lv_entry ([.int j0, .int j1]) (n := 2) (Nat.le_of_ble_eq_true rfl)
  rw [lg_entry_eq]
  generalize (lg_sl ([.int j0, .int j1]) ++ List.replicate (2 - (lg_sl ([.int j0, .int j1])).length) Slot.unset).toArray = ls at hl ⊢
  have hl : lv_has ls 2 [(0, .int j0), (1, .int j1)] := hl
  refine W_in ?_
  intro WW hWW
  refine (hWW _ _ _).mpr ?_
  unfold f_X1_fits at hf
  refine lv_iload_n hx hb dX1_fits_0 rfl (lv_at hl 1 rfl) ?_
  by_cases c1 : j1 = (48 : Int32)
  · have hf := hT hf c1
    refine lv_lookup (off := 67) (tgt := 68) hx hb dX1_fits_1 (by decide) (by rw [show (j1 : Int32).toInt = 48 from ((congrArg Int32.toInt c1).trans (by decide))]; decide) (by decide) ?_
    refine lv_iload_n hx hb dX1_fits_68 rfl (lv_at hl 0 rfl) ?_
    refine lv_bipush (v := (48 : Int32)) hx hb dX1_fits_69 (by decide) ?_
    refine lv_icmp_lt (tgt := 84) hx hb dX1_fits_71 (by decide) (fun c2 => ?_) (fun c2 => ?_)
    · have hf := hT hf c2
      refine lv_iconst (v := (0 : Int32)) hx hb dX1_fits_84 (by decide) ?_
      subst hf
      exact W.zret (ty := .boolean) (v := (0 : Int32)) hx hb hr rfl (fun t ht hW => ⟨⟨(0 : Int32), (), rfl, rfl, hPt ht hP⟩, hS.F ht⟩) hS.2.2 dX1_fits_85
    · have hf := hF hf c2
      refine lv_iload_n hx hb dX1_fits_74 rfl (lv_at hl 0 rfl) ?_
      refine lv_bipush (v := (57 : Int32)) hx hb dX1_fits_75 (by decide) ?_
      refine lv_icmp_gt (tgt := 84) hx hb dX1_fits_77 (by decide) (fun c3 => ?_) (fun c3 => ?_)
      · have hf := hT hf c3
        refine lv_iconst (v := (0 : Int32)) hx hb dX1_fits_84 (by decide) ?_
        subst hf
        exact W.zret (ty := .boolean) (v := (0 : Int32)) hx hb hr rfl (fun t ht hW => ⟨⟨(0 : Int32), (), rfl, rfl, hPt ht hP⟩, hS.F ht⟩) hS.2.2 dX1_fits_85
      · have hf := hF hf c3
        refine lv_iconst (v := (1 : Int32)) hx hb dX1_fits_80 (by decide) ?_
        refine lv_goto (tgt := 85) hx hb dX1_fits_81 (by decide) ?_
        subst hf
        exact W.zret (ty := .boolean) (v := (1 : Int32)) hx hb hr rfl (fun t ht hW => ⟨⟨(1 : Int32), (), rfl, rfl, hPt ht hP⟩, hS.F ht⟩) hS.2.2 dX1_fits_85
  have hf := hF hf c1
  by_cases c4 : j1 = (98 : Int32)
  · have hf := hT hf c4
    refine lv_lookup (off := 51) (tgt := 52) hx hb dX1_fits_1 (by decide) (by rw [show (j1 : Int32).toInt = 98 from ((congrArg Int32.toInt c4).trans (by decide))]; decide) (by decide) ?_
    refine va_ldcS hx hb hown (show vk_R RX1 254 "bserhf" (zA 7) s from hz.2.2.2 7 (by decide)) dX1_fits_52 ?_
    refine lv_iload_n hx hb dX1_fits_54 rfl (lv_at hl 0 rfl) ?_
    refine lv_i2c hx hb dX1_fits_55 rfl ?_
    refine tV_i (As := [.int (j0.toUInt32 % 65536).toInt32]) (rest := []) ⟨hx, hb, hml, hown, hts⟩ hK hN hA hP hD hS hz (c_J0_indexOf_0f7a4 l D cI zA zV 7 (by decide) (j0.toUInt32 % 65536).toInt32) (cwV 1 hts gX1_fits_J0_indexOf_0f7a4 rfl rfl rfl hd_J0_indexOf_0f7a4 ⟨Nat.le_of_ble_eq_true rfl, Nat.le_of_ble_eq_true rfl⟩) (vk_recv hz.1 (by decide) hS) Bp_e rfl hl.1 rfl (Nat.le_of_ble_eq_true rfl) dX1_fits_56 ⟨Nat.le_of_ble_eq_true rfl, Nat.le_of_ble_eq_true rfl⟩ (fun H locs hP hD hS => ?_)
    refine lv_if_lt (tgt := 66) hx hb dX1_fits_59 (by decide) (fun c5 => ?_) (fun c5 => ?_)
    · have hf := hT hf c5
      refine lv_iconst (v := (0 : Int32)) hx hb dX1_fits_66 (by decide) ?_
      subst hf
      exact W.zret (ty := .boolean) (v := (0 : Int32)) hx hb hr rfl (fun t ht hW => ⟨⟨(0 : Int32), (), rfl, rfl, hPt ht hP⟩, hS.F ht⟩) hS.2.2 dX1_fits_67
    · have hf := hF hf c5
      refine lv_iconst (v := (1 : Int32)) hx hb dX1_fits_62 (by decide) ?_
      refine lv_goto (tgt := 67) hx hb dX1_fits_63 (by decide) ?_
      subst hf
      exact W.zret (ty := .boolean) (v := (1 : Int32)) hx hb hr rfl (fun t ht hW => ⟨⟨(1 : Int32), (), rfl, rfl, hPt ht hP⟩, hS.F ht⟩) hS.2.2 dX1_fits_67
  have hf := hF hf c4
  by_cases c6 : j1 = (99 : Int32)
  · have hf := hT hf c6
    refine lv_lookup (off := 35) (tgt := 36) hx hb dX1_fits_1 (by decide) (by rw [show (j1 : Int32).toInt = 99 from ((congrArg Int32.toInt c6).trans (by decide))]; decide) (by decide) ?_
    refine va_ldcS hx hb hown (show vk_R RX1 249 "lkgowt" (zA 6) s from hz.2.2.2 6 (by decide)) dX1_fits_36 ?_
    refine lv_iload_n hx hb dX1_fits_38 rfl (lv_at hl 0 rfl) ?_
    refine lv_i2c hx hb dX1_fits_39 rfl ?_
    refine tV_i (As := [.int (j0.toUInt32 % 65536).toInt32]) (rest := []) ⟨hx, hb, hml, hown, hts⟩ hK hN hA hP hD hS hz (c_J0_indexOf_0f7a4 l D cI zA zV 6 (by decide) (j0.toUInt32 % 65536).toInt32) (cwV 1 hts gX1_fits_J0_indexOf_0f7a4 rfl rfl rfl hd_J0_indexOf_0f7a4 ⟨Nat.le_of_ble_eq_true rfl, Nat.le_of_ble_eq_true rfl⟩) (vk_recv hz.1 (by decide) hS) Bp_e rfl hl.1 rfl (Nat.le_of_ble_eq_true rfl) dX1_fits_40 ⟨Nat.le_of_ble_eq_true rfl, Nat.le_of_ble_eq_true rfl⟩ (fun H locs hP hD hS => ?_)
    refine lv_if_lt (tgt := 50) hx hb dX1_fits_43 (by decide) (fun c7 => ?_) (fun c7 => ?_)
    · have hf := hT hf c7
      refine lv_iconst (v := (0 : Int32)) hx hb dX1_fits_50 (by decide) ?_
      subst hf
      exact W.zret (ty := .boolean) (v := (0 : Int32)) hx hb hr rfl (fun t ht hW => ⟨⟨(0 : Int32), (), rfl, rfl, hPt ht hP⟩, hS.F ht⟩) hS.2.2 dX1_fits_51
    · have hf := hF hf c7
      refine lv_iconst (v := (1 : Int32)) hx hb dX1_fits_46 (by decide) ?_
      refine lv_goto (tgt := 51) hx hb dX1_fits_47 (by decide) ?_
      subst hf
      exact W.zret (ty := .boolean) (v := (1 : Int32)) hx hb hr rfl (fun t ht hW => ⟨⟨(1 : Int32), (), rfl, rfl, hPt ht hP⟩, hS.F ht⟩) hS.2.2 dX1_fits_51
  have hf := hF hf c6
  refine lv_lookup (off := 85) (tgt := 86) hx hb dX1_fits_1 (by decide) ((lv_osw c1 (by decide)).trans ((lv_osw c4 (by decide)).trans ((lv_osw c6 (by decide)).trans rfl))) (by decide) ?_
  refine lv_iload_n hx hb dX1_fits_86 rfl (lv_at hl 0 rfl) ?_
  refine lv_iload_n hx hb dX1_fits_87 rfl (lv_at hl 1 rfl) ?_
  refine lv_icmp_ne (tgt := 95) hx hb dX1_fits_88 (by decide) (fun c8 => ?_) (fun c8 => ?_)
  · have hf := hF hf c8
    refine lv_iconst (v := (0 : Int32)) hx hb dX1_fits_95 (by decide) ?_
    subst hf
    exact W.zret (ty := .boolean) (v := (0 : Int32)) hx hb hr rfl (fun t ht hW => ⟨⟨(0 : Int32), (), rfl, rfl, hPt ht hP⟩, hS.F ht⟩) hS.2.2 dX1_fits_96
  · have hf := hT hf c8
    refine lv_iconst (v := (1 : Int32)) hx hb dX1_fits_91 (by decide) ?_
    refine lv_goto (tgt := 96) hx hb dX1_fits_92 (by decide) ?_
    subst hf
    exact W.zret (ty := .boolean) (v := (1 : Int32)) hx hb hr rfl (fun t ht hW => ⟨⟨(1 : Int32), (), rfl, rfl, hPt ht hP⟩, hS.F ht⟩) hS.2.2 dX1_fits_96
set_option maxHeartbeats 4000000 in
set_option maxRecDepth 100000 in
theorem c_X1_wrongLetter (l : Launch) (D : va_G) (cI : ClassId) (zA zV : Nat → Nat) (A : Nat → Nat → Nat) (j1 : Int32) (xx : HS) (xn : HS) (xm : HS) (xk : HS) (out : Int32) (hf : f_X1_wrongLetter j1 xx xn xm xk = some out) : vI l D cI zA zV yX1_wrongLetter wsX1_wrongLetter ({ frames := 5, cells := 0, slots := 0, locals := 112 } : Room) [.ref ((A 0) 0), .int j1] (wX A cI xx xn xm xk) (wX A cI xx xn xm xk) out := by
  intro sz
  refine Met.ofW (cc := cX1_wrongLetter) (maxL := 6) (ret := (some .int)) (by decide) rfl ?_
  intro p e s m args below meth c s₁ Bd hml hv
  obtain ⟨rfl, ⟨hsz, hP, hK, hD0, hN⟩, hz⟩ := hv
  have hx := Bd.exec
  have hb := Bd.bytes
  have hr := Bd.returns
  have hts := atoms_spec (ws := wsX1_wrongLetter) Bd.pre
  have hown : s.vm.findClass RX1 = some m.cls := findClass_of_methodNamed Bd.named
  have hlocks := Bd.notSynchronized
  subst hsz
  have hD := hD0.self (sz := s.heap.size)
  generalize hAe : va_A (wX A cI xx xn xm xk) s.heap.size = G at hD hz ⊢
  have hA : ∀ q : Nat, s.heap.size ≤ q → G q := fun q h => by rw [← hAe]; exact Or.inr h
  have hS : va_S G s.heap s.heap [] := va_S.rf
  have hP : va_P D vwCl (wX A cI xx xn xm xk) s.heap := hP
  have hl := lv_entry ([.ref ((A 0) 0), .int j1]) (n := 6) (Nat.le_of_ble_eq_true rfl)
  rw [lg_entry_eq]
  generalize (lg_sl ([.ref ((A 0) 0), .int j1]) ++ List.replicate (6 - (lg_sl ([.ref ((A 0) 0), .int j1])).length) Slot.unset).toArray = ls at hl ⊢
  have hl : lv_has ls 6 [(0, .ref ((A 0) 0)), (1, .int j1)] := hl
  have hinX : ∀ w ∈ wsX10, w ∈ wsX1_wrongLetter := by decide +kernel
  have lk0 := hts (.fieldLink RX1 22 "LiesBoughtBack" "letters" "[I") (by decide +kernel)
  refine W_in ?_
  intro WW hWW
  refine (hWW _ _ _).mpr ?_
  unfold f_X1_wrongLetter at hf
  refine va_ldcS hx hb hown (show vk_R RX1 217 "" (zA 0) s from hz.2.2.2 0 (by decide)) dX1_wrongLetter_0 ?_
  refine lv_astore_n (lv' := [(2, .ref (zA 0)), (0, .ref ((A 0) 0)), (1, .int j1)]) hx hb dX1_wrongLetter_2 rfl hl (by decide) rfl (fun ls hl => ?_)
  refine lv_iconst (v := (0 : Int32)) hx hb dX1_wrongLetter_3 (by decide) ?_
  refine lv_istore_n (lv' := [(3, .int (0 : Int32)), (2, .ref (zA 0)), (0, .ref ((A 0) 0)), (1, .int j1)]) hx hb dX1_wrongLetter_4 rfl hl (by decide) rfl (fun ls hl => ?_)
  refine lv_iconst (v := (0 : Int32)) hx hb dX1_wrongLetter_5 (by decide) ?_
  refine lv_istore (lv' := [(4, .int (0 : Int32)), (3, .int (0 : Int32)), (2, .ref (zA 0)), (0, .ref ((A 0) 0)), (1, .int j1)]) hx hb dX1_wrongLetter_6 hl (by decide) rfl (fun ls hl => ?_)
  obtain ⟨K76, hK76, hf⟩ := jnS hf
  have J76 : ∀ (j2_76 : Nat) (j3_76 : Int32) (H : Heap) (locs : List Loc) (ls : Array Slot), j2_76 < 8 → K76 j2_76 j3_76 = some out → va_P D vwCl (wX A cI xx xn xm xk) H → va_D G (wX A cI xx xn xm xk) → va_S G s.heap H locs → lv_has ls 6 [(1, .int j1), (2, .ref (zA j2_76)), (3, .int j3_76)] → WW H locs (F0 m 76 ls []) := by
    intro j2_76 j3_76 H locs ls hs_j2_76 hf hP hD hS hl
    subst hK76
    refine (hWW _ _ _).mpr ?_
    refine lv_iload_n hx hb dX1_wrongLetter_76 rfl (lv_at hl 0 rfl) ?_
    refine lv_if_eq (tgt := 88) hx hb dX1_wrongLetter_77 (by decide) (fun c1 => ?_) (fun c1 => ?_)
    · have hf := hT hf c1
      refine lv_iload_n hx hb dX1_wrongLetter_88 rfl (lv_at hl 0 rfl) ?_
      refine lv_goto (tgt := 93) hx hb dX1_wrongLetter_89 (by decide) ?_
      obtain rfl := Option.some.inj hf
      exact W.iret (v := j1) hx hb hr (fun t ht hW => ⟨⟨j1, (), rfl, rfl, hPt ht hP⟩, hS.F ht⟩) hS.2.2 dX1_wrongLetter_93
    · have hf := hF hf c1
      refine lv_iload_n hx hb dX1_wrongLetter_80 rfl (lv_at hl 2 rfl) ?_
      refine lv_aload_n hx hb dX1_wrongLetter_81 rfl (lv_at hl 1 rfl) ?_
      refine tV_i (As := []) (rest := [.int j3_76]) ⟨hx, hb, hml, hown, hts⟩ hK hN hA hP hD hS hz (c_J0_length_8abf5 l D cI zA zV j2_76 hs_j2_76) (cwV 0 hts gX1_wrongLetter_J0_length_8abf5 rfl rfl rfl hd_J0_length_8abf5 ⟨Nat.le_of_ble_eq_true rfl, Nat.le_of_ble_eq_true rfl⟩) (vk_recv hz.1 hs_j2_76 hS) Bp_e rfl hl.1 rfl (Nat.le_of_ble_eq_true rfl) dX1_wrongLetter_82 ⟨Nat.le_of_ble_eq_true rfl, Nat.le_of_ble_eq_true rfl⟩ (fun H locs hP hD hS => ?_)
      refine lv_icmp_ge (tgt := 92) hx hb dX1_wrongLetter_85 (by decide) (fun c2 => ?_) (fun c2 => ?_)
      · have hf := hT hf c2
        refine lv_iconst (v := (-1 : Int32)) hx hb dX1_wrongLetter_92 (by decide) ?_
        obtain rfl := Option.some.inj hf
        exact W.iret (v := (-1 : Int32)) hx hb hr (fun t ht hW => ⟨⟨(-1 : Int32), (), rfl, rfl, hPt ht hP⟩, hS.F ht⟩) hS.2.2 dX1_wrongLetter_93
      · have hf := hF hf c2
        refine lv_iload_n hx hb dX1_wrongLetter_88 rfl (lv_at hl 0 rfl) ?_
        refine lv_goto (tgt := 93) hx hb dX1_wrongLetter_89 (by decide) ?_
        obtain rfl := Option.some.inj hf
        exact W.iret (v := j1) hx hb hr (fun t ht hW => ⟨⟨j1, (), rfl, rfl, hPt ht hP⟩, hS.F ht⟩) hS.2.2 dX1_wrongLetter_93
  have P8 : ∀ (n' : Nat) (j2_8 : Nat) (j3_8 : Int32) (j4_8 : Int32) (H : Heap) (locs : List Loc) (ls : Array Slot), j2_8 < 8 → L_X1_wrongLetter_8 j1 xx xn xm xk K76 n' j2_8 j3_8 j4_8 = some out → va_P D vwCl (wX A cI xx xn xm xk) H → va_D G (wX A cI xx xn xm xk) → va_S G s.heap H locs → lv_has ls 6 [(0, .ref ((A 0) 0)), (1, .int j1), (2, .ref (zA j2_8)), (3, .int j3_8), (4, .int j4_8)] → WW H locs (F0 m 8 ls []) := by
    intro n'
    induction n' with
    | zero => intro j2_8 j3_8 j4_8 H locs ls hs_j2_8 hf; exact absurd (show (none : Option (Int32)) = some out from hf) (fun q => by cases q)
    | succ n' ih =>
      intro j2_8 j3_8 j4_8 H locs ls hs_j2_8 hf hP hD hS hl
      rw [L_X1_wrongLetter_8] at hf
      refine (hWW _ _ _).mpr ?_
      refine lv_iload hx hb dX1_wrongLetter_8 (lv_at hl 4 rfl) ?_
      refine lv_iload_n hx hb dX1_wrongLetter_10 rfl (lv_at hl 1 rfl) ?_
      refine lv_icmp_ge (tgt := 76) hx hb dX1_wrongLetter_11 (by decide) (fun c3 => ?_) (fun c3 => ?_)
      · have hf := hT hf c3
        exact (hWW _ _ _).mp (J76 _ _ _ _ _ hs_j2_8 hf hP hD hS (lv_sub hl [1, 2, 3] rfl))
      · have hf := hF hf c3
        refine lv_aload_n hx hb dX1_wrongLetter_14 rfl (lv_at hl 0 rfl) ?_
        refine va_get (D := D) (ci := 1) (v := .ref ((A 0) 1)) (C := RX1) (T := TX1) (N := 9) hx hb hts hinX hown hK hP 0 rfl rfl 4 (by decide) lk0 (fun _ h9 => h9) rfl dX1_wrongLetter_15 ?_
        refine lv_iload hx hb dX1_wrongLetter_18 (lv_at hl 4 rfl) ?_
        refine qS_i (As := [.ref ((A 0) 1), .int j4_8]) (rest := []) ⟨hx, hb, hml, hown, hts⟩ hK hN hA hP hD hS (c_X1_at l D cI 96 (by decide) ((A 0) 1) (xx 0) j4_8) (va_cwS 2 hts gX1_wrongLetter_X1_at rfl rfl rfl hd_X1_at.2 ⟨Nat.le_of_ble_eq_true rfl, Nat.le_of_ble_eq_true rfl⟩) (bA_X1_x_0 A cI xx xn xm xk) rfl hl.1 rfl (Nat.le_of_ble_eq_true rfl) dX1_wrongLetter_20 ⟨Nat.le_of_ble_eq_true rfl, Nat.le_of_ble_eq_true rfl⟩ (fun H locs hP hD hS => ?_)
        refine lv_istore (lv' := [(5, .int (atv 96 (xx 0) j4_8)), (0, .ref ((A 0) 0)), (1, .int j1), (2, .ref (zA j2_8)), (3, .int j3_8), (4, .int j4_8)]) hx hb dX1_wrongLetter_23 hl (by decide) rfl (fun ls hl => ?_)
        refine lv_iload_n hx hb dX1_wrongLetter_25 rfl (lv_at hl 4 rfl) ?_
        refine lv_aload_n hx hb dX1_wrongLetter_26 rfl (lv_at hl 3 rfl) ?_
        refine tV_i (As := []) (rest := [.int j3_8]) ⟨hx, hb, hml, hown, hts⟩ hK hN hA hP hD hS hz (c_J0_length_8abf5 l D cI zA zV j2_8 hs_j2_8) (cwV 0 hts gX1_wrongLetter_J0_length_8abf5 rfl rfl rfl hd_J0_length_8abf5 ⟨Nat.le_of_ble_eq_true rfl, Nat.le_of_ble_eq_true rfl⟩) (vk_recv hz.1 hs_j2_8 hS) Bp_e rfl hl.1 rfl (Nat.le_of_ble_eq_true rfl) dX1_wrongLetter_27 ⟨Nat.le_of_ble_eq_true rfl, Nat.le_of_ble_eq_true rfl⟩ (fun H locs hP hD hS => ?_)
        refine lv_icmp_lt (tgt := 51) hx hb dX1_wrongLetter_30 (by decide) (fun c4 => ?_) (fun c4 => ?_)
        · have hf := hT hf c4
          refine lv_iload hx hb dX1_wrongLetter_51 (lv_at hl 0 rfl) ?_
          refine lv_aload_n hx hb dX1_wrongLetter_53 rfl (lv_at hl 3 rfl) ?_
          refine lv_iload_n hx hb dX1_wrongLetter_54 rfl (lv_at hl 4 rfl) ?_
          obtain ⟨v5, hev5, hf⟩ := bS hf
          refine tV_i (As := [.int j3_8]) (rest := [.int (atv 96 (xx 0) j4_8)]) ⟨hx, hb, hml, hown, hts⟩ hK hN hA hP hD hS hz (c_charAtZ l D cI zA zV j2_8 hs_j2_8 j3_8 v5 hev5) (cwV 1 hts gX1_wrongLetter_J0_charAt_5068e rfl rfl rfl hd_J0_charAt_5068e ⟨Nat.le_of_ble_eq_true rfl, Nat.le_of_ble_eq_true rfl⟩) (vk_recv hz.1 hs_j2_8 hS) Bp_e rfl hl.1 rfl (Nat.le_of_ble_eq_true rfl) dX1_wrongLetter_55 ⟨Nat.le_of_ble_eq_true rfl, Nat.le_of_ble_eq_true rfl⟩ (fun H locs hP hD hS => ?_)
          refine tS_i (As := [.int (atv 96 (xx 0) j4_8), .int v5]) (rest := []) ⟨hx, hb, hml, hown, hts⟩ hK hN hA hP hD hS hz (c_X1_fits l D cI zA zV (atv 96 (xx 0) j4_8) v5 (f_X1_fits (atv 96 (xx 0) j4_8) v5) rfl) (va_cwS 2 hts gX1_wrongLetter_X1_fits rfl rfl rfl hd_X1_fits.2 ⟨Nat.le_of_ble_eq_true rfl, Nat.le_of_ble_eq_true rfl⟩) Bp_e rfl hl.1 rfl (Nat.le_of_ble_eq_true rfl) dX1_wrongLetter_58 ⟨Nat.le_of_ble_eq_true rfl, Nat.le_of_ble_eq_true rfl⟩ (fun H locs hP hD hS => ?_)
          refine lv_if_ne (tgt := 67) hx hb dX1_wrongLetter_61 (by decide) (fun c6 => ?_) (fun c6 => ?_)
          · have hf := hF hf c6
            refine lv_iinc (v := (j3_8 + (1 : Int32))) (lv' := [(3, .int (j3_8 + (1 : Int32))), (5, .int (atv 96 (xx 0) j4_8)), (0, .ref ((A 0) 0)), (1, .int j1), (2, .ref (zA j2_8)), (4, .int j4_8)]) hx hb dX1_wrongLetter_67 hl (k := 4) rfl rfl (by decide) rfl (fun ls hl => ?_)
            refine lv_iinc (v := (j4_8 + (1 : Int32))) (lv' := [(4, .int (j4_8 + (1 : Int32))), (3, .int (j3_8 + (1 : Int32))), (5, .int (atv 96 (xx 0) j4_8)), (0, .ref ((A 0) 0)), (1, .int j1), (2, .ref (zA j2_8))]) hx hb dX1_wrongLetter_70 hl (k := 5) rfl rfl (by decide) rfl (fun ls hl => ?_)
            refine lv_goto (tgt := 8) hx hb dX1_wrongLetter_73 (by decide) ?_
            exact (hWW _ _ _).mp (ih _ _ _ _ _ _ hs_j2_8 hf hP hD hS (lv_sub hl [3, 4, 5, 1, 0] rfl))
          · have hf := hT hf c6
            refine lv_iload hx hb dX1_wrongLetter_64 (lv_at hl 5 rfl) ?_
            obtain rfl := Option.some.inj hf
            exact W.iret (v := j4_8) hx hb hr (fun t ht hW => ⟨⟨j4_8, (), rfl, rfl, hPt ht hP⟩, hS.F ht⟩) hS.2.2 dX1_wrongLetter_66
        · have hf := hF hf c4
          refine lv_iload hx hb dX1_wrongLetter_33 (lv_at hl 0 rfl) ?_
          refine tS_r (As := [.int (atv 96 (xx 0) j4_8)]) (rest := []) ⟨hx, hb, hml, hown, hts⟩ hK hN hA hP hD hS hz (c_X1_shapeBehind l D cI zA zV (atv 96 (xx 0) j4_8) (f_X1_shapeBehind (atv 96 (xx 0) j4_8)) rfl) (va_cwS 1 hts gX1_wrongLetter_X1_shapeBehind rfl rfl rfl hd_X1_shapeBehind.2 ⟨Nat.le_of_ble_eq_true rfl, Nat.le_of_ble_eq_true rfl⟩) Bp_e rfl hl.1 rfl (Nat.le_of_ble_eq_true rfl) dX1_wrongLetter_35 ⟨Nat.le_of_ble_eq_true rfl, Nat.le_of_ble_eq_true rfl⟩ (fun H locs hP hD hS => ?_)
          refine lv_astore_n (lv' := [(2, .ref (zA (f_X1_shapeBehind (atv 96 (xx 0) j4_8)))), (5, .int (atv 96 (xx 0) j4_8)), (0, .ref ((A 0) 0)), (1, .int j1), (3, .int j3_8), (4, .int j4_8)]) hx hb dX1_wrongLetter_38 rfl hl (by decide) rfl (fun ls hl => ?_)
          refine lv_iconst (v := (0 : Int32)) hx hb dX1_wrongLetter_39 (by decide) ?_
          refine lv_istore_n (lv' := [(3, .int (0 : Int32)), (2, .ref (zA (f_X1_shapeBehind (atv 96 (xx 0) j4_8)))), (5, .int (atv 96 (xx 0) j4_8)), (0, .ref ((A 0) 0)), (1, .int j1), (4, .int j4_8)]) hx hb dX1_wrongLetter_40 rfl hl (by decide) rfl (fun ls hl => ?_)
          refine lv_aload_n hx hb dX1_wrongLetter_41 rfl (lv_at hl 1 rfl) ?_
          refine tV_i (As := []) (rest := []) ⟨hx, hb, hml, hown, hts⟩ hK hN hA hP hD hS hz (c_J0_isEmpty_aae02 l D cI zA zV (f_X1_shapeBehind (atv 96 (xx 0) j4_8)) (shape_lt _)) (cwV 0 hts gX1_wrongLetter_J0_isEmpty_aae02 rfl rfl rfl hd_J0_isEmpty_aae02 ⟨Nat.le_of_ble_eq_true rfl, Nat.le_of_ble_eq_true rfl⟩) (vk_recv hz.1 (shape_lt _) hS) Bp_e rfl hl.1 rfl (Nat.le_of_ble_eq_true rfl) dX1_wrongLetter_42 ⟨Nat.le_of_ble_eq_true rfl, Nat.le_of_ble_eq_true rfl⟩ (fun H locs hP hD hS => ?_)
          refine lv_if_eq (tgt := 70) hx hb dX1_wrongLetter_45 (by decide) (fun c7 => ?_) (fun c7 => ?_)
          · have hf := hT hf c7
            refine lv_iinc (v := (j4_8 + (1 : Int32))) (lv' := [(4, .int (j4_8 + (1 : Int32))), (3, .int (0 : Int32)), (2, .ref (zA (f_X1_shapeBehind (atv 96 (xx 0) j4_8)))), (5, .int (atv 96 (xx 0) j4_8)), (0, .ref ((A 0) 0)), (1, .int j1)]) hx hb dX1_wrongLetter_70 hl (k := 5) rfl rfl (by decide) rfl (fun ls hl => ?_)
            refine lv_goto (tgt := 8) hx hb dX1_wrongLetter_73 (by decide) ?_
            exact (hWW _ _ _).mp (ih _ _ _ _ _ _ (shape_lt _) hf hP hD hS (lv_sub hl [4, 5, 2, 1, 0] rfl))
          · have hf := hF hf c7
            refine lv_iload hx hb dX1_wrongLetter_48 (lv_at hl 5 rfl) ?_
            obtain rfl := Option.some.inj hf
            exact W.iret (v := j4_8) hx hb hr (fun t ht hW => ⟨⟨j4_8, (), rfl, rfl, hPt ht hP⟩, hS.F ht⟩) hS.2.2 dX1_wrongLetter_50
  exact (hWW _ _ _).mp (P8 _ _ _ _ _ _ _ (by decide) hf hP hD hS (lv_sub hl [3, 4, 2, 1, 0] rfl))
set_option maxHeartbeats 4000000 in
set_option maxRecDepth 100000 in
theorem c_X1_comes (l : Launch) (D : va_G) (cI : ClassId) (zA zV : Nat → Nat) (A : Nat → Nat → Nat) (j1 : Int32) (xx : HS) (xn : HS) (xm : HS) (xk : HS) (out : Int32 × HS) (hf : f_X1_comes j1 xx xn xm xk = some out) : vI l D cI zA zV yX1_comes wsX1_comes ({ frames := 5, cells := 0, slots := 0, locals := 128 } : Room) [.ref ((A 0) 0), .int j1] (wX A cI xx xn xm xk) (wX A cI xx xn out.2 xk) out.1 := by
  intro sz
  refine Met.ofW (cc := cX1_comes) (maxL := 6) (ret := (some .boolean)) (by decide) rfl ?_
  intro p e s m args below meth c s₁ Bd hml hv
  obtain ⟨rfl, ⟨hsz, hP, hK, hD0, hN⟩, hz⟩ := hv
  have hx := Bd.exec
  have hb := Bd.bytes
  have hr := Bd.returns
  have hts := atoms_spec (ws := wsX1_comes) Bd.pre
  have hown : s.vm.findClass RX1 = some m.cls := findClass_of_methodNamed Bd.named
  have hlocks := Bd.notSynchronized
  subst hsz
  have hD := hD0.self (sz := s.heap.size)
  generalize hAe : va_A (wX A cI xx xn xm xk) s.heap.size = G at hD hz ⊢
  have hA : ∀ q : Nat, s.heap.size ≤ q → G q := fun q h => by rw [← hAe]; exact Or.inr h
  have hS : va_S G s.heap s.heap [] := va_S.rf
  have hP : va_P D vwCl (wX A cI xx xn xm xk) s.heap := hP
  have hl := lv_entry ([.ref ((A 0) 0), .int j1]) (n := 6) (Nat.le_of_ble_eq_true rfl)
  rw [lg_entry_eq]
  generalize (lg_sl ([.ref ((A 0) 0), .int j1]) ++ List.replicate (6 - (lg_sl ([.ref ((A 0) 0), .int j1])).length) Slot.unset).toArray = ls at hl ⊢
  have hl : lv_has ls 6 [(0, .ref ((A 0) 0)), (1, .int j1)] := hl
  have hinX : ∀ w ∈ wsX10, w ∈ wsX1_comes := by decide +kernel
  have lk0 := hts (.fieldLink RX1 22 "LiesBoughtBack" "letters" "[I") (by decide +kernel)
  have lk1 := hts (.fieldLink RX1 16 "LiesBoughtBack" "mind" "LLiesBoughtBack$Hall;") (by decide +kernel)
  have lk2 := hts (.initialized RX0) (by decide +kernel)
  have lk3 := hts (.instanceMethod yX0_addBidder) (by decide +kernel)
  have lk4 := hts (.selects RX0 yX0_addBidder yX0_addBidder) (by decide +kernel)
  have lk5 := hts (.instanceMethod yX0_addCard) (by decide +kernel)
  have lk6 := hts (.selects RX0 yX0_addCard yX0_addCard) (by decide +kernel)
  have lk7 := hts (.instanceMethod yX0_handTo) (by decide +kernel)
  have lk8 := hts (.selects RX0 yX0_handTo yX0_handTo) (by decide +kernel)
  have lk9 := hts (.instanceMethod yX0_hasTimeFor) (by decide +kernel)
  have lk10 := hts (.selects RX0 yX0_hasTimeFor yX0_hasTimeFor) (by decide +kernel)
  have lk11 := hts (.instanceMethod yX0_goOn) (by decide +kernel)
  have lk12 := hts (.selects RX0 yX0_goOn yX0_goOn) (by decide +kernel)
  have lk13 := hts (.instanceMethod yX0_fillPurse) (by decide +kernel)
  have lk14 := hts (.selects RX0 yX0_fillPurse yX0_fillPurse) (by decide +kernel)
  have lk15 := hts (.instanceMethod yX0_layInPile) (by decide +kernel)
  have lk16 := hts (.selects RX0 yX0_layInPile yX0_layInPile) (by decide +kernel)
  have lk17 := hts (.instanceMethod yX0_changePlaces) (by decide +kernel)
  have lk18 := hts (.selects RX0 yX0_changePlaces yX0_changePlaces) (by decide +kernel)
  refine W_in ?_
  intro WW hWW
  refine (hWW _ _ _).mpr ?_
  unfold f_X1_comes at hf
  refine lv_aload_n hx hb dX1_comes_0 rfl (lv_at hl 0 rfl) ?_
  refine lv_iload_n hx hb dX1_comes_1 rfl (lv_at hl 1 rfl) ?_
  refine lv_iconst (v := (1 : Int32)) hx hb dX1_comes_2 (by decide) ?_
  refine lv_iadd hx hb dX1_comes_3 ?_
  refine lv_iconst (v := (1 : Int32)) hx hb dX1_comes_4 (by decide) ?_
  obtain ⟨v1, hev1, hf⟩ := bS hf
  refine qV_i (As := [.int (j1 + (1 : Int32)), .int (1 : Int32)]) (rest := []) ⟨hx, hb, hml, hown, hts⟩ hK hN hA hP hD hS (c_X1_number l D cI A (j1 + (1 : Int32)) (1 : Int32) xx xn xm xk v1 hev1) (cwV 2 hts gX1_comes_X1_number rfl rfl rfl hd_X1_number ⟨Nat.le_of_ble_eq_true rfl, Nat.le_of_ble_eq_true rfl⟩) (va_recv hK hP (ci := 1) (q0 := 0) rfl rfl) (bq_X1_X1_xnmk A cI xx xn xm xk) rfl hl.1 rfl (Nat.le_of_ble_eq_true rfl) dX1_comes_5 ⟨Nat.le_of_ble_eq_true rfl, Nat.le_of_ble_eq_true rfl⟩ (fun H locs hP hD hS => ?_)
  refine lv_istore_n (lv' := [(2, .int v1), (0, .ref ((A 0) 0)), (1, .int j1)]) hx hb dX1_comes_8 rfl hl (by decide) rfl (fun ls hl => ?_)
  refine lv_aload_n hx hb dX1_comes_9 rfl (lv_at hl 1 rfl) ?_
  refine lv_iload_n hx hb dX1_comes_10 rfl (lv_at hl 2 rfl) ?_
  refine lv_iconst (v := (2 : Int32)) hx hb dX1_comes_11 (by decide) ?_
  refine lv_iadd hx hb dX1_comes_12 ?_
  refine lv_iconst (v := (1 : Int32)) hx hb dX1_comes_13 (by decide) ?_
  obtain ⟨v2, hev2, hf⟩ := bS hf
  refine qV_i (As := [.int (j1 + (2 : Int32)), .int (1 : Int32)]) (rest := []) ⟨hx, hb, hml, hown, hts⟩ hK hN hA hP hD hS (c_X1_number l D cI A (j1 + (2 : Int32)) (1 : Int32) xx xn xm xk v2 hev2) (cwV 2 hts gX1_comes_X1_number rfl rfl rfl hd_X1_number ⟨Nat.le_of_ble_eq_true rfl, Nat.le_of_ble_eq_true rfl⟩) (va_recv hK hP (ci := 1) (q0 := 0) rfl rfl) (bq_X1_X1_xnmk A cI xx xn xm xk) rfl hl.1 rfl (Nat.le_of_ble_eq_true rfl) dX1_comes_14 ⟨Nat.le_of_ble_eq_true rfl, Nat.le_of_ble_eq_true rfl⟩ (fun H locs hP hD hS => ?_)
  refine lv_istore_n (lv' := [(3, .int v2), (2, .int v1), (0, .ref ((A 0) 0)), (1, .int j1)]) hx hb dX1_comes_17 rfl hl (by decide) rfl (fun ls hl => ?_)
  refine lv_aload_n hx hb dX1_comes_18 rfl (lv_at hl 2 rfl) ?_
  refine va_get (D := D) (ci := 1) (v := .ref ((A 0) 1)) (C := RX1) (T := TX1) (N := 9) hx hb hts hinX hown hK hP 0 rfl rfl 4 (by decide) lk0 (fun _ h9 => h9) rfl dX1_comes_19 ?_
  refine lv_iload_n hx hb dX1_comes_22 rfl (lv_at hl 3 rfl) ?_
  refine lv_iconst (v := (1 : Int32)) hx hb dX1_comes_23 (by decide) ?_
  refine lv_iadd hx hb dX1_comes_24 ?_
  refine qS_i (As := [.ref ((A 0) 1), .int (j1 + (1 : Int32))]) (rest := []) ⟨hx, hb, hml, hown, hts⟩ hK hN hA hP hD hS (c_X1_at l D cI 96 (by decide) ((A 0) 1) (xx 0) (j1 + (1 : Int32))) (va_cwS 2 hts gX1_comes_X1_at rfl rfl rfl hd_X1_at.2 ⟨Nat.le_of_ble_eq_true rfl, Nat.le_of_ble_eq_true rfl⟩) (bA_X1_x_0 A cI xx xn xm xk) rfl hl.1 rfl (Nat.le_of_ble_eq_true rfl) dX1_comes_25 ⟨Nat.le_of_ble_eq_true rfl, Nat.le_of_ble_eq_true rfl⟩ (fun H locs hP hD hS => ?_)
  refine lv_istore (lv' := [(4, .int (atv 96 (xx 0) (j1 + (1 : Int32)))), (3, .int v2), (2, .int v1), (0, .ref ((A 0) 0)), (1, .int j1)]) hx hb dX1_comes_28 hl (by decide) rfl (fun ls hl => ?_)
  refine lv_aload_n hx hb dX1_comes_30 rfl (lv_at hl 3 rfl) ?_
  refine va_get (D := D) (ci := 1) (v := .ref ((A 0) 1)) (C := RX1) (T := TX1) (N := 9) hx hb hts hinX hown hK hP 0 rfl rfl 4 (by decide) lk0 (fun _ h9 => h9) rfl dX1_comes_31 ?_
  refine lv_iload_n hx hb dX1_comes_34 rfl (lv_at hl 4 rfl) ?_
  refine qS_i (As := [.ref ((A 0) 1), .int j1]) (rest := []) ⟨hx, hb, hml, hown, hts⟩ hK hN hA hP hD hS (c_X1_at l D cI 96 (by decide) ((A 0) 1) (xx 0) j1) (va_cwS 2 hts gX1_comes_X1_at rfl rfl rfl hd_X1_at.2 ⟨Nat.le_of_ble_eq_true rfl, Nat.le_of_ble_eq_true rfl⟩) (bA_X1_x_0 A cI xx xn xm xk) rfl hl.1 rfl (Nat.le_of_ble_eq_true rfl) dX1_comes_35 ⟨Nat.le_of_ble_eq_true rfl, Nat.le_of_ble_eq_true rfl⟩ (fun H locs hP hD hS => ?_)
  by_cases c3 : (atv 96 (xx 0) j1) = (98 : Int32)
  · have hf := hT hf c3
    refine sw_in (v := 98) (off := 131) (tgt := 169) hx hb dX1_comes_38 ((congrArg Int32.toInt c3).trans (by decide)) (by decide) (by decide) (by decide) (by decide) ?_
    refine lv_aload_n hx hb dX1_comes_169 rfl (lv_at hl 3 rfl) ?_
    refine va_get (D := D) (ci := 1) (v := .ref ((A 2) 0)) (C := RX1) (T := TX1) (N := 9) hx hb hts hinX hown hK hP 0 rfl rfl 1 (by decide) lk1 (fun _ h9 => h9) rfl dX1_comes_170 ?_
    refine va_ldcS hx hb hown (show vk_R RX1 254 "bserhf" (zA 7) s from hz.2.2.2 7 (by decide)) dX1_comes_173 ?_
    refine lv_iload hx hb dX1_comes_175 (lv_at hl 0 rfl) ?_
    refine lv_i2c hx hb dX1_comes_177 rfl ?_
    refine tV_i (As := [.int ((atv 96 (xx 0) (j1 + (1 : Int32))).toUInt32 % 65536).toInt32]) (rest := [.ref ((A 2) 0)]) ⟨hx, hb, hml, hown, hts⟩ hK hN hA hP hD hS hz (c_J0_indexOf_0f7a4 l D cI zA zV 7 (by decide) ((atv 96 (xx 0) (j1 + (1 : Int32))).toUInt32 % 65536).toInt32) (cwV 1 hts gX1_comes_J0_indexOf_0f7a4 rfl rfl rfl hd_J0_indexOf_0f7a4 ⟨Nat.le_of_ble_eq_true rfl, Nat.le_of_ble_eq_true rfl⟩) (vk_recv hz.1 (by decide) hS) Bp_e rfl hl.1 rfl (Nat.le_of_ble_eq_true rfl) dX1_comes_178 ⟨Nat.le_of_ble_eq_true rfl, Nat.le_of_ble_eq_true rfl⟩ (fun H locs hP hD hS => ?_)
    refine lv_iload_n hx hb dX1_comes_181 rfl (lv_at hl 1 rfl) ?_
    refine lv_aload_n hx hb dX1_comes_182 rfl (lv_at hl 3 rfl) ?_
    refine lv_iload_n hx hb dX1_comes_183 rfl (lv_at hl 4 rfl) ?_
    refine lv_iconst (v := (3 : Int32)) hx hb dX1_comes_184 (by decide) ?_
    refine lv_iadd hx hb dX1_comes_185 ?_
    refine lv_iconst (v := (3 : Int32)) hx hb dX1_comes_186 (by decide) ?_
    obtain ⟨v4, hev4, hf⟩ := bS hf
    refine qV_i (As := [.int (j1 + (3 : Int32)), .int (3 : Int32)]) (rest := [.int v2, .int (sIdx 7 ((atv 96 (xx 0) (j1 + (1 : Int32))).toUInt32 % 65536).toInt32), .ref ((A 2) 0)]) ⟨hx, hb, hml, hown, hts⟩ hK hN hA hP hD hS (c_X1_number l D cI A (j1 + (3 : Int32)) (3 : Int32) xx xn xm xk v4 hev4) (cwV 2 hts gX1_comes_X1_number rfl rfl rfl hd_X1_number ⟨Nat.le_of_ble_eq_true rfl, Nat.le_of_ble_eq_true rfl⟩) (va_recv hK hP (ci := 1) (q0 := 0) rfl rfl) (bq_X1_X1_xnmk A cI xx xn xm xk) rfl hl.1 rfl (Nat.le_of_ble_eq_true rfl) dX1_comes_187 ⟨Nat.le_of_ble_eq_true rfl, Nat.le_of_ble_eq_true rfl⟩ (fun H locs hP hD hS => ?_)
    obtain ⟨v5, hev5, hf⟩ := bS hf
    refine qVN_i (ws' := (wX A cI xx xn v5.2 xk)) (As := [.int (sIdx 7 ((atv 96 (xx 0) (j1 + (1 : Int32))).toUInt32 % 65536).toInt32), .int v2, .int v4]) (rest := []) ⟨hx, hb, hml, hown, hts⟩ hK hN hA hP hD hS (c_X0_addBidder l D cI (A 2) (sIdx 7 ((atv 96 (xx 0) (j1 + (1 : Int32))).toUInt32 % 65536).toInt32) v2 v4 xm v5 hev5) ⟨va_cnB 3 hts gX1_comes_X0_addBidder_n263 rfl rfl rfl (nW.m hN 5 rfl) lk2 hd_X0_addBidder.2 ⟨Nat.le_of_ble_eq_true rfl, Nat.le_of_ble_eq_true rfl⟩, lk3, lk4⟩ (va_recv hK hP (ci := 0) (q0 := 12) rfl rfl) (bp_X1_X0_m_h A cI xx xn xm xk v5.2) rfl hl.1 rfl (Nat.le_of_ble_eq_true rfl) dX1_comes_190 ⟨Nat.le_of_ble_eq_true rfl, Nat.le_of_ble_eq_true rfl⟩ (fun H locs hP hD hS => ?_)
    have hP : va_P D vwCl (wX A cI xx xn v5.2 xk) H := hP
    obtain ⟨hnb, hf⟩ := nbS hf
    obtain rfl := Option.some.inj hf
    exact W.zret (ty := .boolean) (v := v5.1) hx hb hr hnb (fun t ht hW => ⟨⟨v5.1, (), rfl, rfl, hPt ht hP⟩, hS.F ht⟩) hS.2.2 dX1_comes_193
  have hf := hF hf c3
  by_cases c6 : (atv 96 (xx 0) j1) = (99 : Int32)
  · have hf := hT hf c6
    refine sw_in (v := 99) (off := 106) (tgt := 144) hx hb dX1_comes_38 ((congrArg Int32.toInt c6).trans (by decide)) (by decide) (by decide) (by decide) (by decide) ?_
    refine lv_aload_n hx hb dX1_comes_144 rfl (lv_at hl 3 rfl) ?_
    refine va_get (D := D) (ci := 1) (v := .ref ((A 2) 0)) (C := RX1) (T := TX1) (N := 9) hx hb hts hinX hown hK hP 0 rfl rfl 1 (by decide) lk1 (fun _ h9 => h9) rfl dX1_comes_145 ?_
    refine va_ldcS hx hb hown (show vk_R RX1 249 "lkgowt" (zA 6) s from hz.2.2.2 6 (by decide)) dX1_comes_148 ?_
    refine lv_iload hx hb dX1_comes_150 (lv_at hl 0 rfl) ?_
    refine lv_i2c hx hb dX1_comes_152 rfl ?_
    refine tV_i (As := [.int ((atv 96 (xx 0) (j1 + (1 : Int32))).toUInt32 % 65536).toInt32]) (rest := [.ref ((A 2) 0)]) ⟨hx, hb, hml, hown, hts⟩ hK hN hA hP hD hS hz (c_J0_indexOf_0f7a4 l D cI zA zV 6 (by decide) ((atv 96 (xx 0) (j1 + (1 : Int32))).toUInt32 % 65536).toInt32) (cwV 1 hts gX1_comes_J0_indexOf_0f7a4 rfl rfl rfl hd_J0_indexOf_0f7a4 ⟨Nat.le_of_ble_eq_true rfl, Nat.le_of_ble_eq_true rfl⟩) (vk_recv hz.1 (by decide) hS) Bp_e rfl hl.1 rfl (Nat.le_of_ble_eq_true rfl) dX1_comes_153 ⟨Nat.le_of_ble_eq_true rfl, Nat.le_of_ble_eq_true rfl⟩ (fun H locs hP hD hS => ?_)
    refine lv_iload_n hx hb dX1_comes_156 rfl (lv_at hl 1 rfl) ?_
    refine lv_aload_n hx hb dX1_comes_157 rfl (lv_at hl 3 rfl) ?_
    refine lv_iload_n hx hb dX1_comes_158 rfl (lv_at hl 4 rfl) ?_
    refine lv_iconst (v := (3 : Int32)) hx hb dX1_comes_159 (by decide) ?_
    refine lv_iadd hx hb dX1_comes_160 ?_
    refine lv_iconst (v := (1 : Int32)) hx hb dX1_comes_161 (by decide) ?_
    obtain ⟨v7, hev7, hf⟩ := bS hf
    refine qV_i (As := [.int (j1 + (3 : Int32)), .int (1 : Int32)]) (rest := [.int v2, .int (sIdx 6 ((atv 96 (xx 0) (j1 + (1 : Int32))).toUInt32 % 65536).toInt32), .ref ((A 2) 0)]) ⟨hx, hb, hml, hown, hts⟩ hK hN hA hP hD hS (c_X1_number l D cI A (j1 + (3 : Int32)) (1 : Int32) xx xn xm xk v7 hev7) (cwV 2 hts gX1_comes_X1_number rfl rfl rfl hd_X1_number ⟨Nat.le_of_ble_eq_true rfl, Nat.le_of_ble_eq_true rfl⟩) (va_recv hK hP (ci := 1) (q0 := 0) rfl rfl) (bq_X1_X1_xnmk A cI xx xn xm xk) rfl hl.1 rfl (Nat.le_of_ble_eq_true rfl) dX1_comes_162 ⟨Nat.le_of_ble_eq_true rfl, Nat.le_of_ble_eq_true rfl⟩ (fun H locs hP hD hS => ?_)
    obtain ⟨v8, hev8, hf⟩ := bS hf
    refine qVN_i (ws' := (wX A cI xx xn v8.2 xk)) (As := [.int (sIdx 6 ((atv 96 (xx 0) (j1 + (1 : Int32))).toUInt32 % 65536).toInt32), .int v2, .int v7]) (rest := []) ⟨hx, hb, hml, hown, hts⟩ hK hN hA hP hD hS (c_X0_addCard l D cI (A 2) (sIdx 6 ((atv 96 (xx 0) (j1 + (1 : Int32))).toUInt32 % 65536).toInt32) v2 v7 xm v8 hev8) ⟨va_cnB 3 hts gX1_comes_X0_addCard_n259 rfl rfl rfl (nW.m hN 3 rfl) lk2 hd_X0_addCard.2 ⟨Nat.le_of_ble_eq_true rfl, Nat.le_of_ble_eq_true rfl⟩, lk5, lk6⟩ (va_recv hK hP (ci := 0) (q0 := 12) rfl rfl) (bp_X1_X0_m_h A cI xx xn xm xk v8.2) rfl hl.1 rfl (Nat.le_of_ble_eq_true rfl) dX1_comes_165 ⟨Nat.le_of_ble_eq_true rfl, Nat.le_of_ble_eq_true rfl⟩ (fun H locs hP hD hS => ?_)
    have hP : va_P D vwCl (wX A cI xx xn v8.2 xk) H := hP
    obtain ⟨hnb, hf⟩ := nbS hf
    obtain rfl := Option.some.inj hf
    exact W.zret (ty := .boolean) (v := v8.1) hx hb hr hnb (fun t ht hW => ⟨⟨v8.1, (), rfl, rfl, hPt ht hP⟩, hS.F ht⟩) hS.2.2 dX1_comes_168
  have hf := hF hf c6
  by_cases c9 : (atv 96 (xx 0) j1) = (100 : Int32)
  · have hf := hT hf c9
    refine sw_in (v := 100) (off := 244) (tgt := 282) hx hb dX1_comes_38 ((congrArg Int32.toInt c9).trans (by decide)) (by decide) (by decide) (by decide) (by decide) ?_
    refine lv_iconst (v := (0 : Int32)) hx hb dX1_comes_282 (by decide) ?_
    obtain rfl := Option.some.inj hf
    exact W.zret (ty := .boolean) (v := (0 : Int32)) hx hb hr rfl (fun t ht hW => ⟨⟨(0 : Int32), (), rfl, rfl, hPt ht hP⟩, hS.F ht⟩) hS.2.2 dX1_comes_283
  have hf := hF hf c9
  by_cases c10 : (atv 96 (xx 0) j1) = (101 : Int32)
  · have hf := hT hf c10
    refine sw_in (v := 101) (off := 244) (tgt := 282) hx hb dX1_comes_38 ((congrArg Int32.toInt c10).trans (by decide)) (by decide) (by decide) (by decide) (by decide) ?_
    refine lv_iconst (v := (0 : Int32)) hx hb dX1_comes_282 (by decide) ?_
    obtain rfl := Option.some.inj hf
    exact W.zret (ty := .boolean) (v := (0 : Int32)) hx hb hr rfl (fun t ht hW => ⟨⟨(0 : Int32), (), rfl, rfl, hPt ht hP⟩, hS.F ht⟩) hS.2.2 dX1_comes_283
  have hf := hF hf c10
  by_cases c11 : (atv 96 (xx 0) j1) = (102 : Int32)
  · have hf := hT hf c11
    refine sw_in (v := 102) (off := 244) (tgt := 282) hx hb dX1_comes_38 ((congrArg Int32.toInt c11).trans (by decide)) (by decide) (by decide) (by decide) (by decide) ?_
    refine lv_iconst (v := (0 : Int32)) hx hb dX1_comes_282 (by decide) ?_
    obtain rfl := Option.some.inj hf
    exact W.zret (ty := .boolean) (v := (0 : Int32)) hx hb hr rfl (fun t ht hW => ⟨⟨(0 : Int32), (), rfl, rfl, hPt ht hP⟩, hS.F ht⟩) hS.2.2 dX1_comes_283
  have hf := hF hf c11
  by_cases c12 : (atv 96 (xx 0) j1) = (103 : Int32)
  · have hf := hT hf c12
    refine sw_in (v := 103) (off := 192) (tgt := 230) hx hb dX1_comes_38 ((congrArg Int32.toInt c12).trans (by decide)) (by decide) (by decide) (by decide) (by decide) ?_
    refine lv_aload_n hx hb dX1_comes_230 rfl (lv_at hl 3 rfl) ?_
    refine va_get (D := D) (ci := 1) (v := .ref ((A 2) 0)) (C := RX1) (T := TX1) (N := 9) hx hb hts hinX hown hK hP 0 rfl rfl 1 (by decide) lk1 (fun _ h9 => h9) rfl dX1_comes_231 ?_
    refine lv_iload_n hx hb dX1_comes_234 rfl (lv_at hl 2 rfl) ?_
    refine lv_iload_n hx hb dX1_comes_235 rfl (lv_at hl 1 rfl) ?_
    obtain ⟨v13, hev13, hf⟩ := bS hf
    refine qVN_i (ws' := (wX A cI xx xn v13.2 xk)) (As := [.int v1, .int v2]) (rest := []) ⟨hx, hb, hml, hown, hts⟩ hK hN hA hP hD hS (c_X0_handTo l D cI (A 2) v1 v2 xm v13 hev13) ⟨va_cnB 2 hts gX1_comes_X0_handTo_n272 rfl rfl rfl (nW.m hN 10 rfl) lk2 hd_X0_handTo.2 ⟨Nat.le_of_ble_eq_true rfl, Nat.le_of_ble_eq_true rfl⟩, lk7, lk8⟩ (va_recv hK hP (ci := 0) (q0 := 12) rfl rfl) (bp_X1_X0_m_h A cI xx xn xm xk v13.2) rfl hl.1 rfl (Nat.le_of_ble_eq_true rfl) dX1_comes_236 ⟨Nat.le_of_ble_eq_true rfl, Nat.le_of_ble_eq_true rfl⟩ (fun H locs hP hD hS => ?_)
    have hP : va_P D vwCl (wX A cI xx xn v13.2 xk) H := hP
    obtain ⟨hnb, hf⟩ := nbS hf
    obtain rfl := Option.some.inj hf
    exact W.zret (ty := .boolean) (v := v13.1) hx hb hr hnb (fun t ht hW => ⟨⟨v13.1, (), rfl, rfl, hPt ht hP⟩, hS.F ht⟩) hS.2.2 dX1_comes_239
  have hf := hF hf c12
  by_cases c14 : (atv 96 (xx 0) j1) = (104 : Int32)
  · have hf := hT hf c14
    refine sw_in (v := 104) (off := 244) (tgt := 282) hx hb dX1_comes_38 ((congrArg Int32.toInt c14).trans (by decide)) (by decide) (by decide) (by decide) (by decide) ?_
    refine lv_iconst (v := (0 : Int32)) hx hb dX1_comes_282 (by decide) ?_
    obtain rfl := Option.some.inj hf
    exact W.zret (ty := .boolean) (v := (0 : Int32)) hx hb hr rfl (fun t ht hW => ⟨⟨(0 : Int32), (), rfl, rfl, hPt ht hP⟩, hS.F ht⟩) hS.2.2 dX1_comes_283
  have hf := hF hf c14
  by_cases c15 : (atv 96 (xx 0) j1) = (105 : Int32)
  · have hf := hT hf c15
    refine sw_in (v := 105) (off := 244) (tgt := 282) hx hb dX1_comes_38 ((congrArg Int32.toInt c15).trans (by decide)) (by decide) (by decide) (by decide) (by decide) ?_
    refine lv_iconst (v := (0 : Int32)) hx hb dX1_comes_282 (by decide) ?_
    obtain rfl := Option.some.inj hf
    exact W.zret (ty := .boolean) (v := (0 : Int32)) hx hb hr rfl (fun t ht hW => ⟨⟨(0 : Int32), (), rfl, rfl, hPt ht hP⟩, hS.F ht⟩) hS.2.2 dX1_comes_283
  have hf := hF hf c15
  by_cases c16 : (atv 96 (xx 0) j1) = (106 : Int32)
  · have hf := hT hf c16
    refine sw_in (v := 106) (off := 244) (tgt := 282) hx hb dX1_comes_38 ((congrArg Int32.toInt c16).trans (by decide)) (by decide) (by decide) (by decide) (by decide) ?_
    refine lv_iconst (v := (0 : Int32)) hx hb dX1_comes_282 (by decide) ?_
    obtain rfl := Option.some.inj hf
    exact W.zret (ty := .boolean) (v := (0 : Int32)) hx hb hr rfl (fun t ht hW => ⟨⟨(0 : Int32), (), rfl, rfl, hPt ht hP⟩, hS.F ht⟩) hS.2.2 dX1_comes_283
  have hf := hF hf c16
  by_cases c17 : (atv 96 (xx 0) j1) = (107 : Int32)
  · have hf := hT hf c17
    refine sw_in (v := 107) (off := 244) (tgt := 282) hx hb dX1_comes_38 ((congrArg Int32.toInt c17).trans (by decide)) (by decide) (by decide) (by decide) (by decide) ?_
    refine lv_iconst (v := (0 : Int32)) hx hb dX1_comes_282 (by decide) ?_
    obtain rfl := Option.some.inj hf
    exact W.zret (ty := .boolean) (v := (0 : Int32)) hx hb hr rfl (fun t ht hW => ⟨⟨(0 : Int32), (), rfl, rfl, hPt ht hP⟩, hS.F ht⟩) hS.2.2 dX1_comes_283
  have hf := hF hf c17
  by_cases c18 : (atv 96 (xx 0) j1) = (108 : Int32)
  · have hf := hT hf c18
    refine sw_in (v := 108) (off := 244) (tgt := 282) hx hb dX1_comes_38 ((congrArg Int32.toInt c18).trans (by decide)) (by decide) (by decide) (by decide) (by decide) ?_
    refine lv_iconst (v := (0 : Int32)) hx hb dX1_comes_282 (by decide) ?_
    obtain rfl := Option.some.inj hf
    exact W.zret (ty := .boolean) (v := (0 : Int32)) hx hb hr rfl (fun t ht hW => ⟨⟨(0 : Int32), (), rfl, rfl, hPt ht hP⟩, hS.F ht⟩) hS.2.2 dX1_comes_283
  have hf := hF hf c18
  by_cases c19 : (atv 96 (xx 0) j1) = (109 : Int32)
  · have hf := hT hf c19
    refine sw_in (v := 109) (off := 202) (tgt := 240) hx hb dX1_comes_38 ((congrArg Int32.toInt c19).trans (by decide)) (by decide) (by decide) (by decide) (by decide) ?_
    refine lv_aload_n hx hb dX1_comes_240 rfl (lv_at hl 3 rfl) ?_
    refine va_get (D := D) (ci := 1) (v := .ref ((A 2) 0)) (C := RX1) (T := TX1) (N := 9) hx hb hts hinX hown hK hP 0 rfl rfl 1 (by decide) lk1 (fun _ h9 => h9) rfl dX1_comes_241 ?_
    refine lv_aload_n hx hb dX1_comes_244 rfl (lv_at hl 3 rfl) ?_
    refine lv_iload_n hx hb dX1_comes_245 rfl (lv_at hl 4 rfl) ?_
    refine lv_iconst (v := (1 : Int32)) hx hb dX1_comes_246 (by decide) ?_
    refine lv_iadd hx hb dX1_comes_247 ?_
    refine lv_iconst (v := (2 : Int32)) hx hb dX1_comes_248 (by decide) ?_
    obtain ⟨v20, hev20, hf⟩ := bS hf
    refine qV_i (As := [.int (j1 + (1 : Int32)), .int (2 : Int32)]) (rest := [.ref ((A 2) 0)]) ⟨hx, hb, hml, hown, hts⟩ hK hN hA hP hD hS (c_X1_number l D cI A (j1 + (1 : Int32)) (2 : Int32) xx xn xm xk v20 hev20) (cwV 2 hts gX1_comes_X1_number rfl rfl rfl hd_X1_number ⟨Nat.le_of_ble_eq_true rfl, Nat.le_of_ble_eq_true rfl⟩) (va_recv hK hP (ci := 1) (q0 := 0) rfl rfl) (bq_X1_X1_xnmk A cI xx xn xm xk) rfl hl.1 rfl (Nat.le_of_ble_eq_true rfl) dX1_comes_249 ⟨Nat.le_of_ble_eq_true rfl, Nat.le_of_ble_eq_true rfl⟩ (fun H locs hP hD hS => ?_)
    refine qVN_i (As := [.int v20]) (rest := []) ⟨hx, hb, hml, hown, hts⟩ hK hN hA hP hD hS (c_X0_hasTimeFor l D cI (A 2) v20 xm (f_X0_hasTimeFor v20 xm) rfl) ⟨va_cnB 1 hts gX1_comes_X0_hasTimeFor_n94 rfl rfl rfl (nW.m hN 11 rfl) lk2 hd_X0_hasTimeFor.2 ⟨Nat.le_of_ble_eq_true rfl, Nat.le_of_ble_eq_true rfl⟩, lk9, lk10⟩ (va_recv hK hP (ci := 0) (q0 := 12) rfl rfl) (bq_X1_X0_m A cI xx xn xm xk) rfl hl.1 rfl (Nat.le_of_ble_eq_true rfl) dX1_comes_252 ⟨Nat.le_of_ble_eq_true rfl, Nat.le_of_ble_eq_true rfl⟩ (fun H locs hP hD hS => ?_)
    refine lv_istore (lv' := [(5, .int (f_X0_hasTimeFor v20 xm)), (4, .int (atv 96 (xx 0) (j1 + (1 : Int32)))), (3, .int v2), (2, .int v1), (0, .ref ((A 0) 0)), (1, .int j1)]) hx hb dX1_comes_255 hl (by decide) rfl (fun ls hl => ?_)
    refine lv_iload hx hb dX1_comes_257 (lv_at hl 0 rfl) ?_
    refine lv_if_eq (tgt := 279) hx hb dX1_comes_259 (by decide) (fun c21 => ?_) (fun c21 => ?_)
    · have hf := hT hf c21
      refine lv_iload hx hb dX1_comes_279 (lv_at hl 0 rfl) ?_
      obtain ⟨hnb, hf⟩ := nbS hf
      obtain rfl := Option.some.inj hf
      exact W.zret (ty := .boolean) (v := (f_X0_hasTimeFor v20 xm)) hx hb hr hnb (fun t ht hW => ⟨⟨(f_X0_hasTimeFor v20 xm), (), rfl, rfl, hPt ht hP⟩, hS.F ht⟩) hS.2.2 dX1_comes_281
    · have hf := hF hf c21
      refine lv_aload_n hx hb dX1_comes_262 rfl (lv_at hl 4 rfl) ?_
      refine va_get (D := D) (ci := 1) (v := .ref ((A 2) 0)) (C := RX1) (T := TX1) (N := 9) hx hb hts hinX hown hK hP 0 rfl rfl 1 (by decide) lk1 (fun _ h9 => h9) rfl dX1_comes_263 ?_
      refine lv_aload_n hx hb dX1_comes_266 rfl (lv_at hl 4 rfl) ?_
      refine lv_iload_n hx hb dX1_comes_267 rfl (lv_at hl 5 rfl) ?_
      refine lv_iconst (v := (1 : Int32)) hx hb dX1_comes_268 (by decide) ?_
      refine lv_iadd hx hb dX1_comes_269 ?_
      refine lv_iconst (v := (2 : Int32)) hx hb dX1_comes_270 (by decide) ?_
      obtain ⟨v22, hev22, hf⟩ := bS hf
      refine qV_i (As := [.int (j1 + (1 : Int32)), .int (2 : Int32)]) (rest := [.ref ((A 2) 0)]) ⟨hx, hb, hml, hown, hts⟩ hK hN hA hP hD hS (c_X1_number l D cI A (j1 + (1 : Int32)) (2 : Int32) xx xn xm xk v22 hev22) (cwV 2 hts gX1_comes_X1_number rfl rfl rfl hd_X1_number ⟨Nat.le_of_ble_eq_true rfl, Nat.le_of_ble_eq_true rfl⟩) (va_recv hK hP (ci := 1) (q0 := 0) rfl rfl) (bq_X1_X1_xnmk A cI xx xn xm xk) rfl hl.1 rfl (Nat.le_of_ble_eq_true rfl) dX1_comes_271 ⟨Nat.le_of_ble_eq_true rfl, Nat.le_of_ble_eq_true rfl⟩ (fun H locs hP hD hS => ?_)
      refine lv_iconst (v := (1 : Int32)) hx hb dX1_comes_274 (by decide) ?_
      obtain ⟨v23, hev23, hf⟩ := bS hf
      refine qVN_i (ws' := (wX A cI xx xn v23.2 xk)) (As := [.int v22, .int (1 : Int32)]) (rest := []) ⟨hx, hb, hml, hown, hts⟩ hK hN hA hP hD hS (c_X0_goOn l D cI (A 2) v22 (1 : Int32) xm v23 hev23) ⟨va_cnB 2 hts gX1_comes_X0_goOn_n97 rfl rfl rfl (nW.m hN 12 rfl) lk2 hd_X0_goOn.2 ⟨Nat.le_of_ble_eq_true rfl, Nat.le_of_ble_eq_true rfl⟩, lk11, lk12⟩ (va_recv hK hP (ci := 0) (q0 := 12) rfl rfl) (bp_X1_X0_m_h A cI xx xn xm xk v23.2) rfl hl.1 rfl (Nat.le_of_ble_eq_true rfl) dX1_comes_275 ⟨Nat.le_of_ble_eq_true rfl, Nat.le_of_ble_eq_true rfl⟩ (fun H locs hP hD hS => ?_)
      have hP : va_P D vwCl (wX A cI xx xn v23.2 xk) H := hP
      refine lv_pop hx hb dX1_comes_278 rfl ?_
      refine lv_iload hx hb dX1_comes_279 (lv_at hl 0 rfl) ?_
      obtain ⟨hnb, hf⟩ := nbS hf
      obtain rfl := Option.some.inj hf
      exact W.zret (ty := .boolean) (v := (f_X0_hasTimeFor v20 xm)) hx hb hr hnb (fun t ht hW => ⟨⟨(f_X0_hasTimeFor v20 xm), (), rfl, rfl, hPt ht hP⟩, hS.F ht⟩) hS.2.2 dX1_comes_281
  have hf := hF hf c19
  by_cases c24 : (atv 96 (xx 0) j1) = (110 : Int32)
  · have hf := hT hf c24
    refine sw_in (v := 110) (off := 244) (tgt := 282) hx hb dX1_comes_38 ((congrArg Int32.toInt c24).trans (by decide)) (by decide) (by decide) (by decide) (by decide) ?_
    refine lv_iconst (v := (0 : Int32)) hx hb dX1_comes_282 (by decide) ?_
    obtain rfl := Option.some.inj hf
    exact W.zret (ty := .boolean) (v := (0 : Int32)) hx hb hr rfl (fun t ht hW => ⟨⟨(0 : Int32), (), rfl, rfl, hPt ht hP⟩, hS.F ht⟩) hS.2.2 dX1_comes_283
  have hf := hF hf c24
  by_cases c25 : (atv 96 (xx 0) j1) = (111 : Int32)
  · have hf := hT hf c25
    refine sw_in (v := 111) (off := 244) (tgt := 282) hx hb dX1_comes_38 ((congrArg Int32.toInt c25).trans (by decide)) (by decide) (by decide) (by decide) (by decide) ?_
    refine lv_iconst (v := (0 : Int32)) hx hb dX1_comes_282 (by decide) ?_
    obtain rfl := Option.some.inj hf
    exact W.zret (ty := .boolean) (v := (0 : Int32)) hx hb hr rfl (fun t ht hW => ⟨⟨(0 : Int32), (), rfl, rfl, hPt ht hP⟩, hS.F ht⟩) hS.2.2 dX1_comes_283
  have hf := hF hf c25
  by_cases c26 : (atv 96 (xx 0) j1) = (112 : Int32)
  · have hf := hT hf c26
    refine sw_in (v := 112) (off := 156) (tgt := 194) hx hb dX1_comes_38 ((congrArg Int32.toInt c26).trans (by decide)) (by decide) (by decide) (by decide) (by decide) ?_
    refine lv_aload_n hx hb dX1_comes_194 rfl (lv_at hl 3 rfl) ?_
    refine va_get (D := D) (ci := 1) (v := .ref ((A 2) 0)) (C := RX1) (T := TX1) (N := 9) hx hb hts hinX hown hK hP 0 rfl rfl 1 (by decide) lk1 (fun _ h9 => h9) rfl dX1_comes_195 ?_
    refine lv_iload_n hx hb dX1_comes_198 rfl (lv_at hl 2 rfl) ?_
    refine lv_aload_n hx hb dX1_comes_199 rfl (lv_at hl 3 rfl) ?_
    refine lv_iload_n hx hb dX1_comes_200 rfl (lv_at hl 4 rfl) ?_
    refine lv_iconst (v := (2 : Int32)) hx hb dX1_comes_201 (by decide) ?_
    refine lv_iadd hx hb dX1_comes_202 ?_
    refine lv_iconst (v := (3 : Int32)) hx hb dX1_comes_203 (by decide) ?_
    obtain ⟨v27, hev27, hf⟩ := bS hf
    refine qV_i (As := [.int (j1 + (2 : Int32)), .int (3 : Int32)]) (rest := [.int v1, .ref ((A 2) 0)]) ⟨hx, hb, hml, hown, hts⟩ hK hN hA hP hD hS (c_X1_number l D cI A (j1 + (2 : Int32)) (3 : Int32) xx xn xm xk v27 hev27) (cwV 2 hts gX1_comes_X1_number rfl rfl rfl hd_X1_number ⟨Nat.le_of_ble_eq_true rfl, Nat.le_of_ble_eq_true rfl⟩) (va_recv hK hP (ci := 1) (q0 := 0) rfl rfl) (bq_X1_X1_xnmk A cI xx xn xm xk) rfl hl.1 rfl (Nat.le_of_ble_eq_true rfl) dX1_comes_204 ⟨Nat.le_of_ble_eq_true rfl, Nat.le_of_ble_eq_true rfl⟩ (fun H locs hP hD hS => ?_)
    obtain ⟨v28, hev28, hf⟩ := bS hf
    refine qVN_i (ws' := (wX A cI xx xn v28.2 xk)) (As := [.int v1, .int v27]) (rest := []) ⟨hx, hb, hml, hown, hts⟩ hK hN hA hP hD hS (c_X0_fillPurse l D cI (A 2) v1 v27 xm v28 hev28) ⟨va_cnB 2 hts gX1_comes_X0_fillPurse_n266 rfl rfl rfl (nW.m hN 6 rfl) lk2 hd_X0_fillPurse.2 ⟨Nat.le_of_ble_eq_true rfl, Nat.le_of_ble_eq_true rfl⟩, lk13, lk14⟩ (va_recv hK hP (ci := 0) (q0 := 12) rfl rfl) (bp_X1_X0_m_h A cI xx xn xm xk v28.2) rfl hl.1 rfl (Nat.le_of_ble_eq_true rfl) dX1_comes_207 ⟨Nat.le_of_ble_eq_true rfl, Nat.le_of_ble_eq_true rfl⟩ (fun H locs hP hD hS => ?_)
    have hP : va_P D vwCl (wX A cI xx xn v28.2 xk) H := hP
    obtain ⟨hnb, hf⟩ := nbS hf
    obtain rfl := Option.some.inj hf
    exact W.zret (ty := .boolean) (v := v28.1) hx hb hr hnb (fun t ht hW => ⟨⟨v28.1, (), rfl, rfl, hPt ht hP⟩, hS.F ht⟩) hS.2.2 dX1_comes_210
  have hf := hF hf c26
  by_cases c29 : (atv 96 (xx 0) j1) = (113 : Int32)
  · have hf := hT hf c29
    refine sw_in (v := 113) (off := 244) (tgt := 282) hx hb dX1_comes_38 ((congrArg Int32.toInt c29).trans (by decide)) (by decide) (by decide) (by decide) (by decide) ?_
    refine lv_iconst (v := (0 : Int32)) hx hb dX1_comes_282 (by decide) ?_
    obtain rfl := Option.some.inj hf
    exact W.zret (ty := .boolean) (v := (0 : Int32)) hx hb hr rfl (fun t ht hW => ⟨⟨(0 : Int32), (), rfl, rfl, hPt ht hP⟩, hS.F ht⟩) hS.2.2 dX1_comes_283
  have hf := hF hf c29
  by_cases c30 : (atv 96 (xx 0) j1) = (114 : Int32)
  · have hf := hT hf c30
    refine sw_in (v := 114) (off := 183) (tgt := 221) hx hb dX1_comes_38 ((congrArg Int32.toInt c30).trans (by decide)) (by decide) (by decide) (by decide) (by decide) ?_
    refine lv_aload_n hx hb dX1_comes_221 rfl (lv_at hl 3 rfl) ?_
    refine va_get (D := D) (ci := 1) (v := .ref ((A 2) 0)) (C := RX1) (T := TX1) (N := 9) hx hb hts hinX hown hK hP 0 rfl rfl 1 (by decide) lk1 (fun _ h9 => h9) rfl dX1_comes_222 ?_
    refine lv_iload_n hx hb dX1_comes_225 rfl (lv_at hl 2 rfl) ?_
    obtain ⟨v31, hev31, hf⟩ := bS hf
    refine qVN_i (ws' := (wX A cI xx xn v31.2 xk)) (As := [.int v1]) (rest := []) ⟨hx, hb, hml, hown, hts⟩ hK hN hA hP hD hS (c_X0_layInPile l D cI (A 2) v1 xm v31 hev31) ⟨va_cnB 1 hts gX1_comes_X0_layInPile_n269 rfl rfl rfl (nW.m hN 9 rfl) lk2 hd_X0_layInPile.2 ⟨Nat.le_of_ble_eq_true rfl, Nat.le_of_ble_eq_true rfl⟩, lk15, lk16⟩ (va_recv hK hP (ci := 0) (q0 := 12) rfl rfl) (bp_X1_X0_m_h A cI xx xn xm xk v31.2) rfl hl.1 rfl (Nat.le_of_ble_eq_true rfl) dX1_comes_226 ⟨Nat.le_of_ble_eq_true rfl, Nat.le_of_ble_eq_true rfl⟩ (fun H locs hP hD hS => ?_)
    have hP : va_P D vwCl (wX A cI xx xn v31.2 xk) H := hP
    obtain ⟨hnb, hf⟩ := nbS hf
    obtain rfl := Option.some.inj hf
    exact W.zret (ty := .boolean) (v := v31.1) hx hb hr hnb (fun t ht hW => ⟨⟨v31.1, (), rfl, rfl, hPt ht hP⟩, hS.F ht⟩) hS.2.2 dX1_comes_229
  have hf := hF hf c30
  by_cases c32 : (atv 96 (xx 0) j1) = (115 : Int32)
  · have hf := hT hf c32
    refine sw_in (v := 115) (off := 244) (tgt := 282) hx hb dX1_comes_38 ((congrArg Int32.toInt c32).trans (by decide)) (by decide) (by decide) (by decide) (by decide) ?_
    refine lv_iconst (v := (0 : Int32)) hx hb dX1_comes_282 (by decide) ?_
    obtain rfl := Option.some.inj hf
    exact W.zret (ty := .boolean) (v := (0 : Int32)) hx hb hr rfl (fun t ht hW => ⟨⟨(0 : Int32), (), rfl, rfl, hPt ht hP⟩, hS.F ht⟩) hS.2.2 dX1_comes_283
  have hf := hF hf c32
  by_cases c33 : (atv 96 (xx 0) j1) = (116 : Int32)
  · have hf := hT hf c33
    refine sw_in (v := 116) (off := 244) (tgt := 282) hx hb dX1_comes_38 ((congrArg Int32.toInt c33).trans (by decide)) (by decide) (by decide) (by decide) (by decide) ?_
    refine lv_iconst (v := (0 : Int32)) hx hb dX1_comes_282 (by decide) ?_
    obtain rfl := Option.some.inj hf
    exact W.zret (ty := .boolean) (v := (0 : Int32)) hx hb hr rfl (fun t ht hW => ⟨⟨(0 : Int32), (), rfl, rfl, hPt ht hP⟩, hS.F ht⟩) hS.2.2 dX1_comes_283
  have hf := hF hf c33
  by_cases c34 : (atv 96 (xx 0) j1) = (117 : Int32)
  · have hf := hT hf c34
    refine sw_in (v := 117) (off := 244) (tgt := 282) hx hb dX1_comes_38 ((congrArg Int32.toInt c34).trans (by decide)) (by decide) (by decide) (by decide) (by decide) ?_
    refine lv_iconst (v := (0 : Int32)) hx hb dX1_comes_282 (by decide) ?_
    obtain rfl := Option.some.inj hf
    exact W.zret (ty := .boolean) (v := (0 : Int32)) hx hb hr rfl (fun t ht hW => ⟨⟨(0 : Int32), (), rfl, rfl, hPt ht hP⟩, hS.F ht⟩) hS.2.2 dX1_comes_283
  have hf := hF hf c34
  by_cases c35 : (atv 96 (xx 0) j1) = (118 : Int32)
  · have hf := hT hf c35
    refine sw_in (v := 118) (off := 244) (tgt := 282) hx hb dX1_comes_38 ((congrArg Int32.toInt c35).trans (by decide)) (by decide) (by decide) (by decide) (by decide) ?_
    refine lv_iconst (v := (0 : Int32)) hx hb dX1_comes_282 (by decide) ?_
    obtain rfl := Option.some.inj hf
    exact W.zret (ty := .boolean) (v := (0 : Int32)) hx hb hr rfl (fun t ht hW => ⟨⟨(0 : Int32), (), rfl, rfl, hPt ht hP⟩, hS.F ht⟩) hS.2.2 dX1_comes_283
  have hf := hF hf c35
  by_cases c36 : (atv 96 (xx 0) j1) = (119 : Int32)
  · have hf := hT hf c36
    refine sw_in (v := 119) (off := 244) (tgt := 282) hx hb dX1_comes_38 ((congrArg Int32.toInt c36).trans (by decide)) (by decide) (by decide) (by decide) (by decide) ?_
    refine lv_iconst (v := (0 : Int32)) hx hb dX1_comes_282 (by decide) ?_
    obtain rfl := Option.some.inj hf
    exact W.zret (ty := .boolean) (v := (0 : Int32)) hx hb hr rfl (fun t ht hW => ⟨⟨(0 : Int32), (), rfl, rfl, hPt ht hP⟩, hS.F ht⟩) hS.2.2 dX1_comes_283
  have hf := hF hf c36
  by_cases c37 : (atv 96 (xx 0) j1) = (120 : Int32)
  · have hf := hT hf c37
    refine sw_in (v := 120) (off := 173) (tgt := 211) hx hb dX1_comes_38 ((congrArg Int32.toInt c37).trans (by decide)) (by decide) (by decide) (by decide) (by decide) ?_
    refine lv_aload_n hx hb dX1_comes_211 rfl (lv_at hl 3 rfl) ?_
    refine va_get (D := D) (ci := 1) (v := .ref ((A 2) 0)) (C := RX1) (T := TX1) (N := 9) hx hb hts hinX hown hK hP 0 rfl rfl 1 (by decide) lk1 (fun _ h9 => h9) rfl dX1_comes_212 ?_
    refine lv_iload_n hx hb dX1_comes_215 rfl (lv_at hl 2 rfl) ?_
    refine lv_iload_n hx hb dX1_comes_216 rfl (lv_at hl 1 rfl) ?_
    obtain ⟨v38, hev38, hf⟩ := bS hf
    refine qVN_i (ws' := (wX A cI xx xn v38.2 xk)) (As := [.int v1, .int v2]) (rest := []) ⟨hx, hb, hml, hown, hts⟩ hK hN hA hP hD hS (c_X0_changePlaces l D cI (A 2) v1 v2 xm v38 hev38) ⟨va_cnB 2 hts gX1_comes_X0_changePlaces_n78 rfl rfl rfl (nW.m hN 7 rfl) lk2 hd_X0_changePlaces.2 ⟨Nat.le_of_ble_eq_true rfl, Nat.le_of_ble_eq_true rfl⟩, lk17, lk18⟩ (va_recv hK hP (ci := 0) (q0 := 12) rfl rfl) (bp_X1_X0_m_h A cI xx xn xm xk v38.2) rfl hl.1 rfl (Nat.le_of_ble_eq_true rfl) dX1_comes_217 ⟨Nat.le_of_ble_eq_true rfl, Nat.le_of_ble_eq_true rfl⟩ (fun H locs hP hD hS => ?_)
    have hP : va_P D vwCl (wX A cI xx xn v38.2 xk) H := hP
    obtain ⟨hnb, hf⟩ := nbS hf
    obtain rfl := Option.some.inj hf
    exact W.zret (ty := .boolean) (v := v38.1) hx hb hr hnb (fun t ht hW => ⟨⟨v38.1, (), rfl, rfl, hPt ht hP⟩, hS.F ht⟩) hS.2.2 dX1_comes_220
  have hf := hF hf c37
  refine lv_tableOut (tgt := 282) hx hb dX1_comes_38 (by have z0 := lv_neT (a := 98) c3 (by decide); have z1 := lv_neT (a := 99) c6 (by decide); have z2 := lv_neT (a := 100) c9 (by decide); have z3 := lv_neT (a := 101) c10 (by decide); have z4 := lv_neT (a := 102) c11 (by decide); have z5 := lv_neT (a := 103) c12 (by decide); have z6 := lv_neT (a := 104) c14 (by decide); have z7 := lv_neT (a := 105) c15 (by decide); have z8 := lv_neT (a := 106) c16 (by decide); have z9 := lv_neT (a := 107) c17 (by decide); have z10 := lv_neT (a := 108) c18 (by decide); have z11 := lv_neT (a := 109) c19 (by decide); have z12 := lv_neT (a := 110) c24 (by decide); have z13 := lv_neT (a := 111) c25 (by decide); have z14 := lv_neT (a := 112) c26 (by decide); have z15 := lv_neT (a := 113) c29 (by decide); have z16 := lv_neT (a := 114) c30 (by decide); have z17 := lv_neT (a := 115) c32 (by decide); have z18 := lv_neT (a := 116) c33 (by decide); have z19 := lv_neT (a := 117) c34 (by decide); have z20 := lv_neT (a := 118) c35 (by decide); have z21 := lv_neT (a := 119) c36 (by decide); have z22 := lv_neT (a := 120) c37 (by decide); omega) (by decide) ?_
  refine lv_iconst (v := (0 : Int32)) hx hb dX1_comes_282 (by decide) ?_
  obtain rfl := Option.some.inj hf
  exact W.zret (ty := .boolean) (v := (0 : Int32)) hx hb hr rfl (fun t ht hW => ⟨⟨(0 : Int32), (), rfl, rfl, hPt ht hP⟩, hS.F ht⟩) hS.2.2 dX1_comes_283
set_option maxHeartbeats 4000000 in
set_option maxRecDepth 100000 in
theorem c_X1_hall (l : Launch) (D : va_G) (cI : ClassId) (zA zV : Nat → Nat) (A : Nat → Nat → Nat) (xx : HS) (xn : HS) (xm : HS) (xk : HS) (out : Int32 × HS × HS × HS) (hf : f_X1_hall xx xn xm xk = some out) : vI l D cI zA zV yX1_hall wsX1_hall ({ frames := 6, cells := 0, slots := 0, locals := 153 } : Room) [.ref ((A 0) 0)] (wX A cI xx xn xm xk) (wX A cI out.2.1 out.2.2.1 out.2.2.2 xk) out.1 := by
  intro sz
  refine Met.ofW (cc := cX1_hall) (maxL := 5) (ret := (some .int)) (by decide) rfl ?_
  intro p e s m args below meth c s₁ Bd hml hv
  obtain ⟨rfl, ⟨hsz, hP, hK, hD0, hN⟩, hz⟩ := hv
  have hx := Bd.exec
  have hb := Bd.bytes
  have hr := Bd.returns
  have hts := atoms_spec (ws := wsX1_hall) Bd.pre
  have hown : s.vm.findClass RX1 = some m.cls := findClass_of_methodNamed Bd.named
  have hlocks := Bd.notSynchronized
  subst hsz
  have hD := hD0.self (sz := s.heap.size)
  generalize hAe : va_A (wX A cI xx xn xm xk) s.heap.size = G at hD hz ⊢
  have hA : ∀ q : Nat, s.heap.size ≤ q → G q := fun q h => by rw [← hAe]; exact Or.inr h
  have hS : va_S G s.heap s.heap [] := va_S.rf
  have hP : va_P D vwCl (wX A cI xx xn xm xk) s.heap := hP
  have hl := lv_entry ([.ref ((A 0) 0)]) (n := 5) (Nat.le_of_ble_eq_true rfl)
  rw [lg_entry_eq]
  generalize (lg_sl ([.ref ((A 0) 0)]) ++ List.replicate (5 - (lg_sl ([.ref ((A 0) 0)])).length) Slot.unset).toArray = ls at hl ⊢
  have hl : lv_has ls 5 [(0, .ref ((A 0) 0))] := hl
  have hinX : ∀ w ∈ wsX10, w ∈ wsX1_hall := by decide +kernel
  have lk0 := hts (.fieldLink RX1 36 "LiesBoughtBack" "letterCount" "I") (by decide +kernel)
  have lk1 := hts (.fieldLink RX1 16 "LiesBoughtBack" "mind" "LLiesBoughtBack$Hall;") (by decide +kernel)
  have lk2 := hts (.fieldLink RX1 10 "LiesBoughtBack" "now" "LLiesBoughtBack$Hall;") (by decide +kernel)
  have lk3 := hts (.initialized RX0) (by decide +kernel)
  have lk4 := hts (.instanceMethod yX0_become) (by decide +kernel)
  have lk5 := hts (.selects RX0 yX0_become yX0_become) (by decide +kernel)
  have lk6 := hts (.fieldLink RX1 22 "LiesBoughtBack" "letters" "[I") (by decide +kernel)
  refine W_in ?_
  intro WW hWW
  refine (hWW _ _ _).mpr ?_
  unfold f_X1_hall at hf
  refine lv_aload_n hx hb dX1_hall_0 rfl (lv_at hl 0 rfl) ?_
  refine va_get (D := D) (ci := 1) (v := .int (xx 4 0)) (C := RX1) (T := TX1) (N := 9) hx hb hts hinX hown hK hP 0 rfl rfl 5 (by decide) lk0 (fun _ h9 => h9) rfl dX1_hall_1 ?_
  refine lv_istore_n (lv' := [(1, .int (xx 4 0)), (0, .ref ((A 0) 0))]) hx hb dX1_hall_4 rfl hl (by decide) rfl (fun ls hl => ?_)
  refine lv_aload_n hx hb dX1_hall_5 rfl (lv_at hl 1 rfl) ?_
  refine lv_iconst (v := (0 : Int32)) hx hb dX1_hall_6 (by decide) ?_
  obtain ⟨xx_v1, exx_v1, hf⟩ := jnS hf
  refine va_put (D := D) (ci := 1) (v := .int (0 : Int32)) (ty := .int) (C := RX1) (T := TX1) (N := 9) hx hb hts hinX tyX1 tyX1_ok nmX1 hown hK hP hD hS 0 rfl rfl 5 (by decide) lk0 (fun _ h9 => h9) rfl (by decide +kernel) rfl rfl (Nat.le_of_ble_eq_true rfl) dX1_hall_7 (fun H locs hP hD hS => ?_)
  have hE : _ = (wX A cI xx_v1 xn xm xk) := ((sf_X1_x_4 A cI xx xn xm xk (0 : Int32)).trans (congrArg (fun z => wX A cI z xn xm xk) exx_v1.symm))
  have hP : va_P D vwCl (wX A cI xx_v1 xn xm xk) H := hE ▸ hP
  have hD : va_D G (wX A cI xx_v1 xn xm xk) := hE ▸ hD
  refine lv_aload_n hx hb dX1_hall_10 rfl (lv_at hl 1 rfl) ?_
  refine lv_iload_n hx hb dX1_hall_11 rfl (lv_at hl 0 rfl) ?_
  obtain ⟨v2, hev2, hf⟩ := bS hf
  refine tV_i (As := [.int (xx 4 0)]) (rest := []) ⟨hx, hb, hml, hown, hts⟩ hK hN hA hP hD hS hz (c_X1_wrongLetter l D cI zA zV A (xx 4 0) xx_v1 xn xm xk v2 hev2) (cwV 1 hts gX1_hall_X1_wrongLetter rfl rfl rfl hd_X1_wrongLetter ⟨Nat.le_of_ble_eq_true rfl, Nat.le_of_ble_eq_true rfl⟩) (va_recv hK hP (ci := 1) (q0 := 0) rfl rfl) (bq_X1_X1_xnmk A cI xx_v1 xn xm xk) rfl hl.1 rfl (Nat.le_of_ble_eq_true rfl) dX1_hall_12 ⟨Nat.le_of_ble_eq_true rfl, Nat.le_of_ble_eq_true rfl⟩ (fun H locs hP hD hS => ?_)
  refine lv_istore_n (lv' := [(2, .int v2), (1, .int (xx 4 0)), (0, .ref ((A 0) 0))]) hx hb dX1_hall_15 rfl hl (by decide) rfl (fun ls hl => ?_)
  refine lv_iload_n hx hb dX1_hall_16 rfl (lv_at hl 0 rfl) ?_
  refine lv_if_lt (tgt := 26) hx hb dX1_hall_17 (by decide) (fun c3 => ?_) (fun c3 => ?_)
  · have hf := hT hf c3
    refine lv_aload_n hx hb dX1_hall_26 rfl (lv_at hl 2 rfl) ?_
    refine va_get (D := D) (ci := 1) (v := .ref ((A 2) 0)) (C := RX1) (T := TX1) (N := 9) hx hb hts hinX hown hK hP 0 rfl rfl 1 (by decide) lk1 (fun _ h9 => h9) rfl dX1_hall_27 ?_
    refine lv_aload_n hx hb dX1_hall_30 rfl (lv_at hl 2 rfl) ?_
    refine va_get (D := D) (ci := 1) (v := .ref ((A 1) 0)) (C := RX1) (T := TX1) (N := 9) hx hb hts hinX hown hK hP 0 rfl rfl 0 (by decide) lk2 (fun _ h9 => h9) rfl dX1_hall_31 ?_
    obtain ⟨v4, hev4, hf⟩ := bS hf
    refine qVN_v (ws' := (wX A cI xx_v1 xn v4 xk)) (As := [.ref ((A 1) 0)]) (rest := []) ⟨hx, hb, hml, hown, hts⟩ hK hN hA hP hD hS (c_X0_become l D cI (A 2) (A 1) xm xn v4 hev4) ⟨va_cnB 1 hts gX1_hall_X0_become_n47 rfl rfl rfl (nW.m hN 1 rfl) lk3 hd_X0_become.2 ⟨Nat.le_of_ble_eq_true rfl, Nat.le_of_ble_eq_true rfl⟩, lk4, lk5⟩ (va_recv hK hP (ci := 0) (q0 := 12) rfl rfl) (bp_X1_HH_mn_h A cI xx_v1 xn xm xk v4) rfl hl.1 rfl (Nat.le_of_ble_eq_true rfl) dX1_hall_34 ⟨Nat.le_of_ble_eq_true rfl, Nat.le_of_ble_eq_true rfl⟩ (fun H locs hP hD hS => ?_)
    have hP : va_P D vwCl (wX A cI xx_v1 xn v4 xk) H := hP
    refine lv_iconst (v := (0 : Int32)) hx hb dX1_hall_37 (by decide) ?_
    refine lv_istore_n (lv' := [(3, .int (0 : Int32)), (2, .int v2), (1, .int (xx 4 0)), (0, .ref ((A 0) 0))]) hx hb dX1_hall_38 rfl hl (by decide) rfl (fun ls hl => ?_)
    refine lv_iconst (v := (0 : Int32)) hx hb dX1_hall_39 (by decide) ?_
    refine lv_istore (lv' := [(4, .int (0 : Int32)), (3, .int (0 : Int32)), (2, .int v2), (1, .int (xx 4 0)), (0, .ref ((A 0) 0))]) hx hb dX1_hall_40 hl (by decide) rfl (fun ls hl => ?_)
    obtain ⟨K94, hK94, hf⟩ := jnS hf
    have J94 : ∀ (j3_94 : Int32) (xx_94 : HS) (xn_94 : HS) (xm_94 : HS) (H : Heap) (locs : List Loc) (ls : Array Slot), K94 j3_94 xx_94 xn_94 xm_94 = some out → va_P D vwCl (wX A cI xx_94 xn_94 xm_94 xk) H → va_D G (wX A cI xx_94 xn_94 xm_94 xk) → va_S G s.heap H locs → lv_has ls 5 [(0, .ref ((A 0) 0)), (3, .int j3_94)] → WW H locs (F0 m 94 ls []) := by
      intro j3_94 xx_94 xn_94 xm_94 H locs ls hf hP hD hS hl
      subst hK94
      refine (hWW _ _ _).mpr ?_
      refine lv_aload_n hx hb dX1_hall_94 rfl (lv_at hl 0 rfl) ?_
      refine va_get (D := D) (ci := 1) (v := .ref ((A 1) 0)) (C := RX1) (T := TX1) (N := 9) hx hb hts hinX hown hK hP 0 rfl rfl 0 (by decide) lk2 (fun _ h9 => h9) rfl dX1_hall_95 ?_
      refine lv_aload_n hx hb dX1_hall_98 rfl (lv_at hl 0 rfl) ?_
      refine va_get (D := D) (ci := 1) (v := .ref ((A 2) 0)) (C := RX1) (T := TX1) (N := 9) hx hb hts hinX hown hK hP 0 rfl rfl 1 (by decide) lk1 (fun _ h9 => h9) rfl dX1_hall_99 ?_
      obtain ⟨v5, hev5, hf⟩ := bS hf
      refine qVN_v (ws' := (wX A cI xx_94 v5 xm_94 xk)) (As := [.ref ((A 2) 0)]) (rest := []) ⟨hx, hb, hml, hown, hts⟩ hK hN hA hP hD hS (c_X0_become l D cI (A 1) (A 2) xn_94 xm_94 v5 hev5) ⟨va_cnB 1 hts gX1_hall_X0_become_n47 rfl rfl rfl (nW.m hN 1 rfl) lk3 hd_X0_become.2 ⟨Nat.le_of_ble_eq_true rfl, Nat.le_of_ble_eq_true rfl⟩, lk4, lk5⟩ (va_recv hK hP (ci := 0) (q0 := 1) rfl rfl) (bp_X1_HH_nm_h A cI xx_94 xn_94 xm_94 xk v5) rfl hl.1 rfl (Nat.le_of_ble_eq_true rfl) dX1_hall_102 ⟨Nat.le_of_ble_eq_true rfl, Nat.le_of_ble_eq_true rfl⟩ (fun H locs hP hD hS => ?_)
      have hP : va_P D vwCl (wX A cI xx_94 v5 xm_94 xk) H := hP
      refine lv_iload_n hx hb dX1_hall_105 rfl (lv_at hl 1 rfl) ?_
      obtain rfl := Option.some.inj hf
      exact W.iret (v := j3_94) hx hb hr (fun t ht hW => ⟨⟨j3_94, (), rfl, rfl, hPt ht hP⟩, hS.F ht⟩) hS.2.2 dX1_hall_106
    have P42 : ∀ (n' : Nat) (j1_42 : Int32) (j3_42 : Int32) (j4_42 : Int32) (xx_42 : HS) (xn_42 : HS) (xm_42 : HS) (H : Heap) (locs : List Loc) (ls : Array Slot), L_X1_hall_42 xk K94 n' j1_42 j3_42 j4_42 xx_42 xn_42 xm_42 = some out → va_P D vwCl (wX A cI xx_42 xn_42 xm_42 xk) H → va_D G (wX A cI xx_42 xn_42 xm_42 xk) → va_S G s.heap H locs → lv_has ls 5 [(0, .ref ((A 0) 0)), (1, .int j1_42), (3, .int j3_42), (4, .int j4_42)] → WW H locs (F0 m 42 ls []) := by
      intro n'
      induction n' with
      | zero => intro j1_42 j3_42 j4_42 xx_42 xn_42 xm_42 H locs ls hf; exact absurd (show (none : Option (Int32 × HS × HS × HS)) = some out from hf) (fun q => by cases q)
      | succ n' ih =>
        intro j1_42 j3_42 j4_42 xx_42 xn_42 xm_42 H locs ls hf hP hD hS hl
        rw [L_X1_hall_42] at hf
        refine (hWW _ _ _).mpr ?_
        refine lv_iload hx hb dX1_hall_42 (lv_at hl 3 rfl) ?_
        refine lv_iload_n hx hb dX1_hall_44 rfl (lv_at hl 1 rfl) ?_
        refine lv_icmp_ge (tgt := 94) hx hb dX1_hall_45 (by decide) (fun c6 => ?_) (fun c6 => ?_)
        · have hf := hT hf c6
          exact (hWW _ _ _).mp (J94 _ _ _ _ _ _ _ hf hP hD hS (lv_sub hl [0, 2] rfl))
        · have hf := hF hf c6
          refine lv_iload hx hb dX1_hall_48 (lv_at hl 3 rfl) ?_
          refine lv_if_eq (tgt := 69) hx hb dX1_hall_50 (by decide) (fun c7 => ?_) (fun c7 => ?_)
          · have hf := hT hf c7
            refine lv_aload_n hx hb dX1_hall_69 rfl (lv_at hl 0 rfl) ?_
            refine lv_iload hx hb dX1_hall_70 (lv_at hl 3 rfl) ?_
            obtain ⟨v8, hev8, hf⟩ := bS hf
            refine tV_i (ws' := (wX A cI xx_42 xn_42 v8.2 xk)) (As := [.int j4_42]) (rest := []) ⟨hx, hb, hml, hown, hts⟩ hK hN hA hP hD hS hz (c_X1_comes l D cI zA zV A j4_42 xx_42 xn_42 xm_42 xk v8 hev8) (cwV 1 hts gX1_hall_X1_comes rfl rfl rfl hd_X1_comes ⟨Nat.le_of_ble_eq_true rfl, Nat.le_of_ble_eq_true rfl⟩) (va_recv hK hP (ci := 1) (q0 := 0) rfl rfl) (bp_X1_X1_xnmk_m A cI xx_42 xn_42 xm_42 xk v8.2) rfl hl.1 rfl (Nat.le_of_ble_eq_true rfl) dX1_hall_72 ⟨Nat.le_of_ble_eq_true rfl, Nat.le_of_ble_eq_true rfl⟩ (fun H locs hP hD hS => ?_)
            have hP : va_P D vwCl (wX A cI xx_42 xn_42 v8.2 xk) H := hP
            refine lv_if_ne (tgt := 85) hx hb dX1_hall_75 (by decide) (fun c9 => ?_) (fun c9 => ?_)
            · have hf := hF hf c9
              refine lv_iinc (v := (j3_42 + (1 : Int32))) (lv' := [(3, .int (j3_42 + (1 : Int32))), (0, .ref ((A 0) 0)), (1, .int j1_42), (4, .int j4_42)]) hx hb dX1_hall_85 hl (k := 2) rfl rfl (by decide) rfl (fun ls hl => ?_)
              refine lv_iinc (v := (j4_42 + (1 : Int32))) (lv' := [(4, .int (j4_42 + (1 : Int32))), (3, .int (j3_42 + (1 : Int32))), (0, .ref ((A 0) 0)), (1, .int j1_42)]) hx hb dX1_hall_88 hl (k := 3) rfl rfl (by decide) rfl (fun ls hl => ?_)
              refine lv_goto (tgt := 42) hx hb dX1_hall_91 (by decide) ?_
              exact (hWW _ _ _).mp (ih _ _ _ _ _ _ _ _ _ hf hP hD hS (lv_sub hl [2, 3, 1, 0] rfl))
            · have hf := hT hf c9
              refine lv_sipush (v := (-2000 : Int32)) hx hb dX1_hall_78 (by decide) ?_
              refine lv_iload hx hb dX1_hall_81 (lv_at hl 3 rfl) ?_
              refine lv_isub hx hb dX1_hall_83 ?_
              obtain rfl := Option.some.inj hf
              exact W.iret (v := ((-2000 : Int32) - j4_42)) hx hb hr (fun t ht hW => ⟨⟨((-2000 : Int32) - j4_42), (), rfl, rfl, hPt ht hP⟩, hS.F ht⟩) hS.2.2 dX1_hall_84
          · have hf := hF hf c7
            refine lv_aload_n hx hb dX1_hall_53 rfl (lv_at hl 0 rfl) ?_
            refine va_get (D := D) (ci := 1) (v := .ref ((A 0) 1)) (C := RX1) (T := TX1) (N := 9) hx hb hts hinX hown hK hP 0 rfl rfl 4 (by decide) lk6 (fun _ h9 => h9) rfl dX1_hall_54 ?_
            refine lv_iload hx hb dX1_hall_57 (lv_at hl 3 rfl) ?_
            refine lv_iconst (v := (1 : Int32)) hx hb dX1_hall_59 (by decide) ?_
            refine lv_isub hx hb dX1_hall_60 ?_
            refine qS_i (As := [.ref ((A 0) 1), .int (j4_42 - (1 : Int32))]) (rest := []) ⟨hx, hb, hml, hown, hts⟩ hK hN hA hP hD hS (c_X1_at l D cI 96 (by decide) ((A 0) 1) (xx_42 0) (j4_42 - (1 : Int32))) (va_cwS 2 hts gX1_hall_X1_at rfl rfl rfl hd_X1_at.2 ⟨Nat.le_of_ble_eq_true rfl, Nat.le_of_ble_eq_true rfl⟩) (bA_X1_x_0 A cI xx_42 xn_42 xm_42 xk) rfl hl.1 rfl (Nat.le_of_ble_eq_true rfl) dX1_hall_61 ⟨Nat.le_of_ble_eq_true rfl, Nat.le_of_ble_eq_true rfl⟩ (fun H locs hP hD hS => ?_)
            refine lv_bipush (v := (59 : Int32)) hx hb dX1_hall_64 (by decide) ?_
            refine lv_icmp_ne (tgt := 88) hx hb dX1_hall_66 (by decide) (fun c10 => ?_) (fun c10 => ?_)
            · have hf := hF hf c10
              refine lv_iinc (v := (j4_42 + (1 : Int32))) (lv' := [(4, .int (j4_42 + (1 : Int32))), (0, .ref ((A 0) 0)), (1, .int j1_42), (3, .int j3_42)]) hx hb dX1_hall_88 hl (k := 3) rfl rfl (by decide) rfl (fun ls hl => ?_)
              refine lv_goto (tgt := 42) hx hb dX1_hall_91 (by decide) ?_
              exact (hWW _ _ _).mp (ih _ _ _ _ _ _ _ _ _ hf hP hD hS (lv_sub hl [1, 2, 3, 0] rfl))
            · have hf := hT hf c10
              refine lv_aload_n hx hb dX1_hall_69 rfl (lv_at hl 0 rfl) ?_
              refine lv_iload hx hb dX1_hall_70 (lv_at hl 3 rfl) ?_
              obtain ⟨v11, hev11, hf⟩ := bS hf
              refine tV_i (ws' := (wX A cI xx_42 xn_42 v11.2 xk)) (As := [.int j4_42]) (rest := []) ⟨hx, hb, hml, hown, hts⟩ hK hN hA hP hD hS hz (c_X1_comes l D cI zA zV A j4_42 xx_42 xn_42 xm_42 xk v11 hev11) (cwV 1 hts gX1_hall_X1_comes rfl rfl rfl hd_X1_comes ⟨Nat.le_of_ble_eq_true rfl, Nat.le_of_ble_eq_true rfl⟩) (va_recv hK hP (ci := 1) (q0 := 0) rfl rfl) (bp_X1_X1_xnmk_m A cI xx_42 xn_42 xm_42 xk v11.2) rfl hl.1 rfl (Nat.le_of_ble_eq_true rfl) dX1_hall_72 ⟨Nat.le_of_ble_eq_true rfl, Nat.le_of_ble_eq_true rfl⟩ (fun H locs hP hD hS => ?_)
              have hP : va_P D vwCl (wX A cI xx_42 xn_42 v11.2 xk) H := hP
              refine lv_if_ne (tgt := 85) hx hb dX1_hall_75 (by decide) (fun c12 => ?_) (fun c12 => ?_)
              · have hf := hF hf c12
                refine lv_iinc (v := (j3_42 + (1 : Int32))) (lv' := [(3, .int (j3_42 + (1 : Int32))), (0, .ref ((A 0) 0)), (1, .int j1_42), (4, .int j4_42)]) hx hb dX1_hall_85 hl (k := 2) rfl rfl (by decide) rfl (fun ls hl => ?_)
                refine lv_iinc (v := (j4_42 + (1 : Int32))) (lv' := [(4, .int (j4_42 + (1 : Int32))), (3, .int (j3_42 + (1 : Int32))), (0, .ref ((A 0) 0)), (1, .int j1_42)]) hx hb dX1_hall_88 hl (k := 3) rfl rfl (by decide) rfl (fun ls hl => ?_)
                refine lv_goto (tgt := 42) hx hb dX1_hall_91 (by decide) ?_
                exact (hWW _ _ _).mp (ih _ _ _ _ _ _ _ _ _ hf hP hD hS (lv_sub hl [2, 3, 1, 0] rfl))
              · have hf := hT hf c12
                refine lv_sipush (v := (-2000 : Int32)) hx hb dX1_hall_78 (by decide) ?_
                refine lv_iload hx hb dX1_hall_81 (lv_at hl 3 rfl) ?_
                refine lv_isub hx hb dX1_hall_83 ?_
                obtain rfl := Option.some.inj hf
                exact W.iret (v := ((-2000 : Int32) - j4_42)) hx hb hr (fun t ht hW => ⟨⟨((-2000 : Int32) - j4_42), (), rfl, rfl, hPt ht hP⟩, hS.F ht⟩) hS.2.2 dX1_hall_84
    exact (hWW _ _ _).mp (P42 _ _ _ _ _ _ _ _ _ _ hf hP hD hS (lv_sub hl [4, 3, 1, 0] rfl))
  · have hf := hF hf c3
    refine lv_sipush (v := (-1000 : Int32)) hx hb dX1_hall_20 (by decide) ?_
    refine lv_iload_n hx hb dX1_hall_23 rfl (lv_at hl 0 rfl) ?_
    refine lv_isub hx hb dX1_hall_24 ?_
    obtain rfl := Option.some.inj hf
    exact W.iret (v := ((-1000 : Int32) - v2)) hx hb hr (fun t ht hW => ⟨⟨((-1000 : Int32) - v2), (), rfl, rfl, hPt ht hP⟩, hS.F ht⟩) hS.2.2 dX1_hall_25
