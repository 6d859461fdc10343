theorem hd_X0_allBelieved : yX0_allBelieved.cls = RX0 ∧ yX0_allBelieved.cls ≠ "java/lang/invoke/MethodHandle" ∧ yX0_allBelieved.cls ≠ "java/lang/invoke/VarHandle" ∧ (parseMethodDescriptor yX0_allBelieved.desc).map (fun d => d.parameters.length) = some 0 := by decide +kernel
theorem hd_X0_allCardBits : yX0_allCardBits.cls = RX0 ∧ yX0_allCardBits.cls ≠ "java/lang/invoke/MethodHandle" ∧ yX0_allCardBits.cls ≠ "java/lang/invoke/VarHandle" ∧ (parseMethodDescriptor yX0_allCardBits.desc).map (fun d => d.parameters.length) = some 0 := by decide +kernel
theorem hd_X0_allPurses : yX0_allPurses.cls = RX0 ∧ yX0_allPurses.cls ≠ "java/lang/invoke/MethodHandle" ∧ yX0_allPurses.cls ≠ "java/lang/invoke/VarHandle" ∧ (parseMethodDescriptor yX0_allPurses.desc).map (fun d => d.parameters.length) = some 0 := by decide +kernel
theorem hd_X0_allToPile : yX0_allToPile.cls = RX0 ∧ yX0_allToPile.cls ≠ "java/lang/invoke/MethodHandle" ∧ yX0_allToPile.cls ≠ "java/lang/invoke/VarHandle" ∧ (parseMethodDescriptor yX0_allToPile.desc).map (fun d => d.parameters.length) = some 0 := by decide +kernel
theorem hd_X0_allWorth : yX0_allWorth.cls = RX0 ∧ yX0_allWorth.cls ≠ "java/lang/invoke/MethodHandle" ∧ yX0_allWorth.cls ≠ "java/lang/invoke/VarHandle" ∧ (parseMethodDescriptor yX0_allWorth.desc).map (fun d => d.parameters.length) = some 0 := by decide +kernel
theorem hd_X0_become : yX0_become.cls = RX0 ∧ yX0_become.cls ≠ "java/lang/invoke/MethodHandle" ∧ yX0_become.cls ≠ "java/lang/invoke/VarHandle" ∧ (parseMethodDescriptor yX0_become.desc).map (fun d => d.parameters.length) = some 1 := by decide +kernel
theorem hd_X0_changePlaces : yX0_changePlaces.cls = RX0 ∧ yX0_changePlaces.cls ≠ "java/lang/invoke/MethodHandle" ∧ yX0_changePlaces.cls ≠ "java/lang/invoke/VarHandle" ∧ (parseMethodDescriptor yX0_changePlaces.desc).map (fun d => d.parameters.length) = some 2 := by decide +kernel
theorem hd_X0_cleanBits : yX0_cleanBits.cls = RX0 ∧ yX0_cleanBits.cls ≠ "java/lang/invoke/MethodHandle" ∧ yX0_cleanBits.cls ≠ "java/lang/invoke/VarHandle" ∧ (parseMethodDescriptor yX0_cleanBits.desc).map (fun d => d.parameters.length) = some 0 := by decide +kernel
theorem hd_X0_drawPurses : yX0_drawPurses.cls = RX0 ∧ yX0_drawPurses.cls ≠ "java/lang/invoke/MethodHandle" ∧ yX0_drawPurses.cls ≠ "java/lang/invoke/VarHandle" ∧ (parseMethodDescriptor yX0_drawPurses.desc).map (fun d => d.parameters.length) = some 1 := by decide +kernel
theorem hd_X0_gain : yX0_gain.cls = RX0 ∧ yX0_gain.cls ≠ "java/lang/invoke/MethodHandle" ∧ yX0_gain.cls ≠ "java/lang/invoke/VarHandle" ∧ (parseMethodDescriptor yX0_gain.desc).map (fun d => d.parameters.length) = some 3 := by decide +kernel
theorem hd_X0_goOn : yX0_goOn.cls = RX0 ∧ yX0_goOn.cls ≠ "java/lang/invoke/MethodHandle" ∧ yX0_goOn.cls ≠ "java/lang/invoke/VarHandle" ∧ (parseMethodDescriptor yX0_goOn.desc).map (fun d => d.parameters.length) = some 2 := by decide +kernel
theorem hd_X0_hasTimeFor : yX0_hasTimeFor.cls = RX0 ∧ yX0_hasTimeFor.cls ≠ "java/lang/invoke/MethodHandle" ∧ yX0_hasTimeFor.cls ≠ "java/lang/invoke/VarHandle" ∧ (parseMethodDescriptor yX0_hasTimeFor.desc).map (fun d => d.parameters.length) = some 1 := by decide +kernel
theorem hd_X0_heldBy : yX0_heldBy.cls = RX0 ∧ yX0_heldBy.cls ≠ "java/lang/invoke/MethodHandle" ∧ yX0_heldBy.cls ≠ "java/lang/invoke/VarHandle" ∧ (parseMethodDescriptor yX0_heldBy.desc).map (fun d => d.parameters.length) = some 1 := by decide +kernel
theorem hd_X0_heldCount : yX0_heldCount.cls = RX0 ∧ yX0_heldCount.cls ≠ "java/lang/invoke/MethodHandle" ∧ yX0_heldCount.cls ≠ "java/lang/invoke/VarHandle" ∧ (parseMethodDescriptor yX0_heldCount.desc).map (fun d => d.parameters.length) = some 0 := by decide +kernel
theorem hd_X0_ownBits : yX0_ownBits.cls = RX0 ∧ yX0_ownBits.cls ≠ "java/lang/invoke/MethodHandle" ∧ yX0_ownBits.cls ≠ "java/lang/invoke/VarHandle" ∧ (parseMethodDescriptor yX0_ownBits.desc).map (fun d => d.parameters.length) = some 0 := by decide +kernel
theorem hd_X0_pourPurse : yX0_pourPurse.cls = RX0 ∧ yX0_pourPurse.cls ≠ "java/lang/invoke/MethodHandle" ∧ yX0_pourPurse.cls ≠ "java/lang/invoke/VarHandle" ∧ (parseMethodDescriptor yX0_pourPurse.desc).map (fun d => d.parameters.length) = some 2 := by decide +kernel
theorem hd_X0_rivals : yX0_rivals.cls = RX0 ∧ yX0_rivals.cls ≠ "java/lang/invoke/MethodHandle" ∧ yX0_rivals.cls ≠ "java/lang/invoke/VarHandle" ∧ (parseMethodDescriptor yX0_rivals.desc).map (fun d => d.parameters.length) = some 1 := by decide +kernel
theorem hd_X0_toFront : yX0_toFront.cls = RX0 ∧ yX0_toFront.cls ≠ "java/lang/invoke/MethodHandle" ∧ yX0_toFront.cls ≠ "java/lang/invoke/VarHandle" ∧ (parseMethodDescriptor yX0_toFront.desc).map (fun d => d.parameters.length) = some 1 := by decide +kernel
theorem hd_X1_away : yX1_away.cls = RX1 ∧ yX1_away.cls ≠ "java/lang/invoke/MethodHandle" ∧ yX1_away.cls ≠ "java/lang/invoke/VarHandle" ∧ (parseMethodDescriptor yX1_away.desc).map (fun d => d.parameters.length) = some 2 := by decide +kernel
theorem hd_X1_beyond : yX1_beyond.cls = RX1 ∧ yX1_beyond.cls ≠ "java/lang/invoke/MethodHandle" ∧ yX1_beyond.cls ≠ "java/lang/invoke/VarHandle" ∧ (parseMethodDescriptor yX1_beyond.desc).map (fun d => d.parameters.length) = some 3 := by decide +kernel
theorem hd_X1_goStuttering : yX1_goStuttering.cls = RX1 ∧ yX1_goStuttering.cls ≠ "java/lang/invoke/MethodHandle" ∧ yX1_goStuttering.cls ≠ "java/lang/invoke/VarHandle" ∧ (parseMethodDescriptor yX1_goStuttering.desc).map (fun d => d.parameters.length) = some 4 := by decide +kernel
theorem hd_X1_inLeastTerms : yX1_inLeastTerms.cls = RX1 ∧ yX1_inLeastTerms.cls ≠ "java/lang/invoke/MethodHandle" ∧ yX1_inLeastTerms.cls ≠ "java/lang/invoke/VarHandle" ∧ (parseMethodDescriptor yX1_inLeastTerms.desc).map (fun d => d.parameters.length) = some 3 := by decide +kernel
theorem hd_X1_refuse : yX1_refuse.cls = RX1 ∧ yX1_refuse.cls ≠ "java/lang/invoke/MethodHandle" ∧ yX1_refuse.cls ≠ "java/lang/invoke/VarHandle" ∧ (parseMethodDescriptor yX1_refuse.desc).map (fun d => d.parameters.length) = some 1 := by decide +kernel
theorem hd_X1_refuseFar : yX1_refuseFar.cls = RX1 ∧ yX1_refuseFar.cls ≠ "java/lang/invoke/MethodHandle" ∧ yX1_refuseFar.cls ≠ "java/lang/invoke/VarHandle" ∧ (parseMethodDescriptor yX1_refuseFar.desc).map (fun d => d.parameters.length) = some 1 := by decide +kernel
theorem hd_X1_riches : yX1_riches.cls = RX1 ∧ yX1_riches.cls ≠ "java/lang/invoke/MethodHandle" ∧ yX1_riches.cls ≠ "java/lang/invoke/VarHandle" ∧ (parseMethodDescriptor yX1_riches.desc).map (fun d => d.parameters.length) = some 2 := by decide +kernel
theorem hd_X1_rowTellsHolders : yX1_rowTellsHolders.cls = RX1 ∧ yX1_rowTellsHolders.cls ≠ "java/lang/invoke/MethodHandle" ∧ yX1_rowTellsHolders.cls ≠ "java/lang/invoke/VarHandle" ∧ (parseMethodDescriptor yX1_rowTellsHolders.desc).map (fun d => d.parameters.length) = some 0 := by decide +kernel
def f_X1_refuse (j1 : Int32) (xx : HS) (xn : HS) (xm : HS) (xk : HS) : Option (Int32 × HS) := jn (st xx 2 (ptv 7 (xx 2) (-j1) ((atv 7 (xx 2) (-j1)) + (1 : Int32)))) (fun (xx_v1 : HS) => some (j1, xx_v1))
set_option maxHeartbeats 4000000 in
set_option maxRecDepth 100000 in
theorem c_X1_refuse (l : Launch) (D : va_G) (cI : ClassId) (A : Nat → Nat → Nat) (j1 : Int32) (xx : HS) (xn : HS) (xm : HS) (xk : HS) (out : Int32 × HS) (hf : f_X1_refuse j1 xx xn xm xk = some out) : uI l D cI yX1_refuse wsX1_refuse ({ frames := 1, cells := 0, slots := 0, locals := 22 } : Room) [.ref ((A 0) 0), .int j1] (wX A cI xx xn xm xk) (wX A cI out.2 xn xm xk) out.1 := by
  intro sz
  refine Met.ofW (cc := cX1_refuse) (maxL := 2) (ret := (some .int)) (by decide) rfl ?_
  intro p e s m args below meth c s₁ Bd hml hv
  obtain ⟨rfl, hsz, hP, hK, hD0, hN⟩ := hv
  have hx := Bd.exec
  have hb := Bd.bytes
  have hr := Bd.returns
  have hts := atoms_spec (ws := wsX1_refuse) Bd.pre
  have hown : s.vm.findClass RX1 = some m.cls := findClass_of_methodNamed Bd.named
  have hlocks := Bd.notSynchronized
  subst hsz
  have hD := hD0.self (sz := s.heap.size)
  generalize hAe : va_A (wX A cI xx xn xm xk) s.heap.size = G at hD ⊢
  have hA : ∀ q : Nat, s.heap.size ≤ q → G q := fun q h => by rw [← hAe]; exact Or.inr h
  have hS : va_S G s.heap s.heap [] := va_S.rf
  have hP : va_P D vwCl (wX A cI xx xn xm xk) s.heap := hP
  have hl := lv_entry ([.ref ((A 0) 0), .int j1]) (n := 2) (Nat.le_of_ble_eq_true rfl)
  rw [lg_entry_eq]
  generalize (lg_sl ([.ref ((A 0) 0), .int j1]) ++ List.replicate (2 - (lg_sl ([.ref ((A 0) 0), .int j1])).length) Slot.unset).toArray = ls at hl ⊢
  have hl : lv_has ls 2 [(0, .ref ((A 0) 0)), (1, .int j1)] := hl
  have hinX : ∀ w ∈ wsX10, w ∈ wsX1_refuse := by decide +kernel
  have lk0 := hts (.fieldLink RX1 29 "LiesBoughtBack" "refused" "[I") (by decide +kernel)
  refine W_in ?_
  intro WW hWW
  refine (hWW _ _ _).mpr ?_
  unfold f_X1_refuse at hf
  refine lv_aload_n hx hb dX1_refuse_0 rfl (lv_at hl 0 rfl) ?_
  refine va_get (D := D) (ci := 1) (v := .ref ((A 0) 3)) (C := RX1) (T := TX1) (N := 9) hx hb hts hinX hown hK hP 0 rfl rfl 8 (by decide) lk0 (fun _ h9 => h9) rfl dX1_refuse_1 ?_
  refine lv_iload_n hx hb dX1_refuse_4 rfl (lv_at hl 1 rfl) ?_
  refine lv_ineg hx hb dX1_refuse_5 ?_
  refine lv_aload_n hx hb dX1_refuse_6 rfl (lv_at hl 0 rfl) ?_
  refine va_get (D := D) (ci := 1) (v := .ref ((A 0) 3)) (C := RX1) (T := TX1) (N := 9) hx hb hts hinX hown hK hP 0 rfl rfl 8 (by decide) lk0 (fun _ h9 => h9) rfl dX1_refuse_7 ?_
  refine lv_iload_n hx hb dX1_refuse_10 rfl (lv_at hl 1 rfl) ?_
  refine lv_ineg hx hb dX1_refuse_11 ?_
  refine rS_io (As := [.ref ((A 0) 3), .int (-j1)]) (rest := [.int (-j1), .ref ((A 0) 3)]) ⟨hx, hb, hml, hown, hts⟩ hK hN hA hP hD hS (c_X1_at l D cI 7 (by decide) ((A 0) 3) (xx 2) (-j1)) (va_cwS 2 hts gX1_refuse_X1_at rfl rfl rfl hd_X1_at.2 ⟨Nat.le_of_ble_eq_true rfl, Nat.le_of_ble_eq_true rfl⟩) [36] (by decide) rfl rfl hl.1 rfl (Nat.le_of_ble_eq_true rfl) dX1_refuse_12 ⟨Nat.le_of_ble_eq_true rfl, Nat.le_of_ble_eq_true rfl⟩ (fun H locs hP hD hS => ?_)
  refine lv_iconst (v := (1 : Int32)) hx hb dX1_refuse_15 (by decide) ?_
  refine lv_iadd hx hb dX1_refuse_16 ?_
  obtain ⟨xx_v1, exx_v1, hf⟩ := jnS hf
  refine rS_v (ws' := (wX A cI xx_v1 xn xm xk)) (As := [.ref ((A 0) 3), .int (-j1), .int ((atv 7 (xx 2) (-j1)) + (1 : Int32))]) (rest := []) ⟨hx, hb, hml, hown, hts⟩ hK hN hA hP hD hS (c_X1_put l D cI 7 (by decide) ((A 0) 3) (xx 2) (-j1) ((atv 7 (xx 2) (-j1)) + (1 : Int32))) (va_cwS 3 hts gX1_refuse_X1_put rfl rfl rfl hd_X1_put.2 ⟨Nat.le_of_ble_eq_true rfl, Nat.le_of_ble_eq_true rfl⟩) [36] (by decide) rfl rfl ((sa_X1_x_2 A cI xx xn xm xk (ptv 7 (xx 2) (-j1) ((atv 7 (xx 2) (-j1)) + (1 : Int32)))).trans (congrArg (fun z => wX A cI z xn xm xk) exx_v1.symm)) rfl hl.1 rfl (Nat.le_of_ble_eq_true rfl) dX1_refuse_17 ⟨Nat.le_of_ble_eq_true rfl, Nat.le_of_ble_eq_true rfl⟩ (fun H locs hP hD hS => ?_)
  refine lv_iload_n hx hb dX1_refuse_20 rfl (lv_at hl 1 rfl) ?_
  obtain rfl := Option.some.inj hf
  exact W.iret (v := j1) hx hb hr (fun t ht hW => ⟨⟨j1, (), rfl, rfl, hPt ht hP⟩, hS.F ht⟩) hS.2.2 dX1_refuse_21
def f_X1_letter (j1 : Int32) (xx : HS) (xn : HS) (xm : HS) (xk : HS) : Option (Int32 × HS) := if 0 ≤ j1 then if (255 : Int32) < j1 then (f_X1_refuse (-6 : Int32) xx xn xm xk).bind fun v3 => some (v3.1, v3.2) else if (xx 4 0) < (96 : Int32) then jn (st xx 0 (ptv 96 (xx 0) (xx 4 0) j1)) (fun (xx_v5 : HS) => jn (st xx_v5 4 (fun _ => ((xx_v5 4 0) + (1 : Int32)))) (fun (xx_v6 : HS) => some ((xx_v6 4 0), xx_v6))) else (f_X1_refuse (-6 : Int32) xx xn xm xk).bind fun v7 => some (v7.1, v7.2) else (f_X1_refuse (-4 : Int32) xx xn xm xk).bind fun v8 => some (v8.1, v8.2)
set_option maxHeartbeats 4000000 in
set_option maxRecDepth 100000 in
theorem c_X1_letter (l : Launch) (D : va_G) (cI : ClassId) (A : Nat → Nat → Nat) (j1 : Int32) (xx : HS) (xn : HS) (xm : HS) (xk : HS) (out : Int32 × HS) (hf : f_X1_letter j1 xx xn xm xk = some out) : uI l D cI yX1_letter wsX1_letter ({ frames := 2, cells := 0, slots := 0, locals := 43 } : Room) [.ref ((A 0) 0), .int j1] (wX A cI xx xn xm xk) (wX A cI out.2 xn xm xk) out.1 := by
  intro sz
  refine Met.ofW (cc := cX1_letter) (maxL := 2) (ret := (some .int)) (by decide) rfl ?_
  intro p e s m args below meth c s₁ Bd hml hv
  obtain ⟨rfl, hsz, hP, hK, hD0, hN⟩ := hv
  have hx := Bd.exec
  have hb := Bd.bytes
  have hr := Bd.returns
  have hts := atoms_spec (ws := wsX1_letter) Bd.pre
  have hown : s.vm.findClass RX1 = some m.cls := findClass_of_methodNamed Bd.named
  have hlocks := Bd.notSynchronized
  subst hsz
  have hD := hD0.self (sz := s.heap.size)
  generalize hAe : va_A (wX A cI xx xn xm xk) s.heap.size = G at hD ⊢
  have hA : ∀ q : Nat, s.heap.size ≤ q → G q := fun q h => by rw [← hAe]; exact Or.inr h
  have hS : va_S G s.heap s.heap [] := va_S.rf
  have hP : va_P D vwCl (wX A cI xx xn xm xk) s.heap := hP
  have hl := lv_entry ([.ref ((A 0) 0), .int j1]) (n := 2) (Nat.le_of_ble_eq_true rfl)
  rw [lg_entry_eq]
  generalize (lg_sl ([.ref ((A 0) 0), .int j1]) ++ List.replicate (2 - (lg_sl ([.ref ((A 0) 0), .int j1])).length) Slot.unset).toArray = ls at hl ⊢
  have hl : lv_has ls 2 [(0, .ref ((A 0) 0)), (1, .int j1)] := hl
  have hinX : ∀ w ∈ wsX10, w ∈ wsX1_letter := by decide +kernel
  have lk0 := hts (.fieldLink RX1 36 "LiesBoughtBack" "letterCount" "I") (by decide +kernel)
  have lk1 := hts (.fieldLink RX1 22 "LiesBoughtBack" "letters" "[I") (by decide +kernel)
  refine W_in ?_
  intro WW hWW
  refine (hWW _ _ _).mpr ?_
  unfold f_X1_letter at hf
  refine lv_iload_n hx hb dX1_letter_0 rfl (lv_at hl 1 rfl) ?_
  refine lv_if_ge (tgt := 11) hx hb dX1_letter_1 (by decide) (fun c1 => ?_) (fun c1 => ?_)
  · have hf := hT hf c1
    refine lv_iload_n hx hb dX1_letter_11 rfl (lv_at hl 1 rfl) ?_
    refine lv_sipush (v := (255 : Int32)) hx hb dX1_letter_12 (by decide) ?_
    refine lv_icmp_gt (tgt := 27) hx hb dX1_letter_15 (by decide) (fun c2 => ?_) (fun c2 => ?_)
    · have hf := hT hf c2
      refine lv_aload_n hx hb dX1_letter_27 rfl (lv_at hl 0 rfl) ?_
      refine lv_bipush (v := (-6 : Int32)) hx hb dX1_letter_28 (by decide) ?_
      obtain ⟨v3, hev3, hf⟩ := bS hf
      refine rV_i (ws' := (wX A cI v3.2 xn xm xk)) (As := [.int (-6 : Int32)]) (rest := []) ⟨hx, hb, hml, hown, hts⟩ hK hN hA hP hD hS (c_X1_refuse l D cI A (-6 : Int32) xx xn xm xk v3 hev3) (cwV 1 hts gX1_letter_X1_refuse rfl rfl rfl hd_X1_refuse ⟨Nat.le_of_ble_eq_true rfl, Nat.le_of_ble_eq_true rfl⟩) (va_recv hK hP (ci := 1) (q0 := 0) rfl rfl) [0, 1, 2, 3, 4, 5, 6, 7, 8, 9, 10, 11, 12, 13, 14, 15, 16, 17, 18, 19, 20, 21, 22, 23, 24, 25, 26, 27, 28, 29, 30, 31, 32, 33, 34, 35, 36] (by decide) rfl rfl rfl rfl hl.1 rfl (Nat.le_of_ble_eq_true rfl) dX1_letter_30 ⟨Nat.le_of_ble_eq_true rfl, Nat.le_of_ble_eq_true rfl⟩ (fun H locs hP hD hS => ?_)
      have hP : va_P D vwCl (wX A cI v3.2 xn xm xk) H := hP
      obtain rfl := Option.some.inj hf
      exact W.iret (v := v3.1) hx hb hr (fun t ht hW => ⟨⟨v3.1, (), rfl, rfl, hPt ht hP⟩, hS.F ht⟩) hS.2.2 dX1_letter_33
    · have hf := hF hf c2
      refine lv_aload_n hx hb dX1_letter_18 rfl (lv_at hl 0 rfl) ?_
      refine va_get (D := D) (ci := 1) (v := .int (xx 4 0)) (C := RX1) (T := TX1) (N := 9) hx hb hts hinX hown hK hP 0 rfl rfl 5 (by decide) lk0 (fun _ h9 => h9) rfl dX1_letter_19 ?_
      refine lv_bipush (v := (96 : Int32)) hx hb dX1_letter_22 (by decide) ?_
      refine lv_icmp_lt (tgt := 34) hx hb dX1_letter_24 (by decide) (fun c4 => ?_) (fun c4 => ?_)
      · have hf := hT hf c4
        refine lv_aload_n hx hb dX1_letter_34 rfl (lv_at hl 0 rfl) ?_
        refine va_get (D := D) (ci := 1) (v := .ref ((A 0) 1)) (C := RX1) (T := TX1) (N := 9) hx hb hts hinX hown hK hP 0 rfl rfl 4 (by decide) lk1 (fun _ h9 => h9) rfl dX1_letter_35 ?_
        refine lv_aload_n hx hb dX1_letter_38 rfl (lv_at hl 0 rfl) ?_
        refine va_get (D := D) (ci := 1) (v := .int (xx 4 0)) (C := RX1) (T := TX1) (N := 9) hx hb hts hinX hown hK hP 0 rfl rfl 5 (by decide) lk0 (fun _ h9 => h9) rfl dX1_letter_39 ?_
        refine lv_iload_n hx hb dX1_letter_42 rfl (lv_at hl 1 rfl) ?_
        obtain ⟨xx_v5, exx_v5, hf⟩ := jnS hf
        refine rS_v (ws' := (wX A cI xx_v5 xn xm xk)) (As := [.ref ((A 0) 1), .int (xx 4 0), .int j1]) (rest := []) ⟨hx, hb, hml, hown, hts⟩ hK hN hA hP hD hS (c_X1_put l D cI 96 (by decide) ((A 0) 1) (xx 0) (xx 4 0) j1) (va_cwS 3 hts gX1_letter_X1_put rfl rfl rfl hd_X1_put.2 ⟨Nat.le_of_ble_eq_true rfl, Nat.le_of_ble_eq_true rfl⟩) [34] (by decide) rfl rfl ((sa_X1_x_0 A cI xx xn xm xk (ptv 96 (xx 0) (xx 4 0) j1)).trans (congrArg (fun z => wX A cI z xn xm xk) exx_v5.symm)) rfl hl.1 rfl (Nat.le_of_ble_eq_true rfl) dX1_letter_43 ⟨Nat.le_of_ble_eq_true rfl, Nat.le_of_ble_eq_true rfl⟩ (fun H locs hP hD hS => ?_)
        refine lv_aload_n hx hb dX1_letter_46 rfl (lv_at hl 0 rfl) ?_
        refine lv_dup hx hb dX1_letter_47 rfl ?_
        refine va_get (D := D) (ci := 1) (v := .int (xx_v5 4 0)) (C := RX1) (T := TX1) (N := 9) hx hb hts hinX hown hK hP 0 rfl rfl 5 (by decide) lk0 (fun _ h9 => h9) rfl dX1_letter_48 ?_
        refine lv_iconst (v := (1 : Int32)) hx hb dX1_letter_51 (by decide) ?_
        refine lv_iadd hx hb dX1_letter_52 ?_
        obtain ⟨xx_v6, exx_v6, hf⟩ := jnS hf
        refine va_put (D := D) (ci := 1) (v := .int ((xx_v5 4 0) + (1 : Int32))) (ty := .int) (C := RX1) (T := TX1) (N := 9) hx hb hts hinX tyX1 tyX1_ok nmX1 hown hK hP hD hS 0 rfl rfl 5 (by decide) lk0 (fun _ h9 => h9) rfl (by decide +kernel) rfl rfl (Nat.le_of_ble_eq_true rfl) dX1_letter_53 (fun H locs hP hD hS => ?_)
        have hE : _ = (wX A cI xx_v6 xn xm xk) := ((sf_X1_x_4 A cI xx_v5 xn xm xk ((xx_v5 4 0) + (1 : Int32))).trans (congrArg (fun z => wX A cI z xn xm xk) exx_v6.symm))
        have hP : va_P D vwCl (wX A cI xx_v6 xn xm xk) H := hE ▸ hP
        have hD : va_D G (wX A cI xx_v6 xn xm xk) := hE ▸ hD
        refine lv_aload_n hx hb dX1_letter_56 rfl (lv_at hl 0 rfl) ?_
        refine va_get (D := D) (ci := 1) (v := .int (xx_v6 4 0)) (C := RX1) (T := TX1) (N := 9) hx hb hts hinX hown hK hP 0 rfl rfl 5 (by decide) lk0 (fun _ h9 => h9) rfl dX1_letter_57 ?_
        obtain rfl := Option.some.inj hf
        exact W.iret (v := (xx_v6 4 0)) hx hb hr (fun t ht hW => ⟨⟨(xx_v6 4 0), (), rfl, rfl, hPt ht hP⟩, hS.F ht⟩) hS.2.2 dX1_letter_60
      · have hf := hF hf c4
        refine lv_aload_n hx hb dX1_letter_27 rfl (lv_at hl 0 rfl) ?_
        refine lv_bipush (v := (-6 : Int32)) hx hb dX1_letter_28 (by decide) ?_
        obtain ⟨v7, hev7, hf⟩ := bS hf
        refine rV_i (ws' := (wX A cI v7.2 xn xm xk)) (As := [.int (-6 : Int32)]) (rest := []) ⟨hx, hb, hml, hown, hts⟩ hK hN hA hP hD hS (c_X1_refuse l D cI A (-6 : Int32) xx xn xm xk v7 hev7) (cwV 1 hts gX1_letter_X1_refuse rfl rfl rfl hd_X1_refuse ⟨Nat.le_of_ble_eq_true rfl, Nat.le_of_ble_eq_true rfl⟩) (va_recv hK hP (ci := 1) (q0 := 0) rfl rfl) [0, 1, 2, 3, 4, 5, 6, 7, 8, 9, 10, 11, 12, 13, 14, 15, 16, 17, 18, 19, 20, 21, 22, 23, 24, 25, 26, 27, 28, 29, 30, 31, 32, 33, 34, 35, 36] (by decide) rfl rfl rfl rfl hl.1 rfl (Nat.le_of_ble_eq_true rfl) dX1_letter_30 ⟨Nat.le_of_ble_eq_true rfl, Nat.le_of_ble_eq_true rfl⟩ (fun H locs hP hD hS => ?_)
        have hP : va_P D vwCl (wX A cI v7.2 xn xm xk) H := hP
        obtain rfl := Option.some.inj hf
        exact W.iret (v := v7.1) hx hb hr (fun t ht hW => ⟨⟨v7.1, (), rfl, rfl, hPt ht hP⟩, hS.F ht⟩) hS.2.2 dX1_letter_33
  · have hf := hF hf c1
    refine lv_aload_n hx hb dX1_letter_4 rfl (lv_at hl 0 rfl) ?_
    refine lv_bipush (v := (-4 : Int32)) hx hb dX1_letter_5 (by decide) ?_
    obtain ⟨v8, hev8, hf⟩ := bS hf
    refine rV_i (ws' := (wX A cI v8.2 xn xm xk)) (As := [.int (-4 : Int32)]) (rest := []) ⟨hx, hb, hml, hown, hts⟩ hK hN hA hP hD hS (c_X1_refuse l D cI A (-4 : Int32) xx xn xm xk v8 hev8) (cwV 1 hts gX1_letter_X1_refuse rfl rfl rfl hd_X1_refuse ⟨Nat.le_of_ble_eq_true rfl, Nat.le_of_ble_eq_true rfl⟩) (va_recv hK hP (ci := 1) (q0 := 0) rfl rfl) [0, 1, 2, 3, 4, 5, 6, 7, 8, 9, 10, 11, 12, 13, 14, 15, 16, 17, 18, 19, 20, 21, 22, 23, 24, 25, 26, 27, 28, 29, 30, 31, 32, 33, 34, 35, 36] (by decide) rfl rfl rfl rfl hl.1 rfl (Nat.le_of_ble_eq_true rfl) dX1_letter_7 ⟨Nat.le_of_ble_eq_true rfl, Nat.le_of_ble_eq_true rfl⟩ (fun H locs hP hD hS => ?_)
    have hP : va_P D vwCl (wX A cI v8.2 xn xm xk) H := hP
    obtain rfl := Option.some.inj hf
    exact W.iret (v := v8.1) hx hb hr (fun t ht hW => ⟨⟨v8.1, (), rfl, rfl, hPt ht hP⟩, hS.F ht⟩) hS.2.2 dX1_letter_10
def f_X1_beyond (j0 : Int32) (j1 : Int32) (j2 : Int32) : Int32 := if j1 ≤ j0 then if j0 ≤ j2 then (0 : Int32) else (-6 : Int32) else (-4 : Int32)
set_option maxHeartbeats 4000000 in
set_option maxRecDepth 100000 in
theorem c_X1_beyond (l : Launch) (D : va_G) (cI : ClassId) (j0 : Int32) (j1 : Int32) (j2 : Int32) (out : Int32) (hf : f_X1_beyond j0 j1 j2 = out) : uI l D cI yX1_beyond wsX1_beyond ({ frames := 0, cells := 0, slots := 0, locals := 0 } : Room) [.int j0, .int j1, .int j2] [] [] out := by
  intro sz
  refine Met.ofW (cc := cX1_beyond) (maxL := 3) (ret := (some .int)) (by decide) rfl ?_
  intro p e s m args below meth c s₁ Bd hml hv
  obtain ⟨rfl, hsz, hP, hK, hD0, hN⟩ := hv
  have hx := Bd.exec
  have hb := Bd.bytes
  have hr := Bd.returns
  have hts := atoms_spec (ws := wsX1_beyond) Bd.pre
  have hown : s.vm.findClass RX1 = some m.cls := findClass_of_methodNamed Bd.named
  have hlocks := Bd.notSynchronized
  subst hsz
  have hD := hD0.self (sz := s.heap.size)
  generalize hAe : va_A [] s.heap.size = G at hD ⊢
  have hA : ∀ q : Nat, s.heap.size ≤ q → G q := fun q h => by rw [← hAe]; exact Or.inr h
  have hS : va_S G s.heap s.heap [] := va_S.rf
  have hP : va_P D vwCl [] s.heap := hP
  have hl := lv_entry ([.int j0, .int j1, .int j2]) (n := 3) (Nat.le_of_ble_eq_true rfl)
  rw [lg_entry_eq]
  generalize (lg_sl ([.int j0, .int j1, .int j2]) ++ List.replicate (3 - (lg_sl ([.int j0, .int j1, .int j2])).length) Slot.unset).toArray = ls at hl ⊢
  have hl : lv_has ls 3 [(0, .int j0), (1, .int j1), (2, .int j2)] := hl
  refine W_in ?_
  intro WW hWW
  refine (hWW _ _ _).mpr ?_
  unfold f_X1_beyond at hf
  refine lv_iload_n hx hb dX1_beyond_0 rfl (lv_at hl 0 rfl) ?_
  refine lv_iload_n hx hb dX1_beyond_1 rfl (lv_at hl 1 rfl) ?_
  refine lv_icmp_ge (tgt := 8) hx hb dX1_beyond_2 (by decide) (fun c1 => ?_) (fun c1 => ?_)
  · have hf := hT hf c1
    refine lv_iload_n hx hb dX1_beyond_8 rfl (lv_at hl 0 rfl) ?_
    refine lv_iload_n hx hb dX1_beyond_9 rfl (lv_at hl 2 rfl) ?_
    refine lv_icmp_le (tgt := 18) hx hb dX1_beyond_10 (by decide) (fun c2 => ?_) (fun c2 => ?_)
    · have hf := hT hf c2
      refine lv_iconst (v := (0 : Int32)) hx hb dX1_beyond_18 (by decide) ?_
      subst hf
      exact W.iret (v := (0 : Int32)) hx hb hr (fun t ht hW => ⟨⟨(0 : Int32), (), rfl, rfl, hPt ht hP⟩, hS.F ht⟩) hS.2.2 dX1_beyond_19
    · have hf := hF hf c2
      refine lv_bipush (v := (-6 : Int32)) hx hb dX1_beyond_13 (by decide) ?_
      refine lv_goto (tgt := 19) hx hb dX1_beyond_15 (by decide) ?_
      subst hf
      exact W.iret (v := (-6 : Int32)) hx hb hr (fun t ht hW => ⟨⟨(-6 : Int32), (), rfl, rfl, hPt ht hP⟩, hS.F ht⟩) hS.2.2 dX1_beyond_19
  · have hf := hF hf c1
    refine lv_bipush (v := (-4 : Int32)) hx hb dX1_beyond_5 (by decide) ?_
    subst hf
    exact W.iret (v := (-4 : Int32)) hx hb hr (fun t ht hW => ⟨⟨(-4 : Int32), (), rfl, rfl, hPt ht hP⟩, hS.F ht⟩) hS.2.2 dX1_beyond_7
def f_X1_pays (j1 : Int32) (j2 : Int32) (xx : HS) (xn : HS) (xm : HS) (xk : HS) : Option (Int32 × HS × HS) := if (f_X0_hasBidder j1 xn) = 0 then (f_X1_refuse (-1 : Int32) xx xn xm xk).bind fun v5 => some (v5.1, v5.2, xn) else if (f_X1_beyond j2 (0 : Int32) (999 : Int32)) = 0 then jn (st xn 8 (ptv 6 (xn 8) j1 j2)) (fun (xn_v3 : HS) => some ((atv 6 (xn 8) j1), xx, xn_v3)) else (f_X1_refuse (f_X1_beyond j2 (0 : Int32) (999 : Int32)) xx xn xm xk).bind fun v4 => some (v4.1, v4.2, xn)
set_option maxHeartbeats 4000000 in
set_option maxRecDepth 100000 in
theorem c_X1_pays (l : Launch) (D : va_G) (cI : ClassId) (A : Nat → Nat → Nat) (j1 : Int32) (j2 : Int32) (xx : HS) (xn : HS) (xm : HS) (xk : HS) (out : Int32 × HS × HS) (hf : f_X1_pays j1 j2 xx xn xm xk = some out) : uI l D cI yX1_pays wsX1_pays ({ frames := 2, cells := 0, slots := 0, locals := 43 } : Room) [.ref ((A 0) 0), .int j1, .int j2] (wX A cI xx xn xm xk) (wX A cI out.2.1 out.2.2 xm xk) out.1 := by
  intro sz
  refine Met.ofW (cc := cX1_pays) (maxL := 4) (ret := (some .int)) (by decide) rfl ?_
  intro p e s m args below meth c s₁ Bd hml hv
  obtain ⟨rfl, hsz, hP, hK, hD0, hN⟩ := hv
  have hx := Bd.exec
  have hb := Bd.bytes
  have hr := Bd.returns
  have hts := atoms_spec (ws := wsX1_pays) Bd.pre
  have hown : s.vm.findClass RX1 = some m.cls := findClass_of_methodNamed Bd.named
  have hlocks := Bd.notSynchronized
  subst hsz
  have hD := hD0.self (sz := s.heap.size)
  generalize hAe : va_A (wX A cI xx xn xm xk) s.heap.size = G at hD ⊢
  have hA : ∀ q : Nat, s.heap.size ≤ q → G q := fun q h => by rw [← hAe]; exact Or.inr h
  have hS : va_S G s.heap s.heap [] := va_S.rf
  have hP : va_P D vwCl (wX A cI xx xn xm xk) s.heap := hP
  have hl := lv_entry ([.ref ((A 0) 0), .int j1, .int j2]) (n := 4) (Nat.le_of_ble_eq_true rfl)
  rw [lg_entry_eq]
  generalize (lg_sl ([.ref ((A 0) 0), .int j1, .int j2]) ++ List.replicate (4 - (lg_sl ([.ref ((A 0) 0), .int j1, .int j2])).length) Slot.unset).toArray = ls at hl ⊢
  have hl : lv_has ls 4 [(0, .ref ((A 0) 0)), (1, .int j1), (2, .int j2)] := hl
  have hinH : ∀ w ∈ wsX00, w ∈ wsX1_pays := by decide +kernel
  have hinX : ∀ w ∈ wsX10, w ∈ wsX1_pays := by decide +kernel
  have lk0 := hts (.fieldLink RX1 10 "LiesBoughtBack" "now" "LLiesBoughtBack$Hall;") (by decide +kernel)
  have lk1 := hts (.initialized RX0) (by decide +kernel)
  have lk2 := hts (.instanceMethod yX0_hasBidder) (by decide +kernel)
  have lk3 := hts (.selects RX0 yX0_hasBidder yX0_hasBidder) (by decide +kernel)
  refine W_in ?_
  intro WW hWW
  refine (hWW _ _ _).mpr ?_
  unfold f_X1_pays at hf
  refine lv_aload_n hx hb dX1_pays_0 rfl (lv_at hl 0 rfl) ?_
  refine va_get (D := D) (ci := 1) (v := .ref ((A 1) 0)) (C := RX1) (T := TX1) (N := 9) hx hb hts hinX hown hK hP 0 rfl rfl 0 (by decide) lk0 (fun _ h9 => h9) rfl dX1_pays_1 ?_
  refine lv_iload_n hx hb dX1_pays_4 rfl (lv_at hl 1 rfl) ?_
  refine rVN_io (As := [.int j1]) (rest := []) ⟨hx, hb, hml, hown, hts⟩ hK hN hA hP hD hS (c_X0_hasBidder l D cI (A 1) j1 xn (f_X0_hasBidder j1 xn) rfl) ⟨va_cnB 1 hts gX1_pays_X0_hasBidder_n59 rfl rfl rfl (nW.m hN 13 rfl) lk1 hd_X0_hasBidder.2 ⟨Nat.le_of_ble_eq_true rfl, Nat.le_of_ble_eq_true rfl⟩, lk2, lk3⟩ (va_recv hK hP (ci := 0) (q0 := 1) rfl rfl) [1, 2, 3, 4, 5, 6, 7, 8, 9, 10, 11] (by decide) rfl rfl hl.1 rfl (Nat.le_of_ble_eq_true rfl) dX1_pays_5 ⟨Nat.le_of_ble_eq_true rfl, Nat.le_of_ble_eq_true rfl⟩ (fun H locs hP hD hS => ?_)
  refine lv_if_ne (tgt := 17) hx hb dX1_pays_8 (by decide) (fun c1 => ?_) (fun c1 => ?_)
  · have hf := hF hf c1
    refine lv_iload_n hx hb dX1_pays_17 rfl (lv_at hl 2 rfl) ?_
    refine lv_iconst (v := (0 : Int32)) hx hb dX1_pays_18 (by decide) ?_
    refine lv_sipush (v := (999 : Int32)) hx hb dX1_pays_19 (by decide) ?_
    refine rS_io (As := [.int j2, .int (0 : Int32), .int (999 : Int32)]) (rest := []) ⟨hx, hb, hml, hown, hts⟩ hK hN hA hP hD hS (c_X1_beyond l D cI j2 (0 : Int32) (999 : Int32) (f_X1_beyond j2 (0 : Int32) (999 : Int32)) rfl) (va_cwS 3 hts gX1_pays_X1_beyond rfl rfl rfl hd_X1_beyond.2 ⟨Nat.le_of_ble_eq_true rfl, Nat.le_of_ble_eq_true rfl⟩) [] (by decide) rfl rfl hl.1 rfl (Nat.le_of_ble_eq_true rfl) dX1_pays_22 ⟨Nat.le_of_ble_eq_true rfl, Nat.le_of_ble_eq_true rfl⟩ (fun H locs hP hD hS => ?_)
    refine lv_if_eq (tgt := 41) hx hb dX1_pays_25 (by decide) (fun c2 => ?_) (fun c2 => ?_)
    · have hf := hT hf c2
      refine lv_aload_n hx hb dX1_pays_41 rfl (lv_at hl 0 rfl) ?_
      refine va_get (D := D) (ci := 1) (v := .ref ((A 1) 0)) (C := RX1) (T := TX1) (N := 9) hx hb hts hinX hown hK hP 0 rfl rfl 0 (by decide) lk0 (fun _ h9 => h9) rfl dX1_pays_42 ?_
      refine va_getN (D := D) (ci := 0) (v := .ref ((A 1) 9)) (C := RX0) (T := TX0) (N := 13) hx hb hts hinH hown hK hP 1 rfl rfl 11 (by decide) (nW.f hN 10 rfl) (fun _ h9 => h9) rfl dX1_pays_45 ?_
      refine lv_iload_n hx hb dX1_pays_48 rfl (lv_at hl 1 rfl) ?_
      refine rS_io (As := [.ref ((A 1) 9), .int j1]) (rest := []) ⟨hx, hb, hml, hown, hts⟩ hK hN hA hP hD hS (c_X1_at l D cI 6 (by decide) ((A 1) 9) (xn 8) j1) (va_cwS 2 hts gX1_pays_X1_at rfl rfl rfl hd_X1_at.2 ⟨Nat.le_of_ble_eq_true rfl, Nat.le_of_ble_eq_true rfl⟩) [10] (by decide) rfl rfl hl.1 rfl (Nat.le_of_ble_eq_true rfl) dX1_pays_49 ⟨Nat.le_of_ble_eq_true rfl, Nat.le_of_ble_eq_true rfl⟩ (fun H locs hP hD hS => ?_)
      refine lv_istore_n (lv' := [(3, .int (atv 6 (xn 8) j1)), (0, .ref ((A 0) 0)), (1, .int j1), (2, .int j2)]) hx hb dX1_pays_52 rfl hl (by decide) rfl (fun ls hl => ?_)
      refine lv_aload_n hx hb dX1_pays_53 rfl (lv_at hl 1 rfl) ?_
      refine va_get (D := D) (ci := 1) (v := .ref ((A 1) 0)) (C := RX1) (T := TX1) (N := 9) hx hb hts hinX hown hK hP 0 rfl rfl 0 (by decide) lk0 (fun _ h9 => h9) rfl dX1_pays_54 ?_
      refine va_getN (D := D) (ci := 0) (v := .ref ((A 1) 9)) (C := RX0) (T := TX0) (N := 13) hx hb hts hinH hown hK hP 1 rfl rfl 11 (by decide) (nW.f hN 10 rfl) (fun _ h9 => h9) rfl dX1_pays_57 ?_
      refine lv_iload_n hx hb dX1_pays_60 rfl (lv_at hl 2 rfl) ?_
      refine lv_iload_n hx hb dX1_pays_61 rfl (lv_at hl 3 rfl) ?_
      obtain ⟨xn_v3, exn_v3, hf⟩ := jnS hf
      refine rS_v (ws' := (wX A cI xx xn_v3 xm xk)) (As := [.ref ((A 1) 9), .int j1, .int j2]) (rest := []) ⟨hx, hb, hml, hown, hts⟩ hK hN hA hP hD hS (c_X1_put l D cI 6 (by decide) ((A 1) 9) (xn 8) j1 j2) (va_cwS 3 hts gX1_pays_X1_put rfl rfl rfl hd_X1_put.2 ⟨Nat.le_of_ble_eq_true rfl, Nat.le_of_ble_eq_true rfl⟩) [10] (by decide) rfl rfl ((sa_X1_n_8 A cI xx xn xm xk (ptv 6 (xn 8) j1 j2)).trans (congrArg (fun z => wX A cI xx z xm xk) exn_v3.symm)) rfl hl.1 rfl (Nat.le_of_ble_eq_true rfl) dX1_pays_62 ⟨Nat.le_of_ble_eq_true rfl, Nat.le_of_ble_eq_true rfl⟩ (fun H locs hP hD hS => ?_)
      refine lv_iload_n hx hb dX1_pays_65 rfl (lv_at hl 0 rfl) ?_
      obtain rfl := Option.some.inj hf
      exact W.iret (v := (atv 6 (xn 8) j1)) hx hb hr (fun t ht hW => ⟨⟨(atv 6 (xn 8) j1), (), rfl, rfl, hPt ht hP⟩, hS.F ht⟩) hS.2.2 dX1_pays_66
    · have hf := hF hf c2
      refine lv_aload_n hx hb dX1_pays_28 rfl (lv_at hl 0 rfl) ?_
      refine lv_iload_n hx hb dX1_pays_29 rfl (lv_at hl 2 rfl) ?_
      refine lv_iconst (v := (0 : Int32)) hx hb dX1_pays_30 (by decide) ?_
      refine lv_sipush (v := (999 : Int32)) hx hb dX1_pays_31 (by decide) ?_
      refine rS_io (As := [.int j2, .int (0 : Int32), .int (999 : Int32)]) (rest := [.ref ((A 0) 0)]) ⟨hx, hb, hml, hown, hts⟩ hK hN hA hP hD hS (c_X1_beyond l D cI j2 (0 : Int32) (999 : Int32) (f_X1_beyond j2 (0 : Int32) (999 : Int32)) rfl) (va_cwS 3 hts gX1_pays_X1_beyond rfl rfl rfl hd_X1_beyond.2 ⟨Nat.le_of_ble_eq_true rfl, Nat.le_of_ble_eq_true rfl⟩) [] (by decide) rfl rfl hl.1 rfl (Nat.le_of_ble_eq_true rfl) dX1_pays_34 ⟨Nat.le_of_ble_eq_true rfl, Nat.le_of_ble_eq_true rfl⟩ (fun H locs hP hD hS => ?_)
      obtain ⟨v4, hev4, hf⟩ := bS hf
      refine rV_i (ws' := (wX A cI v4.2 xn xm xk)) (As := [.int (f_X1_beyond j2 (0 : Int32) (999 : Int32))]) (rest := []) ⟨hx, hb, hml, hown, hts⟩ hK hN hA hP hD hS (c_X1_refuse l D cI A (f_X1_beyond j2 (0 : Int32) (999 : Int32)) xx xn xm xk v4 hev4) (cwV 1 hts gX1_pays_X1_refuse rfl rfl rfl hd_X1_refuse ⟨Nat.le_of_ble_eq_true rfl, Nat.le_of_ble_eq_true rfl⟩) (va_recv hK hP (ci := 1) (q0 := 0) rfl rfl) [0, 1, 2, 3, 4, 5, 6, 7, 8, 9, 10, 11, 12, 13, 14, 15, 16, 17, 18, 19, 20, 21, 22, 23, 24, 25, 26, 27, 28, 29, 30, 31, 32, 33, 34, 35, 36] (by decide) rfl rfl rfl rfl hl.1 rfl (Nat.le_of_ble_eq_true rfl) dX1_pays_37 ⟨Nat.le_of_ble_eq_true rfl, Nat.le_of_ble_eq_true rfl⟩ (fun H locs hP hD hS => ?_)
      have hP : va_P D vwCl (wX A cI v4.2 xn xm xk) H := hP
      obtain rfl := Option.some.inj hf
      exact W.iret (v := v4.1) hx hb hr (fun t ht hW => ⟨⟨v4.1, (), rfl, rfl, hPt ht hP⟩, hS.F ht⟩) hS.2.2 dX1_pays_40
  · have hf := hT hf c1
    refine lv_aload_n hx hb dX1_pays_11 rfl (lv_at hl 0 rfl) ?_
    refine lv_iconst (v := (-1 : Int32)) hx hb dX1_pays_12 (by decide) ?_
    obtain ⟨v5, hev5, hf⟩ := bS hf
    refine rV_i (ws' := (wX A cI v5.2 xn xm xk)) (As := [.int (-1 : Int32)]) (rest := []) ⟨hx, hb, hml, hown, hts⟩ hK hN hA hP hD hS (c_X1_refuse l D cI A (-1 : Int32) xx xn xm xk v5 hev5) (cwV 1 hts gX1_pays_X1_refuse rfl rfl rfl hd_X1_refuse ⟨Nat.le_of_ble_eq_true rfl, Nat.le_of_ble_eq_true rfl⟩) (va_recv hK hP (ci := 1) (q0 := 0) rfl rfl) [0, 1, 2, 3, 4, 5, 6, 7, 8, 9, 10, 11, 12, 13, 14, 15, 16, 17, 18, 19, 20, 21, 22, 23, 24, 25, 26, 27, 28, 29, 30, 31, 32, 33, 34, 35, 36] (by decide) rfl rfl rfl rfl hl.1 rfl (Nat.le_of_ble_eq_true rfl) dX1_pays_13 ⟨Nat.le_of_ble_eq_true rfl, Nat.le_of_ble_eq_true rfl⟩ (fun H locs hP hD hS => ?_)
    have hP : va_P D vwCl (wX A cI v5.2 xn xm xk) H := hP
    obtain rfl := Option.some.inj hf
    exact W.iret (v := v5.1) hx hb hr (fun t ht hW => ⟨⟨v5.1, (), rfl, rfl, hPt ht hP⟩, hS.F ht⟩) hS.2.2 dX1_pays_16
def f_X1_returns (j1 : Int32) (xx : HS) (xn : HS) (xm : HS) (xk : HS) : Option (Int32 × HS × HS) := if (f_X0_hasCard j1 xn) = 0 then (f_X1_refuse (-1 : Int32) xx xn xm xk).bind fun v5 => some (v5.1, v5.2, xn) else if (f_X0_inPile j1 xn) = 0 then jn (st xn 4 (ptv 8 (xn 4) j1 (-9 : Int32))) (fun (xn_v3 : HS) => some ((atv 8 (xn 4) j1), xx, xn_v3)) else (f_X1_refuse (-3 : Int32) xx xn xm xk).bind fun v4 => some (v4.1, v4.2, xn)
set_option maxHeartbeats 4000000 in
set_option maxRecDepth 100000 in
theorem c_X1_returns (l : Launch) (D : va_G) (cI : ClassId) (A : Nat → Nat → Nat) (j1 : Int32) (xx : HS) (xn : HS) (xm : HS) (xk : HS) (out : Int32 × HS × HS) (hf : f_X1_returns j1 xx xn xm xk = some out) : uI l D cI yX1_returns wsX1_returns ({ frames := 2, cells := 0, slots := 0, locals := 43 } : Room) [.ref ((A 0) 0), .int j1] (wX A cI xx xn xm xk) (wX A cI out.2.1 out.2.2 xm xk) out.1 := by
  intro sz
  refine Met.ofW (cc := cX1_returns) (maxL := 3) (ret := (some .int)) (by decide) rfl ?_
  intro p e s m args below meth c s₁ Bd hml hv
  obtain ⟨rfl, hsz, hP, hK, hD0, hN⟩ := hv
  have hx := Bd.exec
  have hb := Bd.bytes
  have hr := Bd.returns
  have hts := atoms_spec (ws := wsX1_returns) Bd.pre
  have hown : s.vm.findClass RX1 = some m.cls := findClass_of_methodNamed Bd.named
  have hlocks := Bd.notSynchronized
  subst hsz
  have hD := hD0.self (sz := s.heap.size)
  generalize hAe : va_A (wX A cI xx xn xm xk) s.heap.size = G at hD ⊢
  have hA : ∀ q : Nat, s.heap.size ≤ q → G q := fun q h => by rw [← hAe]; exact Or.inr h
  have hS : va_S G s.heap s.heap [] := va_S.rf
  have hP : va_P D vwCl (wX A cI xx xn xm xk) s.heap := hP
  have hl := lv_entry ([.ref ((A 0) 0), .int j1]) (n := 3) (Nat.le_of_ble_eq_true rfl)
  rw [lg_entry_eq]
  generalize (lg_sl ([.ref ((A 0) 0), .int j1]) ++ List.replicate (3 - (lg_sl ([.ref ((A 0) 0), .int j1])).length) Slot.unset).toArray = ls at hl ⊢
  have hl : lv_has ls 3 [(0, .ref ((A 0) 0)), (1, .int j1)] := hl
  have hinH : ∀ w ∈ wsX00, w ∈ wsX1_returns := by decide +kernel
  have hinX : ∀ w ∈ wsX10, w ∈ wsX1_returns := by decide +kernel
  have lk0 := hts (.fieldLink RX1 10 "LiesBoughtBack" "now" "LLiesBoughtBack$Hall;") (by decide +kernel)
  have lk1 := hts (.initialized RX0) (by decide +kernel)
  have lk2 := hts (.instanceMethod yX0_hasCard) (by decide +kernel)
  have lk3 := hts (.selects RX0 yX0_hasCard yX0_hasCard) (by decide +kernel)
  have lk4 := hts (.instanceMethod yX0_inPile) (by decide +kernel)
  have lk5 := hts (.selects RX0 yX0_inPile yX0_inPile) (by decide +kernel)
  refine W_in ?_
  intro WW hWW
  refine (hWW _ _ _).mpr ?_
  unfold f_X1_returns at hf
  refine lv_aload_n hx hb dX1_returns_0 rfl (lv_at hl 0 rfl) ?_
  refine va_get (D := D) (ci := 1) (v := .ref ((A 1) 0)) (C := RX1) (T := TX1) (N := 9) hx hb hts hinX hown hK hP 0 rfl rfl 0 (by decide) lk0 (fun _ h9 => h9) rfl dX1_returns_1 ?_
  refine lv_iload_n hx hb dX1_returns_4 rfl (lv_at hl 1 rfl) ?_
  refine rVN_io (As := [.int j1]) (rest := []) ⟨hx, hb, hml, hown, hts⟩ hK hN hA hP hD hS (c_X0_hasCard l D cI (A 1) j1 xn (f_X0_hasCard j1 xn) rfl) ⟨va_cnB 1 hts gX1_returns_X0_hasCard_n69 rfl rfl rfl (nW.m hN 14 rfl) lk1 hd_X0_hasCard.2 ⟨Nat.le_of_ble_eq_true rfl, Nat.le_of_ble_eq_true rfl⟩, lk2, lk3⟩ (va_recv hK hP (ci := 0) (q0 := 1) rfl rfl) [1, 2, 3, 4, 5, 6, 7, 8, 9, 10, 11] (by decide) rfl rfl hl.1 rfl (Nat.le_of_ble_eq_true rfl) dX1_returns_5 ⟨Nat.le_of_ble_eq_true rfl, Nat.le_of_ble_eq_true rfl⟩ (fun H locs hP hD hS => ?_)
  refine lv_if_ne (tgt := 17) hx hb dX1_returns_8 (by decide) (fun c1 => ?_) (fun c1 => ?_)
  · have hf := hF hf c1
    refine lv_aload_n hx hb dX1_returns_17 rfl (lv_at hl 0 rfl) ?_
    refine va_get (D := D) (ci := 1) (v := .ref ((A 1) 0)) (C := RX1) (T := TX1) (N := 9) hx hb hts hinX hown hK hP 0 rfl rfl 0 (by decide) lk0 (fun _ h9 => h9) rfl dX1_returns_18 ?_
    refine lv_iload_n hx hb dX1_returns_21 rfl (lv_at hl 1 rfl) ?_
    refine rVN_io (As := [.int j1]) (rest := []) ⟨hx, hb, hml, hown, hts⟩ hK hN hA hP hD hS (c_X0_inPile l D cI (A 1) j1 xn (f_X0_inPile j1 xn) rfl) ⟨va_cnB 1 hts gX1_returns_X0_inPile_n72 rfl rfl rfl (nW.m hN 15 rfl) lk1 hd_X0_inPile.2 ⟨Nat.le_of_ble_eq_true rfl, Nat.le_of_ble_eq_true rfl⟩, lk4, lk5⟩ (va_recv hK hP (ci := 0) (q0 := 1) rfl rfl) [1, 2, 3, 4, 5, 6, 7, 8, 9, 10, 11] (by decide) rfl rfl hl.1 rfl (Nat.le_of_ble_eq_true rfl) dX1_returns_22 ⟨Nat.le_of_ble_eq_true rfl, Nat.le_of_ble_eq_true rfl⟩ (fun H locs hP hD hS => ?_)
    refine lv_if_eq (tgt := 35) hx hb dX1_returns_25 (by decide) (fun c2 => ?_) (fun c2 => ?_)
    · have hf := hT hf c2
      refine lv_aload_n hx hb dX1_returns_35 rfl (lv_at hl 0 rfl) ?_
      refine va_get (D := D) (ci := 1) (v := .ref ((A 1) 0)) (C := RX1) (T := TX1) (N := 9) hx hb hts hinX hown hK hP 0 rfl rfl 0 (by decide) lk0 (fun _ h9 => h9) rfl dX1_returns_36 ?_
      refine va_getN (D := D) (ci := 0) (v := .ref ((A 1) 5)) (C := RX0) (T := TX0) (N := 13) hx hb hts hinH hown hK hP 1 rfl rfl 7 (by decide) (nW.f hN 7 rfl) (fun _ h9 => h9) rfl dX1_returns_39 ?_
      refine lv_iload_n hx hb dX1_returns_42 rfl (lv_at hl 1 rfl) ?_
      refine rS_io (As := [.ref ((A 1) 5), .int j1]) (rest := []) ⟨hx, hb, hml, hown, hts⟩ hK hN hA hP hD hS (c_X1_at l D cI 8 (by decide) ((A 1) 5) (xn 4) j1) (va_cwS 2 hts gX1_returns_X1_at rfl rfl rfl hd_X1_at.2 ⟨Nat.le_of_ble_eq_true rfl, Nat.le_of_ble_eq_true rfl⟩) [6] (by decide) rfl rfl hl.1 rfl (Nat.le_of_ble_eq_true rfl) dX1_returns_43 ⟨Nat.le_of_ble_eq_true rfl, Nat.le_of_ble_eq_true rfl⟩ (fun H locs hP hD hS => ?_)
      refine lv_istore_n (lv' := [(2, .int (atv 8 (xn 4) j1)), (0, .ref ((A 0) 0)), (1, .int j1)]) hx hb dX1_returns_46 rfl hl (by decide) rfl (fun ls hl => ?_)
      refine lv_aload_n hx hb dX1_returns_47 rfl (lv_at hl 1 rfl) ?_
      refine va_get (D := D) (ci := 1) (v := .ref ((A 1) 0)) (C := RX1) (T := TX1) (N := 9) hx hb hts hinX hown hK hP 0 rfl rfl 0 (by decide) lk0 (fun _ h9 => h9) rfl dX1_returns_48 ?_
      refine va_getN (D := D) (ci := 0) (v := .ref ((A 1) 5)) (C := RX0) (T := TX0) (N := 13) hx hb hts hinH hown hK hP 1 rfl rfl 7 (by decide) (nW.f hN 7 rfl) (fun _ h9 => h9) rfl dX1_returns_51 ?_
      refine lv_iload_n hx hb dX1_returns_54 rfl (lv_at hl 2 rfl) ?_
      refine lv_bipush (v := (-9 : Int32)) hx hb dX1_returns_55 (by decide) ?_
      obtain ⟨xn_v3, exn_v3, hf⟩ := jnS hf
      refine rS_v (ws' := (wX A cI xx xn_v3 xm xk)) (As := [.ref ((A 1) 5), .int j1, .int (-9 : Int32)]) (rest := []) ⟨hx, hb, hml, hown, hts⟩ hK hN hA hP hD hS (c_X1_put l D cI 8 (by decide) ((A 1) 5) (xn 4) j1 (-9 : Int32)) (va_cwS 3 hts gX1_returns_X1_put rfl rfl rfl hd_X1_put.2 ⟨Nat.le_of_ble_eq_true rfl, Nat.le_of_ble_eq_true rfl⟩) [6] (by decide) rfl rfl ((sa_X1_n_4 A cI xx xn xm xk (ptv 8 (xn 4) j1 (-9 : Int32))).trans (congrArg (fun z => wX A cI xx z xm xk) exn_v3.symm)) rfl hl.1 rfl (Nat.le_of_ble_eq_true rfl) dX1_returns_57 ⟨Nat.le_of_ble_eq_true rfl, Nat.le_of_ble_eq_true rfl⟩ (fun H locs hP hD hS => ?_)
      refine lv_iload_n hx hb dX1_returns_60 rfl (lv_at hl 0 rfl) ?_
      obtain rfl := Option.some.inj hf
      exact W.iret (v := (atv 8 (xn 4) j1)) hx hb hr (fun t ht hW => ⟨⟨(atv 8 (xn 4) j1), (), rfl, rfl, hPt ht hP⟩, hS.F ht⟩) hS.2.2 dX1_returns_61
    · have hf := hF hf c2
      refine lv_aload_n hx hb dX1_returns_28 rfl (lv_at hl 0 rfl) ?_
      refine lv_bipush (v := (-3 : Int32)) hx hb dX1_returns_29 (by decide) ?_
      obtain ⟨v4, hev4, hf⟩ := bS hf
      refine rV_i (ws' := (wX A cI v4.2 xn xm xk)) (As := [.int (-3 : Int32)]) (rest := []) ⟨hx, hb, hml, hown, hts⟩ hK hN hA hP hD hS (c_X1_refuse l D cI A (-3 : Int32) xx xn xm xk v4 hev4) (cwV 1 hts gX1_returns_X1_refuse rfl rfl rfl hd_X1_refuse ⟨Nat.le_of_ble_eq_true rfl, Nat.le_of_ble_eq_true rfl⟩) (va_recv hK hP (ci := 1) (q0 := 0) rfl rfl) [0, 1, 2, 3, 4, 5, 6, 7, 8, 9, 10, 11, 12, 13, 14, 15, 16, 17, 18, 19, 20, 21, 22, 23, 24, 25, 26, 27, 28, 29, 30, 31, 32, 33, 34, 35, 36] (by decide) rfl rfl rfl rfl hl.1 rfl (Nat.le_of_ble_eq_true rfl) dX1_returns_31 ⟨Nat.le_of_ble_eq_true rfl, Nat.le_of_ble_eq_true rfl⟩ (fun H locs hP hD hS => ?_)
      have hP : va_P D vwCl (wX A cI v4.2 xn xm xk) H := hP
      obtain rfl := Option.some.inj hf
      exact W.iret (v := v4.1) hx hb hr (fun t ht hW => ⟨⟨v4.1, (), rfl, rfl, hPt ht hP⟩, hS.F ht⟩) hS.2.2 dX1_returns_34
  · have hf := hT hf c1
    refine lv_aload_n hx hb dX1_returns_11 rfl (lv_at hl 0 rfl) ?_
    refine lv_iconst (v := (-1 : Int32)) hx hb dX1_returns_12 (by decide) ?_
    obtain ⟨v5, hev5, hf⟩ := bS hf
    refine rV_i (ws' := (wX A cI v5.2 xn xm xk)) (As := [.int (-1 : Int32)]) (rest := []) ⟨hx, hb, hml, hown, hts⟩ hK hN hA hP hD hS (c_X1_refuse l D cI A (-1 : Int32) xx xn xm xk v5 hev5) (cwV 1 hts gX1_returns_X1_refuse rfl rfl rfl hd_X1_refuse ⟨Nat.le_of_ble_eq_true rfl, Nat.le_of_ble_eq_true rfl⟩) (va_recv hK hP (ci := 1) (q0 := 0) rfl rfl) [0, 1, 2, 3, 4, 5, 6, 7, 8, 9, 10, 11, 12, 13, 14, 15, 16, 17, 18, 19, 20, 21, 22, 23, 24, 25, 26, 27, 28, 29, 30, 31, 32, 33, 34, 35, 36] (by decide) rfl rfl rfl rfl hl.1 rfl (Nat.le_of_ble_eq_true rfl) dX1_returns_13 ⟨Nat.le_of_ble_eq_true rfl, Nat.le_of_ble_eq_true rfl⟩ (fun H locs hP hD hS => ?_)
    have hP : va_P D vwCl (wX A cI v5.2 xn xm xk) H := hP
    obtain rfl := Option.some.inj hf
    exact W.iret (v := v5.1) hx hb hr (fun t ht hW => ⟨⟨v5.1, (), rfl, rfl, hPt ht hP⟩, hS.F ht⟩) hS.2.2 dX1_returns_16
def f_X1_gives (j1 : Int32) (j2 : Int32) (xx : HS) (xn : HS) (xm : HS) (xk : HS) : Option (Int32 × HS × HS) := if (f_X0_hasCard j1 xn) = 0 then (f_X1_refuse (-1 : Int32) xx xn xm xk).bind fun v2 => some (v2.1, v2.2, xn) else if (f_X0_hasBidder j2 xn) = 0 then (f_X1_refuse (-1 : Int32) xx xn xm xk).bind fun v5 => some (v5.1, v5.2, xn) else jn (st xn 4 (ptv 8 (xn 4) j1 j2)) (fun (xn_v4 : HS) => some ((atv 8 (xn 4) j1), xx, xn_v4))
set_option maxHeartbeats 4000000 in
set_option maxRecDepth 100000 in
theorem c_X1_gives (l : Launch) (D : va_G) (cI : ClassId) (A : Nat → Nat → Nat) (j1 : Int32) (j2 : Int32) (xx : HS) (xn : HS) (xm : HS) (xk : HS) (out : Int32 × HS × HS) (hf : f_X1_gives j1 j2 xx xn xm xk = some out) : uI l D cI yX1_gives wsX1_gives ({ frames := 2, cells := 0, slots := 0, locals := 43 } : Room) [.ref ((A 0) 0), .int j1, .int j2] (wX A cI xx xn xm xk) (wX A cI out.2.1 out.2.2 xm xk) out.1 := by
  intro sz
  refine Met.ofW (cc := cX1_gives) (maxL := 4) (ret := (some .int)) (by decide) rfl ?_
  intro p e s m args below meth c s₁ Bd hml hv
  obtain ⟨rfl, hsz, hP, hK, hD0, hN⟩ := hv
  have hx := Bd.exec
  have hb := Bd.bytes
  have hr := Bd.returns
  have hts := atoms_spec (ws := wsX1_gives) Bd.pre
  have hown : s.vm.findClass RX1 = some m.cls := findClass_of_methodNamed Bd.named
  have hlocks := Bd.notSynchronized
  subst hsz
  have hD := hD0.self (sz := s.heap.size)
  generalize hAe : va_A (wX A cI xx xn xm xk) s.heap.size = G at hD ⊢
  have hA : ∀ q : Nat, s.heap.size ≤ q → G q := fun q h => by rw [← hAe]; exact Or.inr h
  have hS : va_S G s.heap s.heap [] := va_S.rf
  have hP : va_P D vwCl (wX A cI xx xn xm xk) s.heap := hP
  have hl := lv_entry ([.ref ((A 0) 0), .int j1, .int j2]) (n := 4) (Nat.le_of_ble_eq_true rfl)
  rw [lg_entry_eq]
  generalize (lg_sl ([.ref ((A 0) 0), .int j1, .int j2]) ++ List.replicate (4 - (lg_sl ([.ref ((A 0) 0), .int j1, .int j2])).length) Slot.unset).toArray = ls at hl ⊢
  have hl : lv_has ls 4 [(0, .ref ((A 0) 0)), (1, .int j1), (2, .int j2)] := hl
  have hinH : ∀ w ∈ wsX00, w ∈ wsX1_gives := by decide +kernel
  have hinX : ∀ w ∈ wsX10, w ∈ wsX1_gives := by decide +kernel
  have lk0 := hts (.fieldLink RX1 10 "LiesBoughtBack" "now" "LLiesBoughtBack$Hall;") (by decide +kernel)
  have lk1 := hts (.initialized RX0) (by decide +kernel)
  have lk2 := hts (.instanceMethod yX0_hasCard) (by decide +kernel)
  have lk3 := hts (.selects RX0 yX0_hasCard yX0_hasCard) (by decide +kernel)
  have lk4 := hts (.instanceMethod yX0_hasBidder) (by decide +kernel)
  have lk5 := hts (.selects RX0 yX0_hasBidder yX0_hasBidder) (by decide +kernel)
  refine W_in ?_
  intro WW hWW
  refine (hWW _ _ _).mpr ?_
  unfold f_X1_gives at hf
  refine lv_aload_n hx hb dX1_gives_0 rfl (lv_at hl 0 rfl) ?_
  refine va_get (D := D) (ci := 1) (v := .ref ((A 1) 0)) (C := RX1) (T := TX1) (N := 9) hx hb hts hinX hown hK hP 0 rfl rfl 0 (by decide) lk0 (fun _ h9 => h9) rfl dX1_gives_1 ?_
  refine lv_iload_n hx hb dX1_gives_4 rfl (lv_at hl 1 rfl) ?_
  refine rVN_io (As := [.int j1]) (rest := []) ⟨hx, hb, hml, hown, hts⟩ hK hN hA hP hD hS (c_X0_hasCard l D cI (A 1) j1 xn (f_X0_hasCard j1 xn) rfl) ⟨va_cnB 1 hts gX1_gives_X0_hasCard_n69 rfl rfl rfl (nW.m hN 14 rfl) lk1 hd_X0_hasCard.2 ⟨Nat.le_of_ble_eq_true rfl, Nat.le_of_ble_eq_true rfl⟩, lk2, lk3⟩ (va_recv hK hP (ci := 0) (q0 := 1) rfl rfl) [1, 2, 3, 4, 5, 6, 7, 8, 9, 10, 11] (by decide) rfl rfl hl.1 rfl (Nat.le_of_ble_eq_true rfl) dX1_gives_5 ⟨Nat.le_of_ble_eq_true rfl, Nat.le_of_ble_eq_true rfl⟩ (fun H locs hP hD hS => ?_)
  refine lv_if_eq (tgt := 22) hx hb dX1_gives_8 (by decide) (fun c1 => ?_) (fun c1 => ?_)
  · have hf := hT hf c1
    refine lv_aload_n hx hb dX1_gives_22 rfl (lv_at hl 0 rfl) ?_
    refine lv_iconst (v := (-1 : Int32)) hx hb dX1_gives_23 (by decide) ?_
    obtain ⟨v2, hev2, hf⟩ := bS hf
    refine rV_i (ws' := (wX A cI v2.2 xn xm xk)) (As := [.int (-1 : Int32)]) (rest := []) ⟨hx, hb, hml, hown, hts⟩ hK hN hA hP hD hS (c_X1_refuse l D cI A (-1 : Int32) xx xn xm xk v2 hev2) (cwV 1 hts gX1_gives_X1_refuse rfl rfl rfl hd_X1_refuse ⟨Nat.le_of_ble_eq_true rfl, Nat.le_of_ble_eq_true rfl⟩) (va_recv hK hP (ci := 1) (q0 := 0) rfl rfl) [0, 1, 2, 3, 4, 5, 6, 7, 8, 9, 10, 11, 12, 13, 14, 15, 16, 17, 18, 19, 20, 21, 22, 23, 24, 25, 26, 27, 28, 29, 30, 31, 32, 33, 34, 35, 36] (by decide) rfl rfl rfl rfl hl.1 rfl (Nat.le_of_ble_eq_true rfl) dX1_gives_24 ⟨Nat.le_of_ble_eq_true rfl, Nat.le_of_ble_eq_true rfl⟩ (fun H locs hP hD hS => ?_)
    have hP : va_P D vwCl (wX A cI v2.2 xn xm xk) H := hP
    obtain rfl := Option.some.inj hf
    exact W.iret (v := v2.1) hx hb hr (fun t ht hW => ⟨⟨v2.1, (), rfl, rfl, hPt ht hP⟩, hS.F ht⟩) hS.2.2 dX1_gives_27
  · have hf := hF hf c1
    refine lv_aload_n hx hb dX1_gives_11 rfl (lv_at hl 0 rfl) ?_
    refine va_get (D := D) (ci := 1) (v := .ref ((A 1) 0)) (C := RX1) (T := TX1) (N := 9) hx hb hts hinX hown hK hP 0 rfl rfl 0 (by decide) lk0 (fun _ h9 => h9) rfl dX1_gives_12 ?_
    refine lv_iload_n hx hb dX1_gives_15 rfl (lv_at hl 2 rfl) ?_
    refine rVN_io (As := [.int j2]) (rest := []) ⟨hx, hb, hml, hown, hts⟩ hK hN hA hP hD hS (c_X0_hasBidder l D cI (A 1) j2 xn (f_X0_hasBidder j2 xn) rfl) ⟨va_cnB 1 hts gX1_gives_X0_hasBidder_n59 rfl rfl rfl (nW.m hN 13 rfl) lk1 hd_X0_hasBidder.2 ⟨Nat.le_of_ble_eq_true rfl, Nat.le_of_ble_eq_true rfl⟩, lk4, lk5⟩ (va_recv hK hP (ci := 0) (q0 := 1) rfl rfl) [1, 2, 3, 4, 5, 6, 7, 8, 9, 10, 11] (by decide) rfl rfl hl.1 rfl (Nat.le_of_ble_eq_true rfl) dX1_gives_16 ⟨Nat.le_of_ble_eq_true rfl, Nat.le_of_ble_eq_true rfl⟩ (fun H locs hP hD hS => ?_)
    refine lv_if_ne (tgt := 28) hx hb dX1_gives_19 (by decide) (fun c3 => ?_) (fun c3 => ?_)
    · have hf := hF hf c3
      refine lv_aload_n hx hb dX1_gives_28 rfl (lv_at hl 0 rfl) ?_
      refine va_get (D := D) (ci := 1) (v := .ref ((A 1) 0)) (C := RX1) (T := TX1) (N := 9) hx hb hts hinX hown hK hP 0 rfl rfl 0 (by decide) lk0 (fun _ h9 => h9) rfl dX1_gives_29 ?_
      refine va_getN (D := D) (ci := 0) (v := .ref ((A 1) 5)) (C := RX0) (T := TX0) (N := 13) hx hb hts hinH hown hK hP 1 rfl rfl 7 (by decide) (nW.f hN 7 rfl) (fun _ h9 => h9) rfl dX1_gives_32 ?_
      refine lv_iload_n hx hb dX1_gives_35 rfl (lv_at hl 1 rfl) ?_
      refine rS_io (As := [.ref ((A 1) 5), .int j1]) (rest := []) ⟨hx, hb, hml, hown, hts⟩ hK hN hA hP hD hS (c_X1_at l D cI 8 (by decide) ((A 1) 5) (xn 4) j1) (va_cwS 2 hts gX1_gives_X1_at rfl rfl rfl hd_X1_at.2 ⟨Nat.le_of_ble_eq_true rfl, Nat.le_of_ble_eq_true rfl⟩) [6] (by decide) rfl rfl hl.1 rfl (Nat.le_of_ble_eq_true rfl) dX1_gives_36 ⟨Nat.le_of_ble_eq_true rfl, Nat.le_of_ble_eq_true rfl⟩ (fun H locs hP hD hS => ?_)
      refine lv_istore_n (lv' := [(3, .int (atv 8 (xn 4) j1)), (0, .ref ((A 0) 0)), (1, .int j1), (2, .int j2)]) hx hb dX1_gives_39 rfl hl (by decide) rfl (fun ls hl => ?_)
      refine lv_aload_n hx hb dX1_gives_40 rfl (lv_at hl 1 rfl) ?_
      refine va_get (D := D) (ci := 1) (v := .ref ((A 1) 0)) (C := RX1) (T := TX1) (N := 9) hx hb hts hinX hown hK hP 0 rfl rfl 0 (by decide) lk0 (fun _ h9 => h9) rfl dX1_gives_41 ?_
      refine va_getN (D := D) (ci := 0) (v := .ref ((A 1) 5)) (C := RX0) (T := TX0) (N := 13) hx hb hts hinH hown hK hP 1 rfl rfl 7 (by decide) (nW.f hN 7 rfl) (fun _ h9 => h9) rfl dX1_gives_44 ?_
      refine lv_iload_n hx hb dX1_gives_47 rfl (lv_at hl 2 rfl) ?_
      refine lv_iload_n hx hb dX1_gives_48 rfl (lv_at hl 3 rfl) ?_
      obtain ⟨xn_v4, exn_v4, hf⟩ := jnS hf
      refine rS_v (ws' := (wX A cI xx xn_v4 xm xk)) (As := [.ref ((A 1) 5), .int j1, .int j2]) (rest := []) ⟨hx, hb, hml, hown, hts⟩ hK hN hA hP hD hS (c_X1_put l D cI 8 (by decide) ((A 1) 5) (xn 4) j1 j2) (va_cwS 3 hts gX1_gives_X1_put rfl rfl rfl hd_X1_put.2 ⟨Nat.le_of_ble_eq_true rfl, Nat.le_of_ble_eq_true rfl⟩) [6] (by decide) rfl rfl ((sa_X1_n_4 A cI xx xn xm xk (ptv 8 (xn 4) j1 j2)).trans (congrArg (fun z => wX A cI xx z xm xk) exn_v4.symm)) rfl hl.1 rfl (Nat.le_of_ble_eq_true rfl) dX1_gives_49 ⟨Nat.le_of_ble_eq_true rfl, Nat.le_of_ble_eq_true rfl⟩ (fun H locs hP hD hS => ?_)
      refine lv_iload_n hx hb dX1_gives_52 rfl (lv_at hl 0 rfl) ?_
      obtain rfl := Option.some.inj hf
      exact W.iret (v := (atv 8 (xn 4) j1)) hx hb hr (fun t ht hW => ⟨⟨(atv 8 (xn 4) j1), (), rfl, rfl, hPt ht hP⟩, hS.F ht⟩) hS.2.2 dX1_gives_53
    · have hf := hT hf c3
      refine lv_aload_n hx hb dX1_gives_22 rfl (lv_at hl 0 rfl) ?_
      refine lv_iconst (v := (-1 : Int32)) hx hb dX1_gives_23 (by decide) ?_
      obtain ⟨v5, hev5, hf⟩ := bS hf
      refine rV_i (ws' := (wX A cI v5.2 xn xm xk)) (As := [.int (-1 : Int32)]) (rest := []) ⟨hx, hb, hml, hown, hts⟩ hK hN hA hP hD hS (c_X1_refuse l D cI A (-1 : Int32) xx xn xm xk v5 hev5) (cwV 1 hts gX1_gives_X1_refuse rfl rfl rfl hd_X1_refuse ⟨Nat.le_of_ble_eq_true rfl, Nat.le_of_ble_eq_true rfl⟩) (va_recv hK hP (ci := 1) (q0 := 0) rfl rfl) [0, 1, 2, 3, 4, 5, 6, 7, 8, 9, 10, 11, 12, 13, 14, 15, 16, 17, 18, 19, 20, 21, 22, 23, 24, 25, 26, 27, 28, 29, 30, 31, 32, 33, 34, 35, 36] (by decide) rfl rfl rfl rfl hl.1 rfl (Nat.le_of_ble_eq_true rfl) dX1_gives_24 ⟨Nat.le_of_ble_eq_true rfl, Nat.le_of_ble_eq_true rfl⟩ (fun H locs hP hD hS => ?_)
      have hP : va_P D vwCl (wX A cI v5.2 xn xm xk) H := hP
      obtain rfl := Option.some.inj hf
      exact W.iret (v := v5.1) hx hb hr (fun t ht hW => ⟨⟨v5.1, (), rfl, rfl, hPt ht hP⟩, hS.F ht⟩) hS.2.2 dX1_gives_27
def f_X1_swaps (j1 : Int32) (j2 : Int32) (xx : HS) (xn : HS) (xm : HS) (xk : HS) : Option (Int32 × HS × HS) := (f_X0_changePlaces j1 j2 xn).bind fun v1 => if v1.1 = 0 then (f_X1_refuse (-1 : Int32) xx v1.2 xm xk).bind fun v4 => some (v4.1, v4.2, v1.2) else (f_X0_placeOf j1 v1.2).bind fun v3 => some (v3, xx, v1.2)
set_option maxHeartbeats 4000000 in
set_option maxRecDepth 100000 in
theorem c_X1_swaps (l : Launch) (D : va_G) (cI : ClassId) (A : Nat → Nat → Nat) (j1 : Int32) (j2 : Int32) (xx : HS) (xn : HS) (xm : HS) (xk : HS) (out : Int32 × HS × HS) (hf : f_X1_swaps j1 j2 xx xn xm xk = some out) : uI l D cI yX1_swaps wsX1_swaps ({ frames := 3, cells := 0, slots := 0, locals := 66 } : Room) [.ref ((A 0) 0), .int j1, .int j2] (wX A cI xx xn xm xk) (wX A cI out.2.1 out.2.2 xm xk) out.1 := by
  intro sz
  refine Met.ofW (cc := cX1_swaps) (maxL := 3) (ret := (some .int)) (by decide) rfl ?_
  intro p e s m args below meth c s₁ Bd hml hv
  obtain ⟨rfl, hsz, hP, hK, hD0, hN⟩ := hv
  have hx := Bd.exec
  have hb := Bd.bytes
  have hr := Bd.returns
  have hts := atoms_spec (ws := wsX1_swaps) Bd.pre
  have hown : s.vm.findClass RX1 = some m.cls := findClass_of_methodNamed Bd.named
  have hlocks := Bd.notSynchronized
  subst hsz
  have hD := hD0.self (sz := s.heap.size)
  generalize hAe : va_A (wX A cI xx xn xm xk) s.heap.size = G at hD ⊢
  have hA : ∀ q : Nat, s.heap.size ≤ q → G q := fun q h => by rw [← hAe]; exact Or.inr h
  have hS : va_S G s.heap s.heap [] := va_S.rf
  have hP : va_P D vwCl (wX A cI xx xn xm xk) s.heap := hP
  have hl := lv_entry ([.ref ((A 0) 0), .int j1, .int j2]) (n := 3) (Nat.le_of_ble_eq_true rfl)
  rw [lg_entry_eq]
  generalize (lg_sl ([.ref ((A 0) 0), .int j1, .int j2]) ++ List.replicate (3 - (lg_sl ([.ref ((A 0) 0), .int j1, .int j2])).length) Slot.unset).toArray = ls at hl ⊢
  have hl : lv_has ls 3 [(0, .ref ((A 0) 0)), (1, .int j1), (2, .int j2)] := hl
  have hinX : ∀ w ∈ wsX10, w ∈ wsX1_swaps := by decide +kernel
  have lk0 := hts (.fieldLink RX1 10 "LiesBoughtBack" "now" "LLiesBoughtBack$Hall;") (by decide +kernel)
  have lk1 := hts (.initialized RX0) (by decide +kernel)
  have lk2 := hts (.instanceMethod yX0_changePlaces) (by decide +kernel)
  have lk3 := hts (.selects RX0 yX0_changePlaces yX0_changePlaces) (by decide +kernel)
  have lk4 := hts (.instanceMethod yX0_placeOf) (by decide +kernel)
  have lk5 := hts (.selects RX0 yX0_placeOf yX0_placeOf) (by decide +kernel)
  refine W_in ?_
  intro WW hWW
  refine (hWW _ _ _).mpr ?_
  unfold f_X1_swaps at hf
  refine lv_aload_n hx hb dX1_swaps_0 rfl (lv_at hl 0 rfl) ?_
  refine va_get (D := D) (ci := 1) (v := .ref ((A 1) 0)) (C := RX1) (T := TX1) (N := 9) hx hb hts hinX hown hK hP 0 rfl rfl 0 (by decide) lk0 (fun _ h9 => h9) rfl dX1_swaps_1 ?_
  refine lv_iload_n hx hb dX1_swaps_4 rfl (lv_at hl 1 rfl) ?_
  refine lv_iload_n hx hb dX1_swaps_5 rfl (lv_at hl 2 rfl) ?_
  obtain ⟨v1, hev1, hf⟩ := bS hf
  refine rVN_i (ws' := (wX A cI xx v1.2 xm xk)) (As := [.int j1, .int j2]) (rest := []) ⟨hx, hb, hml, hown, hts⟩ hK hN hA hP hD hS (c_X0_changePlaces l D cI (A 1) j1 j2 xn v1 hev1) ⟨va_cnB 2 hts gX1_swaps_X0_changePlaces_n78 rfl rfl rfl (nW.m hN 7 rfl) lk1 hd_X0_changePlaces.2 ⟨Nat.le_of_ble_eq_true rfl, Nat.le_of_ble_eq_true rfl⟩, lk2, lk3⟩ (va_recv hK hP (ci := 0) (q0 := 1) rfl rfl) [1, 2, 3, 4, 5, 6, 7, 8, 9, 10, 11] (by decide) rfl rfl rfl rfl hl.1 rfl (Nat.le_of_ble_eq_true rfl) dX1_swaps_6 ⟨Nat.le_of_ble_eq_true rfl, Nat.le_of_ble_eq_true rfl⟩ (fun H locs hP hD hS => ?_)
  have hP : va_P D vwCl (wX A cI xx v1.2 xm xk) H := hP
  refine lv_if_ne (tgt := 18) hx hb dX1_swaps_9 (by decide) (fun c2 => ?_) (fun c2 => ?_)
  · have hf := hF hf c2
    refine lv_aload_n hx hb dX1_swaps_18 rfl (lv_at hl 0 rfl) ?_
    refine va_get (D := D) (ci := 1) (v := .ref ((A 1) 0)) (C := RX1) (T := TX1) (N := 9) hx hb hts hinX hown hK hP 0 rfl rfl 0 (by decide) lk0 (fun _ h9 => h9) rfl dX1_swaps_19 ?_
    refine lv_iload_n hx hb dX1_swaps_22 rfl (lv_at hl 1 rfl) ?_
    obtain ⟨v3, hev3, hf⟩ := bS hf
    refine rVN_io (As := [.int j1]) (rest := []) ⟨hx, hb, hml, hown, hts⟩ hK hN hA hP hD hS (c_X0_placeOf l D cI (A 1) j1 v1.2 v3 hev3) ⟨va_cnB 1 hts gX1_swaps_X0_placeOf_n82 rfl rfl rfl (nW.m hN 16 rfl) lk1 hd_X0_placeOf.2 ⟨Nat.le_of_ble_eq_true rfl, Nat.le_of_ble_eq_true rfl⟩, lk4, lk5⟩ (va_recv hK hP (ci := 0) (q0 := 1) rfl rfl) [1, 2, 3, 4, 5, 6, 7, 8, 9, 10, 11] (by decide) rfl rfl hl.1 rfl (Nat.le_of_ble_eq_true rfl) dX1_swaps_23 ⟨Nat.le_of_ble_eq_true rfl, Nat.le_of_ble_eq_true rfl⟩ (fun H locs hP hD hS => ?_)
    obtain rfl := Option.some.inj hf
    exact W.iret (v := v3) hx hb hr (fun t ht hW => ⟨⟨v3, (), rfl, rfl, hPt ht hP⟩, hS.F ht⟩) hS.2.2 dX1_swaps_26
  · have hf := hT hf c2
    refine lv_aload_n hx hb dX1_swaps_12 rfl (lv_at hl 0 rfl) ?_
    refine lv_iconst (v := (-1 : Int32)) hx hb dX1_swaps_13 (by decide) ?_
    obtain ⟨v4, hev4, hf⟩ := bS hf
    refine rV_i (ws' := (wX A cI v4.2 v1.2 xm xk)) (As := [.int (-1 : Int32)]) (rest := []) ⟨hx, hb, hml, hown, hts⟩ hK hN hA hP hD hS (c_X1_refuse l D cI A (-1 : Int32) xx v1.2 xm xk v4 hev4) (cwV 1 hts gX1_swaps_X1_refuse rfl rfl rfl hd_X1_refuse ⟨Nat.le_of_ble_eq_true rfl, Nat.le_of_ble_eq_true rfl⟩) (va_recv hK hP (ci := 1) (q0 := 0) rfl rfl) [0, 1, 2, 3, 4, 5, 6, 7, 8, 9, 10, 11, 12, 13, 14, 15, 16, 17, 18, 19, 20, 21, 22, 23, 24, 25, 26, 27, 28, 29, 30, 31, 32, 33, 34, 35, 36] (by decide) rfl rfl rfl rfl hl.1 rfl (Nat.le_of_ble_eq_true rfl) dX1_swaps_14 ⟨Nat.le_of_ble_eq_true rfl, Nat.le_of_ble_eq_true rfl⟩ (fun H locs hP hD hS => ?_)
    have hP : va_P D vwCl (wX A cI v4.2 v1.2 xm xk) H := hP
    obtain rfl := Option.some.inj hf
    exact W.iret (v := v4.1) hx hb hr (fun t ht hW => ⟨⟨v4.1, (), rfl, rfl, hPt ht hP⟩, hS.F ht⟩) hS.2.2 dX1_swaps_17
def f_X1_sells (j1 : Int32) (xx : HS) (xn : HS) (xm : HS) (xk : HS) : Option (Int32 × HS × HS) := if (f_X0_hasCard j1 xn) = 0 then (f_X1_refuse (-1 : Int32) xx xn xm xk).bind fun v5 => some (v5.1, v5.2, xn) else if (f_X0_inPile j1 xn) = 0 then (f_X1_refuse (-3 : Int32) xx xn xm xk).bind fun v4 => some (v4.1, v4.2, xn) else (f_X0_auction j1 xn).bind fun v3 => some ((atv 8 (v3.2 4) j1), xx, v3.2)
set_option maxHeartbeats 4000000 in
set_option maxRecDepth 100000 in
theorem c_X1_sells (l : Launch) (D : va_G) (cI : ClassId) (A : Nat → Nat → Nat) (j1 : Int32) (xx : HS) (xn : HS) (xm : HS) (xk : HS) (out : Int32 × HS × HS) (hf : f_X1_sells j1 xx xn xm xk = some out) : uI l D cI yX1_sells wsX1_sells ({ frames := 4, cells := 0, slots := 0, locals := 102 } : Room) [.ref ((A 0) 0), .int j1] (wX A cI xx xn xm xk) (wX A cI out.2.1 out.2.2 xm xk) out.1 := by
  intro sz
  refine Met.ofW (cc := cX1_sells) (maxL := 2) (ret := (some .int)) (by decide) rfl ?_
  intro p e s m args below meth c s₁ Bd hml hv
  obtain ⟨rfl, hsz, hP, hK, hD0, hN⟩ := hv
  have hx := Bd.exec
  have hb := Bd.bytes
  have hr := Bd.returns
  have hts := atoms_spec (ws := wsX1_sells) Bd.pre
  have hown : s.vm.findClass RX1 = some m.cls := findClass_of_methodNamed Bd.named
  have hlocks := Bd.notSynchronized
  subst hsz
  have hD := hD0.self (sz := s.heap.size)
  generalize hAe : va_A (wX A cI xx xn xm xk) s.heap.size = G at hD ⊢
  have hA : ∀ q : Nat, s.heap.size ≤ q → G q := fun q h => by rw [← hAe]; exact Or.inr h
  have hS : va_S G s.heap s.heap [] := va_S.rf
  have hP : va_P D vwCl (wX A cI xx xn xm xk) s.heap := hP
  have hl := lv_entry ([.ref ((A 0) 0), .int j1]) (n := 2) (Nat.le_of_ble_eq_true rfl)
  rw [lg_entry_eq]
  generalize (lg_sl ([.ref ((A 0) 0), .int j1]) ++ List.replicate (2 - (lg_sl ([.ref ((A 0) 0), .int j1])).length) Slot.unset).toArray = ls at hl ⊢
  have hl : lv_has ls 2 [(0, .ref ((A 0) 0)), (1, .int j1)] := hl
  have hinH : ∀ w ∈ wsX00, w ∈ wsX1_sells := by decide +kernel
  have hinX : ∀ w ∈ wsX10, w ∈ wsX1_sells := by decide +kernel
  have lk0 := hts (.fieldLink RX1 10 "LiesBoughtBack" "now" "LLiesBoughtBack$Hall;") (by decide +kernel)
  have lk1 := hts (.initialized RX0) (by decide +kernel)
  have lk2 := hts (.instanceMethod yX0_hasCard) (by decide +kernel)
  have lk3 := hts (.selects RX0 yX0_hasCard yX0_hasCard) (by decide +kernel)
  have lk4 := hts (.instanceMethod yX0_inPile) (by decide +kernel)
  have lk5 := hts (.selects RX0 yX0_inPile yX0_inPile) (by decide +kernel)
  have lk6 := hts (.instanceMethod yX0_auction) (by decide +kernel)
  have lk7 := hts (.selects RX0 yX0_auction yX0_auction) (by decide +kernel)
  refine W_in ?_
  intro WW hWW
  refine (hWW _ _ _).mpr ?_
  unfold f_X1_sells at hf
  refine lv_aload_n hx hb dX1_sells_0 rfl (lv_at hl 0 rfl) ?_
  refine va_get (D := D) (ci := 1) (v := .ref ((A 1) 0)) (C := RX1) (T := TX1) (N := 9) hx hb hts hinX hown hK hP 0 rfl rfl 0 (by decide) lk0 (fun _ h9 => h9) rfl dX1_sells_1 ?_
  refine lv_iload_n hx hb dX1_sells_4 rfl (lv_at hl 1 rfl) ?_
  refine rVN_io (As := [.int j1]) (rest := []) ⟨hx, hb, hml, hown, hts⟩ hK hN hA hP hD hS (c_X0_hasCard l D cI (A 1) j1 xn (f_X0_hasCard j1 xn) rfl) ⟨va_cnB 1 hts gX1_sells_X0_hasCard_n69 rfl rfl rfl (nW.m hN 14 rfl) lk1 hd_X0_hasCard.2 ⟨Nat.le_of_ble_eq_true rfl, Nat.le_of_ble_eq_true rfl⟩, lk2, lk3⟩ (va_recv hK hP (ci := 0) (q0 := 1) rfl rfl) [1, 2, 3, 4, 5, 6, 7, 8, 9, 10, 11] (by decide) rfl rfl hl.1 rfl (Nat.le_of_ble_eq_true rfl) dX1_sells_5 ⟨Nat.le_of_ble_eq_true rfl, Nat.le_of_ble_eq_true rfl⟩ (fun H locs hP hD hS => ?_)
  refine lv_if_ne (tgt := 17) hx hb dX1_sells_8 (by decide) (fun c1 => ?_) (fun c1 => ?_)
  · have hf := hF hf c1
    refine lv_aload_n hx hb dX1_sells_17 rfl (lv_at hl 0 rfl) ?_
    refine va_get (D := D) (ci := 1) (v := .ref ((A 1) 0)) (C := RX1) (T := TX1) (N := 9) hx hb hts hinX hown hK hP 0 rfl rfl 0 (by decide) lk0 (fun _ h9 => h9) rfl dX1_sells_18 ?_
    refine lv_iload_n hx hb dX1_sells_21 rfl (lv_at hl 1 rfl) ?_
    refine rVN_io (As := [.int j1]) (rest := []) ⟨hx, hb, hml, hown, hts⟩ hK hN hA hP hD hS (c_X0_inPile l D cI (A 1) j1 xn (f_X0_inPile j1 xn) rfl) ⟨va_cnB 1 hts gX1_sells_X0_inPile_n72 rfl rfl rfl (nW.m hN 15 rfl) lk1 hd_X0_inPile.2 ⟨Nat.le_of_ble_eq_true rfl, Nat.le_of_ble_eq_true rfl⟩, lk4, lk5⟩ (va_recv hK hP (ci := 0) (q0 := 1) rfl rfl) [1, 2, 3, 4, 5, 6, 7, 8, 9, 10, 11] (by decide) rfl rfl hl.1 rfl (Nat.le_of_ble_eq_true rfl) dX1_sells_22 ⟨Nat.le_of_ble_eq_true rfl, Nat.le_of_ble_eq_true rfl⟩ (fun H locs hP hD hS => ?_)
    refine lv_if_ne (tgt := 35) hx hb dX1_sells_25 (by decide) (fun c2 => ?_) (fun c2 => ?_)
    · have hf := hF hf c2
      refine lv_aload_n hx hb dX1_sells_35 rfl (lv_at hl 0 rfl) ?_
      refine va_get (D := D) (ci := 1) (v := .ref ((A 1) 0)) (C := RX1) (T := TX1) (N := 9) hx hb hts hinX hown hK hP 0 rfl rfl 0 (by decide) lk0 (fun _ h9 => h9) rfl dX1_sells_36 ?_
      refine lv_iload_n hx hb dX1_sells_39 rfl (lv_at hl 1 rfl) ?_
      obtain ⟨v3, hev3, hf⟩ := bS hf
      refine rVN_i (ws' := (wX A cI xx v3.2 xm xk)) (As := [.int j1]) (rest := []) ⟨hx, hb, hml, hown, hts⟩ hK hN hA hP hD hS (c_X0_auction l D cI (A 1) j1 xn v3 hev3) ⟨va_cnB 1 hts gX1_sells_X0_auction_n85 rfl rfl rfl (nW.m hN 17 rfl) lk1 hd_X0_auction.2 ⟨Nat.le_of_ble_eq_true rfl, Nat.le_of_ble_eq_true rfl⟩, lk6, lk7⟩ (va_recv hK hP (ci := 0) (q0 := 1) rfl rfl) [1, 2, 3, 4, 5, 6, 7, 8, 9, 10, 11] (by decide) rfl rfl rfl rfl hl.1 rfl (Nat.le_of_ble_eq_true rfl) dX1_sells_40 ⟨Nat.le_of_ble_eq_true rfl, Nat.le_of_ble_eq_true rfl⟩ (fun H locs hP hD hS => ?_)
      have hP : va_P D vwCl (wX A cI xx v3.2 xm xk) H := hP
      refine lv_pop hx hb dX1_sells_43 rfl ?_
      refine lv_aload_n hx hb dX1_sells_44 rfl (lv_at hl 0 rfl) ?_
      refine va_get (D := D) (ci := 1) (v := .ref ((A 1) 0)) (C := RX1) (T := TX1) (N := 9) hx hb hts hinX hown hK hP 0 rfl rfl 0 (by decide) lk0 (fun _ h9 => h9) rfl dX1_sells_45 ?_
      refine va_getN (D := D) (ci := 0) (v := .ref ((A 1) 5)) (C := RX0) (T := TX0) (N := 13) hx hb hts hinH hown hK hP 1 rfl rfl 7 (by decide) (nW.f hN 7 rfl) (fun _ h9 => h9) rfl dX1_sells_48 ?_
      refine lv_iload_n hx hb dX1_sells_51 rfl (lv_at hl 1 rfl) ?_
      refine rS_io (As := [.ref ((A 1) 5), .int j1]) (rest := []) ⟨hx, hb, hml, hown, hts⟩ hK hN hA hP hD hS (c_X1_at l D cI 8 (by decide) ((A 1) 5) (v3.2 4) j1) (va_cwS 2 hts gX1_sells_X1_at rfl rfl rfl hd_X1_at.2 ⟨Nat.le_of_ble_eq_true rfl, Nat.le_of_ble_eq_true rfl⟩) [6] (by decide) rfl rfl hl.1 rfl (Nat.le_of_ble_eq_true rfl) dX1_sells_52 ⟨Nat.le_of_ble_eq_true rfl, Nat.le_of_ble_eq_true rfl⟩ (fun H locs hP hD hS => ?_)
      obtain rfl := Option.some.inj hf
      exact W.iret (v := (atv 8 (v3.2 4) j1)) hx hb hr (fun t ht hW => ⟨⟨(atv 8 (v3.2 4) j1), (), rfl, rfl, hPt ht hP⟩, hS.F ht⟩) hS.2.2 dX1_sells_55
    · have hf := hT hf c2
      refine lv_aload_n hx hb dX1_sells_28 rfl (lv_at hl 0 rfl) ?_
      refine lv_bipush (v := (-3 : Int32)) hx hb dX1_sells_29 (by decide) ?_
      obtain ⟨v4, hev4, hf⟩ := bS hf
      refine rV_i (ws' := (wX A cI v4.2 xn xm xk)) (As := [.int (-3 : Int32)]) (rest := []) ⟨hx, hb, hml, hown, hts⟩ hK hN hA hP hD hS (c_X1_refuse l D cI A (-3 : Int32) xx xn xm xk v4 hev4) (cwV 1 hts gX1_sells_X1_refuse rfl rfl rfl hd_X1_refuse ⟨Nat.le_of_ble_eq_true rfl, Nat.le_of_ble_eq_true rfl⟩) (va_recv hK hP (ci := 1) (q0 := 0) rfl rfl) [0, 1, 2, 3, 4, 5, 6, 7, 8, 9, 10, 11, 12, 13, 14, 15, 16, 17, 18, 19, 20, 21, 22, 23, 24, 25, 26, 27, 28, 29, 30, 31, 32, 33, 34, 35, 36] (by decide) rfl rfl rfl rfl hl.1 rfl (Nat.le_of_ble_eq_true rfl) dX1_sells_31 ⟨Nat.le_of_ble_eq_true rfl, Nat.le_of_ble_eq_true rfl⟩ (fun H locs hP hD hS => ?_)
      have hP : va_P D vwCl (wX A cI v4.2 xn xm xk) H := hP
      obtain rfl := Option.some.inj hf
      exact W.iret (v := v4.1) hx hb hr (fun t ht hW => ⟨⟨v4.1, (), rfl, rfl, hPt ht hP⟩, hS.F ht⟩) hS.2.2 dX1_sells_34
  · have hf := hT hf c1
    refine lv_aload_n hx hb dX1_sells_11 rfl (lv_at hl 0 rfl) ?_
    refine lv_iconst (v := (-1 : Int32)) hx hb dX1_sells_12 (by decide) ?_
    obtain ⟨v5, hev5, hf⟩ := bS hf
    refine rV_i (ws' := (wX A cI v5.2 xn xm xk)) (As := [.int (-1 : Int32)]) (rest := []) ⟨hx, hb, hml, hown, hts⟩ hK hN hA hP hD hS (c_X1_refuse l D cI A (-1 : Int32) xx xn xm xk v5 hev5) (cwV 1 hts gX1_sells_X1_refuse rfl rfl rfl hd_X1_refuse ⟨Nat.le_of_ble_eq_true rfl, Nat.le_of_ble_eq_true rfl⟩) (va_recv hK hP (ci := 1) (q0 := 0) rfl rfl) [0, 1, 2, 3, 4, 5, 6, 7, 8, 9, 10, 11, 12, 13, 14, 15, 16, 17, 18, 19, 20, 21, 22, 23, 24, 25, 26, 27, 28, 29, 30, 31, 32, 33, 34, 35, 36] (by decide) rfl rfl rfl rfl hl.1 rfl (Nat.le_of_ble_eq_true rfl) dX1_sells_13 ⟨Nat.le_of_ble_eq_true rfl, Nat.le_of_ble_eq_true rfl⟩ (fun H locs hP hD hS => ?_)
    have hP : va_P D vwCl (wX A cI v5.2 xn xm xk) H := hP
    obtain rfl := Option.some.inj hf
    exact W.iret (v := v5.1) hx hb hr (fun t ht hW => ⟨⟨v5.1, (), rfl, rfl, hPt ht hP⟩, hS.F ht⟩) hS.2.2 dX1_sells_16
def f_X1_turn (j1 : Int32) (j2 : Int32) (j3 : Int32) (xx : HS) (xn : HS) (xm : HS) (xk : HS) : Option (Int32 × HS × HS) := if (f_X0_hasBidder j1 xn) = 0 then (f_X1_refuse (-1 : Int32) xx xn xm xk).bind fun v10 => some (v10.1, v10.2, xn) else if j2 < 0 then (f_X1_refuse (-2 : Int32) xx xn xm xk).bind fun v3 => some (v3.1, v3.2, xn) else if j2 < (6 : Int32) then if (f_X1_beyond j3 (0 : Int32) (9 : Int32)) = 0 then jn (st xn 6 (ptv 6 (xn 6) j1 j2)) (fun (xn_v6 : HS) => jn (st xn_v6 7 (ptv 6 (xn_v6 7) j1 j3)) (fun (xn_v7 : HS) => some ((((10 : Int32) * (atv 6 (xn 6) j1)) + (atv 6 (xn 7) j1)), xx, xn_v7))) else (f_X1_refuse (f_X1_beyond j3 (0 : Int32) (9 : Int32)) xx xn xm xk).bind fun v8 => some (v8.1, v8.2, xn) else (f_X1_refuse (-2 : Int32) xx xn xm xk).bind fun v9 => some (v9.1, v9.2, xn)
set_option maxHeartbeats 4000000 in
set_option maxRecDepth 100000 in
theorem c_X1_turn (l : Launch) (D : va_G) (cI : ClassId) (A : Nat → Nat → Nat) (j1 : Int32) (j2 : Int32) (j3 : Int32) (xx : HS) (xn : HS) (xm : HS) (xk : HS) (out : Int32 × HS × HS) (hf : f_X1_turn j1 j2 j3 xx xn xm xk = some out) : uI l D cI yX1_turn wsX1_turn ({ frames := 2, cells := 0, slots := 0, locals := 43 } : Room) [.ref ((A 0) 0), .int j1, .int j2, .int j3] (wX A cI xx xn xm xk) (wX A cI out.2.1 out.2.2 xm xk) out.1 := by
  intro sz
  refine Met.ofW (cc := cX1_turn) (maxL := 5) (ret := (some .int)) (by decide) rfl ?_
  intro p e s m args below meth c s₁ Bd hml hv
  obtain ⟨rfl, hsz, hP, hK, hD0, hN⟩ := hv
  have hx := Bd.exec
  have hb := Bd.bytes
  have hr := Bd.returns
  have hts := atoms_spec (ws := wsX1_turn) Bd.pre
  have hown : s.vm.findClass RX1 = some m.cls := findClass_of_methodNamed Bd.named
  have hlocks := Bd.notSynchronized
  subst hsz
  have hD := hD0.self (sz := s.heap.size)
  generalize hAe : va_A (wX A cI xx xn xm xk) s.heap.size = G at hD ⊢
  have hA : ∀ q : Nat, s.heap.size ≤ q → G q := fun q h => by rw [← hAe]; exact Or.inr h
  have hS : va_S G s.heap s.heap [] := va_S.rf
  have hP : va_P D vwCl (wX A cI xx xn xm xk) s.heap := hP
  have hl := lv_entry ([.ref ((A 0) 0), .int j1, .int j2, .int j3]) (n := 5) (Nat.le_of_ble_eq_true rfl)
  rw [lg_entry_eq]
  generalize (lg_sl ([.ref ((A 0) 0), .int j1, .int j2, .int j3]) ++ List.replicate (5 - (lg_sl ([.ref ((A 0) 0), .int j1, .int j2, .int j3])).length) Slot.unset).toArray = ls at hl ⊢
  have hl : lv_has ls 5 [(0, .ref ((A 0) 0)), (1, .int j1), (2, .int j2), (3, .int j3)] := hl
  have hinH : ∀ w ∈ wsX00, w ∈ wsX1_turn := by decide +kernel
  have hinX : ∀ w ∈ wsX10, w ∈ wsX1_turn := by decide +kernel
  have lk0 := hts (.fieldLink RX1 10 "LiesBoughtBack" "now" "LLiesBoughtBack$Hall;") (by decide +kernel)
  have lk1 := hts (.initialized RX0) (by decide +kernel)
  have lk2 := hts (.instanceMethod yX0_hasBidder) (by decide +kernel)
  have lk3 := hts (.selects RX0 yX0_hasBidder yX0_hasBidder) (by decide +kernel)
  refine W_in ?_
  intro WW hWW
  refine (hWW _ _ _).mpr ?_
  unfold f_X1_turn at hf
  refine lv_aload_n hx hb dX1_turn_0 rfl (lv_at hl 0 rfl) ?_
  refine va_get (D := D) (ci := 1) (v := .ref ((A 1) 0)) (C := RX1) (T := TX1) (N := 9) hx hb hts hinX hown hK hP 0 rfl rfl 0 (by decide) lk0 (fun _ h9 => h9) rfl dX1_turn_1 ?_
  refine lv_iload_n hx hb dX1_turn_4 rfl (lv_at hl 1 rfl) ?_
  refine rVN_io (As := [.int j1]) (rest := []) ⟨hx, hb, hml, hown, hts⟩ hK hN hA hP hD hS (c_X0_hasBidder l D cI (A 1) j1 xn (f_X0_hasBidder j1 xn) rfl) ⟨va_cnB 1 hts gX1_turn_X0_hasBidder_n59 rfl rfl rfl (nW.m hN 13 rfl) lk1 hd_X0_hasBidder.2 ⟨Nat.le_of_ble_eq_true rfl, Nat.le_of_ble_eq_true rfl⟩, lk2, lk3⟩ (va_recv hK hP (ci := 0) (q0 := 1) rfl rfl) [1, 2, 3, 4, 5, 6, 7, 8, 9, 10, 11] (by decide) rfl rfl hl.1 rfl (Nat.le_of_ble_eq_true rfl) dX1_turn_5 ⟨Nat.le_of_ble_eq_true rfl, Nat.le_of_ble_eq_true rfl⟩ (fun H locs hP hD hS => ?_)
  refine lv_if_ne (tgt := 17) hx hb dX1_turn_8 (by decide) (fun c1 => ?_) (fun c1 => ?_)
  · have hf := hF hf c1
    refine lv_iload_n hx hb dX1_turn_17 rfl (lv_at hl 2 rfl) ?_
    refine lv_if_lt (tgt := 27) hx hb dX1_turn_18 (by decide) (fun c2 => ?_) (fun c2 => ?_)
    · have hf := hT hf c2
      refine lv_aload_n hx hb dX1_turn_27 rfl (lv_at hl 0 rfl) ?_
      refine lv_bipush (v := (-2 : Int32)) hx hb dX1_turn_28 (by decide) ?_
      obtain ⟨v3, hev3, hf⟩ := bS hf
      refine rV_i (ws' := (wX A cI v3.2 xn xm xk)) (As := [.int (-2 : Int32)]) (rest := []) ⟨hx, hb, hml, hown, hts⟩ hK hN hA hP hD hS (c_X1_refuse l D cI A (-2 : Int32) xx xn xm xk v3 hev3) (cwV 1 hts gX1_turn_X1_refuse rfl rfl rfl hd_X1_refuse ⟨Nat.le_of_ble_eq_true rfl, Nat.le_of_ble_eq_true rfl⟩) (va_recv hK hP (ci := 1) (q0 := 0) rfl rfl) [0, 1, 2, 3, 4, 5, 6, 7, 8, 9, 10, 11, 12, 13, 14, 15, 16, 17, 18, 19, 20, 21, 22, 23, 24, 25, 26, 27, 28, 29, 30, 31, 32, 33, 34, 35, 36] (by decide) rfl rfl rfl rfl hl.1 rfl (Nat.le_of_ble_eq_true rfl) dX1_turn_30 ⟨Nat.le_of_ble_eq_true rfl, Nat.le_of_ble_eq_true rfl⟩ (fun H locs hP hD hS => ?_)
      have hP : va_P D vwCl (wX A cI v3.2 xn xm xk) H := hP
      obtain rfl := Option.some.inj hf
      exact W.iret (v := v3.1) hx hb hr (fun t ht hW => ⟨⟨v3.1, (), rfl, rfl, hPt ht hP⟩, hS.F ht⟩) hS.2.2 dX1_turn_33
    · have hf := hF hf c2
      refine lv_iload_n hx hb dX1_turn_21 rfl (lv_at hl 2 rfl) ?_
      refine lv_bipush (v := (6 : Int32)) hx hb dX1_turn_22 (by decide) ?_
      refine lv_icmp_lt (tgt := 34) hx hb dX1_turn_24 (by decide) (fun c4 => ?_) (fun c4 => ?_)
      · have hf := hT hf c4
        refine lv_iload_n hx hb dX1_turn_34 rfl (lv_at hl 3 rfl) ?_
        refine lv_iconst (v := (0 : Int32)) hx hb dX1_turn_35 (by decide) ?_
        refine lv_bipush (v := (9 : Int32)) hx hb dX1_turn_36 (by decide) ?_
        refine rS_io (As := [.int j3, .int (0 : Int32), .int (9 : Int32)]) (rest := []) ⟨hx, hb, hml, hown, hts⟩ hK hN hA hP hD hS (c_X1_beyond l D cI j3 (0 : Int32) (9 : Int32) (f_X1_beyond j3 (0 : Int32) (9 : Int32)) rfl) (va_cwS 3 hts gX1_turn_X1_beyond rfl rfl rfl hd_X1_beyond.2 ⟨Nat.le_of_ble_eq_true rfl, Nat.le_of_ble_eq_true rfl⟩) [] (by decide) rfl rfl hl.1 rfl (Nat.le_of_ble_eq_true rfl) dX1_turn_38 ⟨Nat.le_of_ble_eq_true rfl, Nat.le_of_ble_eq_true rfl⟩ (fun H locs hP hD hS => ?_)
        refine lv_if_eq (tgt := 56) hx hb dX1_turn_41 (by decide) (fun c5 => ?_) (fun c5 => ?_)
        · have hf := hT hf c5
          refine lv_bipush (v := (10 : Int32)) hx hb dX1_turn_56 (by decide) ?_
          refine lv_aload_n hx hb dX1_turn_58 rfl (lv_at hl 0 rfl) ?_
          refine va_get (D := D) (ci := 1) (v := .ref ((A 1) 0)) (C := RX1) (T := TX1) (N := 9) hx hb hts hinX hown hK hP 0 rfl rfl 0 (by decide) lk0 (fun _ h9 => h9) rfl dX1_turn_59 ?_
          refine va_getN (D := D) (ci := 0) (v := .ref ((A 1) 7)) (C := RX0) (T := TX0) (N := 13) hx hb hts hinH hown hK hP 1 rfl rfl 9 (by decide) (nW.f hN 8 rfl) (fun _ h9 => h9) rfl dX1_turn_62 ?_
          refine lv_iload_n hx hb dX1_turn_65 rfl (lv_at hl 1 rfl) ?_
          refine rS_io (As := [.ref ((A 1) 7), .int j1]) (rest := [.int (10 : Int32)]) ⟨hx, hb, hml, hown, hts⟩ hK hN hA hP hD hS (c_X1_at l D cI 6 (by decide) ((A 1) 7) (xn 6) j1) (va_cwS 2 hts gX1_turn_X1_at rfl rfl rfl hd_X1_at.2 ⟨Nat.le_of_ble_eq_true rfl, Nat.le_of_ble_eq_true rfl⟩) [8] (by decide) rfl rfl hl.1 rfl (Nat.le_of_ble_eq_true rfl) dX1_turn_66 ⟨Nat.le_of_ble_eq_true rfl, Nat.le_of_ble_eq_true rfl⟩ (fun H locs hP hD hS => ?_)
          refine lv_imul hx hb dX1_turn_69 ?_
          refine lv_aload_n hx hb dX1_turn_70 rfl (lv_at hl 0 rfl) ?_
          refine va_get (D := D) (ci := 1) (v := .ref ((A 1) 0)) (C := RX1) (T := TX1) (N := 9) hx hb hts hinX hown hK hP 0 rfl rfl 0 (by decide) lk0 (fun _ h9 => h9) rfl dX1_turn_71 ?_
          refine va_getN (D := D) (ci := 0) (v := .ref ((A 1) 8)) (C := RX0) (T := TX0) (N := 13) hx hb hts hinH hown hK hP 1 rfl rfl 10 (by decide) (nW.f hN 9 rfl) (fun _ h9 => h9) rfl dX1_turn_74 ?_
          refine lv_iload_n hx hb dX1_turn_77 rfl (lv_at hl 1 rfl) ?_
          refine rS_io (As := [.ref ((A 1) 8), .int j1]) (rest := [.int ((10 : Int32) * (atv 6 (xn 6) j1))]) ⟨hx, hb, hml, hown, hts⟩ hK hN hA hP hD hS (c_X1_at l D cI 6 (by decide) ((A 1) 8) (xn 7) j1) (va_cwS 2 hts gX1_turn_X1_at rfl rfl rfl hd_X1_at.2 ⟨Nat.le_of_ble_eq_true rfl, Nat.le_of_ble_eq_true rfl⟩) [9] (by decide) rfl rfl hl.1 rfl (Nat.le_of_ble_eq_true rfl) dX1_turn_78 ⟨Nat.le_of_ble_eq_true rfl, Nat.le_of_ble_eq_true rfl⟩ (fun H locs hP hD hS => ?_)
          refine lv_iadd hx hb dX1_turn_81 ?_
          refine lv_istore (lv' := [(4, .int (((10 : Int32) * (atv 6 (xn 6) j1)) + (atv 6 (xn 7) j1))), (0, .ref ((A 0) 0)), (1, .int j1), (2, .int j2), (3, .int j3)]) hx hb dX1_turn_82 hl (by decide) rfl (fun ls hl => ?_)
          refine lv_aload_n hx hb dX1_turn_84 rfl (lv_at hl 1 rfl) ?_
          refine va_get (D := D) (ci := 1) (v := .ref ((A 1) 0)) (C := RX1) (T := TX1) (N := 9) hx hb hts hinX hown hK hP 0 rfl rfl 0 (by decide) lk0 (fun _ h9 => h9) rfl dX1_turn_85 ?_
          refine va_getN (D := D) (ci := 0) (v := .ref ((A 1) 7)) (C := RX0) (T := TX0) (N := 13) hx hb hts hinH hown hK hP 1 rfl rfl 9 (by decide) (nW.f hN 8 rfl) (fun _ h9 => h9) rfl dX1_turn_88 ?_
          refine lv_iload_n hx hb dX1_turn_91 rfl (lv_at hl 2 rfl) ?_
          refine lv_iload_n hx hb dX1_turn_92 rfl (lv_at hl 3 rfl) ?_
          obtain ⟨xn_v6, exn_v6, hf⟩ := jnS hf
          refine rS_v (ws' := (wX A cI xx xn_v6 xm xk)) (As := [.ref ((A 1) 7), .int j1, .int j2]) (rest := []) ⟨hx, hb, hml, hown, hts⟩ hK hN hA hP hD hS (c_X1_put l D cI 6 (by decide) ((A 1) 7) (xn 6) j1 j2) (va_cwS 3 hts gX1_turn_X1_put rfl rfl rfl hd_X1_put.2 ⟨Nat.le_of_ble_eq_true rfl, Nat.le_of_ble_eq_true rfl⟩) [8] (by decide) rfl rfl ((sa_X1_n_6 A cI xx xn xm xk (ptv 6 (xn 6) j1 j2)).trans (congrArg (fun z => wX A cI xx z xm xk) exn_v6.symm)) rfl hl.1 rfl (Nat.le_of_ble_eq_true rfl) dX1_turn_93 ⟨Nat.le_of_ble_eq_true rfl, Nat.le_of_ble_eq_true rfl⟩ (fun H locs hP hD hS => ?_)
          refine lv_aload_n hx hb dX1_turn_96 rfl (lv_at hl 1 rfl) ?_
          refine va_get (D := D) (ci := 1) (v := .ref ((A 1) 0)) (C := RX1) (T := TX1) (N := 9) hx hb hts hinX hown hK hP 0 rfl rfl 0 (by decide) lk0 (fun _ h9 => h9) rfl dX1_turn_97 ?_
          refine va_getN (D := D) (ci := 0) (v := .ref ((A 1) 8)) (C := RX0) (T := TX0) (N := 13) hx hb hts hinH hown hK hP 1 rfl rfl 10 (by decide) (nW.f hN 9 rfl) (fun _ h9 => h9) rfl dX1_turn_100 ?_
          refine lv_iload_n hx hb dX1_turn_103 rfl (lv_at hl 2 rfl) ?_
          refine lv_iload_n hx hb dX1_turn_104 rfl (lv_at hl 4 rfl) ?_
          obtain ⟨xn_v7, exn_v7, hf⟩ := jnS hf
          refine rS_v (ws' := (wX A cI xx xn_v7 xm xk)) (As := [.ref ((A 1) 8), .int j1, .int j3]) (rest := []) ⟨hx, hb, hml, hown, hts⟩ hK hN hA hP hD hS (c_X1_put l D cI 6 (by decide) ((A 1) 8) (xn_v6 7) j1 j3) (va_cwS 3 hts gX1_turn_X1_put rfl rfl rfl hd_X1_put.2 ⟨Nat.le_of_ble_eq_true rfl, Nat.le_of_ble_eq_true rfl⟩) [9] (by decide) rfl rfl ((sa_X1_n_7 A cI xx xn_v6 xm xk (ptv 6 (xn_v6 7) j1 j3)).trans (congrArg (fun z => wX A cI xx z xm xk) exn_v7.symm)) rfl hl.1 rfl (Nat.le_of_ble_eq_true rfl) dX1_turn_105 ⟨Nat.le_of_ble_eq_true rfl, Nat.le_of_ble_eq_true rfl⟩ (fun H locs hP hD hS => ?_)
          refine lv_iload hx hb dX1_turn_108 (lv_at hl 0 rfl) ?_
          obtain rfl := Option.some.inj hf
          exact W.iret (v := (((10 : Int32) * (atv 6 (xn 6) j1)) + (atv 6 (xn 7) j1))) hx hb hr (fun t ht hW => ⟨⟨(((10 : Int32) * (atv 6 (xn 6) j1)) + (atv 6 (xn 7) j1)), (), rfl, rfl, hPt ht hP⟩, hS.F ht⟩) hS.2.2 dX1_turn_110
        · have hf := hF hf c5
          refine lv_aload_n hx hb dX1_turn_44 rfl (lv_at hl 0 rfl) ?_
          refine lv_iload_n hx hb dX1_turn_45 rfl (lv_at hl 3 rfl) ?_
          refine lv_iconst (v := (0 : Int32)) hx hb dX1_turn_46 (by decide) ?_
          refine lv_bipush (v := (9 : Int32)) hx hb dX1_turn_47 (by decide) ?_
          refine rS_io (As := [.int j3, .int (0 : Int32), .int (9 : Int32)]) (rest := [.ref ((A 0) 0)]) ⟨hx, hb, hml, hown, hts⟩ hK hN hA hP hD hS (c_X1_beyond l D cI j3 (0 : Int32) (9 : Int32) (f_X1_beyond j3 (0 : Int32) (9 : Int32)) rfl) (va_cwS 3 hts gX1_turn_X1_beyond rfl rfl rfl hd_X1_beyond.2 ⟨Nat.le_of_ble_eq_true rfl, Nat.le_of_ble_eq_true rfl⟩) [] (by decide) rfl rfl hl.1 rfl (Nat.le_of_ble_eq_true rfl) dX1_turn_49 ⟨Nat.le_of_ble_eq_true rfl, Nat.le_of_ble_eq_true rfl⟩ (fun H locs hP hD hS => ?_)
          obtain ⟨v8, hev8, hf⟩ := bS hf
          refine rV_i (ws' := (wX A cI v8.2 xn xm xk)) (As := [.int (f_X1_beyond j3 (0 : Int32) (9 : Int32))]) (rest := []) ⟨hx, hb, hml, hown, hts⟩ hK hN hA hP hD hS (c_X1_refuse l D cI A (f_X1_beyond j3 (0 : Int32) (9 : Int32)) xx xn xm xk v8 hev8) (cwV 1 hts gX1_turn_X1_refuse rfl rfl rfl hd_X1_refuse ⟨Nat.le_of_ble_eq_true rfl, Nat.le_of_ble_eq_true rfl⟩) (va_recv hK hP (ci := 1) (q0 := 0) rfl rfl) [0, 1, 2, 3, 4, 5, 6, 7, 8, 9, 10, 11, 12, 13, 14, 15, 16, 17, 18, 19, 20, 21, 22, 23, 24, 25, 26, 27, 28, 29, 30, 31, 32, 33, 34, 35, 36] (by decide) rfl rfl rfl rfl hl.1 rfl (Nat.le_of_ble_eq_true rfl) dX1_turn_52 ⟨Nat.le_of_ble_eq_true rfl, Nat.le_of_ble_eq_true rfl⟩ (fun H locs hP hD hS => ?_)
          have hP : va_P D vwCl (wX A cI v8.2 xn xm xk) H := hP
          obtain rfl := Option.some.inj hf
          exact W.iret (v := v8.1) hx hb hr (fun t ht hW => ⟨⟨v8.1, (), rfl, rfl, hPt ht hP⟩, hS.F ht⟩) hS.2.2 dX1_turn_55
      · have hf := hF hf c4
        refine lv_aload_n hx hb dX1_turn_27 rfl (lv_at hl 0 rfl) ?_
        refine lv_bipush (v := (-2 : Int32)) hx hb dX1_turn_28 (by decide) ?_
        obtain ⟨v9, hev9, hf⟩ := bS hf
        refine rV_i (ws' := (wX A cI v9.2 xn xm xk)) (As := [.int (-2 : Int32)]) (rest := []) ⟨hx, hb, hml, hown, hts⟩ hK hN hA hP hD hS (c_X1_refuse l D cI A (-2 : Int32) xx xn xm xk v9 hev9) (cwV 1 hts gX1_turn_X1_refuse rfl rfl rfl hd_X1_refuse ⟨Nat.le_of_ble_eq_true rfl, Nat.le_of_ble_eq_true rfl⟩) (va_recv hK hP (ci := 1) (q0 := 0) rfl rfl) [0, 1, 2, 3, 4, 5, 6, 7, 8, 9, 10, 11, 12, 13, 14, 15, 16, 17, 18, 19, 20, 21, 22, 23, 24, 25, 26, 27, 28, 29, 30, 31, 32, 33, 34, 35, 36] (by decide) rfl rfl rfl rfl hl.1 rfl (Nat.le_of_ble_eq_true rfl) dX1_turn_30 ⟨Nat.le_of_ble_eq_true rfl, Nat.le_of_ble_eq_true rfl⟩ (fun H locs hP hD hS => ?_)
        have hP : va_P D vwCl (wX A cI v9.2 xn xm xk) H := hP
        obtain rfl := Option.some.inj hf
        exact W.iret (v := v9.1) hx hb hr (fun t ht hW => ⟨⟨v9.1, (), rfl, rfl, hPt ht hP⟩, hS.F ht⟩) hS.2.2 dX1_turn_33
  · have hf := hT hf c1
    refine lv_aload_n hx hb dX1_turn_11 rfl (lv_at hl 0 rfl) ?_
    refine lv_iconst (v := (-1 : Int32)) hx hb dX1_turn_12 (by decide) ?_
    obtain ⟨v10, hev10, hf⟩ := bS hf
    refine rV_i (ws' := (wX A cI v10.2 xn xm xk)) (As := [.int (-1 : Int32)]) (rest := []) ⟨hx, hb, hml, hown, hts⟩ hK hN hA hP hD hS (c_X1_refuse l D cI A (-1 : Int32) xx xn xm xk v10 hev10) (cwV 1 hts gX1_turn_X1_refuse rfl rfl rfl hd_X1_refuse ⟨Nat.le_of_ble_eq_true rfl, Nat.le_of_ble_eq_true rfl⟩) (va_recv hK hP (ci := 1) (q0 := 0) rfl rfl) [0, 1, 2, 3, 4, 5, 6, 7, 8, 9, 10, 11, 12, 13, 14, 15, 16, 17, 18, 19, 20, 21, 22, 23, 24, 25, 26, 27, 28, 29, 30, 31, 32, 33, 34, 35, 36] (by decide) rfl rfl rfl rfl hl.1 rfl (Nat.le_of_ble_eq_true rfl) dX1_turn_13 ⟨Nat.le_of_ble_eq_true rfl, Nat.le_of_ble_eq_true rfl⟩ (fun H locs hP hD hS => ?_)
    have hP : va_P D vwCl (wX A cI v10.2 xn xm xk) H := hP
    obtain rfl := Option.some.inj hf
    exact W.iret (v := v10.1) hx hb hr (fun t ht hW => ⟨⟨v10.1, (), rfl, rfl, hPt ht hP⟩, hS.F ht⟩) hS.2.2 dX1_turn_16
def f_X1_months (j1 : Int32) (xx : HS) (xn : HS) (xm : HS) (xk : HS) : Option (Int32 × HS × HS) := if (1 : Int32) ≤ j1 then if (f_X0_hasTimeFor j1 xn) = 0 then (f_X1_refuse (-6 : Int32) xx xn xm xk).bind fun v5 => some (v5.1, v5.2, xn) else (f_X0_goOn j1 (1 : Int32) xn).bind fun v3 => (f_X0_heldCount v3.2).bind fun v4 => some (v4, xx, v3.2) else (f_X1_refuse (-4 : Int32) xx xn xm xk).bind fun v6 => some (v6.1, v6.2, xn)
set_option maxHeartbeats 4000000 in
set_option maxRecDepth 100000 in
theorem c_X1_months (l : Launch) (D : va_G) (cI : ClassId) (A : Nat → Nat → Nat) (j1 : Int32) (xx : HS) (xn : HS) (xm : HS) (xk : HS) (out : Int32 × HS × HS) (hf : f_X1_months j1 xx xn xm xk = some out) : uI l D cI yX1_months wsX1_months ({ frames := 5, cells := 0, slots := 0, locals := 128 } : Room) [.ref ((A 0) 0), .int j1] (wX A cI xx xn xm xk) (wX A cI out.2.1 out.2.2 xm xk) out.1 := by
  intro sz
  refine Met.ofW (cc := cX1_months) (maxL := 2) (ret := (some .int)) (by decide) rfl ?_
  intro p e s m args below meth c s₁ Bd hml hv
  obtain ⟨rfl, hsz, hP, hK, hD0, hN⟩ := hv
  have hx := Bd.exec
  have hb := Bd.bytes
  have hr := Bd.returns
  have hts := atoms_spec (ws := wsX1_months) Bd.pre
  have hown : s.vm.findClass RX1 = some m.cls := findClass_of_methodNamed Bd.named
  have hlocks := Bd.notSynchronized
  subst hsz
  have hD := hD0.self (sz := s.heap.size)
  generalize hAe : va_A (wX A cI xx xn xm xk) s.heap.size = G at hD ⊢
  have hA : ∀ q : Nat, s.heap.size ≤ q → G q := fun q h => by rw [← hAe]; exact Or.inr h
  have hS : va_S G s.heap s.heap [] := va_S.rf
  have hP : va_P D vwCl (wX A cI xx xn xm xk) s.heap := hP
  have hl := lv_entry ([.ref ((A 0) 0), .int j1]) (n := 2) (Nat.le_of_ble_eq_true rfl)
  rw [lg_entry_eq]
  generalize (lg_sl ([.ref ((A 0) 0), .int j1]) ++ List.replicate (2 - (lg_sl ([.ref ((A 0) 0), .int j1])).length) Slot.unset).toArray = ls at hl ⊢
  have hl : lv_has ls 2 [(0, .ref ((A 0) 0)), (1, .int j1)] := hl
  have hinX : ∀ w ∈ wsX10, w ∈ wsX1_months := by decide +kernel
  have lk0 := hts (.fieldLink RX1 10 "LiesBoughtBack" "now" "LLiesBoughtBack$Hall;") (by decide +kernel)
  have lk1 := hts (.initialized RX0) (by decide +kernel)
  have lk2 := hts (.instanceMethod yX0_hasTimeFor) (by decide +kernel)
  have lk3 := hts (.selects RX0 yX0_hasTimeFor yX0_hasTimeFor) (by decide +kernel)
  have lk4 := hts (.instanceMethod yX0_goOn) (by decide +kernel)
  have lk5 := hts (.selects RX0 yX0_goOn yX0_goOn) (by decide +kernel)
  have lk6 := hts (.instanceMethod yX0_heldCount) (by decide +kernel)
  have lk7 := hts (.selects RX0 yX0_heldCount yX0_heldCount) (by decide +kernel)
  refine W_in ?_
  intro WW hWW
  refine (hWW _ _ _).mpr ?_
  unfold f_X1_months at hf
  refine lv_iload_n hx hb dX1_months_0 rfl (lv_at hl 1 rfl) ?_
  refine lv_iconst (v := (1 : Int32)) hx hb dX1_months_1 (by decide) ?_
  refine lv_icmp_ge (tgt := 12) hx hb dX1_months_2 (by decide) (fun c1 => ?_) (fun c1 => ?_)
  · have hf := hT hf c1
    refine lv_aload_n hx hb dX1_months_12 rfl (lv_at hl 0 rfl) ?_
    refine va_get (D := D) (ci := 1) (v := .ref ((A 1) 0)) (C := RX1) (T := TX1) (N := 9) hx hb hts hinX hown hK hP 0 rfl rfl 0 (by decide) lk0 (fun _ h9 => h9) rfl dX1_months_13 ?_
    refine lv_iload_n hx hb dX1_months_16 rfl (lv_at hl 1 rfl) ?_
    refine rVN_io (As := [.int j1]) (rest := []) ⟨hx, hb, hml, hown, hts⟩ hK hN hA hP hD hS (c_X0_hasTimeFor l D cI (A 1) j1 xn (f_X0_hasTimeFor j1 xn) rfl) ⟨va_cnB 1 hts gX1_months_X0_hasTimeFor_n94 rfl rfl rfl (nW.m hN 11 rfl) lk1 hd_X0_hasTimeFor.2 ⟨Nat.le_of_ble_eq_true rfl, Nat.le_of_ble_eq_true rfl⟩, lk2, lk3⟩ (va_recv hK hP (ci := 0) (q0 := 1) rfl rfl) [1, 2, 3, 4, 5, 6, 7, 8, 9, 10, 11] (by decide) rfl rfl hl.1 rfl (Nat.le_of_ble_eq_true rfl) dX1_months_17 ⟨Nat.le_of_ble_eq_true rfl, Nat.le_of_ble_eq_true rfl⟩ (fun H locs hP hD hS => ?_)
    refine lv_if_ne (tgt := 30) hx hb dX1_months_20 (by decide) (fun c2 => ?_) (fun c2 => ?_)
    · have hf := hF hf c2
      refine lv_aload_n hx hb dX1_months_30 rfl (lv_at hl 0 rfl) ?_
      refine va_get (D := D) (ci := 1) (v := .ref ((A 1) 0)) (C := RX1) (T := TX1) (N := 9) hx hb hts hinX hown hK hP 0 rfl rfl 0 (by decide) lk0 (fun _ h9 => h9) rfl dX1_months_31 ?_
      refine lv_iload_n hx hb dX1_months_34 rfl (lv_at hl 1 rfl) ?_
      refine lv_iconst (v := (1 : Int32)) hx hb dX1_months_35 (by decide) ?_
      obtain ⟨v3, hev3, hf⟩ := bS hf
      refine rVN_i (ws' := (wX A cI xx v3.2 xm xk)) (As := [.int j1, .int (1 : Int32)]) (rest := []) ⟨hx, hb, hml, hown, hts⟩ hK hN hA hP hD hS (c_X0_goOn l D cI (A 1) j1 (1 : Int32) xn v3 hev3) ⟨va_cnB 2 hts gX1_months_X0_goOn_n97 rfl rfl rfl (nW.m hN 12 rfl) lk1 hd_X0_goOn.2 ⟨Nat.le_of_ble_eq_true rfl, Nat.le_of_ble_eq_true rfl⟩, lk4, lk5⟩ (va_recv hK hP (ci := 0) (q0 := 1) rfl rfl) [1, 2, 3, 4, 5, 6, 7, 8, 9, 10, 11] (by decide) rfl rfl rfl rfl hl.1 rfl (Nat.le_of_ble_eq_true rfl) dX1_months_36 ⟨Nat.le_of_ble_eq_true rfl, Nat.le_of_ble_eq_true rfl⟩ (fun H locs hP hD hS => ?_)
      have hP : va_P D vwCl (wX A cI xx v3.2 xm xk) H := hP
      refine lv_pop hx hb dX1_months_39 rfl ?_
      refine lv_aload_n hx hb dX1_months_40 rfl (lv_at hl 0 rfl) ?_
      refine va_get (D := D) (ci := 1) (v := .ref ((A 1) 0)) (C := RX1) (T := TX1) (N := 9) hx hb hts hinX hown hK hP 0 rfl rfl 0 (by decide) lk0 (fun _ h9 => h9) rfl dX1_months_41 ?_
      obtain ⟨v4, hev4, hf⟩ := bS hf
      refine rVN_io (As := []) (rest := []) ⟨hx, hb, hml, hown, hts⟩ hK hN hA hP hD hS (c_X0_heldCount l D cI (A 1) v3.2 v4 hev4) ⟨va_cnB 0 hts gX1_months_X0_heldCount_n101 rfl rfl rfl (nW.m hN 18 rfl) lk1 hd_X0_heldCount.2 ⟨Nat.le_of_ble_eq_true rfl, Nat.le_of_ble_eq_true rfl⟩, lk6, lk7⟩ (va_recv hK hP (ci := 0) (q0 := 1) rfl rfl) [1, 2, 3, 4, 5, 6, 7, 8, 9, 10, 11] (by decide) rfl rfl hl.1 rfl (Nat.le_of_ble_eq_true rfl) dX1_months_44 ⟨Nat.le_of_ble_eq_true rfl, Nat.le_of_ble_eq_true rfl⟩ (fun H locs hP hD hS => ?_)
      obtain rfl := Option.some.inj hf
      exact W.iret (v := v4) hx hb hr (fun t ht hW => ⟨⟨v4, (), rfl, rfl, hPt ht hP⟩, hS.F ht⟩) hS.2.2 dX1_months_47
    · have hf := hT hf c2
      refine lv_aload_n hx hb dX1_months_23 rfl (lv_at hl 0 rfl) ?_
      refine lv_bipush (v := (-6 : Int32)) hx hb dX1_months_24 (by decide) ?_
      obtain ⟨v5, hev5, hf⟩ := bS hf
      refine rV_i (ws' := (wX A cI v5.2 xn xm xk)) (As := [.int (-6 : Int32)]) (rest := []) ⟨hx, hb, hml, hown, hts⟩ hK hN hA hP hD hS (c_X1_refuse l D cI A (-6 : Int32) xx xn xm xk v5 hev5) (cwV 1 hts gX1_months_X1_refuse rfl rfl rfl hd_X1_refuse ⟨Nat.le_of_ble_eq_true rfl, Nat.le_of_ble_eq_true rfl⟩) (va_recv hK hP (ci := 1) (q0 := 0) rfl rfl) [0, 1, 2, 3, 4, 5, 6, 7, 8, 9, 10, 11, 12, 13, 14, 15, 16, 17, 18, 19, 20, 21, 22, 23, 24, 25, 26, 27, 28, 29, 30, 31, 32, 33, 34, 35, 36] (by decide) rfl rfl rfl rfl hl.1 rfl (Nat.le_of_ble_eq_true rfl) dX1_months_26 ⟨Nat.le_of_ble_eq_true rfl, Nat.le_of_ble_eq_true rfl⟩ (fun H locs hP hD hS => ?_)
      have hP : va_P D vwCl (wX A cI v5.2 xn xm xk) H := hP
      obtain rfl := Option.some.inj hf
      exact W.iret (v := v5.1) hx hb hr (fun t ht hW => ⟨⟨v5.1, (), rfl, rfl, hPt ht hP⟩, hS.F ht⟩) hS.2.2 dX1_months_29
  · have hf := hF hf c1
    refine lv_aload_n hx hb dX1_months_5 rfl (lv_at hl 0 rfl) ?_
    refine lv_bipush (v := (-4 : Int32)) hx hb dX1_months_6 (by decide) ?_
    obtain ⟨v6, hev6, hf⟩ := bS hf
    refine rV_i (ws' := (wX A cI v6.2 xn xm xk)) (As := [.int (-4 : Int32)]) (rest := []) ⟨hx, hb, hml, hown, hts⟩ hK hN hA hP hD hS (c_X1_refuse l D cI A (-4 : Int32) xx xn xm xk v6 hev6) (cwV 1 hts gX1_months_X1_refuse rfl rfl rfl hd_X1_refuse ⟨Nat.le_of_ble_eq_true rfl, Nat.le_of_ble_eq_true rfl⟩) (va_recv hK hP (ci := 1) (q0 := 0) rfl rfl) [0, 1, 2, 3, 4, 5, 6, 7, 8, 9, 10, 11, 12, 13, 14, 15, 16, 17, 18, 19, 20, 21, 22, 23, 24, 25, 26, 27, 28, 29, 30, 31, 32, 33, 34, 35, 36] (by decide) rfl rfl rfl rfl hl.1 rfl (Nat.le_of_ble_eq_true rfl) dX1_months_8 ⟨Nat.le_of_ble_eq_true rfl, Nat.le_of_ble_eq_true rfl⟩ (fun H locs hP hD hS => ?_)
    have hP : va_P D vwCl (wX A cI v6.2 xn xm xk) H := hP
    obtain rfl := Option.some.inj hf
    exact W.iret (v := v6.1) hx hb hr (fun t ht hW => ⟨⟨v6.1, (), rfl, rfl, hPt ht hP⟩, hS.F ht⟩) hS.2.2 dX1_months_11
def f_X1_card (j1 : Int32) (j2 : Int32) (xx : HS) (xn : HS) (xm : HS) (xk : HS) : Option (Int32 × HS) := if (f_X0_hasCard j1 xn) = 0 then (f_X1_refuse (-1 : Int32) xx xn xm xk).bind fun v13 => some (v13.1, v13.2) else if j2 = (0 : Int32) then some ((atv 8 (xn 0) j1), xx) else (if j2 = (1 : Int32) then some ((atv 8 (xn 1) j1), xx) else (if j2 = (2 : Int32) then some ((atv 8 (xn 2) j1), xx) else (if j2 = (3 : Int32) then some ((atv 8 (xn 3) j1), xx) else (if j2 = (4 : Int32) then some ((atv 8 (xn 4) j1), xx) else (if j2 = (5 : Int32) then some ((f_X0_worth j1 xn), xx) else (if j2 = (6 : Int32) then (f_X0_placeOf j1 xn).bind fun v9 => some (v9, xx) else (if j2 = (7 : Int32) then (f_X0_rivals j1 xn).bind fun v11 => some (v11, xx) else ((f_X1_refuse (-2 : Int32) xx xn xm xk).bind fun v12 => some (v12.1, v12.2)))))))))
set_option maxHeartbeats 4000000 in
set_option maxRecDepth 100000 in
theorem c_X1_card (l : Launch) (D : va_G) (cI : ClassId) (A : Nat → Nat → Nat) (j1 : Int32) (j2 : Int32) (xx : HS) (xn : HS) (xm : HS) (xk : HS) (out : Int32 × HS) (hf : f_X1_card j1 j2 xx xn xm xk = some out) : uI l D cI yX1_card wsX1_card ({ frames := 3, cells := 0, slots := 0, locals := 73 } : Room) [.ref ((A 0) 0), .int j1, .int j2] (wX A cI xx xn xm xk) (wX A cI out.2 xn xm xk) out.1 := by
  intro sz
  refine Met.ofW (cc := cX1_card) (maxL := 3) (ret := (some .int)) (by decide) rfl ?_
  intro p e s m args below meth c s₁ Bd hml hv
  obtain ⟨rfl, hsz, hP, hK, hD0, hN⟩ := hv
  have hx := Bd.exec
  have hb := Bd.bytes
  have hr := Bd.returns
  have hts := atoms_spec (ws := wsX1_card) Bd.pre
  have hown : s.vm.findClass RX1 = some m.cls := findClass_of_methodNamed Bd.named
  have hlocks := Bd.notSynchronized
  subst hsz
  have hD := hD0.self (sz := s.heap.size)
  generalize hAe : va_A (wX A cI xx xn xm xk) s.heap.size = G at hD ⊢
  have hA : ∀ q : Nat, s.heap.size ≤ q → G q := fun q h => by rw [← hAe]; exact Or.inr h
  have hS : va_S G s.heap s.heap [] := va_S.rf
  have hP : va_P D vwCl (wX A cI xx xn xm xk) s.heap := hP
  have hl := lv_entry ([.ref ((A 0) 0), .int j1, .int j2]) (n := 3) (Nat.le_of_ble_eq_true rfl)
  rw [lg_entry_eq]
  generalize (lg_sl ([.ref ((A 0) 0), .int j1, .int j2]) ++ List.replicate (3 - (lg_sl ([.ref ((A 0) 0), .int j1, .int j2])).length) Slot.unset).toArray = ls at hl ⊢
  have hl : lv_has ls 3 [(0, .ref ((A 0) 0)), (1, .int j1), (2, .int j2)] := hl
  have hinH : ∀ w ∈ wsX00, w ∈ wsX1_card := by decide +kernel
  have hinX : ∀ w ∈ wsX10, w ∈ wsX1_card := by decide +kernel
  have lk0 := hts (.fieldLink RX1 10 "LiesBoughtBack" "now" "LLiesBoughtBack$Hall;") (by decide +kernel)
  have lk1 := hts (.initialized RX0) (by decide +kernel)
  have lk2 := hts (.instanceMethod yX0_hasCard) (by decide +kernel)
  have lk3 := hts (.selects RX0 yX0_hasCard yX0_hasCard) (by decide +kernel)
  have lk4 := hts (.instanceMethod yX0_worth) (by decide +kernel)
  have lk5 := hts (.selects RX0 yX0_worth yX0_worth) (by decide +kernel)
  have lk6 := hts (.instanceMethod yX0_placeOf) (by decide +kernel)
  have lk7 := hts (.selects RX0 yX0_placeOf yX0_placeOf) (by decide +kernel)
  have lk8 := hts (.instanceMethod yX0_rivals) (by decide +kernel)
  have lk9 := hts (.selects RX0 yX0_rivals yX0_rivals) (by decide +kernel)
  refine W_in ?_
  intro WW hWW
  refine (hWW _ _ _).mpr ?_
  unfold f_X1_card at hf
  refine lv_aload_n hx hb dX1_card_0 rfl (lv_at hl 0 rfl) ?_
  refine va_get (D := D) (ci := 1) (v := .ref ((A 1) 0)) (C := RX1) (T := TX1) (N := 9) hx hb hts hinX hown hK hP 0 rfl rfl 0 (by decide) lk0 (fun _ h9 => h9) rfl dX1_card_1 ?_
  refine lv_iload_n hx hb dX1_card_4 rfl (lv_at hl 1 rfl) ?_
  refine rVN_io (As := [.int j1]) (rest := []) ⟨hx, hb, hml, hown, hts⟩ hK hN hA hP hD hS (c_X0_hasCard l D cI (A 1) j1 xn (f_X0_hasCard j1 xn) rfl) ⟨va_cnB 1 hts gX1_card_X0_hasCard_n69 rfl rfl rfl (nW.m hN 14 rfl) lk1 hd_X0_hasCard.2 ⟨Nat.le_of_ble_eq_true rfl, Nat.le_of_ble_eq_true rfl⟩, lk2, lk3⟩ (va_recv hK hP (ci := 0) (q0 := 1) rfl rfl) [1, 2, 3, 4, 5, 6, 7, 8, 9, 10, 11] (by decide) rfl rfl hl.1 rfl (Nat.le_of_ble_eq_true rfl) dX1_card_5 ⟨Nat.le_of_ble_eq_true rfl, Nat.le_of_ble_eq_true rfl⟩ (fun H locs hP hD hS => ?_)
  refine lv_if_ne (tgt := 17) hx hb dX1_card_8 (by decide) (fun c1 => ?_) (fun c1 => ?_)
  · have hf := hF hf c1
    refine lv_iload_n hx hb dX1_card_17 rfl (lv_at hl 2 rfl) ?_
    by_cases c2 : j2 = (0 : Int32)
    · have hf := hT hf c2
      refine sw_in (v := 0) (off := 46) (tgt := 64) hx hb dX1_card_18 ((congrArg Int32.toInt c2).trans (by decide)) (by decide) (by decide) (by decide) (by decide) ?_
      refine lv_aload_n hx hb dX1_card_64 rfl (lv_at hl 0 rfl) ?_
      refine va_get (D := D) (ci := 1) (v := .ref ((A 1) 0)) (C := RX1) (T := TX1) (N := 9) hx hb hts hinX hown hK hP 0 rfl rfl 0 (by decide) lk0 (fun _ h9 => h9) rfl dX1_card_65 ?_
      refine va_getN (D := D) (ci := 0) (v := .ref ((A 1) 1)) (C := RX0) (T := TX0) (N := 13) hx hb hts hinH hown hK hP 1 rfl rfl 3 (by decide) (nW.f hN 3 rfl) (fun _ h9 => h9) rfl dX1_card_68 ?_
      refine lv_iload_n hx hb dX1_card_71 rfl (lv_at hl 1 rfl) ?_
      refine rS_io (As := [.ref ((A 1) 1), .int j1]) (rest := []) ⟨hx, hb, hml, hown, hts⟩ hK hN hA hP hD hS (c_X1_at l D cI 8 (by decide) ((A 1) 1) (xn 0) j1) (va_cwS 2 hts gX1_card_X1_at rfl rfl rfl hd_X1_at.2 ⟨Nat.le_of_ble_eq_true rfl, Nat.le_of_ble_eq_true rfl⟩) [2] (by decide) rfl rfl hl.1 rfl (Nat.le_of_ble_eq_true rfl) dX1_card_72 ⟨Nat.le_of_ble_eq_true rfl, Nat.le_of_ble_eq_true rfl⟩ (fun H locs hP hD hS => ?_)
      obtain rfl := Option.some.inj hf
      exact W.iret (v := (atv 8 (xn 0) j1)) hx hb hr (fun t ht hW => ⟨⟨(atv 8 (xn 0) j1), (), rfl, rfl, hPt ht hP⟩, hS.F ht⟩) hS.2.2 dX1_card_75
    have hf := hF hf c2
    by_cases c3 : j2 = (1 : Int32)
    · have hf := hT hf c3
      refine sw_in (v := 1) (off := 58) (tgt := 76) hx hb dX1_card_18 ((congrArg Int32.toInt c3).trans (by decide)) (by decide) (by decide) (by decide) (by decide) ?_
      refine lv_aload_n hx hb dX1_card_76 rfl (lv_at hl 0 rfl) ?_
      refine va_get (D := D) (ci := 1) (v := .ref ((A 1) 0)) (C := RX1) (T := TX1) (N := 9) hx hb hts hinX hown hK hP 0 rfl rfl 0 (by decide) lk0 (fun _ h9 => h9) rfl dX1_card_77 ?_
      refine va_getN (D := D) (ci := 0) (v := .ref ((A 1) 2)) (C := RX0) (T := TX0) (N := 13) hx hb hts hinH hown hK hP 1 rfl rfl 4 (by decide) (nW.f hN 4 rfl) (fun _ h9 => h9) rfl dX1_card_80 ?_
      refine lv_iload_n hx hb dX1_card_83 rfl (lv_at hl 1 rfl) ?_
      refine rS_io (As := [.ref ((A 1) 2), .int j1]) (rest := []) ⟨hx, hb, hml, hown, hts⟩ hK hN hA hP hD hS (c_X1_at l D cI 8 (by decide) ((A 1) 2) (xn 1) j1) (va_cwS 2 hts gX1_card_X1_at rfl rfl rfl hd_X1_at.2 ⟨Nat.le_of_ble_eq_true rfl, Nat.le_of_ble_eq_true rfl⟩) [3] (by decide) rfl rfl hl.1 rfl (Nat.le_of_ble_eq_true rfl) dX1_card_84 ⟨Nat.le_of_ble_eq_true rfl, Nat.le_of_ble_eq_true rfl⟩ (fun H locs hP hD hS => ?_)
      obtain rfl := Option.some.inj hf
      exact W.iret (v := (atv 8 (xn 1) j1)) hx hb hr (fun t ht hW => ⟨⟨(atv 8 (xn 1) j1), (), rfl, rfl, hPt ht hP⟩, hS.F ht⟩) hS.2.2 dX1_card_87
    have hf := hF hf c3
    by_cases c4 : j2 = (2 : Int32)
    · have hf := hT hf c4
      refine sw_in (v := 2) (off := 70) (tgt := 88) hx hb dX1_card_18 ((congrArg Int32.toInt c4).trans (by decide)) (by decide) (by decide) (by decide) (by decide) ?_
      refine lv_aload_n hx hb dX1_card_88 rfl (lv_at hl 0 rfl) ?_
      refine va_get (D := D) (ci := 1) (v := .ref ((A 1) 0)) (C := RX1) (T := TX1) (N := 9) hx hb hts hinX hown hK hP 0 rfl rfl 0 (by decide) lk0 (fun _ h9 => h9) rfl dX1_card_89 ?_
      refine va_getN (D := D) (ci := 0) (v := .ref ((A 1) 3)) (C := RX0) (T := TX0) (N := 13) hx hb hts hinH hown hK hP 1 rfl rfl 5 (by decide) (nW.f hN 5 rfl) (fun _ h9 => h9) rfl dX1_card_92 ?_
      refine lv_iload_n hx hb dX1_card_95 rfl (lv_at hl 1 rfl) ?_
      refine rS_io (As := [.ref ((A 1) 3), .int j1]) (rest := []) ⟨hx, hb, hml, hown, hts⟩ hK hN hA hP hD hS (c_X1_at l D cI 8 (by decide) ((A 1) 3) (xn 2) j1) (va_cwS 2 hts gX1_card_X1_at rfl rfl rfl hd_X1_at.2 ⟨Nat.le_of_ble_eq_true rfl, Nat.le_of_ble_eq_true rfl⟩) [4] (by decide) rfl rfl hl.1 rfl (Nat.le_of_ble_eq_true rfl) dX1_card_96 ⟨Nat.le_of_ble_eq_true rfl, Nat.le_of_ble_eq_true rfl⟩ (fun H locs hP hD hS => ?_)
      obtain rfl := Option.some.inj hf
      exact W.iret (v := (atv 8 (xn 2) j1)) hx hb hr (fun t ht hW => ⟨⟨(atv 8 (xn 2) j1), (), rfl, rfl, hPt ht hP⟩, hS.F ht⟩) hS.2.2 dX1_card_99
    have hf := hF hf c4
    by_cases c5 : j2 = (3 : Int32)
    · have hf := hT hf c5
      refine sw_in (v := 3) (off := 82) (tgt := 100) hx hb dX1_card_18 ((congrArg Int32.toInt c5).trans (by decide)) (by decide) (by decide) (by decide) (by decide) ?_
      refine lv_aload_n hx hb dX1_card_100 rfl (lv_at hl 0 rfl) ?_
      refine va_get (D := D) (ci := 1) (v := .ref ((A 1) 0)) (C := RX1) (T := TX1) (N := 9) hx hb hts hinX hown hK hP 0 rfl rfl 0 (by decide) lk0 (fun _ h9 => h9) rfl dX1_card_101 ?_
      refine va_getN (D := D) (ci := 0) (v := .ref ((A 1) 4)) (C := RX0) (T := TX0) (N := 13) hx hb hts hinH hown hK hP 1 rfl rfl 6 (by decide) (nW.f hN 6 rfl) (fun _ h9 => h9) rfl dX1_card_104 ?_
      refine lv_iload_n hx hb dX1_card_107 rfl (lv_at hl 1 rfl) ?_
      refine rS_io (As := [.ref ((A 1) 4), .int j1]) (rest := []) ⟨hx, hb, hml, hown, hts⟩ hK hN hA hP hD hS (c_X1_at l D cI 8 (by decide) ((A 1) 4) (xn 3) j1) (va_cwS 2 hts gX1_card_X1_at rfl rfl rfl hd_X1_at.2 ⟨Nat.le_of_ble_eq_true rfl, Nat.le_of_ble_eq_true rfl⟩) [5] (by decide) rfl rfl hl.1 rfl (Nat.le_of_ble_eq_true rfl) dX1_card_108 ⟨Nat.le_of_ble_eq_true rfl, Nat.le_of_ble_eq_true rfl⟩ (fun H locs hP hD hS => ?_)
      obtain rfl := Option.some.inj hf
      exact W.iret (v := (atv 8 (xn 3) j1)) hx hb hr (fun t ht hW => ⟨⟨(atv 8 (xn 3) j1), (), rfl, rfl, hPt ht hP⟩, hS.F ht⟩) hS.2.2 dX1_card_111
    have hf := hF hf c5
    by_cases c6 : j2 = (4 : Int32)
    · have hf := hT hf c6
      refine sw_in (v := 4) (off := 94) (tgt := 112) hx hb dX1_card_18 ((congrArg Int32.toInt c6).trans (by decide)) (by decide) (by decide) (by decide) (by decide) ?_
      refine lv_aload_n hx hb dX1_card_112 rfl (lv_at hl 0 rfl) ?_
      refine va_get (D := D) (ci := 1) (v := .ref ((A 1) 0)) (C := RX1) (T := TX1) (N := 9) hx hb hts hinX hown hK hP 0 rfl rfl 0 (by decide) lk0 (fun _ h9 => h9) rfl dX1_card_113 ?_
      refine va_getN (D := D) (ci := 0) (v := .ref ((A 1) 5)) (C := RX0) (T := TX0) (N := 13) hx hb hts hinH hown hK hP 1 rfl rfl 7 (by decide) (nW.f hN 7 rfl) (fun _ h9 => h9) rfl dX1_card_116 ?_
      refine lv_iload_n hx hb dX1_card_119 rfl (lv_at hl 1 rfl) ?_
      refine rS_io (As := [.ref ((A 1) 5), .int j1]) (rest := []) ⟨hx, hb, hml, hown, hts⟩ hK hN hA hP hD hS (c_X1_at l D cI 8 (by decide) ((A 1) 5) (xn 4) j1) (va_cwS 2 hts gX1_card_X1_at rfl rfl rfl hd_X1_at.2 ⟨Nat.le_of_ble_eq_true rfl, Nat.le_of_ble_eq_true rfl⟩) [6] (by decide) rfl rfl hl.1 rfl (Nat.le_of_ble_eq_true rfl) dX1_card_120 ⟨Nat.le_of_ble_eq_true rfl, Nat.le_of_ble_eq_true rfl⟩ (fun H locs hP hD hS => ?_)
      obtain rfl := Option.some.inj hf
      exact W.iret (v := (atv 8 (xn 4) j1)) hx hb hr (fun t ht hW => ⟨⟨(atv 8 (xn 4) j1), (), rfl, rfl, hPt ht hP⟩, hS.F ht⟩) hS.2.2 dX1_card_123
    have hf := hF hf c6
    by_cases c7 : j2 = (5 : Int32)
    · have hf := hT hf c7
      refine sw_in (v := 5) (off := 106) (tgt := 124) hx hb dX1_card_18 ((congrArg Int32.toInt c7).trans (by decide)) (by decide) (by decide) (by decide) (by decide) ?_
      refine lv_aload_n hx hb dX1_card_124 rfl (lv_at hl 0 rfl) ?_
      refine va_get (D := D) (ci := 1) (v := .ref ((A 1) 0)) (C := RX1) (T := TX1) (N := 9) hx hb hts hinX hown hK hP 0 rfl rfl 0 (by decide) lk0 (fun _ h9 => h9) rfl dX1_card_125 ?_
      refine lv_iload_n hx hb dX1_card_128 rfl (lv_at hl 1 rfl) ?_
      refine rVN_io (As := [.int j1]) (rest := []) ⟨hx, hb, hml, hown, hts⟩ hK hN hA hP hD hS (c_X0_worth l D cI (A 1) j1 xn (f_X0_worth j1 xn) rfl) ⟨va_cnB 1 hts gX1_card_X0_worth_n117 rfl rfl rfl (nW.m hN 19 rfl) lk1 hd_X0_worth.2 ⟨Nat.le_of_ble_eq_true rfl, Nat.le_of_ble_eq_true rfl⟩, lk4, lk5⟩ (va_recv hK hP (ci := 0) (q0 := 1) rfl rfl) [1, 2, 3, 4, 5, 6, 7, 8, 9, 10, 11] (by decide) rfl rfl hl.1 rfl (Nat.le_of_ble_eq_true rfl) dX1_card_129 ⟨Nat.le_of_ble_eq_true rfl, Nat.le_of_ble_eq_true rfl⟩ (fun H locs hP hD hS => ?_)
      obtain rfl := Option.some.inj hf
      exact W.iret (v := (f_X0_worth j1 xn)) hx hb hr (fun t ht hW => ⟨⟨(f_X0_worth j1 xn), (), rfl, rfl, hPt ht hP⟩, hS.F ht⟩) hS.2.2 dX1_card_132
    have hf := hF hf c7
    by_cases c8 : j2 = (6 : Int32)
    · have hf := hT hf c8
      refine sw_in (v := 6) (off := 115) (tgt := 133) hx hb dX1_card_18 ((congrArg Int32.toInt c8).trans (by decide)) (by decide) (by decide) (by decide) (by decide) ?_
      refine lv_aload_n hx hb dX1_card_133 rfl (lv_at hl 0 rfl) ?_
      refine va_get (D := D) (ci := 1) (v := .ref ((A 1) 0)) (C := RX1) (T := TX1) (N := 9) hx hb hts hinX hown hK hP 0 rfl rfl 0 (by decide) lk0 (fun _ h9 => h9) rfl dX1_card_134 ?_
      refine lv_iload_n hx hb dX1_card_137 rfl (lv_at hl 1 rfl) ?_
      obtain ⟨v9, hev9, hf⟩ := bS hf
      refine rVN_io (As := [.int j1]) (rest := []) ⟨hx, hb, hml, hown, hts⟩ hK hN hA hP hD hS (c_X0_placeOf l D cI (A 1) j1 xn v9 hev9) ⟨va_cnB 1 hts gX1_card_X0_placeOf_n82 rfl rfl rfl (nW.m hN 16 rfl) lk1 hd_X0_placeOf.2 ⟨Nat.le_of_ble_eq_true rfl, Nat.le_of_ble_eq_true rfl⟩, lk6, lk7⟩ (va_recv hK hP (ci := 0) (q0 := 1) rfl rfl) [1, 2, 3, 4, 5, 6, 7, 8, 9, 10, 11] (by decide) rfl rfl hl.1 rfl (Nat.le_of_ble_eq_true rfl) dX1_card_138 ⟨Nat.le_of_ble_eq_true rfl, Nat.le_of_ble_eq_true rfl⟩ (fun H locs hP hD hS => ?_)
      obtain rfl := Option.some.inj hf
      exact W.iret (v := v9) hx hb hr (fun t ht hW => ⟨⟨v9, (), rfl, rfl, hPt ht hP⟩, hS.F ht⟩) hS.2.2 dX1_card_141
    have hf := hF hf c8
    by_cases c10 : j2 = (7 : Int32)
    · have hf := hT hf c10
      refine sw_in (v := 7) (off := 124) (tgt := 142) hx hb dX1_card_18 ((congrArg Int32.toInt c10).trans (by decide)) (by decide) (by decide) (by decide) (by decide) ?_
      refine lv_aload_n hx hb dX1_card_142 rfl (lv_at hl 0 rfl) ?_
      refine va_get (D := D) (ci := 1) (v := .ref ((A 1) 0)) (C := RX1) (T := TX1) (N := 9) hx hb hts hinX hown hK hP 0 rfl rfl 0 (by decide) lk0 (fun _ h9 => h9) rfl dX1_card_143 ?_
      refine lv_iload_n hx hb dX1_card_146 rfl (lv_at hl 1 rfl) ?_
      obtain ⟨v11, hev11, hf⟩ := bS hf
      refine rVN_io (As := [.int j1]) (rest := []) ⟨hx, hb, hml, hown, hts⟩ hK hN hA hP hD hS (c_X0_rivals l D cI (A 1) j1 xn v11 hev11) ⟨va_cnB 1 hts gX1_card_X0_rivals_n120 rfl rfl rfl (nW.m hN 20 rfl) lk1 hd_X0_rivals.2 ⟨Nat.le_of_ble_eq_true rfl, Nat.le_of_ble_eq_true rfl⟩, lk8, lk9⟩ (va_recv hK hP (ci := 0) (q0 := 1) rfl rfl) [1, 2, 3, 4, 5, 6, 7, 8, 9, 10, 11] (by decide) rfl rfl hl.1 rfl (Nat.le_of_ble_eq_true rfl) dX1_card_147 ⟨Nat.le_of_ble_eq_true rfl, Nat.le_of_ble_eq_true rfl⟩ (fun H locs hP hD hS => ?_)
      obtain rfl := Option.some.inj hf
      exact W.iret (v := v11) hx hb hr (fun t ht hW => ⟨⟨v11, (), rfl, rfl, hPt ht hP⟩, hS.F ht⟩) hS.2.2 dX1_card_150
    have hf := hF hf c10
    refine lv_tableOut (tgt := 151) hx hb dX1_card_18 (by have z0 := lv_neT (a := 0) c2 (by decide); have z1 := lv_neT (a := 1) c3 (by decide); have z2 := lv_neT (a := 2) c4 (by decide); have z3 := lv_neT (a := 3) c5 (by decide); have z4 := lv_neT (a := 4) c6 (by decide); have z5 := lv_neT (a := 5) c7 (by decide); have z6 := lv_neT (a := 6) c8 (by decide); have z7 := lv_neT (a := 7) c10 (by decide); omega) (by decide) ?_
    refine lv_aload_n hx hb dX1_card_151 rfl (lv_at hl 0 rfl) ?_
    refine lv_bipush (v := (-2 : Int32)) hx hb dX1_card_152 (by decide) ?_
    obtain ⟨v12, hev12, hf⟩ := bS hf
    refine rV_i (ws' := (wX A cI v12.2 xn xm xk)) (As := [.int (-2 : Int32)]) (rest := []) ⟨hx, hb, hml, hown, hts⟩ hK hN hA hP hD hS (c_X1_refuse l D cI A (-2 : Int32) xx xn xm xk v12 hev12) (cwV 1 hts gX1_card_X1_refuse rfl rfl rfl hd_X1_refuse ⟨Nat.le_of_ble_eq_true rfl, Nat.le_of_ble_eq_true rfl⟩) (va_recv hK hP (ci := 1) (q0 := 0) rfl rfl) [0, 1, 2, 3, 4, 5, 6, 7, 8, 9, 10, 11, 12, 13, 14, 15, 16, 17, 18, 19, 20, 21, 22, 23, 24, 25, 26, 27, 28, 29, 30, 31, 32, 33, 34, 35, 36] (by decide) rfl rfl rfl rfl hl.1 rfl (Nat.le_of_ble_eq_true rfl) dX1_card_154 ⟨Nat.le_of_ble_eq_true rfl, Nat.le_of_ble_eq_true rfl⟩ (fun H locs hP hD hS => ?_)
    have hP : va_P D vwCl (wX A cI v12.2 xn xm xk) H := hP
    obtain rfl := Option.some.inj hf
    exact W.iret (v := v12.1) hx hb hr (fun t ht hW => ⟨⟨v12.1, (), rfl, rfl, hPt ht hP⟩, hS.F ht⟩) hS.2.2 dX1_card_157
  · have hf := hT hf c1
    refine lv_aload_n hx hb dX1_card_11 rfl (lv_at hl 0 rfl) ?_
    refine lv_iconst (v := (-1 : Int32)) hx hb dX1_card_12 (by decide) ?_
    obtain ⟨v13, hev13, hf⟩ := bS hf
    refine rV_i (ws' := (wX A cI v13.2 xn xm xk)) (As := [.int (-1 : Int32)]) (rest := []) ⟨hx, hb, hml, hown, hts⟩ hK hN hA hP hD hS (c_X1_refuse l D cI A (-1 : Int32) xx xn xm xk v13 hev13) (cwV 1 hts gX1_card_X1_refuse rfl rfl rfl hd_X1_refuse ⟨Nat.le_of_ble_eq_true rfl, Nat.le_of_ble_eq_true rfl⟩) (va_recv hK hP (ci := 1) (q0 := 0) rfl rfl) [0, 1, 2, 3, 4, 5, 6, 7, 8, 9, 10, 11, 12, 13, 14, 15, 16, 17, 18, 19, 20, 21, 22, 23, 24, 25, 26, 27, 28, 29, 30, 31, 32, 33, 34, 35, 36] (by decide) rfl rfl rfl rfl hl.1 rfl (Nat.le_of_ble_eq_true rfl) dX1_card_13 ⟨Nat.le_of_ble_eq_true rfl, Nat.le_of_ble_eq_true rfl⟩ (fun H locs hP hD hS => ?_)
    have hP : va_P D vwCl (wX A cI v13.2 xn xm xk) H := hP
    obtain rfl := Option.some.inj hf
    exact W.iret (v := v13.1) hx hb hr (fun t ht hW => ⟨⟨v13.1, (), rfl, rfl, hPt ht hP⟩, hS.F ht⟩) hS.2.2 dX1_card_16
def f_X1_bidder (j1 : Int32) (j2 : Int32) (xx : HS) (xn : HS) (xm : HS) (xk : HS) : Option (Int32 × HS) := if (f_X0_hasBidder j1 xn) = 0 then (f_X1_refuse (-1 : Int32) xx xn xm xk).bind fun v9 => some (v9.1, v9.2) else if j2 = (0 : Int32) then some ((atv 6 (xn 6) j1), xx) else (if j2 = (1 : Int32) then some ((atv 6 (xn 7) j1), xx) else (if j2 = (2 : Int32) then some ((atv 6 (xn 8) j1), xx) else (if j2 = (3 : Int32) then some ((atv 6 (xn 9) j1), xx) else (if j2 = (4 : Int32) then (f_X0_heldBits j1 xn).bind fun v7 => some (v7, xx) else ((f_X1_refuse (-2 : Int32) xx xn xm xk).bind fun v8 => some (v8.1, v8.2))))))
set_option maxHeartbeats 4000000 in
set_option maxRecDepth 100000 in
theorem c_X1_bidder (l : Launch) (D : va_G) (cI : ClassId) (A : Nat → Nat → Nat) (j1 : Int32) (j2 : Int32) (xx : HS) (xn : HS) (xm : HS) (xk : HS) (out : Int32 × HS) (hf : f_X1_bidder j1 j2 xx xn xm xk = some out) : uI l D cI yX1_bidder wsX1_bidder ({ frames := 2, cells := 0, slots := 0, locals := 44 } : Room) [.ref ((A 0) 0), .int j1, .int j2] (wX A cI xx xn xm xk) (wX A cI out.2 xn xm xk) out.1 := by
  intro sz
  refine Met.ofW (cc := cX1_bidder) (maxL := 3) (ret := (some .int)) (by decide) rfl ?_
  intro p e s m args below meth c s₁ Bd hml hv
  obtain ⟨rfl, hsz, hP, hK, hD0, hN⟩ := hv
  have hx := Bd.exec
  have hb := Bd.bytes
  have hr := Bd.returns
  have hts := atoms_spec (ws := wsX1_bidder) Bd.pre
  have hown : s.vm.findClass RX1 = some m.cls := findClass_of_methodNamed Bd.named
  have hlocks := Bd.notSynchronized
  subst hsz
  have hD := hD0.self (sz := s.heap.size)
  generalize hAe : va_A (wX A cI xx xn xm xk) s.heap.size = G at hD ⊢
  have hA : ∀ q : Nat, s.heap.size ≤ q → G q := fun q h => by rw [← hAe]; exact Or.inr h
  have hS : va_S G s.heap s.heap [] := va_S.rf
  have hP : va_P D vwCl (wX A cI xx xn xm xk) s.heap := hP
  have hl := lv_entry ([.ref ((A 0) 0), .int j1, .int j2]) (n := 3) (Nat.le_of_ble_eq_true rfl)
  rw [lg_entry_eq]
  generalize (lg_sl ([.ref ((A 0) 0), .int j1, .int j2]) ++ List.replicate (3 - (lg_sl ([.ref ((A 0) 0), .int j1, .int j2])).length) Slot.unset).toArray = ls at hl ⊢
  have hl : lv_has ls 3 [(0, .ref ((A 0) 0)), (1, .int j1), (2, .int j2)] := hl
  have hinH : ∀ w ∈ wsX00, w ∈ wsX1_bidder := by decide +kernel
  have hinX : ∀ w ∈ wsX10, w ∈ wsX1_bidder := by decide +kernel
  have lk0 := hts (.fieldLink RX1 10 "LiesBoughtBack" "now" "LLiesBoughtBack$Hall;") (by decide +kernel)
  have lk1 := hts (.initialized RX0) (by decide +kernel)
  have lk2 := hts (.instanceMethod yX0_hasBidder) (by decide +kernel)
  have lk3 := hts (.selects RX0 yX0_hasBidder yX0_hasBidder) (by decide +kernel)
  have lk4 := hts (.instanceMethod yX0_heldBits) (by decide +kernel)
  have lk5 := hts (.selects RX0 yX0_heldBits yX0_heldBits) (by decide +kernel)
  refine W_in ?_
  intro WW hWW
  refine (hWW _ _ _).mpr ?_
  unfold f_X1_bidder at hf
  refine lv_aload_n hx hb dX1_bidder_0 rfl (lv_at hl 0 rfl) ?_
  refine va_get (D := D) (ci := 1) (v := .ref ((A 1) 0)) (C := RX1) (T := TX1) (N := 9) hx hb hts hinX hown hK hP 0 rfl rfl 0 (by decide) lk0 (fun _ h9 => h9) rfl dX1_bidder_1 ?_
  refine lv_iload_n hx hb dX1_bidder_4 rfl (lv_at hl 1 rfl) ?_
  refine rVN_io (As := [.int j1]) (rest := []) ⟨hx, hb, hml, hown, hts⟩ hK hN hA hP hD hS (c_X0_hasBidder l D cI (A 1) j1 xn (f_X0_hasBidder j1 xn) rfl) ⟨va_cnB 1 hts gX1_bidder_X0_hasBidder_n59 rfl rfl rfl (nW.m hN 13 rfl) lk1 hd_X0_hasBidder.2 ⟨Nat.le_of_ble_eq_true rfl, Nat.le_of_ble_eq_true rfl⟩, lk2, lk3⟩ (va_recv hK hP (ci := 0) (q0 := 1) rfl rfl) [1, 2, 3, 4, 5, 6, 7, 8, 9, 10, 11] (by decide) rfl rfl hl.1 rfl (Nat.le_of_ble_eq_true rfl) dX1_bidder_5 ⟨Nat.le_of_ble_eq_true rfl, Nat.le_of_ble_eq_true rfl⟩ (fun H locs hP hD hS => ?_)
  refine lv_if_ne (tgt := 17) hx hb dX1_bidder_8 (by decide) (fun c1 => ?_) (fun c1 => ?_)
  · have hf := hF hf c1
    refine lv_iload_n hx hb dX1_bidder_17 rfl (lv_at hl 2 rfl) ?_
    by_cases c2 : j2 = (0 : Int32)
    · have hf := hT hf c2
      refine sw_in (v := 0) (off := 34) (tgt := 52) hx hb dX1_bidder_18 ((congrArg Int32.toInt c2).trans (by decide)) (by decide) (by decide) (by decide) (by decide) ?_
      refine lv_aload_n hx hb dX1_bidder_52 rfl (lv_at hl 0 rfl) ?_
      refine va_get (D := D) (ci := 1) (v := .ref ((A 1) 0)) (C := RX1) (T := TX1) (N := 9) hx hb hts hinX hown hK hP 0 rfl rfl 0 (by decide) lk0 (fun _ h9 => h9) rfl dX1_bidder_53 ?_
      refine va_getN (D := D) (ci := 0) (v := .ref ((A 1) 7)) (C := RX0) (T := TX0) (N := 13) hx hb hts hinH hown hK hP 1 rfl rfl 9 (by decide) (nW.f hN 8 rfl) (fun _ h9 => h9) rfl dX1_bidder_56 ?_
      refine lv_iload_n hx hb dX1_bidder_59 rfl (lv_at hl 1 rfl) ?_
      refine rS_io (As := [.ref ((A 1) 7), .int j1]) (rest := []) ⟨hx, hb, hml, hown, hts⟩ hK hN hA hP hD hS (c_X1_at l D cI 6 (by decide) ((A 1) 7) (xn 6) j1) (va_cwS 2 hts gX1_bidder_X1_at rfl rfl rfl hd_X1_at.2 ⟨Nat.le_of_ble_eq_true rfl, Nat.le_of_ble_eq_true rfl⟩) [8] (by decide) rfl rfl hl.1 rfl (Nat.le_of_ble_eq_true rfl) dX1_bidder_60 ⟨Nat.le_of_ble_eq_true rfl, Nat.le_of_ble_eq_true rfl⟩ (fun H locs hP hD hS => ?_)
      obtain rfl := Option.some.inj hf
      exact W.iret (v := (atv 6 (xn 6) j1)) hx hb hr (fun t ht hW => ⟨⟨(atv 6 (xn 6) j1), (), rfl, rfl, hPt ht hP⟩, hS.F ht⟩) hS.2.2 dX1_bidder_63
    have hf := hF hf c2
    by_cases c3 : j2 = (1 : Int32)
    · have hf := hT hf c3
      refine sw_in (v := 1) (off := 46) (tgt := 64) hx hb dX1_bidder_18 ((congrArg Int32.toInt c3).trans (by decide)) (by decide) (by decide) (by decide) (by decide) ?_
      refine lv_aload_n hx hb dX1_bidder_64 rfl (lv_at hl 0 rfl) ?_
      refine va_get (D := D) (ci := 1) (v := .ref ((A 1) 0)) (C := RX1) (T := TX1) (N := 9) hx hb hts hinX hown hK hP 0 rfl rfl 0 (by decide) lk0 (fun _ h9 => h9) rfl dX1_bidder_65 ?_
      refine va_getN (D := D) (ci := 0) (v := .ref ((A 1) 8)) (C := RX0) (T := TX0) (N := 13) hx hb hts hinH hown hK hP 1 rfl rfl 10 (by decide) (nW.f hN 9 rfl) (fun _ h9 => h9) rfl dX1_bidder_68 ?_
      refine lv_iload_n hx hb dX1_bidder_71 rfl (lv_at hl 1 rfl) ?_
      refine rS_io (As := [.ref ((A 1) 8), .int j1]) (rest := []) ⟨hx, hb, hml, hown, hts⟩ hK hN hA hP hD hS (c_X1_at l D cI 6 (by decide) ((A 1) 8) (xn 7) j1) (va_cwS 2 hts gX1_bidder_X1_at rfl rfl rfl hd_X1_at.2 ⟨Nat.le_of_ble_eq_true rfl, Nat.le_of_ble_eq_true rfl⟩) [9] (by decide) rfl rfl hl.1 rfl (Nat.le_of_ble_eq_true rfl) dX1_bidder_72 ⟨Nat.le_of_ble_eq_true rfl, Nat.le_of_ble_eq_true rfl⟩ (fun H locs hP hD hS => ?_)
      obtain rfl := Option.some.inj hf
      exact W.iret (v := (atv 6 (xn 7) j1)) hx hb hr (fun t ht hW => ⟨⟨(atv 6 (xn 7) j1), (), rfl, rfl, hPt ht hP⟩, hS.F ht⟩) hS.2.2 dX1_bidder_75
    have hf := hF hf c3
    by_cases c4 : j2 = (2 : Int32)
    · have hf := hT hf c4
      refine sw_in (v := 2) (off := 58) (tgt := 76) hx hb dX1_bidder_18 ((congrArg Int32.toInt c4).trans (by decide)) (by decide) (by decide) (by decide) (by decide) ?_
      refine lv_aload_n hx hb dX1_bidder_76 rfl (lv_at hl 0 rfl) ?_
      refine va_get (D := D) (ci := 1) (v := .ref ((A 1) 0)) (C := RX1) (T := TX1) (N := 9) hx hb hts hinX hown hK hP 0 rfl rfl 0 (by decide) lk0 (fun _ h9 => h9) rfl dX1_bidder_77 ?_
      refine va_getN (D := D) (ci := 0) (v := .ref ((A 1) 9)) (C := RX0) (T := TX0) (N := 13) hx hb hts hinH hown hK hP 1 rfl rfl 11 (by decide) (nW.f hN 10 rfl) (fun _ h9 => h9) rfl dX1_bidder_80 ?_
      refine lv_iload_n hx hb dX1_bidder_83 rfl (lv_at hl 1 rfl) ?_
      refine rS_io (As := [.ref ((A 1) 9), .int j1]) (rest := []) ⟨hx, hb, hml, hown, hts⟩ hK hN hA hP hD hS (c_X1_at l D cI 6 (by decide) ((A 1) 9) (xn 8) j1) (va_cwS 2 hts gX1_bidder_X1_at rfl rfl rfl hd_X1_at.2 ⟨Nat.le_of_ble_eq_true rfl, Nat.le_of_ble_eq_true rfl⟩) [10] (by decide) rfl rfl hl.1 rfl (Nat.le_of_ble_eq_true rfl) dX1_bidder_84 ⟨Nat.le_of_ble_eq_true rfl, Nat.le_of_ble_eq_true rfl⟩ (fun H locs hP hD hS => ?_)
      obtain rfl := Option.some.inj hf
      exact W.iret (v := (atv 6 (xn 8) j1)) hx hb hr (fun t ht hW => ⟨⟨(atv 6 (xn 8) j1), (), rfl, rfl, hPt ht hP⟩, hS.F ht⟩) hS.2.2 dX1_bidder_87
    have hf := hF hf c4
    by_cases c5 : j2 = (3 : Int32)
    · have hf := hT hf c5
      refine sw_in (v := 3) (off := 70) (tgt := 88) hx hb dX1_bidder_18 ((congrArg Int32.toInt c5).trans (by decide)) (by decide) (by decide) (by decide) (by decide) ?_
      refine lv_aload_n hx hb dX1_bidder_88 rfl (lv_at hl 0 rfl) ?_
      refine va_get (D := D) (ci := 1) (v := .ref ((A 1) 0)) (C := RX1) (T := TX1) (N := 9) hx hb hts hinX hown hK hP 0 rfl rfl 0 (by decide) lk0 (fun _ h9 => h9) rfl dX1_bidder_89 ?_
      refine va_getN (D := D) (ci := 0) (v := .ref ((A 1) 10)) (C := RX0) (T := TX0) (N := 13) hx hb hts hinH hown hK hP 1 rfl rfl 12 (by decide) (nW.f hN 11 rfl) (fun _ h9 => h9) rfl dX1_bidder_92 ?_
      refine lv_iload_n hx hb dX1_bidder_95 rfl (lv_at hl 1 rfl) ?_
      refine rS_io (As := [.ref ((A 1) 10), .int j1]) (rest := []) ⟨hx, hb, hml, hown, hts⟩ hK hN hA hP hD hS (c_X1_at l D cI 6 (by decide) ((A 1) 10) (xn 9) j1) (va_cwS 2 hts gX1_bidder_X1_at rfl rfl rfl hd_X1_at.2 ⟨Nat.le_of_ble_eq_true rfl, Nat.le_of_ble_eq_true rfl⟩) [11] (by decide) rfl rfl hl.1 rfl (Nat.le_of_ble_eq_true rfl) dX1_bidder_96 ⟨Nat.le_of_ble_eq_true rfl, Nat.le_of_ble_eq_true rfl⟩ (fun H locs hP hD hS => ?_)
      obtain rfl := Option.some.inj hf
      exact W.iret (v := (atv 6 (xn 9) j1)) hx hb hr (fun t ht hW => ⟨⟨(atv 6 (xn 9) j1), (), rfl, rfl, hPt ht hP⟩, hS.F ht⟩) hS.2.2 dX1_bidder_99
    have hf := hF hf c5
    by_cases c6 : j2 = (4 : Int32)
    · have hf := hT hf c6
      refine sw_in (v := 4) (off := 82) (tgt := 100) hx hb dX1_bidder_18 ((congrArg Int32.toInt c6).trans (by decide)) (by decide) (by decide) (by decide) (by decide) ?_
      refine lv_aload_n hx hb dX1_bidder_100 rfl (lv_at hl 0 rfl) ?_
      refine va_get (D := D) (ci := 1) (v := .ref ((A 1) 0)) (C := RX1) (T := TX1) (N := 9) hx hb hts hinX hown hK hP 0 rfl rfl 0 (by decide) lk0 (fun _ h9 => h9) rfl dX1_bidder_101 ?_
      refine lv_iload_n hx hb dX1_bidder_104 rfl (lv_at hl 1 rfl) ?_
      obtain ⟨v7, hev7, hf⟩ := bS hf
      refine rVN_io (As := [.int j1]) (rest := []) ⟨hx, hb, hml, hown, hts⟩ hK hN hA hP hD hS (c_X0_heldBits l D cI (A 1) j1 xn v7 hev7) ⟨va_cnB 1 hts gX1_bidder_X0_heldBits_n126 rfl rfl rfl (nW.m hN 21 rfl) lk1 hd_X0_heldBits.2 ⟨Nat.le_of_ble_eq_true rfl, Nat.le_of_ble_eq_true rfl⟩, lk4, lk5⟩ (va_recv hK hP (ci := 0) (q0 := 1) rfl rfl) [1, 2, 3, 4, 5, 6, 7, 8, 9, 10, 11] (by decide) rfl rfl hl.1 rfl (Nat.le_of_ble_eq_true rfl) dX1_bidder_105 ⟨Nat.le_of_ble_eq_true rfl, Nat.le_of_ble_eq_true rfl⟩ (fun H locs hP hD hS => ?_)
      obtain rfl := Option.some.inj hf
      exact W.iret (v := v7) hx hb hr (fun t ht hW => ⟨⟨v7, (), rfl, rfl, hPt ht hP⟩, hS.F ht⟩) hS.2.2 dX1_bidder_108
    have hf := hF hf c6
    refine lv_tableOut (tgt := 109) hx hb dX1_bidder_18 (by have z0 := lv_neT (a := 0) c2 (by decide); have z1 := lv_neT (a := 1) c3 (by decide); have z2 := lv_neT (a := 2) c4 (by decide); have z3 := lv_neT (a := 3) c5 (by decide); have z4 := lv_neT (a := 4) c6 (by decide); omega) (by decide) ?_
    refine lv_aload_n hx hb dX1_bidder_109 rfl (lv_at hl 0 rfl) ?_
    refine lv_bipush (v := (-2 : Int32)) hx hb dX1_bidder_110 (by decide) ?_
    obtain ⟨v8, hev8, hf⟩ := bS hf
    refine rV_i (ws' := (wX A cI v8.2 xn xm xk)) (As := [.int (-2 : Int32)]) (rest := []) ⟨hx, hb, hml, hown, hts⟩ hK hN hA hP hD hS (c_X1_refuse l D cI A (-2 : Int32) xx xn xm xk v8 hev8) (cwV 1 hts gX1_bidder_X1_refuse rfl rfl rfl hd_X1_refuse ⟨Nat.le_of_ble_eq_true rfl, Nat.le_of_ble_eq_true rfl⟩) (va_recv hK hP (ci := 1) (q0 := 0) rfl rfl) [0, 1, 2, 3, 4, 5, 6, 7, 8, 9, 10, 11, 12, 13, 14, 15, 16, 17, 18, 19, 20, 21, 22, 23, 24, 25, 26, 27, 28, 29, 30, 31, 32, 33, 34, 35, 36] (by decide) rfl rfl rfl rfl hl.1 rfl (Nat.le_of_ble_eq_true rfl) dX1_bidder_112 ⟨Nat.le_of_ble_eq_true rfl, Nat.le_of_ble_eq_true rfl⟩ (fun H locs hP hD hS => ?_)
    have hP : va_P D vwCl (wX A cI v8.2 xn xm xk) H := hP
    obtain rfl := Option.some.inj hf
    exact W.iret (v := v8.1) hx hb hr (fun t ht hW => ⟨⟨v8.1, (), rfl, rfl, hPt ht hP⟩, hS.F ht⟩) hS.2.2 dX1_bidder_115
  · have hf := hT hf c1
    refine lv_aload_n hx hb dX1_bidder_11 rfl (lv_at hl 0 rfl) ?_
    refine lv_iconst (v := (-1 : Int32)) hx hb dX1_bidder_12 (by decide) ?_
    obtain ⟨v9, hev9, hf⟩ := bS hf
    refine rV_i (ws' := (wX A cI v9.2 xn xm xk)) (As := [.int (-1 : Int32)]) (rest := []) ⟨hx, hb, hml, hown, hts⟩ hK hN hA hP hD hS (c_X1_refuse l D cI A (-1 : Int32) xx xn xm xk v9 hev9) (cwV 1 hts gX1_bidder_X1_refuse rfl rfl rfl hd_X1_refuse ⟨Nat.le_of_ble_eq_true rfl, Nat.le_of_ble_eq_true rfl⟩) (va_recv hK hP (ci := 1) (q0 := 0) rfl rfl) [0, 1, 2, 3, 4, 5, 6, 7, 8, 9, 10, 11, 12, 13, 14, 15, 16, 17, 18, 19, 20, 21, 22, 23, 24, 25, 26, 27, 28, 29, 30, 31, 32, 33, 34, 35, 36] (by decide) rfl rfl rfl rfl hl.1 rfl (Nat.le_of_ble_eq_true rfl) dX1_bidder_13 ⟨Nat.le_of_ble_eq_true rfl, Nat.le_of_ble_eq_true rfl⟩ (fun H locs hP hD hS => ?_)
    have hP : va_P D vwCl (wX A cI v9.2 xn xm xk) H := hP
    obtain rfl := Option.some.inj hf
    exact W.iret (v := v9.1) hx hb hr (fun t ht hW => ⟨⟨v9.1, (), rfl, rfl, hPt ht hP⟩, hS.F ht⟩) hS.2.2 dX1_bidder_16
def f_X1_bids (j1 : Int32) (j2 : Int32) (xx : HS) (xn : HS) (xm : HS) (xk : HS) : Option (Int32 × HS) := if (f_X0_hasBidder j1 xn) = 0 then (f_X1_refuse (-1 : Int32) xx xn xm xk).bind fun v2 => some (v2.1, v2.2) else if (f_X0_hasCard j2 xn) = 0 then (f_X1_refuse (-1 : Int32) xx xn xm xk).bind fun v4 => some (v4.1, v4.2) else some ((f_X0_most j1 j2 (f_X0_worth j2 xn) xn), xx)
set_option maxHeartbeats 4000000 in
set_option maxRecDepth 100000 in
theorem c_X1_bids (l : Launch) (D : va_G) (cI : ClassId) (A : Nat → Nat → Nat) (j1 : Int32) (j2 : Int32) (xx : HS) (xn : HS) (xm : HS) (xk : HS) (out : Int32 × HS) (hf : f_X1_bids j1 j2 xx xn xm xk = some out) : uI l D cI yX1_bids wsX1_bids ({ frames := 2, cells := 0, slots := 0, locals := 49 } : Room) [.ref ((A 0) 0), .int j1, .int j2] (wX A cI xx xn xm xk) (wX A cI out.2 xn xm xk) out.1 := by
  intro sz
  refine Met.ofW (cc := cX1_bids) (maxL := 3) (ret := (some .int)) (by decide) rfl ?_
  intro p e s m args below meth c s₁ Bd hml hv
  obtain ⟨rfl, hsz, hP, hK, hD0, hN⟩ := hv
  have hx := Bd.exec
  have hb := Bd.bytes
  have hr := Bd.returns
  have hts := atoms_spec (ws := wsX1_bids) Bd.pre
  have hown : s.vm.findClass RX1 = some m.cls := findClass_of_methodNamed Bd.named
  have hlocks := Bd.notSynchronized
  subst hsz
  have hD := hD0.self (sz := s.heap.size)
  generalize hAe : va_A (wX A cI xx xn xm xk) s.heap.size = G at hD ⊢
  have hA : ∀ q : Nat, s.heap.size ≤ q → G q := fun q h => by rw [← hAe]; exact Or.inr h
  have hS : va_S G s.heap s.heap [] := va_S.rf
  have hP : va_P D vwCl (wX A cI xx xn xm xk) s.heap := hP
  have hl := lv_entry ([.ref ((A 0) 0), .int j1, .int j2]) (n := 3) (Nat.le_of_ble_eq_true rfl)
  rw [lg_entry_eq]
  generalize (lg_sl ([.ref ((A 0) 0), .int j1, .int j2]) ++ List.replicate (3 - (lg_sl ([.ref ((A 0) 0), .int j1, .int j2])).length) Slot.unset).toArray = ls at hl ⊢
  have hl : lv_has ls 3 [(0, .ref ((A 0) 0)), (1, .int j1), (2, .int j2)] := hl
  have hinX : ∀ w ∈ wsX10, w ∈ wsX1_bids := by decide +kernel
  have lk0 := hts (.fieldLink RX1 10 "LiesBoughtBack" "now" "LLiesBoughtBack$Hall;") (by decide +kernel)
  have lk1 := hts (.initialized RX0) (by decide +kernel)
  have lk2 := hts (.instanceMethod yX0_hasBidder) (by decide +kernel)
  have lk3 := hts (.selects RX0 yX0_hasBidder yX0_hasBidder) (by decide +kernel)
  have lk4 := hts (.instanceMethod yX0_hasCard) (by decide +kernel)
  have lk5 := hts (.selects RX0 yX0_hasCard yX0_hasCard) (by decide +kernel)
  have lk6 := hts (.instanceMethod yX0_worth) (by decide +kernel)
  have lk7 := hts (.selects RX0 yX0_worth yX0_worth) (by decide +kernel)
  have lk8 := hts (.instanceMethod yX0_most) (by decide +kernel)
  have lk9 := hts (.selects RX0 yX0_most yX0_most) (by decide +kernel)
  refine W_in ?_
  intro WW hWW
  refine (hWW _ _ _).mpr ?_
  unfold f_X1_bids at hf
  refine lv_aload_n hx hb dX1_bids_0 rfl (lv_at hl 0 rfl) ?_
  refine va_get (D := D) (ci := 1) (v := .ref ((A 1) 0)) (C := RX1) (T := TX1) (N := 9) hx hb hts hinX hown hK hP 0 rfl rfl 0 (by decide) lk0 (fun _ h9 => h9) rfl dX1_bids_1 ?_
  refine lv_iload_n hx hb dX1_bids_4 rfl (lv_at hl 1 rfl) ?_
  refine rVN_io (As := [.int j1]) (rest := []) ⟨hx, hb, hml, hown, hts⟩ hK hN hA hP hD hS (c_X0_hasBidder l D cI (A 1) j1 xn (f_X0_hasBidder j1 xn) rfl) ⟨va_cnB 1 hts gX1_bids_X0_hasBidder_n59 rfl rfl rfl (nW.m hN 13 rfl) lk1 hd_X0_hasBidder.2 ⟨Nat.le_of_ble_eq_true rfl, Nat.le_of_ble_eq_true rfl⟩, lk2, lk3⟩ (va_recv hK hP (ci := 0) (q0 := 1) rfl rfl) [1, 2, 3, 4, 5, 6, 7, 8, 9, 10, 11] (by decide) rfl rfl hl.1 rfl (Nat.le_of_ble_eq_true rfl) dX1_bids_5 ⟨Nat.le_of_ble_eq_true rfl, Nat.le_of_ble_eq_true rfl⟩ (fun H locs hP hD hS => ?_)
  refine lv_if_eq (tgt := 22) hx hb dX1_bids_8 (by decide) (fun c1 => ?_) (fun c1 => ?_)
  · have hf := hT hf c1
    refine lv_aload_n hx hb dX1_bids_22 rfl (lv_at hl 0 rfl) ?_
    refine lv_iconst (v := (-1 : Int32)) hx hb dX1_bids_23 (by decide) ?_
    obtain ⟨v2, hev2, hf⟩ := bS hf
    refine rV_i (ws' := (wX A cI v2.2 xn xm xk)) (As := [.int (-1 : Int32)]) (rest := []) ⟨hx, hb, hml, hown, hts⟩ hK hN hA hP hD hS (c_X1_refuse l D cI A (-1 : Int32) xx xn xm xk v2 hev2) (cwV 1 hts gX1_bids_X1_refuse rfl rfl rfl hd_X1_refuse ⟨Nat.le_of_ble_eq_true rfl, Nat.le_of_ble_eq_true rfl⟩) (va_recv hK hP (ci := 1) (q0 := 0) rfl rfl) [0, 1, 2, 3, 4, 5, 6, 7, 8, 9, 10, 11, 12, 13, 14, 15, 16, 17, 18, 19, 20, 21, 22, 23, 24, 25, 26, 27, 28, 29, 30, 31, 32, 33, 34, 35, 36] (by decide) rfl rfl rfl rfl hl.1 rfl (Nat.le_of_ble_eq_true rfl) dX1_bids_24 ⟨Nat.le_of_ble_eq_true rfl, Nat.le_of_ble_eq_true rfl⟩ (fun H locs hP hD hS => ?_)
    have hP : va_P D vwCl (wX A cI v2.2 xn xm xk) H := hP
    obtain rfl := Option.some.inj hf
    exact W.iret (v := v2.1) hx hb hr (fun t ht hW => ⟨⟨v2.1, (), rfl, rfl, hPt ht hP⟩, hS.F ht⟩) hS.2.2 dX1_bids_27
  · have hf := hF hf c1
    refine lv_aload_n hx hb dX1_bids_11 rfl (lv_at hl 0 rfl) ?_
    refine va_get (D := D) (ci := 1) (v := .ref ((A 1) 0)) (C := RX1) (T := TX1) (N := 9) hx hb hts hinX hown hK hP 0 rfl rfl 0 (by decide) lk0 (fun _ h9 => h9) rfl dX1_bids_12 ?_
    refine lv_iload_n hx hb dX1_bids_15 rfl (lv_at hl 2 rfl) ?_
    refine rVN_io (As := [.int j2]) (rest := []) ⟨hx, hb, hml, hown, hts⟩ hK hN hA hP hD hS (c_X0_hasCard l D cI (A 1) j2 xn (f_X0_hasCard j2 xn) rfl) ⟨va_cnB 1 hts gX1_bids_X0_hasCard_n69 rfl rfl rfl (nW.m hN 14 rfl) lk1 hd_X0_hasCard.2 ⟨Nat.le_of_ble_eq_true rfl, Nat.le_of_ble_eq_true rfl⟩, lk4, lk5⟩ (va_recv hK hP (ci := 0) (q0 := 1) rfl rfl) [1, 2, 3, 4, 5, 6, 7, 8, 9, 10, 11] (by decide) rfl rfl hl.1 rfl (Nat.le_of_ble_eq_true rfl) dX1_bids_16 ⟨Nat.le_of_ble_eq_true rfl, Nat.le_of_ble_eq_true rfl⟩ (fun H locs hP hD hS => ?_)
    refine lv_if_ne (tgt := 28) hx hb dX1_bids_19 (by decide) (fun c3 => ?_) (fun c3 => ?_)
    · have hf := hF hf c3
      refine lv_aload_n hx hb dX1_bids_28 rfl (lv_at hl 0 rfl) ?_
      refine va_get (D := D) (ci := 1) (v := .ref ((A 1) 0)) (C := RX1) (T := TX1) (N := 9) hx hb hts hinX hown hK hP 0 rfl rfl 0 (by decide) lk0 (fun _ h9 => h9) rfl dX1_bids_29 ?_
      refine lv_iload_n hx hb dX1_bids_32 rfl (lv_at hl 1 rfl) ?_
      refine lv_iload_n hx hb dX1_bids_33 rfl (lv_at hl 2 rfl) ?_
      refine lv_aload_n hx hb dX1_bids_34 rfl (lv_at hl 0 rfl) ?_
      refine va_get (D := D) (ci := 1) (v := .ref ((A 1) 0)) (C := RX1) (T := TX1) (N := 9) hx hb hts hinX hown hK hP 0 rfl rfl 0 (by decide) lk0 (fun _ h9 => h9) rfl dX1_bids_35 ?_
      refine lv_iload_n hx hb dX1_bids_38 rfl (lv_at hl 2 rfl) ?_
      refine rVN_io (As := [.int j2]) (rest := [.int j2, .int j1, .ref ((A 1) 0)]) ⟨hx, hb, hml, hown, hts⟩ hK hN hA hP hD hS (c_X0_worth l D cI (A 1) j2 xn (f_X0_worth j2 xn) rfl) ⟨va_cnB 1 hts gX1_bids_X0_worth_n117 rfl rfl rfl (nW.m hN 19 rfl) lk1 hd_X0_worth.2 ⟨Nat.le_of_ble_eq_true rfl, Nat.le_of_ble_eq_true rfl⟩, lk6, lk7⟩ (va_recv hK hP (ci := 0) (q0 := 1) rfl rfl) [1, 2, 3, 4, 5, 6, 7, 8, 9, 10, 11] (by decide) rfl rfl hl.1 rfl (Nat.le_of_ble_eq_true rfl) dX1_bids_39 ⟨Nat.le_of_ble_eq_true rfl, Nat.le_of_ble_eq_true rfl⟩ (fun H locs hP hD hS => ?_)
      refine rVN_io (As := [.int j1, .int j2, .int (f_X0_worth j2 xn)]) (rest := []) ⟨hx, hb, hml, hown, hts⟩ hK hN hA hP hD hS (c_X0_most l D cI (A 1) j1 j2 (f_X0_worth j2 xn) xn (f_X0_most j1 j2 (f_X0_worth j2 xn) xn) rfl) ⟨va_cnB 3 hts gX1_bids_X0_most_n129 rfl rfl rfl (nW.m hN 22 rfl) lk1 hd_X0_most.2 ⟨Nat.le_of_ble_eq_true rfl, Nat.le_of_ble_eq_true rfl⟩, lk8, lk9⟩ (va_recv hK hP (ci := 0) (q0 := 1) rfl rfl) [1, 2, 3, 4, 5, 6, 7, 8, 9, 10, 11] (by decide) rfl rfl hl.1 rfl (Nat.le_of_ble_eq_true rfl) dX1_bids_42 ⟨Nat.le_of_ble_eq_true rfl, Nat.le_of_ble_eq_true rfl⟩ (fun H locs hP hD hS => ?_)
      obtain rfl := Option.some.inj hf
      exact W.iret (v := (f_X0_most j1 j2 (f_X0_worth j2 xn) xn)) hx hb hr (fun t ht hW => ⟨⟨(f_X0_most j1 j2 (f_X0_worth j2 xn) xn), (), rfl, rfl, hPt ht hP⟩, hS.F ht⟩) hS.2.2 dX1_bids_45
    · have hf := hT hf c3
      refine lv_aload_n hx hb dX1_bids_22 rfl (lv_at hl 0 rfl) ?_
      refine lv_iconst (v := (-1 : Int32)) hx hb dX1_bids_23 (by decide) ?_
      obtain ⟨v4, hev4, hf⟩ := bS hf
      refine rV_i (ws' := (wX A cI v4.2 xn xm xk)) (As := [.int (-1 : Int32)]) (rest := []) ⟨hx, hb, hml, hown, hts⟩ hK hN hA hP hD hS (c_X1_refuse l D cI A (-1 : Int32) xx xn xm xk v4 hev4) (cwV 1 hts gX1_bids_X1_refuse rfl rfl rfl hd_X1_refuse ⟨Nat.le_of_ble_eq_true rfl, Nat.le_of_ble_eq_true rfl⟩) (va_recv hK hP (ci := 1) (q0 := 0) rfl rfl) [0, 1, 2, 3, 4, 5, 6, 7, 8, 9, 10, 11, 12, 13, 14, 15, 16, 17, 18, 19, 20, 21, 22, 23, 24, 25, 26, 27, 28, 29, 30, 31, 32, 33, 34, 35, 36] (by decide) rfl rfl rfl rfl hl.1 rfl (Nat.le_of_ble_eq_true rfl) dX1_bids_24 ⟨Nat.le_of_ble_eq_true rfl, Nat.le_of_ble_eq_true rfl⟩ (fun H locs hP hD hS => ?_)
      have hP : va_P D vwCl (wX A cI v4.2 xn xm xk) H := hP
      obtain rfl := Option.some.inj hf
      exact W.iret (v := v4.1) hx hb hr (fun t ht hW => ⟨⟨v4.1, (), rfl, rfl, hPt ht hP⟩, hS.F ht⟩) hS.2.2 dX1_bids_27
def f_X1_gets (j1 : Int32) (j2 : Int32) (xx : HS) (xn : HS) (xm : HS) (xk : HS) : Option (Int32 × HS) := if (f_X0_hasCard j1 xn) = 0 then (f_X1_refuse (-1 : Int32) xx xn xm xk).bind fun v9 => some (v9.1, v9.2) else if j2 < 0 then (f_X1_refuse (-2 : Int32) xx xn xm xk).bind fun v3 => some (v3.1, v3.2) else if j2 ≤ (1 : Int32) then (f_X0_deal j1 (0 : Int32) xn).bind fun v5 => if 0 ≤ v5 then if j2 = 0 then some ((v5 / (1000 : Int32)), xx) else some ((v5 - v5 / (1000 : Int32) * (1000 : Int32)), xx) else some ((-9 : Int32), xx) else (f_X1_refuse (-2 : Int32) xx xn xm xk).bind fun v8 => some (v8.1, v8.2)
set_option maxHeartbeats 4000000 in
set_option maxRecDepth 100000 in
theorem c_X1_gets (l : Launch) (D : va_G) (cI : ClassId) (A : Nat → Nat → Nat) (j1 : Int32) (j2 : Int32) (xx : HS) (xn : HS) (xm : HS) (xk : HS) (out : Int32 × HS) (hf : f_X1_gets j1 j2 xx xn xm xk = some out) : uI l D cI yX1_gets wsX1_gets ({ frames := 3, cells := 0, slots := 0, locals := 77 } : Room) [.ref ((A 0) 0), .int j1, .int j2] (wX A cI xx xn xm xk) (wX A cI out.2 xn xm xk) out.1 := by
  intro sz
  refine Met.ofW (cc := cX1_gets) (maxL := 4) (ret := (some .int)) (by decide) rfl ?_
  intro p e s m args below meth c s₁ Bd hml hv
  obtain ⟨rfl, hsz, hP, hK, hD0, hN⟩ := hv
  have hx := Bd.exec
  have hb := Bd.bytes
  have hr := Bd.returns
  have hts := atoms_spec (ws := wsX1_gets) Bd.pre
  have hown : s.vm.findClass RX1 = some m.cls := findClass_of_methodNamed Bd.named
  have hlocks := Bd.notSynchronized
  subst hsz
  have hD := hD0.self (sz := s.heap.size)
  generalize hAe : va_A (wX A cI xx xn xm xk) s.heap.size = G at hD ⊢
  have hA : ∀ q : Nat, s.heap.size ≤ q → G q := fun q h => by rw [← hAe]; exact Or.inr h
  have hS : va_S G s.heap s.heap [] := va_S.rf
  have hP : va_P D vwCl (wX A cI xx xn xm xk) s.heap := hP
  have hl := lv_entry ([.ref ((A 0) 0), .int j1, .int j2]) (n := 4) (Nat.le_of_ble_eq_true rfl)
  rw [lg_entry_eq]
  generalize (lg_sl ([.ref ((A 0) 0), .int j1, .int j2]) ++ List.replicate (4 - (lg_sl ([.ref ((A 0) 0), .int j1, .int j2])).length) Slot.unset).toArray = ls at hl ⊢
  have hl : lv_has ls 4 [(0, .ref ((A 0) 0)), (1, .int j1), (2, .int j2)] := hl
  have hinX : ∀ w ∈ wsX10, w ∈ wsX1_gets := by decide +kernel
  have lk0 := hts (.fieldLink RX1 10 "LiesBoughtBack" "now" "LLiesBoughtBack$Hall;") (by decide +kernel)
  have lk1 := hts (.initialized RX0) (by decide +kernel)
  have lk2 := hts (.instanceMethod yX0_hasCard) (by decide +kernel)
  have lk3 := hts (.selects RX0 yX0_hasCard yX0_hasCard) (by decide +kernel)
  have lk4 := hts (.instanceMethod yX0_deal) (by decide +kernel)
  have lk5 := hts (.selects RX0 yX0_deal yX0_deal) (by decide +kernel)
  refine W_in ?_
  intro WW hWW
  refine (hWW _ _ _).mpr ?_
  unfold f_X1_gets at hf
  refine lv_aload_n hx hb dX1_gets_0 rfl (lv_at hl 0 rfl) ?_
  refine va_get (D := D) (ci := 1) (v := .ref ((A 1) 0)) (C := RX1) (T := TX1) (N := 9) hx hb hts hinX hown hK hP 0 rfl rfl 0 (by decide) lk0 (fun _ h9 => h9) rfl dX1_gets_1 ?_
  refine lv_iload_n hx hb dX1_gets_4 rfl (lv_at hl 1 rfl) ?_
  refine rVN_io (As := [.int j1]) (rest := []) ⟨hx, hb, hml, hown, hts⟩ hK hN hA hP hD hS (c_X0_hasCard l D cI (A 1) j1 xn (f_X0_hasCard j1 xn) rfl) ⟨va_cnB 1 hts gX1_gets_X0_hasCard_n69 rfl rfl rfl (nW.m hN 14 rfl) lk1 hd_X0_hasCard.2 ⟨Nat.le_of_ble_eq_true rfl, Nat.le_of_ble_eq_true rfl⟩, lk2, lk3⟩ (va_recv hK hP (ci := 0) (q0 := 1) rfl rfl) [1, 2, 3, 4, 5, 6, 7, 8, 9, 10, 11] (by decide) rfl rfl hl.1 rfl (Nat.le_of_ble_eq_true rfl) dX1_gets_5 ⟨Nat.le_of_ble_eq_true rfl, Nat.le_of_ble_eq_true rfl⟩ (fun H locs hP hD hS => ?_)
  refine lv_if_ne (tgt := 17) hx hb dX1_gets_8 (by decide) (fun c1 => ?_) (fun c1 => ?_)
  · have hf := hF hf c1
    refine lv_iload_n hx hb dX1_gets_17 rfl (lv_at hl 2 rfl) ?_
    refine lv_if_lt (tgt := 26) hx hb dX1_gets_18 (by decide) (fun c2 => ?_) (fun c2 => ?_)
    · have hf := hT hf c2
      refine lv_aload_n hx hb dX1_gets_26 rfl (lv_at hl 0 rfl) ?_
      refine lv_bipush (v := (-2 : Int32)) hx hb dX1_gets_27 (by decide) ?_
      obtain ⟨v3, hev3, hf⟩ := bS hf
      refine rV_i (ws' := (wX A cI v3.2 xn xm xk)) (As := [.int (-2 : Int32)]) (rest := []) ⟨hx, hb, hml, hown, hts⟩ hK hN hA hP hD hS (c_X1_refuse l D cI A (-2 : Int32) xx xn xm xk v3 hev3) (cwV 1 hts gX1_gets_X1_refuse rfl rfl rfl hd_X1_refuse ⟨Nat.le_of_ble_eq_true rfl, Nat.le_of_ble_eq_true rfl⟩) (va_recv hK hP (ci := 1) (q0 := 0) rfl rfl) [0, 1, 2, 3, 4, 5, 6, 7, 8, 9, 10, 11, 12, 13, 14, 15, 16, 17, 18, 19, 20, 21, 22, 23, 24, 25, 26, 27, 28, 29, 30, 31, 32, 33, 34, 35, 36] (by decide) rfl rfl rfl rfl hl.1 rfl (Nat.le_of_ble_eq_true rfl) dX1_gets_29 ⟨Nat.le_of_ble_eq_true rfl, Nat.le_of_ble_eq_true rfl⟩ (fun H locs hP hD hS => ?_)
      have hP : va_P D vwCl (wX A cI v3.2 xn xm xk) H := hP
      obtain rfl := Option.some.inj hf
      exact W.iret (v := v3.1) hx hb hr (fun t ht hW => ⟨⟨v3.1, (), rfl, rfl, hPt ht hP⟩, hS.F ht⟩) hS.2.2 dX1_gets_32
    · have hf := hF hf c2
      refine lv_iload_n hx hb dX1_gets_21 rfl (lv_at hl 2 rfl) ?_
      refine lv_iconst (v := (1 : Int32)) hx hb dX1_gets_22 (by decide) ?_
      refine lv_icmp_le (tgt := 33) hx hb dX1_gets_23 (by decide) (fun c4 => ?_) (fun c4 => ?_)
      · have hf := hT hf c4
        refine lv_aload_n hx hb dX1_gets_33 rfl (lv_at hl 0 rfl) ?_
        refine va_get (D := D) (ci := 1) (v := .ref ((A 1) 0)) (C := RX1) (T := TX1) (N := 9) hx hb hts hinX hown hK hP 0 rfl rfl 0 (by decide) lk0 (fun _ h9 => h9) rfl dX1_gets_34 ?_
        refine lv_iload_n hx hb dX1_gets_37 rfl (lv_at hl 1 rfl) ?_
        refine lv_iconst (v := (0 : Int32)) hx hb dX1_gets_38 (by decide) ?_
        obtain ⟨v5, hev5, hf⟩ := bS hf
        refine rVN_io (As := [.int j1, .int (0 : Int32)]) (rest := []) ⟨hx, hb, hml, hown, hts⟩ hK hN hA hP hD hS (c_X0_deal l D cI (A 1) j1 (0 : Int32) xn v5 hev5) ⟨va_cnB 2 hts gX1_gets_X0_deal_n132 rfl rfl rfl (nW.m hN 23 rfl) lk1 hd_X0_deal.2 ⟨Nat.le_of_ble_eq_true rfl, Nat.le_of_ble_eq_true rfl⟩, lk4, lk5⟩ (va_recv hK hP (ci := 0) (q0 := 1) rfl rfl) [1, 2, 3, 4, 5, 6, 7, 8, 9, 10, 11] (by decide) rfl rfl hl.1 rfl (Nat.le_of_ble_eq_true rfl) dX1_gets_39 ⟨Nat.le_of_ble_eq_true rfl, Nat.le_of_ble_eq_true rfl⟩ (fun H locs hP hD hS => ?_)
        refine lv_istore_n (lv' := [(3, .int v5), (0, .ref ((A 0) 0)), (1, .int j1), (2, .int j2)]) hx hb dX1_gets_42 rfl hl (by decide) rfl (fun ls hl => ?_)
        refine lv_iload_n hx hb dX1_gets_43 rfl (lv_at hl 0 rfl) ?_
        refine lv_if_ge (tgt := 50) hx hb dX1_gets_44 (by decide) (fun c6 => ?_) (fun c6 => ?_)
        · have hf := hT hf c6
          refine lv_iload_n hx hb dX1_gets_50 rfl (lv_at hl 3 rfl) ?_
          refine lv_if_ne (tgt := 62) hx hb dX1_gets_51 (by decide) (fun c7 => ?_) (fun c7 => ?_)
          · have hf := hF hf c7
            refine lv_iload_n hx hb dX1_gets_62 rfl (lv_at hl 0 rfl) ?_
            refine lv_sipush (v := (1000 : Int32)) hx hb dX1_gets_63 (by decide) ?_
            refine lv_irem hx hb dX1_gets_66 (by decide) ?_
            obtain rfl := Option.some.inj hf
            exact W.iret (v := (v5 - v5 / (1000 : Int32) * (1000 : Int32))) hx hb hr (fun t ht hW => ⟨⟨(v5 - v5 / (1000 : Int32) * (1000 : Int32)), (), rfl, rfl, hPt ht hP⟩, hS.F ht⟩) hS.2.2 dX1_gets_67
          · have hf := hT hf c7
            refine lv_iload_n hx hb dX1_gets_54 rfl (lv_at hl 0 rfl) ?_
            refine lv_sipush (v := (1000 : Int32)) hx hb dX1_gets_55 (by decide) ?_
            refine lv_idiv hx hb dX1_gets_58 (by decide) ?_
            refine lv_goto (tgt := 67) hx hb dX1_gets_59 (by decide) ?_
            obtain rfl := Option.some.inj hf
            exact W.iret (v := (v5 / (1000 : Int32))) hx hb hr (fun t ht hW => ⟨⟨(v5 / (1000 : Int32)), (), rfl, rfl, hPt ht hP⟩, hS.F ht⟩) hS.2.2 dX1_gets_67
        · have hf := hF hf c6
          refine lv_bipush (v := (-9 : Int32)) hx hb dX1_gets_47 (by decide) ?_
          obtain rfl := Option.some.inj hf
          exact W.iret (v := (-9 : Int32)) hx hb hr (fun t ht hW => ⟨⟨(-9 : Int32), (), rfl, rfl, hPt ht hP⟩, hS.F ht⟩) hS.2.2 dX1_gets_49
      · have hf := hF hf c4
        refine lv_aload_n hx hb dX1_gets_26 rfl (lv_at hl 0 rfl) ?_
        refine lv_bipush (v := (-2 : Int32)) hx hb dX1_gets_27 (by decide) ?_
        obtain ⟨v8, hev8, hf⟩ := bS hf
        refine rV_i (ws' := (wX A cI v8.2 xn xm xk)) (As := [.int (-2 : Int32)]) (rest := []) ⟨hx, hb, hml, hown, hts⟩ hK hN hA hP hD hS (c_X1_refuse l D cI A (-2 : Int32) xx xn xm xk v8 hev8) (cwV 1 hts gX1_gets_X1_refuse rfl rfl rfl hd_X1_refuse ⟨Nat.le_of_ble_eq_true rfl, Nat.le_of_ble_eq_true rfl⟩) (va_recv hK hP (ci := 1) (q0 := 0) rfl rfl) [0, 1, 2, 3, 4, 5, 6, 7, 8, 9, 10, 11, 12, 13, 14, 15, 16, 17, 18, 19, 20, 21, 22, 23, 24, 25, 26, 27, 28, 29, 30, 31, 32, 33, 34, 35, 36] (by decide) rfl rfl rfl rfl hl.1 rfl (Nat.le_of_ble_eq_true rfl) dX1_gets_29 ⟨Nat.le_of_ble_eq_true rfl, Nat.le_of_ble_eq_true rfl⟩ (fun H locs hP hD hS => ?_)
        have hP : va_P D vwCl (wX A cI v8.2 xn xm xk) H := hP
        obtain rfl := Option.some.inj hf
        exact W.iret (v := v8.1) hx hb hr (fun t ht hW => ⟨⟨v8.1, (), rfl, rfl, hPt ht hP⟩, hS.F ht⟩) hS.2.2 dX1_gets_32
  · have hf := hT hf c1
    refine lv_aload_n hx hb dX1_gets_11 rfl (lv_at hl 0 rfl) ?_
    refine lv_iconst (v := (-1 : Int32)) hx hb dX1_gets_12 (by decide) ?_
    obtain ⟨v9, hev9, hf⟩ := bS hf
    refine rV_i (ws' := (wX A cI v9.2 xn xm xk)) (As := [.int (-1 : Int32)]) (rest := []) ⟨hx, hb, hml, hown, hts⟩ hK hN hA hP hD hS (c_X1_refuse l D cI A (-1 : Int32) xx xn xm xk v9 hev9) (cwV 1 hts gX1_gets_X1_refuse rfl rfl rfl hd_X1_refuse ⟨Nat.le_of_ble_eq_true rfl, Nat.le_of_ble_eq_true rfl⟩) (va_recv hK hP (ci := 1) (q0 := 0) rfl rfl) [0, 1, 2, 3, 4, 5, 6, 7, 8, 9, 10, 11, 12, 13, 14, 15, 16, 17, 18, 19, 20, 21, 22, 23, 24, 25, 26, 27, 28, 29, 30, 31, 32, 33, 34, 35, 36] (by decide) rfl rfl rfl rfl hl.1 rfl (Nat.le_of_ble_eq_true rfl) dX1_gets_13 ⟨Nat.le_of_ble_eq_true rfl, Nat.le_of_ble_eq_true rfl⟩ (fun H locs hP hD hS => ?_)
    have hP : va_P D vwCl (wX A cI v9.2 xn xm xk) H := hP
    obtain rfl := Option.some.inj hf
    exact W.iret (v := v9.1) hx hb hr (fun t ht hW => ⟨⟨v9.1, (), rfl, rfl, hPt ht hP⟩, hS.F ht⟩) hS.2.2 dX1_gets_16
def f_X1_riches (j1 : Int32) (j2 : Int32) (xx : HS) (xn : HS) (xm : HS) (xk : HS) : Int32 := if j2 = (0 : Int32) then (atv 6 (xn 8) j1) else (if j2 = (1 : Int32) then (atv 6 (xn 9) j1) else ((f_X0_worth j1 xn)))
set_option maxHeartbeats 4000000 in
set_option maxRecDepth 100000 in
theorem c_X1_riches (l : Launch) (D : va_G) (cI : ClassId) (A : Nat → Nat → Nat) (j1 : Int32) (j2 : Int32) (xx : HS) (xn : HS) (xm : HS) (xk : HS) (out : Int32) (hf : f_X1_riches j1 j2 xx xn xm xk = out) : uI l D cI yX1_riches wsX1_riches ({ frames := 2, cells := 0, slots := 0, locals := 44 } : Room) [.ref ((A 0) 0), .int j1, .int j2] (wX A cI xx xn xm xk) (wX A cI xx xn xm xk) out := by
  intro sz
  refine Met.ofW (cc := cX1_riches) (maxL := 3) (ret := (some .int)) (by decide) rfl ?_
  intro p e s m args below meth c s₁ Bd hml hv
  obtain ⟨rfl, hsz, hP, hK, hD0, hN⟩ := hv
  have hx := Bd.exec
  have hb := Bd.bytes
  have hr := Bd.returns
  have hts := atoms_spec (ws := wsX1_riches) Bd.pre
  have hown : s.vm.findClass RX1 = some m.cls := findClass_of_methodNamed Bd.named
  have hlocks := Bd.notSynchronized
  subst hsz
  have hD := hD0.self (sz := s.heap.size)
  generalize hAe : va_A (wX A cI xx xn xm xk) s.heap.size = G at hD ⊢
  have hA : ∀ q : Nat, s.heap.size ≤ q → G q := fun q h => by rw [← hAe]; exact Or.inr h
  have hS : va_S G s.heap s.heap [] := va_S.rf
  have hP : va_P D vwCl (wX A cI xx xn xm xk) s.heap := hP
  have hl := lv_entry ([.ref ((A 0) 0), .int j1, .int j2]) (n := 3) (Nat.le_of_ble_eq_true rfl)
  rw [lg_entry_eq]
  generalize (lg_sl ([.ref ((A 0) 0), .int j1, .int j2]) ++ List.replicate (3 - (lg_sl ([.ref ((A 0) 0), .int j1, .int j2])).length) Slot.unset).toArray = ls at hl ⊢
  have hl : lv_has ls 3 [(0, .ref ((A 0) 0)), (1, .int j1), (2, .int j2)] := hl
  have hinH : ∀ w ∈ wsX00, w ∈ wsX1_riches := by decide +kernel
  have hinX : ∀ w ∈ wsX10, w ∈ wsX1_riches := by decide +kernel
  have lk0 := hts (.fieldLink RX1 10 "LiesBoughtBack" "now" "LLiesBoughtBack$Hall;") (by decide +kernel)
  have lk1 := hts (.initialized RX0) (by decide +kernel)
  have lk2 := hts (.instanceMethod yX0_worth) (by decide +kernel)
  have lk3 := hts (.selects RX0 yX0_worth yX0_worth) (by decide +kernel)
  refine W_in ?_
  intro WW hWW
  refine (hWW _ _ _).mpr ?_
  unfold f_X1_riches at hf
  refine lv_iload_n hx hb dX1_riches_0 rfl (lv_at hl 2 rfl) ?_
  by_cases c1 : j2 = (0 : Int32)
  · have hf := hT hf c1
    refine lv_lookup (off := 27) (tgt := 28) hx hb dX1_riches_1 (by decide) (by rw [((congrArg Int32.toInt c1).trans (by decide))]; decide) (by decide) ?_
    refine lv_aload_n hx hb dX1_riches_28 rfl (lv_at hl 0 rfl) ?_
    refine va_get (D := D) (ci := 1) (v := .ref ((A 1) 0)) (C := RX1) (T := TX1) (N := 9) hx hb hts hinX hown hK hP 0 rfl rfl 0 (by decide) lk0 (fun _ h9 => h9) rfl dX1_riches_29 ?_
    refine va_getN (D := D) (ci := 0) (v := .ref ((A 1) 9)) (C := RX0) (T := TX0) (N := 13) hx hb hts hinH hown hK hP 1 rfl rfl 11 (by decide) (nW.f hN 10 rfl) (fun _ h9 => h9) rfl dX1_riches_32 ?_
    refine lv_iload_n hx hb dX1_riches_35 rfl (lv_at hl 1 rfl) ?_
    refine rS_io (As := [.ref ((A 1) 9), .int j1]) (rest := []) ⟨hx, hb, hml, hown, hts⟩ hK hN hA hP hD hS (c_X1_at l D cI 6 (by decide) ((A 1) 9) (xn 8) j1) (va_cwS 2 hts gX1_riches_X1_at rfl rfl rfl hd_X1_at.2 ⟨Nat.le_of_ble_eq_true rfl, Nat.le_of_ble_eq_true rfl⟩) [10] (by decide) rfl rfl hl.1 rfl (Nat.le_of_ble_eq_true rfl) dX1_riches_36 ⟨Nat.le_of_ble_eq_true rfl, Nat.le_of_ble_eq_true rfl⟩ (fun H locs hP hD hS => ?_)
    subst hf
    exact W.iret (v := (atv 6 (xn 8) j1)) hx hb hr (fun t ht hW => ⟨⟨(atv 6 (xn 8) j1), (), rfl, rfl, hPt ht hP⟩, hS.F ht⟩) hS.2.2 dX1_riches_39
  have hf := hF hf c1
  by_cases c2 : j2 = (1 : Int32)
  · have hf := hT hf c2
    refine lv_lookup (off := 39) (tgt := 40) hx hb dX1_riches_1 (by decide) (by rw [((congrArg Int32.toInt c2).trans (by decide))]; decide) (by decide) ?_
    refine lv_aload_n hx hb dX1_riches_40 rfl (lv_at hl 0 rfl) ?_
    refine va_get (D := D) (ci := 1) (v := .ref ((A 1) 0)) (C := RX1) (T := TX1) (N := 9) hx hb hts hinX hown hK hP 0 rfl rfl 0 (by decide) lk0 (fun _ h9 => h9) rfl dX1_riches_41 ?_
    refine va_getN (D := D) (ci := 0) (v := .ref ((A 1) 10)) (C := RX0) (T := TX0) (N := 13) hx hb hts hinH hown hK hP 1 rfl rfl 12 (by decide) (nW.f hN 11 rfl) (fun _ h9 => h9) rfl dX1_riches_44 ?_
    refine lv_iload_n hx hb dX1_riches_47 rfl (lv_at hl 1 rfl) ?_
    refine rS_io (As := [.ref ((A 1) 10), .int j1]) (rest := []) ⟨hx, hb, hml, hown, hts⟩ hK hN hA hP hD hS (c_X1_at l D cI 6 (by decide) ((A 1) 10) (xn 9) j1) (va_cwS 2 hts gX1_riches_X1_at rfl rfl rfl hd_X1_at.2 ⟨Nat.le_of_ble_eq_true rfl, Nat.le_of_ble_eq_true rfl⟩) [11] (by decide) rfl rfl hl.1 rfl (Nat.le_of_ble_eq_true rfl) dX1_riches_48 ⟨Nat.le_of_ble_eq_true rfl, Nat.le_of_ble_eq_true rfl⟩ (fun H locs hP hD hS => ?_)
    subst hf
    exact W.iret (v := (atv 6 (xn 9) j1)) hx hb hr (fun t ht hW => ⟨⟨(atv 6 (xn 9) j1), (), rfl, rfl, hPt ht hP⟩, hS.F ht⟩) hS.2.2 dX1_riches_51
  have hf := hF hf c2
  refine lv_lookup (off := 51) (tgt := 52) hx hb dX1_riches_1 (by decide) ((lv_osw c1 (by decide)).trans ((lv_osw c2 (by decide)).trans rfl)) (by decide) ?_
  refine lv_aload_n hx hb dX1_riches_52 rfl (lv_at hl 0 rfl) ?_
  refine va_get (D := D) (ci := 1) (v := .ref ((A 1) 0)) (C := RX1) (T := TX1) (N := 9) hx hb hts hinX hown hK hP 0 rfl rfl 0 (by decide) lk0 (fun _ h9 => h9) rfl dX1_riches_53 ?_
  refine lv_iload_n hx hb dX1_riches_56 rfl (lv_at hl 1 rfl) ?_
  refine rVN_io (As := [.int j1]) (rest := []) ⟨hx, hb, hml, hown, hts⟩ hK hN hA hP hD hS (c_X0_worth l D cI (A 1) j1 xn (f_X0_worth j1 xn) rfl) ⟨va_cnB 1 hts gX1_riches_X0_worth_n117 rfl rfl rfl (nW.m hN 19 rfl) lk1 hd_X0_worth.2 ⟨Nat.le_of_ble_eq_true rfl, Nat.le_of_ble_eq_true rfl⟩, lk2, lk3⟩ (va_recv hK hP (ci := 0) (q0 := 1) rfl rfl) [1, 2, 3, 4, 5, 6, 7, 8, 9, 10, 11] (by decide) rfl rfl hl.1 rfl (Nat.le_of_ble_eq_true rfl) dX1_riches_57 ⟨Nat.le_of_ble_eq_true rfl, Nat.le_of_ble_eq_true rfl⟩ (fun H locs hP hD hS => ?_)
  subst hf
  exact W.iret (v := (f_X0_worth j1 xn)) hx hb hr (fun t ht hW => ⟨⟨(f_X0_worth j1 xn), (), rfl, rfl, hPt ht hP⟩, hS.F ht⟩) hS.2.2 dX1_riches_60
def L_X1_richest_48 (j1 : Int32) (xn : HS) (xm : HS) (xk : HS) (K83 : Int32 → HS → Option (Int32 × HS)) : Nat → Int32 → Int32 → Int32 → Int32 → HS → Option (Int32 × HS)
  | 0, _, _, _, _, _ => none
  | n' + 1, j2_48, j3_48, j4_48, j5_48, xx_48 => if j2_48 ≤ j5_48 then (K83 j3_48 xx_48) else if (f_X1_riches j5_48 j1 xx_48 xn xm xk) ≤ j4_48 then (L_X1_richest_48 j1 xn xm xk K83 n' j2_48 j3_48 j4_48 (j5_48 + (1 : Int32)) xx_48) else (L_X1_richest_48 j1 xn xm xk K83 n' j2_48 j5_48 (f_X1_riches j5_48 j1 xx_48 xn xm xk) (j5_48 + (1 : Int32)) xx_48)
def f_X1_richest (j1 : Int32) (xx : HS) (xn : HS) (xm : HS) (xk : HS) : Option (Int32 × HS) := if j1 < 0 then (f_X1_refuse (-2 : Int32) xx xn xm xk).bind fun v2 => some (v2.1, v2.2) else if j1 ≤ (2 : Int32) then if j1 = (2 : Int32) then jn (fun (j3_83 : Int32) (xx_83 : HS) => some (j3_83, xx_83)) (fun (K83 : Int32 → HS → Option (Int32 × HS)) => (L_X1_richest_48 j1 xn xm xk K83 fuel (xn 10 0) (-9 : Int32) (-1 : Int32) (0 : Int32) xx)) else jn (fun (j3_83 : Int32) (xx_83 : HS) => some (j3_83, xx_83)) (fun (K83 : Int32 → HS → Option (Int32 × HS)) => (L_X1_richest_48 j1 xn xm xk K83 fuel (xn 11 0) (-9 : Int32) (-1 : Int32) (0 : Int32) xx)) else (f_X1_refuse (-2 : Int32) xx xn xm xk).bind fun v9 => some (v9.1, v9.2)
set_option maxHeartbeats 4000000 in
set_option maxRecDepth 100000 in
theorem c_X1_richest (l : Launch) (D : va_G) (cI : ClassId) (A : Nat → Nat → Nat) (j1 : Int32) (xx : HS) (xn : HS) (xm : HS) (xk : HS) (out : Int32 × HS) (hf : f_X1_richest j1 xx xn xm xk = some out) : uI l D cI yX1_richest wsX1_richest ({ frames := 3, cells := 0, slots := 0, locals := 66 } : Room) [.ref ((A 0) 0), .int j1] (wX A cI xx xn xm xk) (wX A cI out.2 xn xm xk) out.1 := by
  intro sz
  refine Met.ofW (cc := cX1_richest) (maxL := 7) (ret := (some .int)) (by decide) rfl ?_
  intro p e s m args below meth c s₁ Bd hml hv
  obtain ⟨rfl, hsz, hP, hK, hD0, hN⟩ := hv
  have hx := Bd.exec
  have hb := Bd.bytes
  have hr := Bd.returns
  have hts := atoms_spec (ws := wsX1_richest) Bd.pre
  have hown : s.vm.findClass RX1 = some m.cls := findClass_of_methodNamed Bd.named
  have hlocks := Bd.notSynchronized
  subst hsz
  have hD := hD0.self (sz := s.heap.size)
  generalize hAe : va_A (wX A cI xx xn xm xk) s.heap.size = G at hD ⊢
  have hA : ∀ q : Nat, s.heap.size ≤ q → G q := fun q h => by rw [← hAe]; exact Or.inr h
  have hS : va_S G s.heap s.heap [] := va_S.rf
  have hP : va_P D vwCl (wX A cI xx xn xm xk) s.heap := hP
  have hl := lv_entry ([.ref ((A 0) 0), .int j1]) (n := 7) (Nat.le_of_ble_eq_true rfl)
  rw [lg_entry_eq]
  generalize (lg_sl ([.ref ((A 0) 0), .int j1]) ++ List.replicate (7 - (lg_sl ([.ref ((A 0) 0), .int j1])).length) Slot.unset).toArray = ls at hl ⊢
  have hl : lv_has ls 7 [(0, .ref ((A 0) 0)), (1, .int j1)] := hl
  have hinH : ∀ w ∈ wsX00, w ∈ wsX1_richest := by decide +kernel
  have hinX : ∀ w ∈ wsX10, w ∈ wsX1_richest := by decide +kernel
  have lk0 := hts (.fieldLink RX1 10 "LiesBoughtBack" "now" "LLiesBoughtBack$Hall;") (by decide +kernel)
  refine W_in ?_
  intro WW hWW
  refine (hWW _ _ _).mpr ?_
  unfold f_X1_richest at hf
  refine lv_iload_n hx hb dX1_richest_0 rfl (lv_at hl 1 rfl) ?_
  refine lv_if_lt (tgt := 9) hx hb dX1_richest_1 (by decide) (fun c1 => ?_) (fun c1 => ?_)
  · have hf := hT hf c1
    refine lv_aload_n hx hb dX1_richest_9 rfl (lv_at hl 0 rfl) ?_
    refine lv_bipush (v := (-2 : Int32)) hx hb dX1_richest_10 (by decide) ?_
    obtain ⟨v2, hev2, hf⟩ := bS hf
    refine rV_i (ws' := (wX A cI v2.2 xn xm xk)) (As := [.int (-2 : Int32)]) (rest := []) ⟨hx, hb, hml, hown, hts⟩ hK hN hA hP hD hS (c_X1_refuse l D cI A (-2 : Int32) xx xn xm xk v2 hev2) (cwV 1 hts gX1_richest_X1_refuse rfl rfl rfl hd_X1_refuse ⟨Nat.le_of_ble_eq_true rfl, Nat.le_of_ble_eq_true rfl⟩) (va_recv hK hP (ci := 1) (q0 := 0) rfl rfl) [0, 1, 2, 3, 4, 5, 6, 7, 8, 9, 10, 11, 12, 13, 14, 15, 16, 17, 18, 19, 20, 21, 22, 23, 24, 25, 26, 27, 28, 29, 30, 31, 32, 33, 34, 35, 36] (by decide) rfl rfl rfl rfl hl.1 rfl (Nat.le_of_ble_eq_true rfl) dX1_richest_12 ⟨Nat.le_of_ble_eq_true rfl, Nat.le_of_ble_eq_true rfl⟩ (fun H locs hP hD hS => ?_)
    have hP : va_P D vwCl (wX A cI v2.2 xn xm xk) H := hP
    obtain rfl := Option.some.inj hf
    exact W.iret (v := v2.1) hx hb hr (fun t ht hW => ⟨⟨v2.1, (), rfl, rfl, hPt ht hP⟩, hS.F ht⟩) hS.2.2 dX1_richest_15
  · have hf := hF hf c1
    refine lv_iload_n hx hb dX1_richest_4 rfl (lv_at hl 1 rfl) ?_
    refine lv_iconst (v := (2 : Int32)) hx hb dX1_richest_5 (by decide) ?_
    refine lv_icmp_le (tgt := 16) hx hb dX1_richest_6 (by decide) (fun c3 => ?_) (fun c3 => ?_)
    · have hf := hT hf c3
      refine lv_iload_n hx hb dX1_richest_16 rfl (lv_at hl 1 rfl) ?_
      refine lv_iconst (v := (2 : Int32)) hx hb dX1_richest_17 (by decide) ?_
      refine lv_icmp_ne (tgt := 31) hx hb dX1_richest_18 (by decide) (fun c4 => ?_) (fun c4 => ?_)
      · have hf := hF hf c4
        refine lv_aload_n hx hb dX1_richest_31 rfl (lv_at hl 0 rfl) ?_
        refine va_get (D := D) (ci := 1) (v := .ref ((A 1) 0)) (C := RX1) (T := TX1) (N := 9) hx hb hts hinX hown hK hP 0 rfl rfl 0 (by decide) lk0 (fun _ h9 => h9) rfl dX1_richest_32 ?_
        refine va_getN (D := D) (ci := 0) (v := .int (xn 11 0)) (C := RX0) (T := TX0) (N := 13) hx hb hts hinH hown hK hP 1 rfl rfl 1 (by decide) (nW.f hN 1 rfl) (fun _ h9 => h9) rfl dX1_richest_35 ?_
        refine lv_istore_n (lv' := [(2, .int (xn 11 0)), (0, .ref ((A 0) 0)), (1, .int j1)]) hx hb dX1_richest_38 rfl hl (by decide) rfl (fun ls hl => ?_)
        refine lv_bipush (v := (-9 : Int32)) hx hb dX1_richest_39 (by decide) ?_
        refine lv_istore_n (lv' := [(3, .int (-9 : Int32)), (2, .int (xn 11 0)), (0, .ref ((A 0) 0)), (1, .int j1)]) hx hb dX1_richest_41 rfl hl (by decide) rfl (fun ls hl => ?_)
        refine lv_iconst (v := (-1 : Int32)) hx hb dX1_richest_42 (by decide) ?_
        refine lv_istore (lv' := [(4, .int (-1 : Int32)), (3, .int (-9 : Int32)), (2, .int (xn 11 0)), (0, .ref ((A 0) 0)), (1, .int j1)]) hx hb dX1_richest_43 hl (by decide) rfl (fun ls hl => ?_)
        refine lv_iconst (v := (0 : Int32)) hx hb dX1_richest_45 (by decide) ?_
        refine lv_istore (lv' := [(5, .int (0 : Int32)), (4, .int (-1 : Int32)), (3, .int (-9 : Int32)), (2, .int (xn 11 0)), (0, .ref ((A 0) 0)), (1, .int j1)]) hx hb dX1_richest_46 hl (by decide) rfl (fun ls hl => ?_)
        obtain ⟨K83, hK83, hf⟩ := jnS hf
        have J83 : ∀ (j3_83 : Int32) (xx_83 : HS) (H : Heap) (locs : List Loc) (ls : Array Slot), K83 j3_83 xx_83 = some out → va_P D vwCl (wX A cI xx_83 xn xm xk) H → va_D G (wX A cI xx_83 xn xm xk) → va_S G s.heap H locs → lv_has ls 7 [(3, .int j3_83)] → WW H locs (F0 m 83 ls []) := by
          intro j3_83 xx_83 H locs ls hf hP hD hS hl
          subst hK83
          refine (hWW _ _ _).mpr ?_
          refine lv_iload_n hx hb dX1_richest_83 rfl (lv_at hl 0 rfl) ?_
          obtain rfl := Option.some.inj hf
          exact W.iret (v := j3_83) hx hb hr (fun t ht hW => ⟨⟨j3_83, (), rfl, rfl, hPt ht hP⟩, hS.F ht⟩) hS.2.2 dX1_richest_84
        have P48 : ∀ (n' : Nat) (j2_48 : Int32) (j3_48 : Int32) (j4_48 : Int32) (j5_48 : Int32) (xx_48 : HS) (H : Heap) (locs : List Loc) (ls : Array Slot), L_X1_richest_48 j1 xn xm xk K83 n' j2_48 j3_48 j4_48 j5_48 xx_48 = some out → va_P D vwCl (wX A cI xx_48 xn xm xk) H → va_D G (wX A cI xx_48 xn xm xk) → va_S G s.heap H locs → lv_has ls 7 [(0, .ref ((A 0) 0)), (1, .int j1), (2, .int j2_48), (3, .int j3_48), (4, .int j4_48), (5, .int j5_48)] → WW H locs (F0 m 48 ls []) := by
          intro n'
          induction n' with
          | zero => intro j2_48 j3_48 j4_48 j5_48 xx_48 H locs ls hf; exact absurd (show (none : Option (Int32 × HS)) = some out from hf) (fun q => by cases q)
          | succ n' ih =>
            intro j2_48 j3_48 j4_48 j5_48 xx_48 H locs ls hf hP hD hS hl
            rw [L_X1_richest_48] at hf
            refine (hWW _ _ _).mpr ?_
            refine lv_iload hx hb dX1_richest_48 (lv_at hl 5 rfl) ?_
            refine lv_iload_n hx hb dX1_richest_50 rfl (lv_at hl 2 rfl) ?_
            refine lv_icmp_ge (tgt := 83) hx hb dX1_richest_51 (by decide) (fun c5 => ?_) (fun c5 => ?_)
            · have hf := hT hf c5
              exact (hWW _ _ _).mp (J83 _ _ _ _ _ hf hP hD hS (lv_sub hl [3] rfl))
            · have hf := hF hf c5
              refine lv_aload_n hx hb dX1_richest_54 rfl (lv_at hl 0 rfl) ?_
              refine lv_iload hx hb dX1_richest_55 (lv_at hl 5 rfl) ?_
              refine lv_iload_n hx hb dX1_richest_57 rfl (lv_at hl 1 rfl) ?_
              refine rV_io (As := [.int j5_48, .int j1]) (rest := []) ⟨hx, hb, hml, hown, hts⟩ hK hN hA hP hD hS (c_X1_riches l D cI A j5_48 j1 xx_48 xn xm xk (f_X1_riches j5_48 j1 xx_48 xn xm xk) rfl) (cwV 2 hts gX1_richest_X1_riches rfl rfl rfl hd_X1_riches ⟨Nat.le_of_ble_eq_true rfl, Nat.le_of_ble_eq_true rfl⟩) (va_recv hK hP (ci := 1) (q0 := 0) rfl rfl) [0, 1, 2, 3, 4, 5, 6, 7, 8, 9, 10, 11, 12, 13, 14, 15, 16, 17, 18, 19, 20, 21, 22, 23, 24, 25, 26, 27, 28, 29, 30, 31, 32, 33, 34, 35, 36] (by decide) rfl rfl hl.1 rfl (Nat.le_of_ble_eq_true rfl) dX1_richest_58 ⟨Nat.le_of_ble_eq_true rfl, Nat.le_of_ble_eq_true rfl⟩ (fun H locs hP hD hS => ?_)
              refine lv_istore (lv' := [(6, .int (f_X1_riches j5_48 j1 xx_48 xn xm xk)), (0, .ref ((A 0) 0)), (1, .int j1), (2, .int j2_48), (3, .int j3_48), (4, .int j4_48), (5, .int j5_48)]) hx hb dX1_richest_61 hl (by decide) rfl (fun ls hl => ?_)
              refine lv_iload hx hb dX1_richest_63 (lv_at hl 0 rfl) ?_
              refine lv_iload hx hb dX1_richest_65 (lv_at hl 5 rfl) ?_
              refine lv_icmp_le (tgt := 77) hx hb dX1_richest_67 (by decide) (fun c6 => ?_) (fun c6 => ?_)
              · have hf := hT hf c6
                refine lv_iinc (v := (j5_48 + (1 : Int32))) (lv' := [(5, .int (j5_48 + (1 : Int32))), (6, .int (f_X1_riches j5_48 j1 xx_48 xn xm xk)), (0, .ref ((A 0) 0)), (1, .int j1), (2, .int j2_48), (3, .int j3_48), (4, .int j4_48)]) hx hb dX1_richest_77 hl (k := 6) rfl rfl (by decide) rfl (fun ls hl => ?_)
                refine lv_goto (tgt := 48) hx hb dX1_richest_80 (by decide) ?_
                exact (hWW _ _ _).mp (ih _ _ _ _ _ _ _ _ hf hP hD hS (lv_sub hl [2, 3, 4, 5, 6, 0] rfl))
              · have hf := hF hf c6
                refine lv_iload hx hb dX1_richest_70 (lv_at hl 0 rfl) ?_
                refine lv_istore (lv' := [(4, .int (f_X1_riches j5_48 j1 xx_48 xn xm xk)), (6, .int (f_X1_riches j5_48 j1 xx_48 xn xm xk)), (0, .ref ((A 0) 0)), (1, .int j1), (2, .int j2_48), (3, .int j3_48), (5, .int j5_48)]) hx hb dX1_richest_72 hl (by decide) rfl (fun ls hl => ?_)
                refine lv_iload hx hb dX1_richest_74 (lv_at hl 6 rfl) ?_
                refine lv_istore_n (lv' := [(3, .int j5_48), (4, .int (f_X1_riches j5_48 j1 xx_48 xn xm xk)), (6, .int (f_X1_riches j5_48 j1 xx_48 xn xm xk)), (0, .ref ((A 0) 0)), (1, .int j1), (2, .int j2_48), (5, .int j5_48)]) hx hb dX1_richest_76 rfl hl (by decide) rfl (fun ls hl => ?_)
                refine lv_iinc (v := (j5_48 + (1 : Int32))) (lv' := [(5, .int (j5_48 + (1 : Int32))), (3, .int j5_48), (4, .int (f_X1_riches j5_48 j1 xx_48 xn xm xk)), (6, .int (f_X1_riches j5_48 j1 xx_48 xn xm xk)), (0, .ref ((A 0) 0)), (1, .int j1), (2, .int j2_48)]) hx hb dX1_richest_77 hl (k := 6) rfl rfl (by decide) rfl (fun ls hl => ?_)
                refine lv_goto (tgt := 48) hx hb dX1_richest_80 (by decide) ?_
                exact (hWW _ _ _).mp (ih _ _ _ _ _ _ _ _ hf hP hD hS (lv_sub hl [4, 5, 6, 1, 2, 0] rfl))
        exact (hWW _ _ _).mp (P48 _ _ _ _ _ _ _ _ _ hf hP hD hS (lv_sub hl [4, 5, 3, 2, 1, 0] rfl))
      · have hf := hT hf c4
        refine lv_aload_n hx hb dX1_richest_21 rfl (lv_at hl 0 rfl) ?_
        refine va_get (D := D) (ci := 1) (v := .ref ((A 1) 0)) (C := RX1) (T := TX1) (N := 9) hx hb hts hinX hown hK hP 0 rfl rfl 0 (by decide) lk0 (fun _ h9 => h9) rfl dX1_richest_22 ?_
        refine va_getN (D := D) (ci := 0) (v := .int (xn 10 0)) (C := RX0) (T := TX0) (N := 13) hx hb hts hinH hown hK hP 1 rfl rfl 0 (by decide) (nW.f hN 0 rfl) (fun _ h9 => h9) rfl dX1_richest_25 ?_
        refine lv_goto (tgt := 38) hx hb dX1_richest_28 (by decide) ?_
        refine lv_istore_n (lv' := [(2, .int (xn 10 0)), (0, .ref ((A 0) 0)), (1, .int j1)]) hx hb dX1_richest_38 rfl hl (by decide) rfl (fun ls hl => ?_)
        refine lv_bipush (v := (-9 : Int32)) hx hb dX1_richest_39 (by decide) ?_
        refine lv_istore_n (lv' := [(3, .int (-9 : Int32)), (2, .int (xn 10 0)), (0, .ref ((A 0) 0)), (1, .int j1)]) hx hb dX1_richest_41 rfl hl (by decide) rfl (fun ls hl => ?_)
        refine lv_iconst (v := (-1 : Int32)) hx hb dX1_richest_42 (by decide) ?_
        refine lv_istore (lv' := [(4, .int (-1 : Int32)), (3, .int (-9 : Int32)), (2, .int (xn 10 0)), (0, .ref ((A 0) 0)), (1, .int j1)]) hx hb dX1_richest_43 hl (by decide) rfl (fun ls hl => ?_)
        refine lv_iconst (v := (0 : Int32)) hx hb dX1_richest_45 (by decide) ?_
        refine lv_istore (lv' := [(5, .int (0 : Int32)), (4, .int (-1 : Int32)), (3, .int (-9 : Int32)), (2, .int (xn 10 0)), (0, .ref ((A 0) 0)), (1, .int j1)]) hx hb dX1_richest_46 hl (by decide) rfl (fun ls hl => ?_)
        obtain ⟨K83, hK83, hf⟩ := jnS hf
        have J83 : ∀ (j3_83 : Int32) (xx_83 : HS) (H : Heap) (locs : List Loc) (ls : Array Slot), K83 j3_83 xx_83 = some out → va_P D vwCl (wX A cI xx_83 xn xm xk) H → va_D G (wX A cI xx_83 xn xm xk) → va_S G s.heap H locs → lv_has ls 7 [(3, .int j3_83)] → WW H locs (F0 m 83 ls []) := by
          intro j3_83 xx_83 H locs ls hf hP hD hS hl
          subst hK83
          refine (hWW _ _ _).mpr ?_
          refine lv_iload_n hx hb dX1_richest_83 rfl (lv_at hl 0 rfl) ?_
          obtain rfl := Option.some.inj hf
          exact W.iret (v := j3_83) hx hb hr (fun t ht hW => ⟨⟨j3_83, (), rfl, rfl, hPt ht hP⟩, hS.F ht⟩) hS.2.2 dX1_richest_84
        have P48 : ∀ (n' : Nat) (j2_48 : Int32) (j3_48 : Int32) (j4_48 : Int32) (j5_48 : Int32) (xx_48 : HS) (H : Heap) (locs : List Loc) (ls : Array Slot), L_X1_richest_48 j1 xn xm xk K83 n' j2_48 j3_48 j4_48 j5_48 xx_48 = some out → va_P D vwCl (wX A cI xx_48 xn xm xk) H → va_D G (wX A cI xx_48 xn xm xk) → va_S G s.heap H locs → lv_has ls 7 [(0, .ref ((A 0) 0)), (1, .int j1), (2, .int j2_48), (3, .int j3_48), (4, .int j4_48), (5, .int j5_48)] → WW H locs (F0 m 48 ls []) := by
          intro n'
          induction n' with
          | zero => intro j2_48 j3_48 j4_48 j5_48 xx_48 H locs ls hf; exact absurd (show (none : Option (Int32 × HS)) = some out from hf) (fun q => by cases q)
          | succ n' ih =>
            intro j2_48 j3_48 j4_48 j5_48 xx_48 H locs ls hf hP hD hS hl
            rw [L_X1_richest_48] at hf
            refine (hWW _ _ _).mpr ?_
            refine lv_iload hx hb dX1_richest_48 (lv_at hl 5 rfl) ?_
            refine lv_iload_n hx hb dX1_richest_50 rfl (lv_at hl 2 rfl) ?_
            refine lv_icmp_ge (tgt := 83) hx hb dX1_richest_51 (by decide) (fun c7 => ?_) (fun c7 => ?_)
            · have hf := hT hf c7
              exact (hWW _ _ _).mp (J83 _ _ _ _ _ hf hP hD hS (lv_sub hl [3] rfl))
            · have hf := hF hf c7
              refine lv_aload_n hx hb dX1_richest_54 rfl (lv_at hl 0 rfl) ?_
              refine lv_iload hx hb dX1_richest_55 (lv_at hl 5 rfl) ?_
              refine lv_iload_n hx hb dX1_richest_57 rfl (lv_at hl 1 rfl) ?_
              refine rV_io (As := [.int j5_48, .int j1]) (rest := []) ⟨hx, hb, hml, hown, hts⟩ hK hN hA hP hD hS (c_X1_riches l D cI A j5_48 j1 xx_48 xn xm xk (f_X1_riches j5_48 j1 xx_48 xn xm xk) rfl) (cwV 2 hts gX1_richest_X1_riches rfl rfl rfl hd_X1_riches ⟨Nat.le_of_ble_eq_true rfl, Nat.le_of_ble_eq_true rfl⟩) (va_recv hK hP (ci := 1) (q0 := 0) rfl rfl) [0, 1, 2, 3, 4, 5, 6, 7, 8, 9, 10, 11, 12, 13, 14, 15, 16, 17, 18, 19, 20, 21, 22, 23, 24, 25, 26, 27, 28, 29, 30, 31, 32, 33, 34, 35, 36] (by decide) rfl rfl hl.1 rfl (Nat.le_of_ble_eq_true rfl) dX1_richest_58 ⟨Nat.le_of_ble_eq_true rfl, Nat.le_of_ble_eq_true rfl⟩ (fun H locs hP hD hS => ?_)
              refine lv_istore (lv' := [(6, .int (f_X1_riches j5_48 j1 xx_48 xn xm xk)), (0, .ref ((A 0) 0)), (1, .int j1), (2, .int j2_48), (3, .int j3_48), (4, .int j4_48), (5, .int j5_48)]) hx hb dX1_richest_61 hl (by decide) rfl (fun ls hl => ?_)
              refine lv_iload hx hb dX1_richest_63 (lv_at hl 0 rfl) ?_
              refine lv_iload hx hb dX1_richest_65 (lv_at hl 5 rfl) ?_
              refine lv_icmp_le (tgt := 77) hx hb dX1_richest_67 (by decide) (fun c8 => ?_) (fun c8 => ?_)
              · have hf := hT hf c8
                refine lv_iinc (v := (j5_48 + (1 : Int32))) (lv' := [(5, .int (j5_48 + (1 : Int32))), (6, .int (f_X1_riches j5_48 j1 xx_48 xn xm xk)), (0, .ref ((A 0) 0)), (1, .int j1), (2, .int j2_48), (3, .int j3_48), (4, .int j4_48)]) hx hb dX1_richest_77 hl (k := 6) rfl rfl (by decide) rfl (fun ls hl => ?_)
                refine lv_goto (tgt := 48) hx hb dX1_richest_80 (by decide) ?_
                exact (hWW _ _ _).mp (ih _ _ _ _ _ _ _ _ hf hP hD hS (lv_sub hl [2, 3, 4, 5, 6, 0] rfl))
              · have hf := hF hf c8
                refine lv_iload hx hb dX1_richest_70 (lv_at hl 0 rfl) ?_
                refine lv_istore (lv' := [(4, .int (f_X1_riches j5_48 j1 xx_48 xn xm xk)), (6, .int (f_X1_riches j5_48 j1 xx_48 xn xm xk)), (0, .ref ((A 0) 0)), (1, .int j1), (2, .int j2_48), (3, .int j3_48), (5, .int j5_48)]) hx hb dX1_richest_72 hl (by decide) rfl (fun ls hl => ?_)
                refine lv_iload hx hb dX1_richest_74 (lv_at hl 6 rfl) ?_
                refine lv_istore_n (lv' := [(3, .int j5_48), (4, .int (f_X1_riches j5_48 j1 xx_48 xn xm xk)), (6, .int (f_X1_riches j5_48 j1 xx_48 xn xm xk)), (0, .ref ((A 0) 0)), (1, .int j1), (2, .int j2_48), (5, .int j5_48)]) hx hb dX1_richest_76 rfl hl (by decide) rfl (fun ls hl => ?_)
                refine lv_iinc (v := (j5_48 + (1 : Int32))) (lv' := [(5, .int (j5_48 + (1 : Int32))), (3, .int j5_48), (4, .int (f_X1_riches j5_48 j1 xx_48 xn xm xk)), (6, .int (f_X1_riches j5_48 j1 xx_48 xn xm xk)), (0, .ref ((A 0) 0)), (1, .int j1), (2, .int j2_48)]) hx hb dX1_richest_77 hl (k := 6) rfl rfl (by decide) rfl (fun ls hl => ?_)
                refine lv_goto (tgt := 48) hx hb dX1_richest_80 (by decide) ?_
                exact (hWW _ _ _).mp (ih _ _ _ _ _ _ _ _ hf hP hD hS (lv_sub hl [4, 5, 6, 1, 2, 0] rfl))
        exact (hWW _ _ _).mp (P48 _ _ _ _ _ _ _ _ _ hf hP hD hS (lv_sub hl [4, 5, 3, 2, 1, 0] rfl))
    · have hf := hF hf c3
      refine lv_aload_n hx hb dX1_richest_9 rfl (lv_at hl 0 rfl) ?_
      refine lv_bipush (v := (-2 : Int32)) hx hb dX1_richest_10 (by decide) ?_
      obtain ⟨v9, hev9, hf⟩ := bS hf
      refine rV_i (ws' := (wX A cI v9.2 xn xm xk)) (As := [.int (-2 : Int32)]) (rest := []) ⟨hx, hb, hml, hown, hts⟩ hK hN hA hP hD hS (c_X1_refuse l D cI A (-2 : Int32) xx xn xm xk v9 hev9) (cwV 1 hts gX1_richest_X1_refuse rfl rfl rfl hd_X1_refuse ⟨Nat.le_of_ble_eq_true rfl, Nat.le_of_ble_eq_true rfl⟩) (va_recv hK hP (ci := 1) (q0 := 0) rfl rfl) [0, 1, 2, 3, 4, 5, 6, 7, 8, 9, 10, 11, 12, 13, 14, 15, 16, 17, 18, 19, 20, 21, 22, 23, 24, 25, 26, 27, 28, 29, 30, 31, 32, 33, 34, 35, 36] (by decide) rfl rfl rfl rfl hl.1 rfl (Nat.le_of_ble_eq_true rfl) dX1_richest_12 ⟨Nat.le_of_ble_eq_true rfl, Nat.le_of_ble_eq_true rfl⟩ (fun H locs hP hD hS => ?_)
      have hP : va_P D vwCl (wX A cI v9.2 xn xm xk) H := hP
      obtain rfl := Option.some.inj hf
      exact W.iret (v := v9.1) hx hb hr (fun t ht hW => ⟨⟨v9.1, (), rfl, rfl, hPt ht hP⟩, hS.F ht⟩) hS.2.2 dX1_richest_15
def f_X1_owned (j1 : Int32) (xx : HS) (xn : HS) (xm : HS) (xk : HS) : Option (Int32 × HS) := if j1 = (0 : Int32) then (f_X0_ownBits xn).bind fun v2 => some (v2, xx) else (if j1 = (1 : Int32) then (f_X0_pileBits xn).bind fun v4 => (f_X0_ownBits xn).bind fun v5 => some ((((f_X0_allCardBits xn) &&& (v4 ^^^ (-1 : Int32))) &&& (v5 ^^^ (-1 : Int32))), xx) else (if j1 = (2 : Int32) then (f_X0_cleanBits xn).bind fun v7 => some (v7, xx) else (if j1 = (3 : Int32) then (f_X0_allPurses xn).bind fun v9 => some (v9, xx) else ((f_X1_refuse (-2 : Int32) xx xn xm xk).bind fun v10 => some (v10.1, v10.2)))))
set_option maxHeartbeats 4000000 in
set_option maxRecDepth 100000 in
theorem c_X1_owned (l : Launch) (D : va_G) (cI : ClassId) (A : Nat → Nat → Nat) (j1 : Int32) (xx : HS) (xn : HS) (xm : HS) (xk : HS) (out : Int32 × HS) (hf : f_X1_owned j1 xx xn xm xk = some out) : uI l D cI yX1_owned wsX1_owned ({ frames := 3, cells := 0, slots := 0, locals := 64 } : Room) [.ref ((A 0) 0), .int j1] (wX A cI xx xn xm xk) (wX A cI out.2 xn xm xk) out.1 := by
  intro sz
  refine Met.ofW (cc := cX1_owned) (maxL := 2) (ret := (some .int)) (by decide) rfl ?_
  intro p e s m args below meth c s₁ Bd hml hv
  obtain ⟨rfl, hsz, hP, hK, hD0, hN⟩ := hv
  have hx := Bd.exec
  have hb := Bd.bytes
  have hr := Bd.returns
  have hts := atoms_spec (ws := wsX1_owned) Bd.pre
  have hown : s.vm.findClass RX1 = some m.cls := findClass_of_methodNamed Bd.named
  have hlocks := Bd.notSynchronized
  subst hsz
  have hD := hD0.self (sz := s.heap.size)
  generalize hAe : va_A (wX A cI xx xn xm xk) s.heap.size = G at hD ⊢
  have hA : ∀ q : Nat, s.heap.size ≤ q → G q := fun q h => by rw [← hAe]; exact Or.inr h
  have hS : va_S G s.heap s.heap [] := va_S.rf
  have hP : va_P D vwCl (wX A cI xx xn xm xk) s.heap := hP
  have hl := lv_entry ([.ref ((A 0) 0), .int j1]) (n := 2) (Nat.le_of_ble_eq_true rfl)
  rw [lg_entry_eq]
  generalize (lg_sl ([.ref ((A 0) 0), .int j1]) ++ List.replicate (2 - (lg_sl ([.ref ((A 0) 0), .int j1])).length) Slot.unset).toArray = ls at hl ⊢
  have hl : lv_has ls 2 [(0, .ref ((A 0) 0)), (1, .int j1)] := hl
  have hinX : ∀ w ∈ wsX10, w ∈ wsX1_owned := by decide +kernel
  have lk0 := hts (.fieldLink RX1 10 "LiesBoughtBack" "now" "LLiesBoughtBack$Hall;") (by decide +kernel)
  have lk1 := hts (.initialized RX0) (by decide +kernel)
  have lk2 := hts (.instanceMethod yX0_ownBits) (by decide +kernel)
  have lk3 := hts (.selects RX0 yX0_ownBits yX0_ownBits) (by decide +kernel)
  have lk4 := hts (.instanceMethod yX0_allCardBits) (by decide +kernel)
  have lk5 := hts (.selects RX0 yX0_allCardBits yX0_allCardBits) (by decide +kernel)
  have lk6 := hts (.instanceMethod yX0_pileBits) (by decide +kernel)
  have lk7 := hts (.selects RX0 yX0_pileBits yX0_pileBits) (by decide +kernel)
  have lk8 := hts (.instanceMethod yX0_cleanBits) (by decide +kernel)
  have lk9 := hts (.selects RX0 yX0_cleanBits yX0_cleanBits) (by decide +kernel)
  have lk10 := hts (.instanceMethod yX0_allPurses) (by decide +kernel)
  have lk11 := hts (.selects RX0 yX0_allPurses yX0_allPurses) (by decide +kernel)
  refine W_in ?_
  intro WW hWW
  refine (hWW _ _ _).mpr ?_
  unfold f_X1_owned at hf
  refine lv_iload_n hx hb dX1_owned_0 rfl (lv_at hl 1 rfl) ?_
  by_cases c1 : j1 = (0 : Int32)
  · have hf := hT hf c1
    refine sw_in (v := 0) (off := 31) (tgt := 32) hx hb dX1_owned_1 ((congrArg Int32.toInt c1).trans (by decide)) (by decide) (by decide) (by decide) (by decide) ?_
    refine lv_aload_n hx hb dX1_owned_32 rfl (lv_at hl 0 rfl) ?_
    refine va_get (D := D) (ci := 1) (v := .ref ((A 1) 0)) (C := RX1) (T := TX1) (N := 9) hx hb hts hinX hown hK hP 0 rfl rfl 0 (by decide) lk0 (fun _ h9 => h9) rfl dX1_owned_33 ?_
    obtain ⟨v2, hev2, hf⟩ := bS hf
    refine rVN_io (As := []) (rest := []) ⟨hx, hb, hml, hown, hts⟩ hK hN hA hP hD hS (c_X0_ownBits l D cI (A 1) xn v2 hev2) ⟨va_cnB 0 hts gX1_owned_X0_ownBits_n145 rfl rfl rfl (nW.m hN 24 rfl) lk1 hd_X0_ownBits.2 ⟨Nat.le_of_ble_eq_true rfl, Nat.le_of_ble_eq_true rfl⟩, lk2, lk3⟩ (va_recv hK hP (ci := 0) (q0 := 1) rfl rfl) [1, 2, 3, 4, 5, 6, 7, 8, 9, 10, 11] (by decide) rfl rfl hl.1 rfl (Nat.le_of_ble_eq_true rfl) dX1_owned_36 ⟨Nat.le_of_ble_eq_true rfl, Nat.le_of_ble_eq_true rfl⟩ (fun H locs hP hD hS => ?_)
    obtain rfl := Option.some.inj hf
    exact W.iret (v := v2) hx hb hr (fun t ht hW => ⟨⟨v2, (), rfl, rfl, hPt ht hP⟩, hS.F ht⟩) hS.2.2 dX1_owned_39
  have hf := hF hf c1
  by_cases c3 : j1 = (1 : Int32)
  · have hf := hT hf c3
    refine sw_in (v := 1) (off := 39) (tgt := 40) hx hb dX1_owned_1 ((congrArg Int32.toInt c3).trans (by decide)) (by decide) (by decide) (by decide) (by decide) ?_
    refine lv_aload_n hx hb dX1_owned_40 rfl (lv_at hl 0 rfl) ?_
    refine va_get (D := D) (ci := 1) (v := .ref ((A 1) 0)) (C := RX1) (T := TX1) (N := 9) hx hb hts hinX hown hK hP 0 rfl rfl 0 (by decide) lk0 (fun _ h9 => h9) rfl dX1_owned_41 ?_
    refine rVN_io (As := []) (rest := []) ⟨hx, hb, hml, hown, hts⟩ hK hN hA hP hD hS (c_X0_allCardBits l D cI (A 1) xn (f_X0_allCardBits xn) rfl) ⟨va_cnB 0 hts gX1_owned_X0_allCardBits_n148 rfl rfl rfl (nW.m hN 25 rfl) lk1 hd_X0_allCardBits.2 ⟨Nat.le_of_ble_eq_true rfl, Nat.le_of_ble_eq_true rfl⟩, lk4, lk5⟩ (va_recv hK hP (ci := 0) (q0 := 1) rfl rfl) [1, 2, 3, 4, 5, 6, 7, 8, 9, 10, 11] (by decide) rfl rfl hl.1 rfl (Nat.le_of_ble_eq_true rfl) dX1_owned_44 ⟨Nat.le_of_ble_eq_true rfl, Nat.le_of_ble_eq_true rfl⟩ (fun H locs hP hD hS => ?_)
    refine lv_aload_n hx hb dX1_owned_47 rfl (lv_at hl 0 rfl) ?_
    refine va_get (D := D) (ci := 1) (v := .ref ((A 1) 0)) (C := RX1) (T := TX1) (N := 9) hx hb hts hinX hown hK hP 0 rfl rfl 0 (by decide) lk0 (fun _ h9 => h9) rfl dX1_owned_48 ?_
    obtain ⟨v4, hev4, hf⟩ := bS hf
    refine rVN_io (As := []) (rest := [.int (f_X0_allCardBits xn)]) ⟨hx, hb, hml, hown, hts⟩ hK hN hA hP hD hS (c_X0_pileBits l D cI (A 1) xn v4 hev4) ⟨va_cnB 0 hts gX1_owned_X0_pileBits_n151 rfl rfl rfl (nW.m hN 26 rfl) lk1 hd_X0_pileBits.2 ⟨Nat.le_of_ble_eq_true rfl, Nat.le_of_ble_eq_true rfl⟩, lk6, lk7⟩ (va_recv hK hP (ci := 0) (q0 := 1) rfl rfl) [1, 2, 3, 4, 5, 6, 7, 8, 9, 10, 11] (by decide) rfl rfl hl.1 rfl (Nat.le_of_ble_eq_true rfl) dX1_owned_51 ⟨Nat.le_of_ble_eq_true rfl, Nat.le_of_ble_eq_true rfl⟩ (fun H locs hP hD hS => ?_)
    refine lv_iconst (v := (-1 : Int32)) hx hb dX1_owned_54 (by decide) ?_
    refine lv_ixor hx hb dX1_owned_55 ?_
    refine lv_iand hx hb dX1_owned_56 ?_
    refine lv_aload_n hx hb dX1_owned_57 rfl (lv_at hl 0 rfl) ?_
    refine va_get (D := D) (ci := 1) (v := .ref ((A 1) 0)) (C := RX1) (T := TX1) (N := 9) hx hb hts hinX hown hK hP 0 rfl rfl 0 (by decide) lk0 (fun _ h9 => h9) rfl dX1_owned_58 ?_
    obtain ⟨v5, hev5, hf⟩ := bS hf
    refine rVN_io (As := []) (rest := [.int ((f_X0_allCardBits xn) &&& (v4 ^^^ (-1 : Int32)))]) ⟨hx, hb, hml, hown, hts⟩ hK hN hA hP hD hS (c_X0_ownBits l D cI (A 1) xn v5 hev5) ⟨va_cnB 0 hts gX1_owned_X0_ownBits_n145 rfl rfl rfl (nW.m hN 24 rfl) lk1 hd_X0_ownBits.2 ⟨Nat.le_of_ble_eq_true rfl, Nat.le_of_ble_eq_true rfl⟩, lk2, lk3⟩ (va_recv hK hP (ci := 0) (q0 := 1) rfl rfl) [1, 2, 3, 4, 5, 6, 7, 8, 9, 10, 11] (by decide) rfl rfl hl.1 rfl (Nat.le_of_ble_eq_true rfl) dX1_owned_61 ⟨Nat.le_of_ble_eq_true rfl, Nat.le_of_ble_eq_true rfl⟩ (fun H locs hP hD hS => ?_)
    refine lv_iconst (v := (-1 : Int32)) hx hb dX1_owned_64 (by decide) ?_
    refine lv_ixor hx hb dX1_owned_65 ?_
    refine lv_iand hx hb dX1_owned_66 ?_
    obtain rfl := Option.some.inj hf
    exact W.iret (v := (((f_X0_allCardBits xn) &&& (v4 ^^^ (-1 : Int32))) &&& (v5 ^^^ (-1 : Int32)))) hx hb hr (fun t ht hW => ⟨⟨(((f_X0_allCardBits xn) &&& (v4 ^^^ (-1 : Int32))) &&& (v5 ^^^ (-1 : Int32))), (), rfl, rfl, hPt ht hP⟩, hS.F ht⟩) hS.2.2 dX1_owned_67
  have hf := hF hf c3
  by_cases c6 : j1 = (2 : Int32)
  · have hf := hT hf c6
    refine sw_in (v := 2) (off := 67) (tgt := 68) hx hb dX1_owned_1 ((congrArg Int32.toInt c6).trans (by decide)) (by decide) (by decide) (by decide) (by decide) ?_
    refine lv_aload_n hx hb dX1_owned_68 rfl (lv_at hl 0 rfl) ?_
    refine va_get (D := D) (ci := 1) (v := .ref ((A 1) 0)) (C := RX1) (T := TX1) (N := 9) hx hb hts hinX hown hK hP 0 rfl rfl 0 (by decide) lk0 (fun _ h9 => h9) rfl dX1_owned_69 ?_
    obtain ⟨v7, hev7, hf⟩ := bS hf
    refine rVN_io (As := []) (rest := []) ⟨hx, hb, hml, hown, hts⟩ hK hN hA hP hD hS (c_X0_cleanBits l D cI (A 1) xn v7 hev7) ⟨va_cnB 0 hts gX1_owned_X0_cleanBits_n154 rfl rfl rfl (nW.m hN 27 rfl) lk1 hd_X0_cleanBits.2 ⟨Nat.le_of_ble_eq_true rfl, Nat.le_of_ble_eq_true rfl⟩, lk8, lk9⟩ (va_recv hK hP (ci := 0) (q0 := 1) rfl rfl) [1, 2, 3, 4, 5, 6, 7, 8, 9, 10, 11] (by decide) rfl rfl hl.1 rfl (Nat.le_of_ble_eq_true rfl) dX1_owned_72 ⟨Nat.le_of_ble_eq_true rfl, Nat.le_of_ble_eq_true rfl⟩ (fun H locs hP hD hS => ?_)
    obtain rfl := Option.some.inj hf
    exact W.iret (v := v7) hx hb hr (fun t ht hW => ⟨⟨v7, (), rfl, rfl, hPt ht hP⟩, hS.F ht⟩) hS.2.2 dX1_owned_75
  have hf := hF hf c6
  by_cases c8 : j1 = (3 : Int32)
  · have hf := hT hf c8
    refine sw_in (v := 3) (off := 75) (tgt := 76) hx hb dX1_owned_1 ((congrArg Int32.toInt c8).trans (by decide)) (by decide) (by decide) (by decide) (by decide) ?_
    refine lv_aload_n hx hb dX1_owned_76 rfl (lv_at hl 0 rfl) ?_
    refine va_get (D := D) (ci := 1) (v := .ref ((A 1) 0)) (C := RX1) (T := TX1) (N := 9) hx hb hts hinX hown hK hP 0 rfl rfl 0 (by decide) lk0 (fun _ h9 => h9) rfl dX1_owned_77 ?_
    obtain ⟨v9, hev9, hf⟩ := bS hf
    refine rVN_io (As := []) (rest := []) ⟨hx, hb, hml, hown, hts⟩ hK hN hA hP hD hS (c_X0_allPurses l D cI (A 1) xn v9 hev9) ⟨va_cnB 0 hts gX1_owned_X0_allPurses_n157 rfl rfl rfl (nW.m hN 28 rfl) lk1 hd_X0_allPurses.2 ⟨Nat.le_of_ble_eq_true rfl, Nat.le_of_ble_eq_true rfl⟩, lk10, lk11⟩ (va_recv hK hP (ci := 0) (q0 := 1) rfl rfl) [1, 2, 3, 4, 5, 6, 7, 8, 9, 10, 11] (by decide) rfl rfl hl.1 rfl (Nat.le_of_ble_eq_true rfl) dX1_owned_80 ⟨Nat.le_of_ble_eq_true rfl, Nat.le_of_ble_eq_true rfl⟩ (fun H locs hP hD hS => ?_)
    obtain rfl := Option.some.inj hf
    exact W.iret (v := v9) hx hb hr (fun t ht hW => ⟨⟨v9, (), rfl, rfl, hPt ht hP⟩, hS.F ht⟩) hS.2.2 dX1_owned_83
  have hf := hF hf c8
  refine lv_tableOut (tgt := 84) hx hb dX1_owned_1 (by have z0 := lv_neT (a := 0) c1 (by decide); have z1 := lv_neT (a := 1) c3 (by decide); have z2 := lv_neT (a := 2) c6 (by decide); have z3 := lv_neT (a := 3) c8 (by decide); omega) (by decide) ?_
  refine lv_aload_n hx hb dX1_owned_84 rfl (lv_at hl 0 rfl) ?_
  refine lv_bipush (v := (-2 : Int32)) hx hb dX1_owned_85 (by decide) ?_
  obtain ⟨v10, hev10, hf⟩ := bS hf
  refine rV_i (ws' := (wX A cI v10.2 xn xm xk)) (As := [.int (-2 : Int32)]) (rest := []) ⟨hx, hb, hml, hown, hts⟩ hK hN hA hP hD hS (c_X1_refuse l D cI A (-2 : Int32) xx xn xm xk v10 hev10) (cwV 1 hts gX1_owned_X1_refuse rfl rfl rfl hd_X1_refuse ⟨Nat.le_of_ble_eq_true rfl, Nat.le_of_ble_eq_true rfl⟩) (va_recv hK hP (ci := 1) (q0 := 0) rfl rfl) [0, 1, 2, 3, 4, 5, 6, 7, 8, 9, 10, 11, 12, 13, 14, 15, 16, 17, 18, 19, 20, 21, 22, 23, 24, 25, 26, 27, 28, 29, 30, 31, 32, 33, 34, 35, 36] (by decide) rfl rfl rfl rfl hl.1 rfl (Nat.le_of_ble_eq_true rfl) dX1_owned_87 ⟨Nat.le_of_ble_eq_true rfl, Nat.le_of_ble_eq_true rfl⟩ (fun H locs hP hD hS => ?_)
  have hP : va_P D vwCl (wX A cI v10.2 xn xm xk) H := hP
  obtain rfl := Option.some.inj hf
  exact W.iret (v := v10.1) hx hb hr (fun t ht hW => ⟨⟨v10.1, (), rfl, rfl, hPt ht hP⟩, hS.F ht⟩) hS.2.2 dX1_owned_90
def f_X1_refuseFar (j1 : Int32) (xx : HS) (xn : HS) (xm : HS) (xk : HS) : Option (Int64 × HS) := (f_X1_refuse j1 xx xn xm xk).bind fun v1 => some (((4000000000000000000 : Int64) - (v1.1).toInt64), v1.2)
set_option maxHeartbeats 4000000 in
set_option maxRecDepth 100000 in
theorem c_X1_refuseFar (l : Launch) (D : va_G) (cI : ClassId) (A : Nat → Nat → Nat) (j1 : Int32) (xx : HS) (xn : HS) (xm : HS) (xk : HS) (out : Int64 × HS) (hf : f_X1_refuseFar j1 xx xn xm xk = some out) : uL l D cI yX1_refuseFar wsX1_refuseFar ({ frames := 2, cells := 0, slots := 0, locals := 43 } : Room) [.ref ((A 0) 0), .int j1] (wX A cI xx xn xm xk) (wX A cI out.2 xn xm xk) out.1 := by
  intro sz
  refine Met.ofW (cc := cX1_refuseFar) (maxL := 2) (ret := (some .long)) (by decide) rfl ?_
  intro p e s m args below meth c s₁ Bd hml hv
  obtain ⟨rfl, hsz, hP, hK, hD0, hN⟩ := hv
  have hx := Bd.exec
  have hb := Bd.bytes
  have hr := Bd.returns
  have hts := atoms_spec (ws := wsX1_refuseFar) Bd.pre
  have hown : s.vm.findClass RX1 = some m.cls := findClass_of_methodNamed Bd.named
  have hlocks := Bd.notSynchronized
  subst hsz
  have hD := hD0.self (sz := s.heap.size)
  generalize hAe : va_A (wX A cI xx xn xm xk) s.heap.size = G at hD ⊢
  have hA : ∀ q : Nat, s.heap.size ≤ q → G q := fun q h => by rw [← hAe]; exact Or.inr h
  have hS : va_S G s.heap s.heap [] := va_S.rf
  have hP : va_P D vwCl (wX A cI xx xn xm xk) s.heap := hP
  have hl := lv_entry ([.ref ((A 0) 0), .int j1]) (n := 2) (Nat.le_of_ble_eq_true rfl)
  rw [lg_entry_eq]
  generalize (lg_sl ([.ref ((A 0) 0), .int j1]) ++ List.replicate (2 - (lg_sl ([.ref ((A 0) 0), .int j1])).length) Slot.unset).toArray = ls at hl ⊢
  have hl : lv_has ls 2 [(0, .ref ((A 0) 0)), (1, .int j1)] := hl
  have lk0 := hts (.constantLong RX1 215 (4000000000000000000)) (by decide +kernel)
  refine W_in ?_
  intro WW hWW
  refine (hWW _ _ _).mpr ?_
  unfold f_X1_refuseFar at hf
  refine lv_ldc2 (v := (4000000000000000000 : Int64)) hx hb hown lk0 dX1_refuseFar_0 ?_
  refine lv_aload_n hx hb dX1_refuseFar_3 rfl (lv_at hl 0 rfl) ?_
  refine lv_iload_n hx hb dX1_refuseFar_4 rfl (lv_at hl 1 rfl) ?_
  obtain ⟨v1, hev1, hf⟩ := bS hf
  refine rV_i (ws' := (wX A cI v1.2 xn xm xk)) (As := [.int j1]) (rest := [.long (4000000000000000000 : Int64)]) ⟨hx, hb, hml, hown, hts⟩ hK hN hA hP hD hS (c_X1_refuse l D cI A j1 xx xn xm xk v1 hev1) (cwV 1 hts gX1_refuseFar_X1_refuse rfl rfl rfl hd_X1_refuse ⟨Nat.le_of_ble_eq_true rfl, Nat.le_of_ble_eq_true rfl⟩) (va_recv hK hP (ci := 1) (q0 := 0) rfl rfl) [0, 1, 2, 3, 4, 5, 6, 7, 8, 9, 10, 11, 12, 13, 14, 15, 16, 17, 18, 19, 20, 21, 22, 23, 24, 25, 26, 27, 28, 29, 30, 31, 32, 33, 34, 35, 36] (by decide) rfl rfl rfl rfl hl.1 rfl (Nat.le_of_ble_eq_true rfl) dX1_refuseFar_5 ⟨Nat.le_of_ble_eq_true rfl, Nat.le_of_ble_eq_true rfl⟩ (fun H locs hP hD hS => ?_)
  have hP : va_P D vwCl (wX A cI v1.2 xn xm xk) H := hP
  refine lv_i2l hx hb dX1_refuseFar_8 rfl ?_
  refine lv_lsub hx hb dX1_refuseFar_9 ?_
  obtain rfl := Option.some.inj hf
  exact W.lret (v := ((4000000000000000000 : Int64) - (v1.1).toInt64)) hx hb hr (fun t ht hW => ⟨⟨((4000000000000000000 : Int64) - (v1.1).toInt64), (), rfl, rfl, hPt ht hP⟩, hS.F ht⟩) hS.2.2 dX1_refuseFar_10
def L_X1_inLeastTerms_25 (j0 : Int64) (j2 : Int64) (j4 : Int32) (K61 : Int64 → Option (Int64)) : Nat → Int64 → Int64 → Int32 → Option (Int64)
  | 0, _, _, _ => none
  | n' + 1, j5_25, j7_25, j9_25 => if (128 : Int32) ≤ j9_25 then (K61 j5_25) else if (lg_cmp j7_25 (0 : Int64)) = 0 then (K61 j5_25) else nz j7_25 ((L_X1_inLeastTerms_25 j0 j2 j4 K61 n' j7_25 (j5_25 - j5_25 / j7_25 * j7_25) (j9_25 + (1 : Int32))))
def f_X1_inLeastTerms (j0 : Int64) (j2 : Int64) (j4 : Int32) : Option (Int64) := if (lg_cmp j0 (0 : Int64)) ≤ 0 then some (j4).toInt64 else if 0 < (lg_cmp j2 (0 : Int64)) then jn (fun (j5_61 : Int64) => if 0 < (lg_cmp j5_61 (0 : Int64)) then if j4 = 0 then nz j5_61 (some (j0 / j5_61)) else nz j5_61 (some (j2 / j5_61)) else some (j4).toInt64) (fun (K61 : Int64 → Option (Int64)) => (L_X1_inLeastTerms_25 j0 j2 j4 K61 fuel j0 j2 (0 : Int32))) else some (j4).toInt64
set_option maxHeartbeats 4000000 in
set_option maxRecDepth 100000 in
theorem c_X1_inLeastTerms (l : Launch) (D : va_G) (cI : ClassId) (j0 : Int64) (j2 : Int64) (j4 : Int32) (out : Int64) (hf : f_X1_inLeastTerms j0 j2 j4 = some out) : uL l D cI yX1_inLeastTerms wsX1_inLeastTerms ({ frames := 0, cells := 0, slots := 0, locals := 0 } : Room) [.long j0, .long j2, .int j4] [] [] out := by
  intro sz
  refine Met.ofW (cc := cX1_inLeastTerms) (maxL := 12) (ret := (some .long)) (by decide) rfl ?_
  intro p e s m args below meth c s₁ Bd hml hv
  obtain ⟨rfl, hsz, hP, hK, hD0, hN⟩ := hv
  have hx := Bd.exec
  have hb := Bd.bytes
  have hr := Bd.returns
  have hts := atoms_spec (ws := wsX1_inLeastTerms) Bd.pre
  have hown : s.vm.findClass RX1 = some m.cls := findClass_of_methodNamed Bd.named
  have hlocks := Bd.notSynchronized
  subst hsz
  have hD := hD0.self (sz := s.heap.size)
  generalize hAe : va_A [] s.heap.size = G at hD ⊢
  have hA : ∀ q : Nat, s.heap.size ≤ q → G q := fun q h => by rw [← hAe]; exact Or.inr h
  have hS : va_S G s.heap s.heap [] := va_S.rf
  have hP : va_P D vwCl [] s.heap := hP
  have hl := lv_entry ([.long j0, .long j2, .int j4]) (n := 12) (Nat.le_of_ble_eq_true rfl)
  rw [lg_entry_eq]
  generalize (lg_sl ([.long j0, .long j2, .int j4]) ++ List.replicate (12 - (lg_sl ([.long j0, .long j2, .int j4])).length) Slot.unset).toArray = ls at hl ⊢
  have hl : lv_has ls 12 [(0, .long j0), (2, .long j2), (4, .int j4)] := hl
  refine W_in ?_
  intro WW hWW
  refine (hWW _ _ _).mpr ?_
  unfold f_X1_inLeastTerms at hf
  refine lv_lload_n hx hb dX1_inLeastTerms_0 rfl (lv_at hl 0 rfl) ?_
  refine lv_lconst (v := (0 : Int64)) hx hb dX1_inLeastTerms_1 (by decide) ?_
  refine W.lcmp hx hb dX1_inLeastTerms_2 ?_
  refine lv_if_le (tgt := 12) hx hb dX1_inLeastTerms_3 (by decide) (fun c1 => ?_) (fun c1 => ?_)
  · have hf := hT hf c1
    refine lv_iload hx hb dX1_inLeastTerms_12 (lv_at hl 2 rfl) ?_
    refine lv_i2l hx hb dX1_inLeastTerms_14 rfl ?_
    obtain rfl := Option.some.inj hf
    exact W.lret (v := (j4).toInt64) hx hb hr (fun t ht hW => ⟨⟨(j4).toInt64, (), rfl, rfl, hPt ht hP⟩, hS.F ht⟩) hS.2.2 dX1_inLeastTerms_15
  · have hf := hF hf c1
    refine lv_lload_n hx hb dX1_inLeastTerms_6 rfl (lv_at hl 1 rfl) ?_
    refine lv_lconst (v := (0 : Int64)) hx hb dX1_inLeastTerms_7 (by decide) ?_
    refine W.lcmp hx hb dX1_inLeastTerms_8 ?_
    refine lv_if_gt (tgt := 16) hx hb dX1_inLeastTerms_9 (by decide) (fun c2 => ?_) (fun c2 => ?_)
    · have hf := hT hf c2
      refine lv_lload_n hx hb dX1_inLeastTerms_16 rfl (lv_at hl 0 rfl) ?_
      refine lv_lstore (lv' := [(5, .long j0), (0, .long j0), (2, .long j2), (4, .int j4)]) hx hb dX1_inLeastTerms_17 hl (by decide) rfl (fun ls hl => ?_)
      refine lv_lload_n hx hb dX1_inLeastTerms_19 rfl (lv_at hl 2 rfl) ?_
      refine lv_lstore (lv' := [(7, .long j2), (5, .long j0), (0, .long j0), (2, .long j2), (4, .int j4)]) hx hb dX1_inLeastTerms_20 hl (by decide) rfl (fun ls hl => ?_)
      refine lv_iconst (v := (0 : Int32)) hx hb dX1_inLeastTerms_22 (by decide) ?_
      refine lv_istore (lv' := [(9, .int (0 : Int32)), (7, .long j2), (5, .long j0), (0, .long j0), (2, .long j2), (4, .int j4)]) hx hb dX1_inLeastTerms_23 hl (by decide) rfl (fun ls hl => ?_)
      obtain ⟨K61, hK61, hf⟩ := jnS hf
      have J61 : ∀ (j5_61 : Int64) (H : Heap) (locs : List Loc) (ls : Array Slot), K61 j5_61 = some out → va_P D vwCl [] H → va_D G [] → va_S G s.heap H locs → lv_has ls 12 [(0, .long j0), (2, .long j2), (4, .int j4), (5, .long j5_61)] → WW H locs (F0 m 61 ls []) := by
        intro j5_61 H locs ls hf hP hD hS hl
        subst hK61
        refine (hWW _ _ _).mpr ?_
        refine lv_lload hx hb dX1_inLeastTerms_61 (lv_at hl 3 rfl) ?_
        refine lv_lconst (v := (0 : Int64)) hx hb dX1_inLeastTerms_63 (by decide) ?_
        refine W.lcmp hx hb dX1_inLeastTerms_64 ?_
        refine lv_if_gt (tgt := 72) hx hb dX1_inLeastTerms_65 (by decide) (fun c3 => ?_) (fun c3 => ?_)
        · have hf := hT hf c3
          refine lv_iload hx hb dX1_inLeastTerms_72 (lv_at hl 2 rfl) ?_
          refine lv_if_ne (tgt := 84) hx hb dX1_inLeastTerms_74 (by decide) (fun c4 => ?_) (fun c4 => ?_)
          · have hf := hF hf c4
            refine lv_lload_n hx hb dX1_inLeastTerms_84 rfl (lv_at hl 1 rfl) ?_
            refine lv_lload hx hb dX1_inLeastTerms_85 (lv_at hl 3 rfl) ?_
            obtain ⟨c5, hf⟩ := nzS hf
            refine lv_ldiv hx hb dX1_inLeastTerms_87 c5 ?_
            obtain rfl := Option.some.inj hf
            exact W.lret (v := (j2 / j5_61)) hx hb hr (fun t ht hW => ⟨⟨(j2 / j5_61), (), rfl, rfl, hPt ht hP⟩, hS.F ht⟩) hS.2.2 dX1_inLeastTerms_88
          · have hf := hT hf c4
            refine lv_lload_n hx hb dX1_inLeastTerms_77 rfl (lv_at hl 0 rfl) ?_
            refine lv_lload hx hb dX1_inLeastTerms_78 (lv_at hl 3 rfl) ?_
            obtain ⟨c6, hf⟩ := nzS hf
            refine lv_ldiv hx hb dX1_inLeastTerms_80 c6 ?_
            refine lv_goto (tgt := 88) hx hb dX1_inLeastTerms_81 (by decide) ?_
            obtain rfl := Option.some.inj hf
            exact W.lret (v := (j0 / j5_61)) hx hb hr (fun t ht hW => ⟨⟨(j0 / j5_61), (), rfl, rfl, hPt ht hP⟩, hS.F ht⟩) hS.2.2 dX1_inLeastTerms_88
        · have hf := hF hf c3
          refine lv_iload hx hb dX1_inLeastTerms_68 (lv_at hl 2 rfl) ?_
          refine lv_i2l hx hb dX1_inLeastTerms_70 rfl ?_
          obtain rfl := Option.some.inj hf
          exact W.lret (v := (j4).toInt64) hx hb hr (fun t ht hW => ⟨⟨(j4).toInt64, (), rfl, rfl, hPt ht hP⟩, hS.F ht⟩) hS.2.2 dX1_inLeastTerms_71
      have P25 : ∀ (n' : Nat) (j5_25 : Int64) (j7_25 : Int64) (j9_25 : Int32) (H : Heap) (locs : List Loc) (ls : Array Slot), L_X1_inLeastTerms_25 j0 j2 j4 K61 n' j5_25 j7_25 j9_25 = some out → va_P D vwCl [] H → va_D G [] → va_S G s.heap H locs → lv_has ls 12 [(0, .long j0), (2, .long j2), (4, .int j4), (5, .long j5_25), (7, .long j7_25), (9, .int j9_25)] → WW H locs (F0 m 25 ls []) := by
        intro n'
        induction n' with
        | zero => intro j5_25 j7_25 j9_25 H locs ls hf; exact absurd (show (none : Option (Int64)) = some out from hf) (fun q => by cases q)
        | succ n' ih =>
          intro j5_25 j7_25 j9_25 H locs ls hf hP hD hS hl
          rw [L_X1_inLeastTerms_25] at hf
          refine (hWW _ _ _).mpr ?_
          refine lv_iload hx hb dX1_inLeastTerms_25 (lv_at hl 5 rfl) ?_
          refine lv_sipush (v := (128 : Int32)) hx hb dX1_inLeastTerms_27 (by decide) ?_
          refine lv_icmp_ge (tgt := 61) hx hb dX1_inLeastTerms_30 (by decide) (fun c7 => ?_) (fun c7 => ?_)
          · have hf := hT hf c7
            exact (hWW _ _ _).mp (J61 _ _ _ _ hf hP hD hS (lv_sub hl [0, 1, 2, 3] rfl))
          · have hf := hF hf c7
            refine lv_lload hx hb dX1_inLeastTerms_33 (lv_at hl 4 rfl) ?_
            refine lv_lconst (v := (0 : Int64)) hx hb dX1_inLeastTerms_35 (by decide) ?_
            refine W.lcmp hx hb dX1_inLeastTerms_36 ?_
            refine lv_if_eq (tgt := 61) hx hb dX1_inLeastTerms_37 (by decide) (fun c8 => ?_) (fun c8 => ?_)
            · have hf := hT hf c8
              exact (hWW _ _ _).mp (J61 _ _ _ _ hf hP hD hS (lv_sub hl [0, 1, 2, 3] rfl))
            · have hf := hF hf c8
              refine lv_lload hx hb dX1_inLeastTerms_40 (lv_at hl 3 rfl) ?_
              refine lv_lload hx hb dX1_inLeastTerms_42 (lv_at hl 4 rfl) ?_
              obtain ⟨c9, hf⟩ := nzS hf
              refine lv_lrem hx hb dX1_inLeastTerms_44 c9 ?_
              refine lv_lstore (lv' := [(10, .long (j5_25 - j5_25 / j7_25 * j7_25)), (0, .long j0), (2, .long j2), (4, .int j4), (5, .long j5_25), (7, .long j7_25), (9, .int j9_25)]) hx hb dX1_inLeastTerms_45 hl (by decide) rfl (fun ls hl => ?_)
              refine lv_lload hx hb dX1_inLeastTerms_47 (lv_at hl 5 rfl) ?_
              refine lv_lstore (lv' := [(5, .long j7_25), (10, .long (j5_25 - j5_25 / j7_25 * j7_25)), (0, .long j0), (2, .long j2), (4, .int j4), (7, .long j7_25), (9, .int j9_25)]) hx hb dX1_inLeastTerms_49 hl (by decide) rfl (fun ls hl => ?_)
              refine lv_lload hx hb dX1_inLeastTerms_51 (lv_at hl 1 rfl) ?_
              refine lv_lstore (lv' := [(7, .long (j5_25 - j5_25 / j7_25 * j7_25)), (5, .long j7_25), (10, .long (j5_25 - j5_25 / j7_25 * j7_25)), (0, .long j0), (2, .long j2), (4, .int j4), (9, .int j9_25)]) hx hb dX1_inLeastTerms_53 hl (by decide) rfl (fun ls hl => ?_)
              refine lv_iinc (v := (j9_25 + (1 : Int32))) (lv' := [(9, .int (j9_25 + (1 : Int32))), (7, .long (j5_25 - j5_25 / j7_25 * j7_25)), (5, .long j7_25), (10, .long (j5_25 - j5_25 / j7_25 * j7_25)), (0, .long j0), (2, .long j2), (4, .int j4)]) hx hb dX1_inLeastTerms_55 hl (k := 6) rfl rfl (by decide) rfl (fun ls hl => ?_)
              refine lv_goto (tgt := 25) hx hb dX1_inLeastTerms_58 (by decide) ?_
              exact (hWW _ _ _).mp (ih _ _ _ _ _ _ hf hP hD hS (lv_sub hl [4, 5, 6, 2, 1, 0] rfl))
      exact (hWW _ _ _).mp (P25 _ _ _ _ _ _ _ hf hP hD hS (lv_sub hl [3, 4, 5, 2, 1, 0] rfl))
    · have hf := hF hf c2
      refine lv_iload hx hb dX1_inLeastTerms_12 (lv_at hl 2 rfl) ?_
      refine lv_i2l hx hb dX1_inLeastTerms_14 rfl ?_
      obtain rfl := Option.some.inj hf
      exact W.lret (v := (j4).toInt64) hx hb hr (fun t ht hW => ⟨⟨(j4).toInt64, (), rfl, rfl, hPt ht hP⟩, hS.F ht⟩) hS.2.2 dX1_inLeastTerms_15
def f_X1_mean (j1 : Int32) (xx : HS) (xn : HS) (xm : HS) (xk : HS) : Option (Int64 × HS) := if j1 < 0 then (f_X1_refuseFar (-2 : Int32) xx xn xm xk).bind fun v2 => some (v2.1, v2.2) else if j1 ≤ (1 : Int32) then (f_X0_allPurses xn).bind fun v4 => (f_X1_inLeastTerms (v4).toInt64 ((xn 11 0)).toInt64 j1).bind fun v5 => some (v5, xx) else (f_X1_refuseFar (-2 : Int32) xx xn xm xk).bind fun v6 => some (v6.1, v6.2)
set_option maxHeartbeats 4000000 in
set_option maxRecDepth 100000 in
theorem c_X1_mean (l : Launch) (D : va_G) (cI : ClassId) (A : Nat → Nat → Nat) (j1 : Int32) (xx : HS) (xn : HS) (xm : HS) (xk : HS) (out : Int64 × HS) (hf : f_X1_mean j1 xx xn xm xk = some out) : uL l D cI yX1_mean wsX1_mean ({ frames := 3, cells := 0, slots := 0, locals := 64 } : Room) [.ref ((A 0) 0), .int j1] (wX A cI xx xn xm xk) (wX A cI out.2 xn xm xk) out.1 := by
  intro sz
  refine Met.ofW (cc := cX1_mean) (maxL := 2) (ret := (some .long)) (by decide) rfl ?_
  intro p e s m args below meth c s₁ Bd hml hv
  obtain ⟨rfl, hsz, hP, hK, hD0, hN⟩ := hv
  have hx := Bd.exec
  have hb := Bd.bytes
  have hr := Bd.returns
  have hts := atoms_spec (ws := wsX1_mean) Bd.pre
  have hown : s.vm.findClass RX1 = some m.cls := findClass_of_methodNamed Bd.named
  have hlocks := Bd.notSynchronized
  subst hsz
  have hD := hD0.self (sz := s.heap.size)
  generalize hAe : va_A (wX A cI xx xn xm xk) s.heap.size = G at hD ⊢
  have hA : ∀ q : Nat, s.heap.size ≤ q → G q := fun q h => by rw [← hAe]; exact Or.inr h
  have hS : va_S G s.heap s.heap [] := va_S.rf
  have hP : va_P D vwCl (wX A cI xx xn xm xk) s.heap := hP
  have hl := lv_entry ([.ref ((A 0) 0), .int j1]) (n := 2) (Nat.le_of_ble_eq_true rfl)
  rw [lg_entry_eq]
  generalize (lg_sl ([.ref ((A 0) 0), .int j1]) ++ List.replicate (2 - (lg_sl ([.ref ((A 0) 0), .int j1])).length) Slot.unset).toArray = ls at hl ⊢
  have hl : lv_has ls 2 [(0, .ref ((A 0) 0)), (1, .int j1)] := hl
  have hinH : ∀ w ∈ wsX00, w ∈ wsX1_mean := by decide +kernel
  have hinX : ∀ w ∈ wsX10, w ∈ wsX1_mean := by decide +kernel
  have lk0 := hts (.fieldLink RX1 10 "LiesBoughtBack" "now" "LLiesBoughtBack$Hall;") (by decide +kernel)
  have lk1 := hts (.initialized RX0) (by decide +kernel)
  have lk2 := hts (.instanceMethod yX0_allPurses) (by decide +kernel)
  have lk3 := hts (.selects RX0 yX0_allPurses yX0_allPurses) (by decide +kernel)
  refine W_in ?_
  intro WW hWW
  refine (hWW _ _ _).mpr ?_
  unfold f_X1_mean at hf
  refine lv_iload_n hx hb dX1_mean_0 rfl (lv_at hl 1 rfl) ?_
  refine lv_if_lt (tgt := 9) hx hb dX1_mean_1 (by decide) (fun c1 => ?_) (fun c1 => ?_)
  · have hf := hT hf c1
    refine lv_aload_n hx hb dX1_mean_9 rfl (lv_at hl 0 rfl) ?_
    refine lv_bipush (v := (-2 : Int32)) hx hb dX1_mean_10 (by decide) ?_
    obtain ⟨v2, hev2, hf⟩ := bS hf
    refine rV_l (ws' := (wX A cI v2.2 xn xm xk)) (As := [.int (-2 : Int32)]) (rest := []) ⟨hx, hb, hml, hown, hts⟩ hK hN hA hP hD hS (c_X1_refuseFar l D cI A (-2 : Int32) xx xn xm xk v2 hev2) (cwV 1 hts gX1_mean_X1_refuseFar rfl rfl rfl hd_X1_refuseFar ⟨Nat.le_of_ble_eq_true rfl, Nat.le_of_ble_eq_true rfl⟩) (va_recv hK hP (ci := 1) (q0 := 0) rfl rfl) [0, 1, 2, 3, 4, 5, 6, 7, 8, 9, 10, 11, 12, 13, 14, 15, 16, 17, 18, 19, 20, 21, 22, 23, 24, 25, 26, 27, 28, 29, 30, 31, 32, 33, 34, 35, 36] (by decide) rfl rfl rfl rfl hl.1 rfl (Nat.le_of_ble_eq_true rfl) dX1_mean_12 ⟨Nat.le_of_ble_eq_true rfl, Nat.le_of_ble_eq_true rfl⟩ (fun H locs hP hD hS => ?_)
    have hP : va_P D vwCl (wX A cI v2.2 xn xm xk) H := hP
    obtain rfl := Option.some.inj hf
    exact W.lret (v := v2.1) hx hb hr (fun t ht hW => ⟨⟨v2.1, (), rfl, rfl, hPt ht hP⟩, hS.F ht⟩) hS.2.2 dX1_mean_15
  · have hf := hF hf c1
    refine lv_iload_n hx hb dX1_mean_4 rfl (lv_at hl 1 rfl) ?_
    refine lv_iconst (v := (1 : Int32)) hx hb dX1_mean_5 (by decide) ?_
    refine lv_icmp_le (tgt := 16) hx hb dX1_mean_6 (by decide) (fun c3 => ?_) (fun c3 => ?_)
    · have hf := hT hf c3
      refine lv_aload_n hx hb dX1_mean_16 rfl (lv_at hl 0 rfl) ?_
      refine va_get (D := D) (ci := 1) (v := .ref ((A 1) 0)) (C := RX1) (T := TX1) (N := 9) hx hb hts hinX hown hK hP 0 rfl rfl 0 (by decide) lk0 (fun _ h9 => h9) rfl dX1_mean_17 ?_
      obtain ⟨v4, hev4, hf⟩ := bS hf
      refine rVN_io (As := []) (rest := []) ⟨hx, hb, hml, hown, hts⟩ hK hN hA hP hD hS (c_X0_allPurses l D cI (A 1) xn v4 hev4) ⟨va_cnB 0 hts gX1_mean_X0_allPurses_n157 rfl rfl rfl (nW.m hN 28 rfl) lk1 hd_X0_allPurses.2 ⟨Nat.le_of_ble_eq_true rfl, Nat.le_of_ble_eq_true rfl⟩, lk2, lk3⟩ (va_recv hK hP (ci := 0) (q0 := 1) rfl rfl) [1, 2, 3, 4, 5, 6, 7, 8, 9, 10, 11] (by decide) rfl rfl hl.1 rfl (Nat.le_of_ble_eq_true rfl) dX1_mean_20 ⟨Nat.le_of_ble_eq_true rfl, Nat.le_of_ble_eq_true rfl⟩ (fun H locs hP hD hS => ?_)
      refine lv_i2l hx hb dX1_mean_23 rfl ?_
      refine lv_aload_n hx hb dX1_mean_24 rfl (lv_at hl 0 rfl) ?_
      refine va_get (D := D) (ci := 1) (v := .ref ((A 1) 0)) (C := RX1) (T := TX1) (N := 9) hx hb hts hinX hown hK hP 0 rfl rfl 0 (by decide) lk0 (fun _ h9 => h9) rfl dX1_mean_25 ?_
      refine va_getN (D := D) (ci := 0) (v := .int (xn 11 0)) (C := RX0) (T := TX0) (N := 13) hx hb hts hinH hown hK hP 1 rfl rfl 1 (by decide) (nW.f hN 1 rfl) (fun _ h9 => h9) rfl dX1_mean_28 ?_
      refine lv_i2l hx hb dX1_mean_31 rfl ?_
      refine lv_iload_n hx hb dX1_mean_32 rfl (lv_at hl 1 rfl) ?_
      obtain ⟨v5, hev5, hf⟩ := bS hf
      refine rS_lo (As := [.long (v4).toInt64, .long ((xn 11 0)).toInt64, .int j1]) (rest := []) ⟨hx, hb, hml, hown, hts⟩ hK hN hA hP hD hS (c_X1_inLeastTerms l D cI (v4).toInt64 ((xn 11 0)).toInt64 j1 v5 hev5) (va_cwS 3 hts gX1_mean_X1_inLeastTerms rfl rfl rfl hd_X1_inLeastTerms.2 ⟨Nat.le_of_ble_eq_true rfl, Nat.le_of_ble_eq_true rfl⟩) [] (by decide) rfl rfl hl.1 rfl (Nat.le_of_ble_eq_true rfl) dX1_mean_33 ⟨Nat.le_of_ble_eq_true rfl, Nat.le_of_ble_eq_true rfl⟩ (fun H locs hP hD hS => ?_)
      obtain rfl := Option.some.inj hf
      exact W.lret (v := v5) hx hb hr (fun t ht hW => ⟨⟨v5, (), rfl, rfl, hPt ht hP⟩, hS.F ht⟩) hS.2.2 dX1_mean_36
    · have hf := hF hf c3
      refine lv_aload_n hx hb dX1_mean_9 rfl (lv_at hl 0 rfl) ?_
      refine lv_bipush (v := (-2 : Int32)) hx hb dX1_mean_10 (by decide) ?_
      obtain ⟨v6, hev6, hf⟩ := bS hf
      refine rV_l (ws' := (wX A cI v6.2 xn xm xk)) (As := [.int (-2 : Int32)]) (rest := []) ⟨hx, hb, hml, hown, hts⟩ hK hN hA hP hD hS (c_X1_refuseFar l D cI A (-2 : Int32) xx xn xm xk v6 hev6) (cwV 1 hts gX1_mean_X1_refuseFar rfl rfl rfl hd_X1_refuseFar ⟨Nat.le_of_ble_eq_true rfl, Nat.le_of_ble_eq_true rfl⟩) (va_recv hK hP (ci := 1) (q0 := 0) rfl rfl) [0, 1, 2, 3, 4, 5, 6, 7, 8, 9, 10, 11, 12, 13, 14, 15, 16, 17, 18, 19, 20, 21, 22, 23, 24, 25, 26, 27, 28, 29, 30, 31, 32, 33, 34, 35, 36] (by decide) rfl rfl rfl rfl hl.1 rfl (Nat.le_of_ble_eq_true rfl) dX1_mean_12 ⟨Nat.le_of_ble_eq_true rfl, Nat.le_of_ble_eq_true rfl⟩ (fun H locs hP hD hS => ?_)
      have hP : va_P D vwCl (wX A cI v6.2 xn xm xk) H := hP
      obtain rfl := Option.some.inj hf
      exact W.lret (v := v6.1) hx hb hr (fun t ht hW => ⟨⟨v6.1, (), rfl, rfl, hPt ht hP⟩, hS.F ht⟩) hS.2.2 dX1_mean_15
def f_X1_count (j1 : Int32) (xx : HS) (xn : HS) (xm : HS) (xk : HS) : Option (Int32) := if j1 = (0 : Int32) then some (xn 10 0) else (if j1 = (1 : Int32) then some (xn 11 0) else (if j1 = (2 : Int32) then some (xn 12 0) else (if j1 = (3 : Int32) then (f_X0_pileBits xn).bind fun v5 => some v5 else (if j1 = (4 : Int32) then (f_X0_allWorth xn).bind fun v7 => some v7 else (if j1 = (5 : Int32) then (f_X0_allBelieved xn).bind fun v9 => some v9 else (if j1 = (6 : Int32) then some (xx 5 0) else (if j1 = (7 : Int32) then some (xx 4 0) else (if j1 < (11 : Int32) then some (-9 : Int32) else if (16 : Int32) < j1 then some (-9 : Int32) else some (atv 7 (xx 2) (j1 - (10 : Int32)))))))))))
set_option maxHeartbeats 4000000 in
set_option maxRecDepth 100000 in
theorem c_X1_count (l : Launch) (D : va_G) (cI : ClassId) (A : Nat → Nat → Nat) (j1 : Int32) (xx : HS) (xn : HS) (xm : HS) (xk : HS) (out : Int32) (hf : f_X1_count j1 xx xn xm xk = some out) : uI l D cI yX1_count wsX1_count ({ frames := 3, cells := 0, slots := 0, locals := 66 } : Room) [.ref ((A 0) 0), .int j1] (wX A cI xx xn xm xk) (wX A cI xx xn xm xk) out := by
  intro sz
  refine Met.ofW (cc := cX1_count) (maxL := 2) (ret := (some .int)) (by decide) rfl ?_
  intro p e s m args below meth c s₁ Bd hml hv
  obtain ⟨rfl, hsz, hP, hK, hD0, hN⟩ := hv
  have hx := Bd.exec
  have hb := Bd.bytes
  have hr := Bd.returns
  have hts := atoms_spec (ws := wsX1_count) Bd.pre
  have hown : s.vm.findClass RX1 = some m.cls := findClass_of_methodNamed Bd.named
  have hlocks := Bd.notSynchronized
  subst hsz
  have hD := hD0.self (sz := s.heap.size)
  generalize hAe : va_A (wX A cI xx xn xm xk) s.heap.size = G at hD ⊢
  have hA : ∀ q : Nat, s.heap.size ≤ q → G q := fun q h => by rw [← hAe]; exact Or.inr h
  have hS : va_S G s.heap s.heap [] := va_S.rf
  have hP : va_P D vwCl (wX A cI xx xn xm xk) s.heap := hP
  have hl := lv_entry ([.ref ((A 0) 0), .int j1]) (n := 2) (Nat.le_of_ble_eq_true rfl)
  rw [lg_entry_eq]
  generalize (lg_sl ([.ref ((A 0) 0), .int j1]) ++ List.replicate (2 - (lg_sl ([.ref ((A 0) 0), .int j1])).length) Slot.unset).toArray = ls at hl ⊢
  have hl : lv_has ls 2 [(0, .ref ((A 0) 0)), (1, .int j1)] := hl
  have hinH : ∀ w ∈ wsX00, w ∈ wsX1_count := by decide +kernel
  have hinX : ∀ w ∈ wsX10, w ∈ wsX1_count := by decide +kernel
  have lk0 := hts (.fieldLink RX1 10 "LiesBoughtBack" "now" "LLiesBoughtBack$Hall;") (by decide +kernel)
  have lk1 := hts (.initialized RX0) (by decide +kernel)
  have lk2 := hts (.instanceMethod yX0_pileBits) (by decide +kernel)
  have lk3 := hts (.selects RX0 yX0_pileBits yX0_pileBits) (by decide +kernel)
  have lk4 := hts (.instanceMethod yX0_allWorth) (by decide +kernel)
  have lk5 := hts (.selects RX0 yX0_allWorth yX0_allWorth) (by decide +kernel)
  have lk6 := hts (.instanceMethod yX0_allBelieved) (by decide +kernel)
  have lk7 := hts (.selects RX0 yX0_allBelieved yX0_allBelieved) (by decide +kernel)
  have lk8 := hts (.fieldLink RX1 177 "LiesBoughtBack" "numberCount" "I") (by decide +kernel)
  have lk9 := hts (.fieldLink RX1 36 "LiesBoughtBack" "letterCount" "I") (by decide +kernel)
  have lk10 := hts (.fieldLink RX1 29 "LiesBoughtBack" "refused" "[I") (by decide +kernel)
  refine W_in ?_
  intro WW hWW
  refine (hWW _ _ _).mpr ?_
  unfold f_X1_count at hf
  refine lv_iload_n hx hb dX1_count_0 rfl (lv_at hl 1 rfl) ?_
  by_cases c1 : j1 = (0 : Int32)
  · have hf := hT hf c1
    refine sw_in (v := 0) (off := 47) (tgt := 48) hx hb dX1_count_1 ((congrArg Int32.toInt c1).trans (by decide)) (by decide) (by decide) (by decide) (by decide) ?_
    refine lv_aload_n hx hb dX1_count_48 rfl (lv_at hl 0 rfl) ?_
    refine va_get (D := D) (ci := 1) (v := .ref ((A 1) 0)) (C := RX1) (T := TX1) (N := 9) hx hb hts hinX hown hK hP 0 rfl rfl 0 (by decide) lk0 (fun _ h9 => h9) rfl dX1_count_49 ?_
    refine va_getN (D := D) (ci := 0) (v := .int (xn 10 0)) (C := RX0) (T := TX0) (N := 13) hx hb hts hinH hown hK hP 1 rfl rfl 0 (by decide) (nW.f hN 0 rfl) (fun _ h9 => h9) rfl dX1_count_52 ?_
    obtain rfl := Option.some.inj hf
    exact W.iret (v := (xn 10 0)) hx hb hr (fun t ht hW => ⟨⟨(xn 10 0), (), rfl, rfl, hPt ht hP⟩, hS.F ht⟩) hS.2.2 dX1_count_55
  have hf := hF hf c1
  by_cases c2 : j1 = (1 : Int32)
  · have hf := hT hf c2
    refine sw_in (v := 1) (off := 55) (tgt := 56) hx hb dX1_count_1 ((congrArg Int32.toInt c2).trans (by decide)) (by decide) (by decide) (by decide) (by decide) ?_
    refine lv_aload_n hx hb dX1_count_56 rfl (lv_at hl 0 rfl) ?_
    refine va_get (D := D) (ci := 1) (v := .ref ((A 1) 0)) (C := RX1) (T := TX1) (N := 9) hx hb hts hinX hown hK hP 0 rfl rfl 0 (by decide) lk0 (fun _ h9 => h9) rfl dX1_count_57 ?_
    refine va_getN (D := D) (ci := 0) (v := .int (xn 11 0)) (C := RX0) (T := TX0) (N := 13) hx hb hts hinH hown hK hP 1 rfl rfl 1 (by decide) (nW.f hN 1 rfl) (fun _ h9 => h9) rfl dX1_count_60 ?_
    obtain rfl := Option.some.inj hf
    exact W.iret (v := (xn 11 0)) hx hb hr (fun t ht hW => ⟨⟨(xn 11 0), (), rfl, rfl, hPt ht hP⟩, hS.F ht⟩) hS.2.2 dX1_count_63
  have hf := hF hf c2
  by_cases c3 : j1 = (2 : Int32)
  · have hf := hT hf c3
    refine sw_in (v := 2) (off := 63) (tgt := 64) hx hb dX1_count_1 ((congrArg Int32.toInt c3).trans (by decide)) (by decide) (by decide) (by decide) (by decide) ?_
    refine lv_aload_n hx hb dX1_count_64 rfl (lv_at hl 0 rfl) ?_
    refine va_get (D := D) (ci := 1) (v := .ref ((A 1) 0)) (C := RX1) (T := TX1) (N := 9) hx hb hts hinX hown hK hP 0 rfl rfl 0 (by decide) lk0 (fun _ h9 => h9) rfl dX1_count_65 ?_
    refine va_getN (D := D) (ci := 0) (v := .int (xn 12 0)) (C := RX0) (T := TX0) (N := 13) hx hb hts hinH hown hK hP 1 rfl rfl 2 (by decide) (nW.f hN 2 rfl) (fun _ h9 => h9) rfl dX1_count_68 ?_
    obtain rfl := Option.some.inj hf
    exact W.iret (v := (xn 12 0)) hx hb hr (fun t ht hW => ⟨⟨(xn 12 0), (), rfl, rfl, hPt ht hP⟩, hS.F ht⟩) hS.2.2 dX1_count_71
  have hf := hF hf c3
  by_cases c4 : j1 = (3 : Int32)
  · have hf := hT hf c4
    refine sw_in (v := 3) (off := 71) (tgt := 72) hx hb dX1_count_1 ((congrArg Int32.toInt c4).trans (by decide)) (by decide) (by decide) (by decide) (by decide) ?_
    refine lv_aload_n hx hb dX1_count_72 rfl (lv_at hl 0 rfl) ?_
    refine va_get (D := D) (ci := 1) (v := .ref ((A 1) 0)) (C := RX1) (T := TX1) (N := 9) hx hb hts hinX hown hK hP 0 rfl rfl 0 (by decide) lk0 (fun _ h9 => h9) rfl dX1_count_73 ?_
    obtain ⟨v5, hev5, hf⟩ := bS hf
    refine rVN_io (As := []) (rest := []) ⟨hx, hb, hml, hown, hts⟩ hK hN hA hP hD hS (c_X0_pileBits l D cI (A 1) xn v5 hev5) ⟨va_cnB 0 hts gX1_count_X0_pileBits_n151 rfl rfl rfl (nW.m hN 26 rfl) lk1 hd_X0_pileBits.2 ⟨Nat.le_of_ble_eq_true rfl, Nat.le_of_ble_eq_true rfl⟩, lk2, lk3⟩ (va_recv hK hP (ci := 0) (q0 := 1) rfl rfl) [1, 2, 3, 4, 5, 6, 7, 8, 9, 10, 11] (by decide) rfl rfl hl.1 rfl (Nat.le_of_ble_eq_true rfl) dX1_count_76 ⟨Nat.le_of_ble_eq_true rfl, Nat.le_of_ble_eq_true rfl⟩ (fun H locs hP hD hS => ?_)
    obtain rfl := Option.some.inj hf
    exact W.iret (v := v5) hx hb hr (fun t ht hW => ⟨⟨v5, (), rfl, rfl, hPt ht hP⟩, hS.F ht⟩) hS.2.2 dX1_count_79
  have hf := hF hf c4
  by_cases c6 : j1 = (4 : Int32)
  · have hf := hT hf c6
    refine sw_in (v := 4) (off := 79) (tgt := 80) hx hb dX1_count_1 ((congrArg Int32.toInt c6).trans (by decide)) (by decide) (by decide) (by decide) (by decide) ?_
    refine lv_aload_n hx hb dX1_count_80 rfl (lv_at hl 0 rfl) ?_
    refine va_get (D := D) (ci := 1) (v := .ref ((A 1) 0)) (C := RX1) (T := TX1) (N := 9) hx hb hts hinX hown hK hP 0 rfl rfl 0 (by decide) lk0 (fun _ h9 => h9) rfl dX1_count_81 ?_
    obtain ⟨v7, hev7, hf⟩ := bS hf
    refine rVN_io (As := []) (rest := []) ⟨hx, hb, hml, hown, hts⟩ hK hN hA hP hD hS (c_X0_allWorth l D cI (A 1) xn v7 hev7) ⟨va_cnB 0 hts gX1_count_X0_allWorth_n171 rfl rfl rfl (nW.m hN 29 rfl) lk1 hd_X0_allWorth.2 ⟨Nat.le_of_ble_eq_true rfl, Nat.le_of_ble_eq_true rfl⟩, lk4, lk5⟩ (va_recv hK hP (ci := 0) (q0 := 1) rfl rfl) [1, 2, 3, 4, 5, 6, 7, 8, 9, 10, 11] (by decide) rfl rfl hl.1 rfl (Nat.le_of_ble_eq_true rfl) dX1_count_84 ⟨Nat.le_of_ble_eq_true rfl, Nat.le_of_ble_eq_true rfl⟩ (fun H locs hP hD hS => ?_)
    obtain rfl := Option.some.inj hf
    exact W.iret (v := v7) hx hb hr (fun t ht hW => ⟨⟨v7, (), rfl, rfl, hPt ht hP⟩, hS.F ht⟩) hS.2.2 dX1_count_87
  have hf := hF hf c6
  by_cases c8 : j1 = (5 : Int32)
  · have hf := hT hf c8
    refine sw_in (v := 5) (off := 87) (tgt := 88) hx hb dX1_count_1 ((congrArg Int32.toInt c8).trans (by decide)) (by decide) (by decide) (by decide) (by decide) ?_
    refine lv_aload_n hx hb dX1_count_88 rfl (lv_at hl 0 rfl) ?_
    refine va_get (D := D) (ci := 1) (v := .ref ((A 1) 0)) (C := RX1) (T := TX1) (N := 9) hx hb hts hinX hown hK hP 0 rfl rfl 0 (by decide) lk0 (fun _ h9 => h9) rfl dX1_count_89 ?_
    obtain ⟨v9, hev9, hf⟩ := bS hf
    refine rVN_io (As := []) (rest := []) ⟨hx, hb, hml, hown, hts⟩ hK hN hA hP hD hS (c_X0_allBelieved l D cI (A 1) xn v9 hev9) ⟨va_cnB 0 hts gX1_count_X0_allBelieved_n174 rfl rfl rfl (nW.m hN 30 rfl) lk1 hd_X0_allBelieved.2 ⟨Nat.le_of_ble_eq_true rfl, Nat.le_of_ble_eq_true rfl⟩, lk6, lk7⟩ (va_recv hK hP (ci := 0) (q0 := 1) rfl rfl) [1, 2, 3, 4, 5, 6, 7, 8, 9, 10, 11] (by decide) rfl rfl hl.1 rfl (Nat.le_of_ble_eq_true rfl) dX1_count_92 ⟨Nat.le_of_ble_eq_true rfl, Nat.le_of_ble_eq_true rfl⟩ (fun H locs hP hD hS => ?_)
    obtain rfl := Option.some.inj hf
    exact W.iret (v := v9) hx hb hr (fun t ht hW => ⟨⟨v9, (), rfl, rfl, hPt ht hP⟩, hS.F ht⟩) hS.2.2 dX1_count_95
  have hf := hF hf c8
  by_cases c10 : j1 = (6 : Int32)
  · have hf := hT hf c10
    refine sw_in (v := 6) (off := 95) (tgt := 96) hx hb dX1_count_1 ((congrArg Int32.toInt c10).trans (by decide)) (by decide) (by decide) (by decide) (by decide) ?_
    refine lv_aload_n hx hb dX1_count_96 rfl (lv_at hl 0 rfl) ?_
    refine va_get (D := D) (ci := 1) (v := .int (xx 5 0)) (C := RX1) (T := TX1) (N := 9) hx hb hts hinX hown hK hP 0 rfl rfl 7 (by decide) lk8 (fun _ h9 => h9) rfl dX1_count_97 ?_
    obtain rfl := Option.some.inj hf
    exact W.iret (v := (xx 5 0)) hx hb hr (fun t ht hW => ⟨⟨(xx 5 0), (), rfl, rfl, hPt ht hP⟩, hS.F ht⟩) hS.2.2 dX1_count_100
  have hf := hF hf c10
  by_cases c11 : j1 = (7 : Int32)
  · have hf := hT hf c11
    refine sw_in (v := 7) (off := 100) (tgt := 101) hx hb dX1_count_1 ((congrArg Int32.toInt c11).trans (by decide)) (by decide) (by decide) (by decide) (by decide) ?_
    refine lv_aload_n hx hb dX1_count_101 rfl (lv_at hl 0 rfl) ?_
    refine va_get (D := D) (ci := 1) (v := .int (xx 4 0)) (C := RX1) (T := TX1) (N := 9) hx hb hts hinX hown hK hP 0 rfl rfl 5 (by decide) lk9 (fun _ h9 => h9) rfl dX1_count_102 ?_
    obtain rfl := Option.some.inj hf
    exact W.iret (v := (xx 4 0)) hx hb hr (fun t ht hW => ⟨⟨(xx 4 0), (), rfl, rfl, hPt ht hP⟩, hS.F ht⟩) hS.2.2 dX1_count_105
  have hf := hF hf c11
  refine lv_tableOut (tgt := 106) hx hb dX1_count_1 (by have z0 := lv_neT (a := 0) c1 (by decide); have z1 := lv_neT (a := 1) c2 (by decide); have z2 := lv_neT (a := 2) c3 (by decide); have z3 := lv_neT (a := 3) c4 (by decide); have z4 := lv_neT (a := 4) c6 (by decide); have z5 := lv_neT (a := 5) c8 (by decide); have z6 := lv_neT (a := 6) c10 (by decide); have z7 := lv_neT (a := 7) c11 (by decide); omega) (by decide) ?_
  refine lv_iload_n hx hb dX1_count_106 rfl (lv_at hl 1 rfl) ?_
  refine lv_bipush (v := (11 : Int32)) hx hb dX1_count_107 (by decide) ?_
  refine lv_icmp_lt (tgt := 132) hx hb dX1_count_109 (by decide) (fun c12 => ?_) (fun c12 => ?_)
  · have hf := hT hf c12
    refine lv_bipush (v := (-9 : Int32)) hx hb dX1_count_132 (by decide) ?_
    obtain rfl := Option.some.inj hf
    exact W.iret (v := (-9 : Int32)) hx hb hr (fun t ht hW => ⟨⟨(-9 : Int32), (), rfl, rfl, hPt ht hP⟩, hS.F ht⟩) hS.2.2 dX1_count_134
  · have hf := hF hf c12
    refine lv_iload_n hx hb dX1_count_112 rfl (lv_at hl 1 rfl) ?_
    refine lv_bipush (v := (16 : Int32)) hx hb dX1_count_113 (by decide) ?_
    refine lv_icmp_gt (tgt := 132) hx hb dX1_count_115 (by decide) (fun c13 => ?_) (fun c13 => ?_)
    · have hf := hT hf c13
      refine lv_bipush (v := (-9 : Int32)) hx hb dX1_count_132 (by decide) ?_
      obtain rfl := Option.some.inj hf
      exact W.iret (v := (-9 : Int32)) hx hb hr (fun t ht hW => ⟨⟨(-9 : Int32), (), rfl, rfl, hPt ht hP⟩, hS.F ht⟩) hS.2.2 dX1_count_134
    · have hf := hF hf c13
      refine lv_aload_n hx hb dX1_count_118 rfl (lv_at hl 0 rfl) ?_
      refine va_get (D := D) (ci := 1) (v := .ref ((A 0) 3)) (C := RX1) (T := TX1) (N := 9) hx hb hts hinX hown hK hP 0 rfl rfl 8 (by decide) lk10 (fun _ h9 => h9) rfl dX1_count_119 ?_
      refine lv_iload_n hx hb dX1_count_122 rfl (lv_at hl 1 rfl) ?_
      refine lv_bipush (v := (10 : Int32)) hx hb dX1_count_123 (by decide) ?_
      refine lv_isub hx hb dX1_count_125 ?_
      refine rS_io (As := [.ref ((A 0) 3), .int (j1 - (10 : Int32))]) (rest := []) ⟨hx, hb, hml, hown, hts⟩ hK hN hA hP hD hS (c_X1_at l D cI 7 (by decide) ((A 0) 3) (xx 2) (j1 - (10 : Int32))) (va_cwS 2 hts gX1_count_X1_at rfl rfl rfl hd_X1_at.2 ⟨Nat.le_of_ble_eq_true rfl, Nat.le_of_ble_eq_true rfl⟩) [36] (by decide) rfl rfl hl.1 rfl (Nat.le_of_ble_eq_true rfl) dX1_count_126 ⟨Nat.le_of_ble_eq_true rfl, Nat.le_of_ble_eq_true rfl⟩ (fun H locs hP hD hS => ?_)
      refine lv_goto (tgt := 134) hx hb dX1_count_129 (by decide) ?_
      obtain rfl := Option.some.inj hf
      exact W.iret (v := (atv 7 (xx 2) (j1 - (10 : Int32)))) hx hb hr (fun t ht hW => ⟨⟨(atv 7 (xx 2) (j1 - (10 : Int32))), (), rfl, rfl, hPt ht hP⟩, hS.F ht⟩) hS.2.2 dX1_count_134
def f_X1_cardThen (j1 : Int32) (j2 : Int32) (xx : HS) (xn : HS) (xm : HS) (xk : HS) : Option (Int32 × HS × HS) := if (f_X0_hasCard j1 xn) = 0 then (f_X1_refuse (-1 : Int32) xx xn xm xk).bind fun v6 => some (v6.1, v6.2, xm) else if (f_X1_beyond j2 (0 : Int32) (60 : Int32)) = 0 then (f_X0_become xm xn).bind fun v3 => (f_X0_goOn j2 (1 : Int32) v3).bind fun v4 => some ((atv 8 (v4.2 4) j1), xx, v4.2) else (f_X1_refuse (f_X1_beyond j2 (0 : Int32) (60 : Int32)) xx xn xm xk).bind fun v5 => some (v5.1, v5.2, xm)
set_option maxHeartbeats 4000000 in
set_option maxRecDepth 100000 in
theorem c_X1_cardThen (l : Launch) (D : va_G) (cI : ClassId) (A : Nat → Nat → Nat) (j1 : Int32) (j2 : Int32) (xx : HS) (xn : HS) (xm : HS) (xk : HS) (out : Int32 × HS × HS) (hf : f_X1_cardThen j1 j2 xx xn xm xk = some out) : uI l D cI yX1_cardThen wsX1_cardThen ({ frames := 5, cells := 0, slots := 0, locals := 128 } : Room) [.ref ((A 0) 0), .int j1, .int j2] (wX A cI xx xn xm xk) (wX A cI out.2.1 xn out.2.2 xk) out.1 := by
  intro sz
  refine Met.ofW (cc := cX1_cardThen) (maxL := 3) (ret := (some .int)) (by decide) rfl ?_
  intro p e s m args below meth c s₁ Bd hml hv
  obtain ⟨rfl, hsz, hP, hK, hD0, hN⟩ := hv
  have hx := Bd.exec
  have hb := Bd.bytes
  have hr := Bd.returns
  have hts := atoms_spec (ws := wsX1_cardThen) Bd.pre
  have hown : s.vm.findClass RX1 = some m.cls := findClass_of_methodNamed Bd.named
  have hlocks := Bd.notSynchronized
  subst hsz
  have hD := hD0.self (sz := s.heap.size)
  generalize hAe : va_A (wX A cI xx xn xm xk) s.heap.size = G at hD ⊢
  have hA : ∀ q : Nat, s.heap.size ≤ q → G q := fun q h => by rw [← hAe]; exact Or.inr h
  have hS : va_S G s.heap s.heap [] := va_S.rf
  have hP : va_P D vwCl (wX A cI xx xn xm xk) s.heap := hP
  have hl := lv_entry ([.ref ((A 0) 0), .int j1, .int j2]) (n := 3) (Nat.le_of_ble_eq_true rfl)
  rw [lg_entry_eq]
  generalize (lg_sl ([.ref ((A 0) 0), .int j1, .int j2]) ++ List.replicate (3 - (lg_sl ([.ref ((A 0) 0), .int j1, .int j2])).length) Slot.unset).toArray = ls at hl ⊢
  have hl : lv_has ls 3 [(0, .ref ((A 0) 0)), (1, .int j1), (2, .int j2)] := hl
  have hinH : ∀ w ∈ wsX00, w ∈ wsX1_cardThen := by decide +kernel
  have hinX : ∀ w ∈ wsX10, w ∈ wsX1_cardThen := by decide +kernel
  have lk0 := hts (.fieldLink RX1 10 "LiesBoughtBack" "now" "LLiesBoughtBack$Hall;") (by decide +kernel)
  have lk1 := hts (.initialized RX0) (by decide +kernel)
  have lk2 := hts (.instanceMethod yX0_hasCard) (by decide +kernel)
  have lk3 := hts (.selects RX0 yX0_hasCard yX0_hasCard) (by decide +kernel)
  have lk4 := hts (.fieldLink RX1 16 "LiesBoughtBack" "mind" "LLiesBoughtBack$Hall;") (by decide +kernel)
  have lk5 := hts (.instanceMethod yX0_become) (by decide +kernel)
  have lk6 := hts (.selects RX0 yX0_become yX0_become) (by decide +kernel)
  have lk7 := hts (.instanceMethod yX0_goOn) (by decide +kernel)
  have lk8 := hts (.selects RX0 yX0_goOn yX0_goOn) (by decide +kernel)
  refine W_in ?_
  intro WW hWW
  refine (hWW _ _ _).mpr ?_
  unfold f_X1_cardThen at hf
  refine lv_aload_n hx hb dX1_cardThen_0 rfl (lv_at hl 0 rfl) ?_
  refine va_get (D := D) (ci := 1) (v := .ref ((A 1) 0)) (C := RX1) (T := TX1) (N := 9) hx hb hts hinX hown hK hP 0 rfl rfl 0 (by decide) lk0 (fun _ h9 => h9) rfl dX1_cardThen_1 ?_
  refine lv_iload_n hx hb dX1_cardThen_4 rfl (lv_at hl 1 rfl) ?_
  refine rVN_io (As := [.int j1]) (rest := []) ⟨hx, hb, hml, hown, hts⟩ hK hN hA hP hD hS (c_X0_hasCard l D cI (A 1) j1 xn (f_X0_hasCard j1 xn) rfl) ⟨va_cnB 1 hts gX1_cardThen_X0_hasCard_n69 rfl rfl rfl (nW.m hN 14 rfl) lk1 hd_X0_hasCard.2 ⟨Nat.le_of_ble_eq_true rfl, Nat.le_of_ble_eq_true rfl⟩, lk2, lk3⟩ (va_recv hK hP (ci := 0) (q0 := 1) rfl rfl) [1, 2, 3, 4, 5, 6, 7, 8, 9, 10, 11] (by decide) rfl rfl hl.1 rfl (Nat.le_of_ble_eq_true rfl) dX1_cardThen_5 ⟨Nat.le_of_ble_eq_true rfl, Nat.le_of_ble_eq_true rfl⟩ (fun H locs hP hD hS => ?_)
  refine lv_if_ne (tgt := 17) hx hb dX1_cardThen_8 (by decide) (fun c1 => ?_) (fun c1 => ?_)
  · have hf := hF hf c1
    refine lv_iload_n hx hb dX1_cardThen_17 rfl (lv_at hl 2 rfl) ?_
    refine lv_iconst (v := (0 : Int32)) hx hb dX1_cardThen_18 (by decide) ?_
    refine lv_bipush (v := (60 : Int32)) hx hb dX1_cardThen_19 (by decide) ?_
    refine rS_io (As := [.int j2, .int (0 : Int32), .int (60 : Int32)]) (rest := []) ⟨hx, hb, hml, hown, hts⟩ hK hN hA hP hD hS (c_X1_beyond l D cI j2 (0 : Int32) (60 : Int32) (f_X1_beyond j2 (0 : Int32) (60 : Int32)) rfl) (va_cwS 3 hts gX1_cardThen_X1_beyond rfl rfl rfl hd_X1_beyond.2 ⟨Nat.le_of_ble_eq_true rfl, Nat.le_of_ble_eq_true rfl⟩) [] (by decide) rfl rfl hl.1 rfl (Nat.le_of_ble_eq_true rfl) dX1_cardThen_21 ⟨Nat.le_of_ble_eq_true rfl, Nat.le_of_ble_eq_true rfl⟩ (fun H locs hP hD hS => ?_)
    refine lv_if_eq (tgt := 39) hx hb dX1_cardThen_24 (by decide) (fun c2 => ?_) (fun c2 => ?_)
    · have hf := hT hf c2
      refine lv_aload_n hx hb dX1_cardThen_39 rfl (lv_at hl 0 rfl) ?_
      refine va_get (D := D) (ci := 1) (v := .ref ((A 2) 0)) (C := RX1) (T := TX1) (N := 9) hx hb hts hinX hown hK hP 0 rfl rfl 1 (by decide) lk4 (fun _ h9 => h9) rfl dX1_cardThen_40 ?_
      refine lv_aload_n hx hb dX1_cardThen_43 rfl (lv_at hl 0 rfl) ?_
      refine va_get (D := D) (ci := 1) (v := .ref ((A 1) 0)) (C := RX1) (T := TX1) (N := 9) hx hb hts hinX hown hK hP 0 rfl rfl 0 (by decide) lk0 (fun _ h9 => h9) rfl dX1_cardThen_44 ?_
      obtain ⟨v3, hev3, hf⟩ := bS hf
      refine rVN_v (ws' := (wX A cI xx xn v3 xk)) (As := [.ref ((A 1) 0)]) (rest := []) ⟨hx, hb, hml, hown, hts⟩ hK hN hA hP hD hS (c_X0_become l D cI (A 2) (A 1) xm xn v3 hev3) ⟨va_cnB 1 hts gX1_cardThen_X0_become_n47 rfl rfl rfl (nW.m hN 1 rfl) lk1 hd_X0_become.2 ⟨Nat.le_of_ble_eq_true rfl, Nat.le_of_ble_eq_true rfl⟩, lk5, lk6⟩ (va_recv hK hP (ci := 0) (q0 := 12) rfl rfl) [12, 13, 14, 15, 16, 17, 18, 19, 20, 21, 22, 1, 2, 3, 4, 5, 6, 7, 8, 9, 10, 11] (by decide) rfl rfl rfl rfl hl.1 rfl (Nat.le_of_ble_eq_true rfl) dX1_cardThen_47 ⟨Nat.le_of_ble_eq_true rfl, Nat.le_of_ble_eq_true rfl⟩ (fun H locs hP hD hS => ?_)
      have hP : va_P D vwCl (wX A cI xx xn v3 xk) H := hP
      refine lv_aload_n hx hb dX1_cardThen_50 rfl (lv_at hl 0 rfl) ?_
      refine va_get (D := D) (ci := 1) (v := .ref ((A 2) 0)) (C := RX1) (T := TX1) (N := 9) hx hb hts hinX hown hK hP 0 rfl rfl 1 (by decide) lk4 (fun _ h9 => h9) rfl dX1_cardThen_51 ?_
      refine lv_iload_n hx hb dX1_cardThen_54 rfl (lv_at hl 2 rfl) ?_
      refine lv_iconst (v := (1 : Int32)) hx hb dX1_cardThen_55 (by decide) ?_
      obtain ⟨v4, hev4, hf⟩ := bS hf
      refine rVN_i (ws' := (wX A cI xx xn v4.2 xk)) (As := [.int j2, .int (1 : Int32)]) (rest := []) ⟨hx, hb, hml, hown, hts⟩ hK hN hA hP hD hS (c_X0_goOn l D cI (A 2) j2 (1 : Int32) v3 v4 hev4) ⟨va_cnB 2 hts gX1_cardThen_X0_goOn_n97 rfl rfl rfl (nW.m hN 12 rfl) lk1 hd_X0_goOn.2 ⟨Nat.le_of_ble_eq_true rfl, Nat.le_of_ble_eq_true rfl⟩, lk7, lk8⟩ (va_recv hK hP (ci := 0) (q0 := 12) rfl rfl) [12, 13, 14, 15, 16, 17, 18, 19, 20, 21, 22] (by decide) rfl rfl rfl rfl hl.1 rfl (Nat.le_of_ble_eq_true rfl) dX1_cardThen_56 ⟨Nat.le_of_ble_eq_true rfl, Nat.le_of_ble_eq_true rfl⟩ (fun H locs hP hD hS => ?_)
      have hP : va_P D vwCl (wX A cI xx xn v4.2 xk) H := hP
      refine lv_pop hx hb dX1_cardThen_59 rfl ?_
      refine lv_aload_n hx hb dX1_cardThen_60 rfl (lv_at hl 0 rfl) ?_
      refine va_get (D := D) (ci := 1) (v := .ref ((A 2) 0)) (C := RX1) (T := TX1) (N := 9) hx hb hts hinX hown hK hP 0 rfl rfl 1 (by decide) lk4 (fun _ h9 => h9) rfl dX1_cardThen_61 ?_
      refine va_getN (D := D) (ci := 0) (v := .ref ((A 2) 5)) (C := RX0) (T := TX0) (N := 13) hx hb hts hinH hown hK hP 12 rfl rfl 7 (by decide) (nW.f hN 7 rfl) (fun _ h9 => h9) rfl dX1_cardThen_64 ?_
      refine lv_iload_n hx hb dX1_cardThen_67 rfl (lv_at hl 1 rfl) ?_
      refine rS_io (As := [.ref ((A 2) 5), .int j1]) (rest := []) ⟨hx, hb, hml, hown, hts⟩ hK hN hA hP hD hS (c_X1_at l D cI 8 (by decide) ((A 2) 5) (v4.2 4) j1) (va_cwS 2 hts gX1_cardThen_X1_at rfl rfl rfl hd_X1_at.2 ⟨Nat.le_of_ble_eq_true rfl, Nat.le_of_ble_eq_true rfl⟩) [17] (by decide) rfl rfl hl.1 rfl (Nat.le_of_ble_eq_true rfl) dX1_cardThen_68 ⟨Nat.le_of_ble_eq_true rfl, Nat.le_of_ble_eq_true rfl⟩ (fun H locs hP hD hS => ?_)
      obtain rfl := Option.some.inj hf
      exact W.iret (v := (atv 8 (v4.2 4) j1)) hx hb hr (fun t ht hW => ⟨⟨(atv 8 (v4.2 4) j1), (), rfl, rfl, hPt ht hP⟩, hS.F ht⟩) hS.2.2 dX1_cardThen_71
    · have hf := hF hf c2
      refine lv_aload_n hx hb dX1_cardThen_27 rfl (lv_at hl 0 rfl) ?_
      refine lv_iload_n hx hb dX1_cardThen_28 rfl (lv_at hl 2 rfl) ?_
      refine lv_iconst (v := (0 : Int32)) hx hb dX1_cardThen_29 (by decide) ?_
      refine lv_bipush (v := (60 : Int32)) hx hb dX1_cardThen_30 (by decide) ?_
      refine rS_io (As := [.int j2, .int (0 : Int32), .int (60 : Int32)]) (rest := [.ref ((A 0) 0)]) ⟨hx, hb, hml, hown, hts⟩ hK hN hA hP hD hS (c_X1_beyond l D cI j2 (0 : Int32) (60 : Int32) (f_X1_beyond j2 (0 : Int32) (60 : Int32)) rfl) (va_cwS 3 hts gX1_cardThen_X1_beyond rfl rfl rfl hd_X1_beyond.2 ⟨Nat.le_of_ble_eq_true rfl, Nat.le_of_ble_eq_true rfl⟩) [] (by decide) rfl rfl hl.1 rfl (Nat.le_of_ble_eq_true rfl) dX1_cardThen_32 ⟨Nat.le_of_ble_eq_true rfl, Nat.le_of_ble_eq_true rfl⟩ (fun H locs hP hD hS => ?_)
      obtain ⟨v5, hev5, hf⟩ := bS hf
      refine rV_i (ws' := (wX A cI v5.2 xn xm xk)) (As := [.int (f_X1_beyond j2 (0 : Int32) (60 : Int32))]) (rest := []) ⟨hx, hb, hml, hown, hts⟩ hK hN hA hP hD hS (c_X1_refuse l D cI A (f_X1_beyond j2 (0 : Int32) (60 : Int32)) xx xn xm xk v5 hev5) (cwV 1 hts gX1_cardThen_X1_refuse rfl rfl rfl hd_X1_refuse ⟨Nat.le_of_ble_eq_true rfl, Nat.le_of_ble_eq_true rfl⟩) (va_recv hK hP (ci := 1) (q0 := 0) rfl rfl) [0, 1, 2, 3, 4, 5, 6, 7, 8, 9, 10, 11, 12, 13, 14, 15, 16, 17, 18, 19, 20, 21, 22, 23, 24, 25, 26, 27, 28, 29, 30, 31, 32, 33, 34, 35, 36] (by decide) rfl rfl rfl rfl hl.1 rfl (Nat.le_of_ble_eq_true rfl) dX1_cardThen_35 ⟨Nat.le_of_ble_eq_true rfl, Nat.le_of_ble_eq_true rfl⟩ (fun H locs hP hD hS => ?_)
      have hP : va_P D vwCl (wX A cI v5.2 xn xm xk) H := hP
      obtain rfl := Option.some.inj hf
      exact W.iret (v := v5.1) hx hb hr (fun t ht hW => ⟨⟨v5.1, (), rfl, rfl, hPt ht hP⟩, hS.F ht⟩) hS.2.2 dX1_cardThen_38
  · have hf := hT hf c1
    refine lv_aload_n hx hb dX1_cardThen_11 rfl (lv_at hl 0 rfl) ?_
    refine lv_iconst (v := (-1 : Int32)) hx hb dX1_cardThen_12 (by decide) ?_
    obtain ⟨v6, hev6, hf⟩ := bS hf
    refine rV_i (ws' := (wX A cI v6.2 xn xm xk)) (As := [.int (-1 : Int32)]) (rest := []) ⟨hx, hb, hml, hown, hts⟩ hK hN hA hP hD hS (c_X1_refuse l D cI A (-1 : Int32) xx xn xm xk v6 hev6) (cwV 1 hts gX1_cardThen_X1_refuse rfl rfl rfl hd_X1_refuse ⟨Nat.le_of_ble_eq_true rfl, Nat.le_of_ble_eq_true rfl⟩) (va_recv hK hP (ci := 1) (q0 := 0) rfl rfl) [0, 1, 2, 3, 4, 5, 6, 7, 8, 9, 10, 11, 12, 13, 14, 15, 16, 17, 18, 19, 20, 21, 22, 23, 24, 25, 26, 27, 28, 29, 30, 31, 32, 33, 34, 35, 36] (by decide) rfl rfl rfl rfl hl.1 rfl (Nat.le_of_ble_eq_true rfl) dX1_cardThen_13 ⟨Nat.le_of_ble_eq_true rfl, Nat.le_of_ble_eq_true rfl⟩ (fun H locs hP hD hS => ?_)
    have hP : va_P D vwCl (wX A cI v6.2 xn xm xk) H := hP
    obtain rfl := Option.some.inj hf
    exact W.iret (v := v6.1) hx hb hr (fun t ht hW => ⟨⟨v6.1, (), rfl, rfl, hPt ht hP⟩, hS.F ht⟩) hS.2.2 dX1_cardThen_16
def f_X1_bidderThen (j1 : Int32) (j2 : Int32) (j3 : Int32) (xx : HS) (xn : HS) (xm : HS) (xk : HS) : Option (Int32 × HS × HS) := if (f_X0_hasBidder j1 xn) = 0 then (f_X1_refuse (-1 : Int32) xx xn xm xk).bind fun v11 => some (v11.1, v11.2, xm) else if (f_X1_beyond j2 (0 : Int32) (60 : Int32)) = 0 then if j3 < 0 then (f_X1_refuse (-2 : Int32) xx xn xm xk).bind fun v4 => some (v4.1, v4.2, xm) else if j3 ≤ (1 : Int32) then (f_X0_become xm xn).bind fun v6 => (f_X0_goOn j2 (1 : Int32) v6).bind fun v7 => if j3 = 0 then some ((atv 6 (v7.2 8) j1), xx, v7.2) else some ((atv 6 (v7.2 9) j1), xx, v7.2) else (f_X1_refuse (-2 : Int32) xx xn xm xk).bind fun v9 => some (v9.1, v9.2, xm) else (f_X1_refuse (f_X1_beyond j2 (0 : Int32) (60 : Int32)) xx xn xm xk).bind fun v10 => some (v10.1, v10.2, xm)
set_option maxHeartbeats 4000000 in
set_option maxRecDepth 100000 in
theorem c_X1_bidderThen (l : Launch) (D : va_G) (cI : ClassId) (A : Nat → Nat → Nat) (j1 : Int32) (j2 : Int32) (j3 : Int32) (xx : HS) (xn : HS) (xm : HS) (xk : HS) (out : Int32 × HS × HS) (hf : f_X1_bidderThen j1 j2 j3 xx xn xm xk = some out) : uI l D cI yX1_bidderThen wsX1_bidderThen ({ frames := 5, cells := 0, slots := 0, locals := 128 } : Room) [.ref ((A 0) 0), .int j1, .int j2, .int j3] (wX A cI xx xn xm xk) (wX A cI out.2.1 xn out.2.2 xk) out.1 := by
  intro sz
  refine Met.ofW (cc := cX1_bidderThen) (maxL := 4) (ret := (some .int)) (by decide) rfl ?_
  intro p e s m args below meth c s₁ Bd hml hv
  obtain ⟨rfl, hsz, hP, hK, hD0, hN⟩ := hv
  have hx := Bd.exec
  have hb := Bd.bytes
  have hr := Bd.returns
  have hts := atoms_spec (ws := wsX1_bidderThen) Bd.pre
  have hown : s.vm.findClass RX1 = some m.cls := findClass_of_methodNamed Bd.named
  have hlocks := Bd.notSynchronized
  subst hsz
  have hD := hD0.self (sz := s.heap.size)
  generalize hAe : va_A (wX A cI xx xn xm xk) s.heap.size = G at hD ⊢
  have hA : ∀ q : Nat, s.heap.size ≤ q → G q := fun q h => by rw [← hAe]; exact Or.inr h
  have hS : va_S G s.heap s.heap [] := va_S.rf
  have hP : va_P D vwCl (wX A cI xx xn xm xk) s.heap := hP
  have hl := lv_entry ([.ref ((A 0) 0), .int j1, .int j2, .int j3]) (n := 4) (Nat.le_of_ble_eq_true rfl)
  rw [lg_entry_eq]
  generalize (lg_sl ([.ref ((A 0) 0), .int j1, .int j2, .int j3]) ++ List.replicate (4 - (lg_sl ([.ref ((A 0) 0), .int j1, .int j2, .int j3])).length) Slot.unset).toArray = ls at hl ⊢
  have hl : lv_has ls 4 [(0, .ref ((A 0) 0)), (1, .int j1), (2, .int j2), (3, .int j3)] := hl
  have hinH : ∀ w ∈ wsX00, w ∈ wsX1_bidderThen := by decide +kernel
  have hinX : ∀ w ∈ wsX10, w ∈ wsX1_bidderThen := by decide +kernel
  have lk0 := hts (.fieldLink RX1 10 "LiesBoughtBack" "now" "LLiesBoughtBack$Hall;") (by decide +kernel)
  have lk1 := hts (.initialized RX0) (by decide +kernel)
  have lk2 := hts (.instanceMethod yX0_hasBidder) (by decide +kernel)
  have lk3 := hts (.selects RX0 yX0_hasBidder yX0_hasBidder) (by decide +kernel)
  have lk4 := hts (.fieldLink RX1 16 "LiesBoughtBack" "mind" "LLiesBoughtBack$Hall;") (by decide +kernel)
  have lk5 := hts (.instanceMethod yX0_become) (by decide +kernel)
  have lk6 := hts (.selects RX0 yX0_become yX0_become) (by decide +kernel)
  have lk7 := hts (.instanceMethod yX0_goOn) (by decide +kernel)
  have lk8 := hts (.selects RX0 yX0_goOn yX0_goOn) (by decide +kernel)
  refine W_in ?_
  intro WW hWW
  refine (hWW _ _ _).mpr ?_
  unfold f_X1_bidderThen at hf
  refine lv_aload_n hx hb dX1_bidderThen_0 rfl (lv_at hl 0 rfl) ?_
  refine va_get (D := D) (ci := 1) (v := .ref ((A 1) 0)) (C := RX1) (T := TX1) (N := 9) hx hb hts hinX hown hK hP 0 rfl rfl 0 (by decide) lk0 (fun _ h9 => h9) rfl dX1_bidderThen_1 ?_
  refine lv_iload_n hx hb dX1_bidderThen_4 rfl (lv_at hl 1 rfl) ?_
  refine rVN_io (As := [.int j1]) (rest := []) ⟨hx, hb, hml, hown, hts⟩ hK hN hA hP hD hS (c_X0_hasBidder l D cI (A 1) j1 xn (f_X0_hasBidder j1 xn) rfl) ⟨va_cnB 1 hts gX1_bidderThen_X0_hasBidder_n59 rfl rfl rfl (nW.m hN 13 rfl) lk1 hd_X0_hasBidder.2 ⟨Nat.le_of_ble_eq_true rfl, Nat.le_of_ble_eq_true rfl⟩, lk2, lk3⟩ (va_recv hK hP (ci := 0) (q0 := 1) rfl rfl) [1, 2, 3, 4, 5, 6, 7, 8, 9, 10, 11] (by decide) rfl rfl hl.1 rfl (Nat.le_of_ble_eq_true rfl) dX1_bidderThen_5 ⟨Nat.le_of_ble_eq_true rfl, Nat.le_of_ble_eq_true rfl⟩ (fun H locs hP hD hS => ?_)
  refine lv_if_ne (tgt := 17) hx hb dX1_bidderThen_8 (by decide) (fun c1 => ?_) (fun c1 => ?_)
  · have hf := hF hf c1
    refine lv_iload_n hx hb dX1_bidderThen_17 rfl (lv_at hl 2 rfl) ?_
    refine lv_iconst (v := (0 : Int32)) hx hb dX1_bidderThen_18 (by decide) ?_
    refine lv_bipush (v := (60 : Int32)) hx hb dX1_bidderThen_19 (by decide) ?_
    refine rS_io (As := [.int j2, .int (0 : Int32), .int (60 : Int32)]) (rest := []) ⟨hx, hb, hml, hown, hts⟩ hK hN hA hP hD hS (c_X1_beyond l D cI j2 (0 : Int32) (60 : Int32) (f_X1_beyond j2 (0 : Int32) (60 : Int32)) rfl) (va_cwS 3 hts gX1_bidderThen_X1_beyond rfl rfl rfl hd_X1_beyond.2 ⟨Nat.le_of_ble_eq_true rfl, Nat.le_of_ble_eq_true rfl⟩) [] (by decide) rfl rfl hl.1 rfl (Nat.le_of_ble_eq_true rfl) dX1_bidderThen_21 ⟨Nat.le_of_ble_eq_true rfl, Nat.le_of_ble_eq_true rfl⟩ (fun H locs hP hD hS => ?_)
    refine lv_if_eq (tgt := 39) hx hb dX1_bidderThen_24 (by decide) (fun c2 => ?_) (fun c2 => ?_)
    · have hf := hT hf c2
      refine lv_iload_n hx hb dX1_bidderThen_39 rfl (lv_at hl 3 rfl) ?_
      refine lv_if_lt (tgt := 48) hx hb dX1_bidderThen_40 (by decide) (fun c3 => ?_) (fun c3 => ?_)
      · have hf := hT hf c3
        refine lv_aload_n hx hb dX1_bidderThen_48 rfl (lv_at hl 0 rfl) ?_
        refine lv_bipush (v := (-2 : Int32)) hx hb dX1_bidderThen_49 (by decide) ?_
        obtain ⟨v4, hev4, hf⟩ := bS hf
        refine rV_i (ws' := (wX A cI v4.2 xn xm xk)) (As := [.int (-2 : Int32)]) (rest := []) ⟨hx, hb, hml, hown, hts⟩ hK hN hA hP hD hS (c_X1_refuse l D cI A (-2 : Int32) xx xn xm xk v4 hev4) (cwV 1 hts gX1_bidderThen_X1_refuse rfl rfl rfl hd_X1_refuse ⟨Nat.le_of_ble_eq_true rfl, Nat.le_of_ble_eq_true rfl⟩) (va_recv hK hP (ci := 1) (q0 := 0) rfl rfl) [0, 1, 2, 3, 4, 5, 6, 7, 8, 9, 10, 11, 12, 13, 14, 15, 16, 17, 18, 19, 20, 21, 22, 23, 24, 25, 26, 27, 28, 29, 30, 31, 32, 33, 34, 35, 36] (by decide) rfl rfl rfl rfl hl.1 rfl (Nat.le_of_ble_eq_true rfl) dX1_bidderThen_51 ⟨Nat.le_of_ble_eq_true rfl, Nat.le_of_ble_eq_true rfl⟩ (fun H locs hP hD hS => ?_)
        have hP : va_P D vwCl (wX A cI v4.2 xn xm xk) H := hP
        obtain rfl := Option.some.inj hf
        exact W.iret (v := v4.1) hx hb hr (fun t ht hW => ⟨⟨v4.1, (), rfl, rfl, hPt ht hP⟩, hS.F ht⟩) hS.2.2 dX1_bidderThen_54
      · have hf := hF hf c3
        refine lv_iload_n hx hb dX1_bidderThen_43 rfl (lv_at hl 3 rfl) ?_
        refine lv_iconst (v := (1 : Int32)) hx hb dX1_bidderThen_44 (by decide) ?_
        refine lv_icmp_le (tgt := 55) hx hb dX1_bidderThen_45 (by decide) (fun c5 => ?_) (fun c5 => ?_)
        · have hf := hT hf c5
          refine lv_aload_n hx hb dX1_bidderThen_55 rfl (lv_at hl 0 rfl) ?_
          refine va_get (D := D) (ci := 1) (v := .ref ((A 2) 0)) (C := RX1) (T := TX1) (N := 9) hx hb hts hinX hown hK hP 0 rfl rfl 1 (by decide) lk4 (fun _ h9 => h9) rfl dX1_bidderThen_56 ?_
          refine lv_aload_n hx hb dX1_bidderThen_59 rfl (lv_at hl 0 rfl) ?_
          refine va_get (D := D) (ci := 1) (v := .ref ((A 1) 0)) (C := RX1) (T := TX1) (N := 9) hx hb hts hinX hown hK hP 0 rfl rfl 0 (by decide) lk0 (fun _ h9 => h9) rfl dX1_bidderThen_60 ?_
          obtain ⟨v6, hev6, hf⟩ := bS hf
          refine rVN_v (ws' := (wX A cI xx xn v6 xk)) (As := [.ref ((A 1) 0)]) (rest := []) ⟨hx, hb, hml, hown, hts⟩ hK hN hA hP hD hS (c_X0_become l D cI (A 2) (A 1) xm xn v6 hev6) ⟨va_cnB 1 hts gX1_bidderThen_X0_become_n47 rfl rfl rfl (nW.m hN 1 rfl) lk1 hd_X0_become.2 ⟨Nat.le_of_ble_eq_true rfl, Nat.le_of_ble_eq_true rfl⟩, lk5, lk6⟩ (va_recv hK hP (ci := 0) (q0 := 12) rfl rfl) [12, 13, 14, 15, 16, 17, 18, 19, 20, 21, 22, 1, 2, 3, 4, 5, 6, 7, 8, 9, 10, 11] (by decide) rfl rfl rfl rfl hl.1 rfl (Nat.le_of_ble_eq_true rfl) dX1_bidderThen_63 ⟨Nat.le_of_ble_eq_true rfl, Nat.le_of_ble_eq_true rfl⟩ (fun H locs hP hD hS => ?_)
          have hP : va_P D vwCl (wX A cI xx xn v6 xk) H := hP
          refine lv_aload_n hx hb dX1_bidderThen_66 rfl (lv_at hl 0 rfl) ?_
          refine va_get (D := D) (ci := 1) (v := .ref ((A 2) 0)) (C := RX1) (T := TX1) (N := 9) hx hb hts hinX hown hK hP 0 rfl rfl 1 (by decide) lk4 (fun _ h9 => h9) rfl dX1_bidderThen_67 ?_
          refine lv_iload_n hx hb dX1_bidderThen_70 rfl (lv_at hl 2 rfl) ?_
          refine lv_iconst (v := (1 : Int32)) hx hb dX1_bidderThen_71 (by decide) ?_
          obtain ⟨v7, hev7, hf⟩ := bS hf
          refine rVN_i (ws' := (wX A cI xx xn v7.2 xk)) (As := [.int j2, .int (1 : Int32)]) (rest := []) ⟨hx, hb, hml, hown, hts⟩ hK hN hA hP hD hS (c_X0_goOn l D cI (A 2) j2 (1 : Int32) v6 v7 hev7) ⟨va_cnB 2 hts gX1_bidderThen_X0_goOn_n97 rfl rfl rfl (nW.m hN 12 rfl) lk1 hd_X0_goOn.2 ⟨Nat.le_of_ble_eq_true rfl, Nat.le_of_ble_eq_true rfl⟩, lk7, lk8⟩ (va_recv hK hP (ci := 0) (q0 := 12) rfl rfl) [12, 13, 14, 15, 16, 17, 18, 19, 20, 21, 22] (by decide) rfl rfl rfl rfl hl.1 rfl (Nat.le_of_ble_eq_true rfl) dX1_bidderThen_72 ⟨Nat.le_of_ble_eq_true rfl, Nat.le_of_ble_eq_true rfl⟩ (fun H locs hP hD hS => ?_)
          have hP : va_P D vwCl (wX A cI xx xn v7.2 xk) H := hP
          refine lv_pop hx hb dX1_bidderThen_75 rfl ?_
          refine lv_iload_n hx hb dX1_bidderThen_76 rfl (lv_at hl 3 rfl) ?_
          refine lv_if_ne (tgt := 94) hx hb dX1_bidderThen_77 (by decide) (fun c8 => ?_) (fun c8 => ?_)
          · have hf := hF hf c8
            refine lv_aload_n hx hb dX1_bidderThen_94 rfl (lv_at hl 0 rfl) ?_
            refine va_get (D := D) (ci := 1) (v := .ref ((A 2) 0)) (C := RX1) (T := TX1) (N := 9) hx hb hts hinX hown hK hP 0 rfl rfl 1 (by decide) lk4 (fun _ h9 => h9) rfl dX1_bidderThen_95 ?_
            refine va_getN (D := D) (ci := 0) (v := .ref ((A 2) 10)) (C := RX0) (T := TX0) (N := 13) hx hb hts hinH hown hK hP 12 rfl rfl 12 (by decide) (nW.f hN 11 rfl) (fun _ h9 => h9) rfl dX1_bidderThen_98 ?_
            refine lv_iload_n hx hb dX1_bidderThen_101 rfl (lv_at hl 1 rfl) ?_
            refine rS_io (As := [.ref ((A 2) 10), .int j1]) (rest := []) ⟨hx, hb, hml, hown, hts⟩ hK hN hA hP hD hS (c_X1_at l D cI 6 (by decide) ((A 2) 10) (v7.2 9) j1) (va_cwS 2 hts gX1_bidderThen_X1_at rfl rfl rfl hd_X1_at.2 ⟨Nat.le_of_ble_eq_true rfl, Nat.le_of_ble_eq_true rfl⟩) [22] (by decide) rfl rfl hl.1 rfl (Nat.le_of_ble_eq_true rfl) dX1_bidderThen_102 ⟨Nat.le_of_ble_eq_true rfl, Nat.le_of_ble_eq_true rfl⟩ (fun H locs hP hD hS => ?_)
            obtain rfl := Option.some.inj hf
            exact W.iret (v := (atv 6 (v7.2 9) j1)) hx hb hr (fun t ht hW => ⟨⟨(atv 6 (v7.2 9) j1), (), rfl, rfl, hPt ht hP⟩, hS.F ht⟩) hS.2.2 dX1_bidderThen_105
          · have hf := hT hf c8
            refine lv_aload_n hx hb dX1_bidderThen_80 rfl (lv_at hl 0 rfl) ?_
            refine va_get (D := D) (ci := 1) (v := .ref ((A 2) 0)) (C := RX1) (T := TX1) (N := 9) hx hb hts hinX hown hK hP 0 rfl rfl 1 (by decide) lk4 (fun _ h9 => h9) rfl dX1_bidderThen_81 ?_
            refine va_getN (D := D) (ci := 0) (v := .ref ((A 2) 9)) (C := RX0) (T := TX0) (N := 13) hx hb hts hinH hown hK hP 12 rfl rfl 11 (by decide) (nW.f hN 10 rfl) (fun _ h9 => h9) rfl dX1_bidderThen_84 ?_
            refine lv_iload_n hx hb dX1_bidderThen_87 rfl (lv_at hl 1 rfl) ?_
            refine rS_io (As := [.ref ((A 2) 9), .int j1]) (rest := []) ⟨hx, hb, hml, hown, hts⟩ hK hN hA hP hD hS (c_X1_at l D cI 6 (by decide) ((A 2) 9) (v7.2 8) j1) (va_cwS 2 hts gX1_bidderThen_X1_at rfl rfl rfl hd_X1_at.2 ⟨Nat.le_of_ble_eq_true rfl, Nat.le_of_ble_eq_true rfl⟩) [21] (by decide) rfl rfl hl.1 rfl (Nat.le_of_ble_eq_true rfl) dX1_bidderThen_88 ⟨Nat.le_of_ble_eq_true rfl, Nat.le_of_ble_eq_true rfl⟩ (fun H locs hP hD hS => ?_)
            refine lv_goto (tgt := 105) hx hb dX1_bidderThen_91 (by decide) ?_
            obtain rfl := Option.some.inj hf
            exact W.iret (v := (atv 6 (v7.2 8) j1)) hx hb hr (fun t ht hW => ⟨⟨(atv 6 (v7.2 8) j1), (), rfl, rfl, hPt ht hP⟩, hS.F ht⟩) hS.2.2 dX1_bidderThen_105
        · have hf := hF hf c5
          refine lv_aload_n hx hb dX1_bidderThen_48 rfl (lv_at hl 0 rfl) ?_
          refine lv_bipush (v := (-2 : Int32)) hx hb dX1_bidderThen_49 (by decide) ?_
          obtain ⟨v9, hev9, hf⟩ := bS hf
          refine rV_i (ws' := (wX A cI v9.2 xn xm xk)) (As := [.int (-2 : Int32)]) (rest := []) ⟨hx, hb, hml, hown, hts⟩ hK hN hA hP hD hS (c_X1_refuse l D cI A (-2 : Int32) xx xn xm xk v9 hev9) (cwV 1 hts gX1_bidderThen_X1_refuse rfl rfl rfl hd_X1_refuse ⟨Nat.le_of_ble_eq_true rfl, Nat.le_of_ble_eq_true rfl⟩) (va_recv hK hP (ci := 1) (q0 := 0) rfl rfl) [0, 1, 2, 3, 4, 5, 6, 7, 8, 9, 10, 11, 12, 13, 14, 15, 16, 17, 18, 19, 20, 21, 22, 23, 24, 25, 26, 27, 28, 29, 30, 31, 32, 33, 34, 35, 36] (by decide) rfl rfl rfl rfl hl.1 rfl (Nat.le_of_ble_eq_true rfl) dX1_bidderThen_51 ⟨Nat.le_of_ble_eq_true rfl, Nat.le_of_ble_eq_true rfl⟩ (fun H locs hP hD hS => ?_)
          have hP : va_P D vwCl (wX A cI v9.2 xn xm xk) H := hP
          obtain rfl := Option.some.inj hf
          exact W.iret (v := v9.1) hx hb hr (fun t ht hW => ⟨⟨v9.1, (), rfl, rfl, hPt ht hP⟩, hS.F ht⟩) hS.2.2 dX1_bidderThen_54
    · have hf := hF hf c2
      refine lv_aload_n hx hb dX1_bidderThen_27 rfl (lv_at hl 0 rfl) ?_
      refine lv_iload_n hx hb dX1_bidderThen_28 rfl (lv_at hl 2 rfl) ?_
      refine lv_iconst (v := (0 : Int32)) hx hb dX1_bidderThen_29 (by decide) ?_
      refine lv_bipush (v := (60 : Int32)) hx hb dX1_bidderThen_30 (by decide) ?_
      refine rS_io (As := [.int j2, .int (0 : Int32), .int (60 : Int32)]) (rest := [.ref ((A 0) 0)]) ⟨hx, hb, hml, hown, hts⟩ hK hN hA hP hD hS (c_X1_beyond l D cI j2 (0 : Int32) (60 : Int32) (f_X1_beyond j2 (0 : Int32) (60 : Int32)) rfl) (va_cwS 3 hts gX1_bidderThen_X1_beyond rfl rfl rfl hd_X1_beyond.2 ⟨Nat.le_of_ble_eq_true rfl, Nat.le_of_ble_eq_true rfl⟩) [] (by decide) rfl rfl hl.1 rfl (Nat.le_of_ble_eq_true rfl) dX1_bidderThen_32 ⟨Nat.le_of_ble_eq_true rfl, Nat.le_of_ble_eq_true rfl⟩ (fun H locs hP hD hS => ?_)
      obtain ⟨v10, hev10, hf⟩ := bS hf
      refine rV_i (ws' := (wX A cI v10.2 xn xm xk)) (As := [.int (f_X1_beyond j2 (0 : Int32) (60 : Int32))]) (rest := []) ⟨hx, hb, hml, hown, hts⟩ hK hN hA hP hD hS (c_X1_refuse l D cI A (f_X1_beyond j2 (0 : Int32) (60 : Int32)) xx xn xm xk v10 hev10) (cwV 1 hts gX1_bidderThen_X1_refuse rfl rfl rfl hd_X1_refuse ⟨Nat.le_of_ble_eq_true rfl, Nat.le_of_ble_eq_true rfl⟩) (va_recv hK hP (ci := 1) (q0 := 0) rfl rfl) [0, 1, 2, 3, 4, 5, 6, 7, 8, 9, 10, 11, 12, 13, 14, 15, 16, 17, 18, 19, 20, 21, 22, 23, 24, 25, 26, 27, 28, 29, 30, 31, 32, 33, 34, 35, 36] (by decide) rfl rfl rfl rfl hl.1 rfl (Nat.le_of_ble_eq_true rfl) dX1_bidderThen_35 ⟨Nat.le_of_ble_eq_true rfl, Nat.le_of_ble_eq_true rfl⟩ (fun H locs hP hD hS => ?_)
      have hP : va_P D vwCl (wX A cI v10.2 xn xm xk) H := hP
      obtain rfl := Option.some.inj hf
      exact W.iret (v := v10.1) hx hb hr (fun t ht hW => ⟨⟨v10.1, (), rfl, rfl, hPt ht hP⟩, hS.F ht⟩) hS.2.2 dX1_bidderThen_38
  · have hf := hT hf c1
    refine lv_aload_n hx hb dX1_bidderThen_11 rfl (lv_at hl 0 rfl) ?_
    refine lv_iconst (v := (-1 : Int32)) hx hb dX1_bidderThen_12 (by decide) ?_
    obtain ⟨v11, hev11, hf⟩ := bS hf
    refine rV_i (ws' := (wX A cI v11.2 xn xm xk)) (As := [.int (-1 : Int32)]) (rest := []) ⟨hx, hb, hml, hown, hts⟩ hK hN hA hP hD hS (c_X1_refuse l D cI A (-1 : Int32) xx xn xm xk v11 hev11) (cwV 1 hts gX1_bidderThen_X1_refuse rfl rfl rfl hd_X1_refuse ⟨Nat.le_of_ble_eq_true rfl, Nat.le_of_ble_eq_true rfl⟩) (va_recv hK hP (ci := 1) (q0 := 0) rfl rfl) [0, 1, 2, 3, 4, 5, 6, 7, 8, 9, 10, 11, 12, 13, 14, 15, 16, 17, 18, 19, 20, 21, 22, 23, 24, 25, 26, 27, 28, 29, 30, 31, 32, 33, 34, 35, 36] (by decide) rfl rfl rfl rfl hl.1 rfl (Nat.le_of_ble_eq_true rfl) dX1_bidderThen_13 ⟨Nat.le_of_ble_eq_true rfl, Nat.le_of_ble_eq_true rfl⟩ (fun H locs hP hD hS => ?_)
    have hP : va_P D vwCl (wX A cI v11.2 xn xm xk) H := hP
    obtain rfl := Option.some.inj hf
    exact W.iret (v := v11.1) hx hb hr (fun t ht hW => ⟨⟨v11.1, (), rfl, rfl, hPt ht hP⟩, hS.F ht⟩) hS.2.2 dX1_bidderThen_16
def f_X1_pileThen (j1 : Int32) (xx : HS) (xn : HS) (xm : HS) (xk : HS) : Option (Int32 × HS × HS) := if (f_X1_beyond j1 (0 : Int32) (60 : Int32)) = 0 then (f_X0_become xm xn).bind fun v2 => (f_X0_goOn j1 (1 : Int32) v2).bind fun v3 => (f_X0_pileBits v3.2).bind fun v4 => some (v4, xx, v3.2) else (f_X1_refuse (f_X1_beyond j1 (0 : Int32) (60 : Int32)) xx xn xm xk).bind fun v5 => some (v5.1, v5.2, xm)
set_option maxHeartbeats 4000000 in
set_option maxRecDepth 100000 in
theorem c_X1_pileThen (l : Launch) (D : va_G) (cI : ClassId) (A : Nat → Nat → Nat) (j1 : Int32) (xx : HS) (xn : HS) (xm : HS) (xk : HS) (out : Int32 × HS × HS) (hf : f_X1_pileThen j1 xx xn xm xk = some out) : uI l D cI yX1_pileThen wsX1_pileThen ({ frames := 5, cells := 0, slots := 0, locals := 128 } : Room) [.ref ((A 0) 0), .int j1] (wX A cI xx xn xm xk) (wX A cI out.2.1 xn out.2.2 xk) out.1 := by
  intro sz
  refine Met.ofW (cc := cX1_pileThen) (maxL := 2) (ret := (some .int)) (by decide) rfl ?_
  intro p e s m args below meth c s₁ Bd hml hv
  obtain ⟨rfl, hsz, hP, hK, hD0, hN⟩ := hv
  have hx := Bd.exec
  have hb := Bd.bytes
  have hr := Bd.returns
  have hts := atoms_spec (ws := wsX1_pileThen) Bd.pre
  have hown : s.vm.findClass RX1 = some m.cls := findClass_of_methodNamed Bd.named
  have hlocks := Bd.notSynchronized
  subst hsz
  have hD := hD0.self (sz := s.heap.size)
  generalize hAe : va_A (wX A cI xx xn xm xk) s.heap.size = G at hD ⊢
  have hA : ∀ q : Nat, s.heap.size ≤ q → G q := fun q h => by rw [← hAe]; exact Or.inr h
  have hS : va_S G s.heap s.heap [] := va_S.rf
  have hP : va_P D vwCl (wX A cI xx xn xm xk) s.heap := hP
  have hl := lv_entry ([.ref ((A 0) 0), .int j1]) (n := 2) (Nat.le_of_ble_eq_true rfl)
  rw [lg_entry_eq]
  generalize (lg_sl ([.ref ((A 0) 0), .int j1]) ++ List.replicate (2 - (lg_sl ([.ref ((A 0) 0), .int j1])).length) Slot.unset).toArray = ls at hl ⊢
  have hl : lv_has ls 2 [(0, .ref ((A 0) 0)), (1, .int j1)] := hl
  have hinX : ∀ w ∈ wsX10, w ∈ wsX1_pileThen := by decide +kernel
  have lk0 := hts (.fieldLink RX1 16 "LiesBoughtBack" "mind" "LLiesBoughtBack$Hall;") (by decide +kernel)
  have lk1 := hts (.fieldLink RX1 10 "LiesBoughtBack" "now" "LLiesBoughtBack$Hall;") (by decide +kernel)
  have lk2 := hts (.initialized RX0) (by decide +kernel)
  have lk3 := hts (.instanceMethod yX0_become) (by decide +kernel)
  have lk4 := hts (.selects RX0 yX0_become yX0_become) (by decide +kernel)
  have lk5 := hts (.instanceMethod yX0_goOn) (by decide +kernel)
  have lk6 := hts (.selects RX0 yX0_goOn yX0_goOn) (by decide +kernel)
  have lk7 := hts (.instanceMethod yX0_pileBits) (by decide +kernel)
  have lk8 := hts (.selects RX0 yX0_pileBits yX0_pileBits) (by decide +kernel)
  refine W_in ?_
  intro WW hWW
  refine (hWW _ _ _).mpr ?_
  unfold f_X1_pileThen at hf
  refine lv_iload_n hx hb dX1_pileThen_0 rfl (lv_at hl 1 rfl) ?_
  refine lv_iconst (v := (0 : Int32)) hx hb dX1_pileThen_1 (by decide) ?_
  refine lv_bipush (v := (60 : Int32)) hx hb dX1_pileThen_2 (by decide) ?_
  refine rS_io (As := [.int j1, .int (0 : Int32), .int (60 : Int32)]) (rest := []) ⟨hx, hb, hml, hown, hts⟩ hK hN hA hP hD hS (c_X1_beyond l D cI j1 (0 : Int32) (60 : Int32) (f_X1_beyond j1 (0 : Int32) (60 : Int32)) rfl) (va_cwS 3 hts gX1_pileThen_X1_beyond rfl rfl rfl hd_X1_beyond.2 ⟨Nat.le_of_ble_eq_true rfl, Nat.le_of_ble_eq_true rfl⟩) [] (by decide) rfl rfl hl.1 rfl (Nat.le_of_ble_eq_true rfl) dX1_pileThen_4 ⟨Nat.le_of_ble_eq_true rfl, Nat.le_of_ble_eq_true rfl⟩ (fun H locs hP hD hS => ?_)
  refine lv_if_eq (tgt := 22) hx hb dX1_pileThen_7 (by decide) (fun c1 => ?_) (fun c1 => ?_)
  · have hf := hT hf c1
    refine lv_aload_n hx hb dX1_pileThen_22 rfl (lv_at hl 0 rfl) ?_
    refine va_get (D := D) (ci := 1) (v := .ref ((A 2) 0)) (C := RX1) (T := TX1) (N := 9) hx hb hts hinX hown hK hP 0 rfl rfl 1 (by decide) lk0 (fun _ h9 => h9) rfl dX1_pileThen_23 ?_
    refine lv_aload_n hx hb dX1_pileThen_26 rfl (lv_at hl 0 rfl) ?_
    refine va_get (D := D) (ci := 1) (v := .ref ((A 1) 0)) (C := RX1) (T := TX1) (N := 9) hx hb hts hinX hown hK hP 0 rfl rfl 0 (by decide) lk1 (fun _ h9 => h9) rfl dX1_pileThen_27 ?_
    obtain ⟨v2, hev2, hf⟩ := bS hf
    refine rVN_v (ws' := (wX A cI xx xn v2 xk)) (As := [.ref ((A 1) 0)]) (rest := []) ⟨hx, hb, hml, hown, hts⟩ hK hN hA hP hD hS (c_X0_become l D cI (A 2) (A 1) xm xn v2 hev2) ⟨va_cnB 1 hts gX1_pileThen_X0_become_n47 rfl rfl rfl (nW.m hN 1 rfl) lk2 hd_X0_become.2 ⟨Nat.le_of_ble_eq_true rfl, Nat.le_of_ble_eq_true rfl⟩, lk3, lk4⟩ (va_recv hK hP (ci := 0) (q0 := 12) rfl rfl) [12, 13, 14, 15, 16, 17, 18, 19, 20, 21, 22, 1, 2, 3, 4, 5, 6, 7, 8, 9, 10, 11] (by decide) rfl rfl rfl rfl hl.1 rfl (Nat.le_of_ble_eq_true rfl) dX1_pileThen_30 ⟨Nat.le_of_ble_eq_true rfl, Nat.le_of_ble_eq_true rfl⟩ (fun H locs hP hD hS => ?_)
    have hP : va_P D vwCl (wX A cI xx xn v2 xk) H := hP
    refine lv_aload_n hx hb dX1_pileThen_33 rfl (lv_at hl 0 rfl) ?_
    refine va_get (D := D) (ci := 1) (v := .ref ((A 2) 0)) (C := RX1) (T := TX1) (N := 9) hx hb hts hinX hown hK hP 0 rfl rfl 1 (by decide) lk0 (fun _ h9 => h9) rfl dX1_pileThen_34 ?_
    refine lv_iload_n hx hb dX1_pileThen_37 rfl (lv_at hl 1 rfl) ?_
    refine lv_iconst (v := (1 : Int32)) hx hb dX1_pileThen_38 (by decide) ?_
    obtain ⟨v3, hev3, hf⟩ := bS hf
    refine rVN_i (ws' := (wX A cI xx xn v3.2 xk)) (As := [.int j1, .int (1 : Int32)]) (rest := []) ⟨hx, hb, hml, hown, hts⟩ hK hN hA hP hD hS (c_X0_goOn l D cI (A 2) j1 (1 : Int32) v2 v3 hev3) ⟨va_cnB 2 hts gX1_pileThen_X0_goOn_n97 rfl rfl rfl (nW.m hN 12 rfl) lk2 hd_X0_goOn.2 ⟨Nat.le_of_ble_eq_true rfl, Nat.le_of_ble_eq_true rfl⟩, lk5, lk6⟩ (va_recv hK hP (ci := 0) (q0 := 12) rfl rfl) [12, 13, 14, 15, 16, 17, 18, 19, 20, 21, 22] (by decide) rfl rfl rfl rfl hl.1 rfl (Nat.le_of_ble_eq_true rfl) dX1_pileThen_39 ⟨Nat.le_of_ble_eq_true rfl, Nat.le_of_ble_eq_true rfl⟩ (fun H locs hP hD hS => ?_)
    have hP : va_P D vwCl (wX A cI xx xn v3.2 xk) H := hP
    refine lv_pop hx hb dX1_pileThen_42 rfl ?_
    refine lv_aload_n hx hb dX1_pileThen_43 rfl (lv_at hl 0 rfl) ?_
    refine va_get (D := D) (ci := 1) (v := .ref ((A 2) 0)) (C := RX1) (T := TX1) (N := 9) hx hb hts hinX hown hK hP 0 rfl rfl 1 (by decide) lk0 (fun _ h9 => h9) rfl dX1_pileThen_44 ?_
    obtain ⟨v4, hev4, hf⟩ := bS hf
    refine rVN_io (As := []) (rest := []) ⟨hx, hb, hml, hown, hts⟩ hK hN hA hP hD hS (c_X0_pileBits l D cI (A 2) v3.2 v4 hev4) ⟨va_cnB 0 hts gX1_pileThen_X0_pileBits_n151 rfl rfl rfl (nW.m hN 26 rfl) lk2 hd_X0_pileBits.2 ⟨Nat.le_of_ble_eq_true rfl, Nat.le_of_ble_eq_true rfl⟩, lk7, lk8⟩ (va_recv hK hP (ci := 0) (q0 := 12) rfl rfl) [12, 13, 14, 15, 16, 17, 18, 19, 20, 21, 22] (by decide) rfl rfl hl.1 rfl (Nat.le_of_ble_eq_true rfl) dX1_pileThen_47 ⟨Nat.le_of_ble_eq_true rfl, Nat.le_of_ble_eq_true rfl⟩ (fun H locs hP hD hS => ?_)
    obtain rfl := Option.some.inj hf
    exact W.iret (v := v4) hx hb hr (fun t ht hW => ⟨⟨v4, (), rfl, rfl, hPt ht hP⟩, hS.F ht⟩) hS.2.2 dX1_pileThen_50
  · have hf := hF hf c1
    refine lv_aload_n hx hb dX1_pileThen_10 rfl (lv_at hl 0 rfl) ?_
    refine lv_iload_n hx hb dX1_pileThen_11 rfl (lv_at hl 1 rfl) ?_
    refine lv_iconst (v := (0 : Int32)) hx hb dX1_pileThen_12 (by decide) ?_
    refine lv_bipush (v := (60 : Int32)) hx hb dX1_pileThen_13 (by decide) ?_
    refine rS_io (As := [.int j1, .int (0 : Int32), .int (60 : Int32)]) (rest := [.ref ((A 0) 0)]) ⟨hx, hb, hml, hown, hts⟩ hK hN hA hP hD hS (c_X1_beyond l D cI j1 (0 : Int32) (60 : Int32) (f_X1_beyond j1 (0 : Int32) (60 : Int32)) rfl) (va_cwS 3 hts gX1_pileThen_X1_beyond rfl rfl rfl hd_X1_beyond.2 ⟨Nat.le_of_ble_eq_true rfl, Nat.le_of_ble_eq_true rfl⟩) [] (by decide) rfl rfl hl.1 rfl (Nat.le_of_ble_eq_true rfl) dX1_pileThen_15 ⟨Nat.le_of_ble_eq_true rfl, Nat.le_of_ble_eq_true rfl⟩ (fun H locs hP hD hS => ?_)
    obtain ⟨v5, hev5, hf⟩ := bS hf
    refine rV_i (ws' := (wX A cI v5.2 xn xm xk)) (As := [.int (f_X1_beyond j1 (0 : Int32) (60 : Int32))]) (rest := []) ⟨hx, hb, hml, hown, hts⟩ hK hN hA hP hD hS (c_X1_refuse l D cI A (f_X1_beyond j1 (0 : Int32) (60 : Int32)) xx xn xm xk v5 hev5) (cwV 1 hts gX1_pileThen_X1_refuse rfl rfl rfl hd_X1_refuse ⟨Nat.le_of_ble_eq_true rfl, Nat.le_of_ble_eq_true rfl⟩) (va_recv hK hP (ci := 1) (q0 := 0) rfl rfl) [0, 1, 2, 3, 4, 5, 6, 7, 8, 9, 10, 11, 12, 13, 14, 15, 16, 17, 18, 19, 20, 21, 22, 23, 24, 25, 26, 27, 28, 29, 30, 31, 32, 33, 34, 35, 36] (by decide) rfl rfl rfl rfl hl.1 rfl (Nat.le_of_ble_eq_true rfl) dX1_pileThen_18 ⟨Nat.le_of_ble_eq_true rfl, Nat.le_of_ble_eq_true rfl⟩ (fun H locs hP hD hS => ?_)
    have hP : va_P D vwCl (wX A cI v5.2 xn xm xk) H := hP
    obtain rfl := Option.some.inj hf
    exact W.iret (v := v5.1) hx hb hr (fun t ht hW => ⟨⟨v5.1, (), rfl, rfl, hPt ht hP⟩, hS.F ht⟩) hS.2.2 dX1_pileThen_21
def L_X1_sold_30 (j1 : Int32) (xn : HS) (xk : HS) (K65 : HS → HS → Option (Int32 × HS × HS)) : Nat → Int32 → HS → HS → Option (Int32 × HS × HS)
  | 0, _, _, _ => none
  | n' + 1, j2_30, xx_30, xm_30 => if (60 : Int32) < j2_30 then (K65 xx_30 xm_30) else if (f_X0_inPile j1 xm_30) = 0 then some (j2_30, xx_30, xm_30) else (f_X0_goOn (1 : Int32) (1 : Int32) xm_30).bind fun v5 => (L_X1_sold_30 j1 xn xk K65 n' (j2_30 + (1 : Int32)) xx_30 v5.2)
def f_X1_sold (j1 : Int32) (xx : HS) (xn : HS) (xm : HS) (xk : HS) : Option (Int32 × HS × HS) := if (f_X0_hasCard j1 xn) = 0 then (f_X1_refuse (-1 : Int32) xx xn xm xk).bind fun v6 => some (v6.1, v6.2, xm) else (f_X0_become xm xn).bind fun v2 => jn (fun (xx_65 : HS) (xm_65 : HS) => some ((-9 : Int32), xx_65, xm_65)) (fun (K65 : HS → HS → Option (Int32 × HS × HS)) => (L_X1_sold_30 j1 xn xk K65 fuel (0 : Int32) xx v2))
set_option maxHeartbeats 4000000 in
set_option maxRecDepth 100000 in
theorem c_X1_sold (l : Launch) (D : va_G) (cI : ClassId) (A : Nat → Nat → Nat) (j1 : Int32) (xx : HS) (xn : HS) (xm : HS) (xk : HS) (out : Int32 × HS × HS) (hf : f_X1_sold j1 xx xn xm xk = some out) : uI l D cI yX1_sold wsX1_sold ({ frames := 5, cells := 0, slots := 0, locals := 128 } : Room) [.ref ((A 0) 0), .int j1] (wX A cI xx xn xm xk) (wX A cI out.2.1 xn out.2.2 xk) out.1 := by
  intro sz
  refine Met.ofW (cc := cX1_sold) (maxL := 3) (ret := (some .int)) (by decide) rfl ?_
  intro p e s m args below meth c s₁ Bd hml hv
  obtain ⟨rfl, hsz, hP, hK, hD0, hN⟩ := hv
  have hx := Bd.exec
  have hb := Bd.bytes
  have hr := Bd.returns
  have hts := atoms_spec (ws := wsX1_sold) Bd.pre
  have hown : s.vm.findClass RX1 = some m.cls := findClass_of_methodNamed Bd.named
  have hlocks := Bd.notSynchronized
  subst hsz
  have hD := hD0.self (sz := s.heap.size)
  generalize hAe : va_A (wX A cI xx xn xm xk) s.heap.size = G at hD ⊢
  have hA : ∀ q : Nat, s.heap.size ≤ q → G q := fun q h => by rw [← hAe]; exact Or.inr h
  have hS : va_S G s.heap s.heap [] := va_S.rf
  have hP : va_P D vwCl (wX A cI xx xn xm xk) s.heap := hP
  have hl := lv_entry ([.ref ((A 0) 0), .int j1]) (n := 3) (Nat.le_of_ble_eq_true rfl)
  rw [lg_entry_eq]
  generalize (lg_sl ([.ref ((A 0) 0), .int j1]) ++ List.replicate (3 - (lg_sl ([.ref ((A 0) 0), .int j1])).length) Slot.unset).toArray = ls at hl ⊢
  have hl : lv_has ls 3 [(0, .ref ((A 0) 0)), (1, .int j1)] := hl
  have hinX : ∀ w ∈ wsX10, w ∈ wsX1_sold := by decide +kernel
  have lk0 := hts (.fieldLink RX1 10 "LiesBoughtBack" "now" "LLiesBoughtBack$Hall;") (by decide +kernel)
  have lk1 := hts (.initialized RX0) (by decide +kernel)
  have lk2 := hts (.instanceMethod yX0_hasCard) (by decide +kernel)
  have lk3 := hts (.selects RX0 yX0_hasCard yX0_hasCard) (by decide +kernel)
  have lk4 := hts (.fieldLink RX1 16 "LiesBoughtBack" "mind" "LLiesBoughtBack$Hall;") (by decide +kernel)
  have lk5 := hts (.instanceMethod yX0_become) (by decide +kernel)
  have lk6 := hts (.selects RX0 yX0_become yX0_become) (by decide +kernel)
  have lk7 := hts (.instanceMethod yX0_inPile) (by decide +kernel)
  have lk8 := hts (.selects RX0 yX0_inPile yX0_inPile) (by decide +kernel)
  have lk9 := hts (.instanceMethod yX0_goOn) (by decide +kernel)
  have lk10 := hts (.selects RX0 yX0_goOn yX0_goOn) (by decide +kernel)
  refine W_in ?_
  intro WW hWW
  refine (hWW _ _ _).mpr ?_
  unfold f_X1_sold at hf
  refine lv_aload_n hx hb dX1_sold_0 rfl (lv_at hl 0 rfl) ?_
  refine va_get (D := D) (ci := 1) (v := .ref ((A 1) 0)) (C := RX1) (T := TX1) (N := 9) hx hb hts hinX hown hK hP 0 rfl rfl 0 (by decide) lk0 (fun _ h9 => h9) rfl dX1_sold_1 ?_
  refine lv_iload_n hx hb dX1_sold_4 rfl (lv_at hl 1 rfl) ?_
  refine rVN_io (As := [.int j1]) (rest := []) ⟨hx, hb, hml, hown, hts⟩ hK hN hA hP hD hS (c_X0_hasCard l D cI (A 1) j1 xn (f_X0_hasCard j1 xn) rfl) ⟨va_cnB 1 hts gX1_sold_X0_hasCard_n69 rfl rfl rfl (nW.m hN 14 rfl) lk1 hd_X0_hasCard.2 ⟨Nat.le_of_ble_eq_true rfl, Nat.le_of_ble_eq_true rfl⟩, lk2, lk3⟩ (va_recv hK hP (ci := 0) (q0 := 1) rfl rfl) [1, 2, 3, 4, 5, 6, 7, 8, 9, 10, 11] (by decide) rfl rfl hl.1 rfl (Nat.le_of_ble_eq_true rfl) dX1_sold_5 ⟨Nat.le_of_ble_eq_true rfl, Nat.le_of_ble_eq_true rfl⟩ (fun H locs hP hD hS => ?_)
  refine lv_if_ne (tgt := 17) hx hb dX1_sold_8 (by decide) (fun c1 => ?_) (fun c1 => ?_)
  · have hf := hF hf c1
    refine lv_aload_n hx hb dX1_sold_17 rfl (lv_at hl 0 rfl) ?_
    refine va_get (D := D) (ci := 1) (v := .ref ((A 2) 0)) (C := RX1) (T := TX1) (N := 9) hx hb hts hinX hown hK hP 0 rfl rfl 1 (by decide) lk4 (fun _ h9 => h9) rfl dX1_sold_18 ?_
    refine lv_aload_n hx hb dX1_sold_21 rfl (lv_at hl 0 rfl) ?_
    refine va_get (D := D) (ci := 1) (v := .ref ((A 1) 0)) (C := RX1) (T := TX1) (N := 9) hx hb hts hinX hown hK hP 0 rfl rfl 0 (by decide) lk0 (fun _ h9 => h9) rfl dX1_sold_22 ?_
    obtain ⟨v2, hev2, hf⟩ := bS hf
    refine rVN_v (ws' := (wX A cI xx xn v2 xk)) (As := [.ref ((A 1) 0)]) (rest := []) ⟨hx, hb, hml, hown, hts⟩ hK hN hA hP hD hS (c_X0_become l D cI (A 2) (A 1) xm xn v2 hev2) ⟨va_cnB 1 hts gX1_sold_X0_become_n47 rfl rfl rfl (nW.m hN 1 rfl) lk1 hd_X0_become.2 ⟨Nat.le_of_ble_eq_true rfl, Nat.le_of_ble_eq_true rfl⟩, lk5, lk6⟩ (va_recv hK hP (ci := 0) (q0 := 12) rfl rfl) [12, 13, 14, 15, 16, 17, 18, 19, 20, 21, 22, 1, 2, 3, 4, 5, 6, 7, 8, 9, 10, 11] (by decide) rfl rfl rfl rfl hl.1 rfl (Nat.le_of_ble_eq_true rfl) dX1_sold_25 ⟨Nat.le_of_ble_eq_true rfl, Nat.le_of_ble_eq_true rfl⟩ (fun H locs hP hD hS => ?_)
    have hP : va_P D vwCl (wX A cI xx xn v2 xk) H := hP
    refine lv_iconst (v := (0 : Int32)) hx hb dX1_sold_28 (by decide) ?_
    refine lv_istore_n (lv' := [(2, .int (0 : Int32)), (0, .ref ((A 0) 0)), (1, .int j1)]) hx hb dX1_sold_29 rfl hl (by decide) rfl (fun ls hl => ?_)
    obtain ⟨K65, hK65, hf⟩ := jnS hf
    have J65 : ∀ (xx_65 : HS) (xm_65 : HS) (H : Heap) (locs : List Loc) (ls : Array Slot), K65 xx_65 xm_65 = some out → va_P D vwCl (wX A cI xx_65 xn xm_65 xk) H → va_D G (wX A cI xx_65 xn xm_65 xk) → va_S G s.heap H locs → lv_has ls 3 [] → WW H locs (F0 m 65 ls []) := by
      intro xx_65 xm_65 H locs ls hf hP hD hS hl
      subst hK65
      refine (hWW _ _ _).mpr ?_
      refine lv_bipush (v := (-9 : Int32)) hx hb dX1_sold_65 (by decide) ?_
      obtain rfl := Option.some.inj hf
      exact W.iret (v := (-9 : Int32)) hx hb hr (fun t ht hW => ⟨⟨(-9 : Int32), (), rfl, rfl, hPt ht hP⟩, hS.F ht⟩) hS.2.2 dX1_sold_67
    have P30 : ∀ (n' : Nat) (j2_30 : Int32) (xx_30 : HS) (xm_30 : HS) (H : Heap) (locs : List Loc) (ls : Array Slot), L_X1_sold_30 j1 xn xk K65 n' j2_30 xx_30 xm_30 = some out → va_P D vwCl (wX A cI xx_30 xn xm_30 xk) H → va_D G (wX A cI xx_30 xn xm_30 xk) → va_S G s.heap H locs → lv_has ls 3 [(0, .ref ((A 0) 0)), (1, .int j1), (2, .int j2_30)] → WW H locs (F0 m 30 ls []) := by
      intro n'
      induction n' with
      | zero => intro j2_30 xx_30 xm_30 H locs ls hf; exact absurd (show (none : Option (Int32 × HS × HS)) = some out from hf) (fun q => by cases q)
      | succ n' ih =>
        intro j2_30 xx_30 xm_30 H locs ls hf hP hD hS hl
        rw [L_X1_sold_30] at hf
        refine (hWW _ _ _).mpr ?_
        refine lv_iload_n hx hb dX1_sold_30 rfl (lv_at hl 2 rfl) ?_
        refine lv_bipush (v := (60 : Int32)) hx hb dX1_sold_31 (by decide) ?_
        refine lv_icmp_gt (tgt := 65) hx hb dX1_sold_33 (by decide) (fun c3 => ?_) (fun c3 => ?_)
        · have hf := hT hf c3
          exact (hWW _ _ _).mp (J65 _ _ _ _ _ hf hP hD hS (lv_sub hl [] rfl))
        · have hf := hF hf c3
          refine lv_aload_n hx hb dX1_sold_36 rfl (lv_at hl 0 rfl) ?_
          refine va_get (D := D) (ci := 1) (v := .ref ((A 2) 0)) (C := RX1) (T := TX1) (N := 9) hx hb hts hinX hown hK hP 0 rfl rfl 1 (by decide) lk4 (fun _ h9 => h9) rfl dX1_sold_37 ?_
          refine lv_iload_n hx hb dX1_sold_40 rfl (lv_at hl 1 rfl) ?_
          refine rVN_io (As := [.int j1]) (rest := []) ⟨hx, hb, hml, hown, hts⟩ hK hN hA hP hD hS (c_X0_inPile l D cI (A 2) j1 xm_30 (f_X0_inPile j1 xm_30) rfl) ⟨va_cnB 1 hts gX1_sold_X0_inPile_n72 rfl rfl rfl (nW.m hN 15 rfl) lk1 hd_X0_inPile.2 ⟨Nat.le_of_ble_eq_true rfl, Nat.le_of_ble_eq_true rfl⟩, lk7, lk8⟩ (va_recv hK hP (ci := 0) (q0 := 12) rfl rfl) [12, 13, 14, 15, 16, 17, 18, 19, 20, 21, 22] (by decide) rfl rfl hl.1 rfl (Nat.le_of_ble_eq_true rfl) dX1_sold_41 ⟨Nat.le_of_ble_eq_true rfl, Nat.le_of_ble_eq_true rfl⟩ (fun H locs hP hD hS => ?_)
          refine lv_if_ne (tgt := 49) hx hb dX1_sold_44 (by decide) (fun c4 => ?_) (fun c4 => ?_)
          · have hf := hF hf c4
            refine lv_aload_n hx hb dX1_sold_49 rfl (lv_at hl 0 rfl) ?_
            refine va_get (D := D) (ci := 1) (v := .ref ((A 2) 0)) (C := RX1) (T := TX1) (N := 9) hx hb hts hinX hown hK hP 0 rfl rfl 1 (by decide) lk4 (fun _ h9 => h9) rfl dX1_sold_50 ?_
            refine lv_iconst (v := (1 : Int32)) hx hb dX1_sold_53 (by decide) ?_
            refine lv_iconst (v := (1 : Int32)) hx hb dX1_sold_54 (by decide) ?_
            obtain ⟨v5, hev5, hf⟩ := bS hf
            refine rVN_i (ws' := (wX A cI xx_30 xn v5.2 xk)) (As := [.int (1 : Int32), .int (1 : Int32)]) (rest := []) ⟨hx, hb, hml, hown, hts⟩ hK hN hA hP hD hS (c_X0_goOn l D cI (A 2) (1 : Int32) (1 : Int32) xm_30 v5 hev5) ⟨va_cnB 2 hts gX1_sold_X0_goOn_n97 rfl rfl rfl (nW.m hN 12 rfl) lk1 hd_X0_goOn.2 ⟨Nat.le_of_ble_eq_true rfl, Nat.le_of_ble_eq_true rfl⟩, lk9, lk10⟩ (va_recv hK hP (ci := 0) (q0 := 12) rfl rfl) [12, 13, 14, 15, 16, 17, 18, 19, 20, 21, 22] (by decide) rfl rfl rfl rfl hl.1 rfl (Nat.le_of_ble_eq_true rfl) dX1_sold_55 ⟨Nat.le_of_ble_eq_true rfl, Nat.le_of_ble_eq_true rfl⟩ (fun H locs hP hD hS => ?_)
            have hP : va_P D vwCl (wX A cI xx_30 xn v5.2 xk) H := hP
            refine lv_pop hx hb dX1_sold_58 rfl ?_
            refine lv_iinc (v := (j2_30 + (1 : Int32))) (lv' := [(2, .int (j2_30 + (1 : Int32))), (0, .ref ((A 0) 0)), (1, .int j1)]) hx hb dX1_sold_59 hl (k := 2) rfl rfl (by decide) rfl (fun ls hl => ?_)
            refine lv_goto (tgt := 30) hx hb dX1_sold_62 (by decide) ?_
            exact (hWW _ _ _).mp (ih _ _ _ _ _ _ hf hP hD hS (lv_sub hl [1, 2, 0] rfl))
          · have hf := hT hf c4
            refine lv_iload_n hx hb dX1_sold_47 rfl (lv_at hl 2 rfl) ?_
            obtain rfl := Option.some.inj hf
            exact W.iret (v := j2_30) hx hb hr (fun t ht hW => ⟨⟨j2_30, (), rfl, rfl, hPt ht hP⟩, hS.F ht⟩) hS.2.2 dX1_sold_48
    exact (hWW _ _ _).mp (P30 _ _ _ _ _ _ _ hf hP hD hS (lv_sub hl [1, 2, 0] rfl))
  · have hf := hT hf c1
    refine lv_aload_n hx hb dX1_sold_11 rfl (lv_at hl 0 rfl) ?_
    refine lv_iconst (v := (-1 : Int32)) hx hb dX1_sold_12 (by decide) ?_
    obtain ⟨v6, hev6, hf⟩ := bS hf
    refine rV_i (ws' := (wX A cI v6.2 xn xm xk)) (As := [.int (-1 : Int32)]) (rest := []) ⟨hx, hb, hml, hown, hts⟩ hK hN hA hP hD hS (c_X1_refuse l D cI A (-1 : Int32) xx xn xm xk v6 hev6) (cwV 1 hts gX1_sold_X1_refuse rfl rfl rfl hd_X1_refuse ⟨Nat.le_of_ble_eq_true rfl, Nat.le_of_ble_eq_true rfl⟩) (va_recv hK hP (ci := 1) (q0 := 0) rfl rfl) [0, 1, 2, 3, 4, 5, 6, 7, 8, 9, 10, 11, 12, 13, 14, 15, 16, 17, 18, 19, 20, 21, 22, 23, 24, 25, 26, 27, 28, 29, 30, 31, 32, 33, 34, 35, 36] (by decide) rfl rfl rfl rfl hl.1 rfl (Nat.le_of_ble_eq_true rfl) dX1_sold_13 ⟨Nat.le_of_ble_eq_true rfl, Nat.le_of_ble_eq_true rfl⟩ (fun H locs hP hD hS => ?_)
    have hP : va_P D vwCl (wX A cI v6.2 xn xm xk) H := hP
    obtain rfl := Option.some.inj hf
    exact W.iret (v := v6.1) hx hb hr (fun t ht hW => ⟨⟨v6.1, (), rfl, rfl, hPt ht hP⟩, hS.F ht⟩) hS.2.2 dX1_sold_16
def L_X1_out_13 (xx : HS) (xn : HS) (xk : HS) (K47 : HS → Option (Int32 × HS)) : Nat → Int32 → HS → Option (Int32 × HS)
  | 0, _, _ => none
  | n' + 1, j1_13, xm_13 => if (60 : Int32) < j1_13 then (K47 xm_13) else (f_X0_pileBits xm_13).bind fun v3 => if v3 = 0 then some (j1_13, xm_13) else (f_X0_goOn (1 : Int32) (1 : Int32) xm_13).bind fun v5 => (L_X1_out_13 xx xn xk K47 n' (j1_13 + (1 : Int32)) v5.2)
def f_X1_out (xx : HS) (xn : HS) (xm : HS) (xk : HS) : Option (Int32 × HS) := (f_X0_become xm xn).bind fun v1 => jn (fun (xm_47 : HS) => some ((-9 : Int32), xm_47)) (fun (K47 : HS → Option (Int32 × HS)) => (L_X1_out_13 xx xn xk K47 fuel (0 : Int32) v1))
set_option maxHeartbeats 4000000 in
set_option maxRecDepth 100000 in
theorem c_X1_out (l : Launch) (D : va_G) (cI : ClassId) (A : Nat → Nat → Nat) (xx : HS) (xn : HS) (xm : HS) (xk : HS) (out : Int32 × HS) (hf : f_X1_out xx xn xm xk = some out) : uI l D cI yX1_out wsX1_out ({ frames := 5, cells := 0, slots := 0, locals := 128 } : Room) [.ref ((A 0) 0)] (wX A cI xx xn xm xk) (wX A cI xx xn out.2 xk) out.1 := by
  intro sz
  refine Met.ofW (cc := cX1_out) (maxL := 2) (ret := (some .int)) (by decide) rfl ?_
  intro p e s m args below meth c s₁ Bd hml hv
  obtain ⟨rfl, hsz, hP, hK, hD0, hN⟩ := hv
  have hx := Bd.exec
  have hb := Bd.bytes
  have hr := Bd.returns
  have hts := atoms_spec (ws := wsX1_out) Bd.pre
  have hown : s.vm.findClass RX1 = some m.cls := findClass_of_methodNamed Bd.named
  have hlocks := Bd.notSynchronized
  subst hsz
  have hD := hD0.self (sz := s.heap.size)
  generalize hAe : va_A (wX A cI xx xn xm xk) s.heap.size = G at hD ⊢
  have hA : ∀ q : Nat, s.heap.size ≤ q → G q := fun q h => by rw [← hAe]; exact Or.inr h
  have hS : va_S G s.heap s.heap [] := va_S.rf
  have hP : va_P D vwCl (wX A cI xx xn xm xk) s.heap := hP
  have hl := lv_entry ([.ref ((A 0) 0)]) (n := 2) (Nat.le_of_ble_eq_true rfl)
  rw [lg_entry_eq]
  generalize (lg_sl ([.ref ((A 0) 0)]) ++ List.replicate (2 - (lg_sl ([.ref ((A 0) 0)])).length) Slot.unset).toArray = ls at hl ⊢
  have hl : lv_has ls 2 [(0, .ref ((A 0) 0))] := hl
  have hinX : ∀ w ∈ wsX10, w ∈ wsX1_out := by decide +kernel
  have lk0 := hts (.fieldLink RX1 16 "LiesBoughtBack" "mind" "LLiesBoughtBack$Hall;") (by decide +kernel)
  have lk1 := hts (.fieldLink RX1 10 "LiesBoughtBack" "now" "LLiesBoughtBack$Hall;") (by decide +kernel)
  have lk2 := hts (.initialized RX0) (by decide +kernel)
  have lk3 := hts (.instanceMethod yX0_become) (by decide +kernel)
  have lk4 := hts (.selects RX0 yX0_become yX0_become) (by decide +kernel)
  have lk5 := hts (.instanceMethod yX0_pileBits) (by decide +kernel)
  have lk6 := hts (.selects RX0 yX0_pileBits yX0_pileBits) (by decide +kernel)
  have lk7 := hts (.instanceMethod yX0_goOn) (by decide +kernel)
  have lk8 := hts (.selects RX0 yX0_goOn yX0_goOn) (by decide +kernel)
  refine W_in ?_
  intro WW hWW
  refine (hWW _ _ _).mpr ?_
  unfold f_X1_out at hf
  refine lv_aload_n hx hb dX1_out_0 rfl (lv_at hl 0 rfl) ?_
  refine va_get (D := D) (ci := 1) (v := .ref ((A 2) 0)) (C := RX1) (T := TX1) (N := 9) hx hb hts hinX hown hK hP 0 rfl rfl 1 (by decide) lk0 (fun _ h9 => h9) rfl dX1_out_1 ?_
  refine lv_aload_n hx hb dX1_out_4 rfl (lv_at hl 0 rfl) ?_
  refine va_get (D := D) (ci := 1) (v := .ref ((A 1) 0)) (C := RX1) (T := TX1) (N := 9) hx hb hts hinX hown hK hP 0 rfl rfl 0 (by decide) lk1 (fun _ h9 => h9) rfl dX1_out_5 ?_
  obtain ⟨v1, hev1, hf⟩ := bS hf
  refine rVN_v (ws' := (wX A cI xx xn v1 xk)) (As := [.ref ((A 1) 0)]) (rest := []) ⟨hx, hb, hml, hown, hts⟩ hK hN hA hP hD hS (c_X0_become l D cI (A 2) (A 1) xm xn v1 hev1) ⟨va_cnB 1 hts gX1_out_X0_become_n47 rfl rfl rfl (nW.m hN 1 rfl) lk2 hd_X0_become.2 ⟨Nat.le_of_ble_eq_true rfl, Nat.le_of_ble_eq_true rfl⟩, lk3, lk4⟩ (va_recv hK hP (ci := 0) (q0 := 12) rfl rfl) [12, 13, 14, 15, 16, 17, 18, 19, 20, 21, 22, 1, 2, 3, 4, 5, 6, 7, 8, 9, 10, 11] (by decide) rfl rfl rfl rfl hl.1 rfl (Nat.le_of_ble_eq_true rfl) dX1_out_8 ⟨Nat.le_of_ble_eq_true rfl, Nat.le_of_ble_eq_true rfl⟩ (fun H locs hP hD hS => ?_)
  have hP : va_P D vwCl (wX A cI xx xn v1 xk) H := hP
  refine lv_iconst (v := (0 : Int32)) hx hb dX1_out_11 (by decide) ?_
  refine lv_istore_n (lv' := [(1, .int (0 : Int32)), (0, .ref ((A 0) 0))]) hx hb dX1_out_12 rfl hl (by decide) rfl (fun ls hl => ?_)
  obtain ⟨K47, hK47, hf⟩ := jnS hf
  have J47 : ∀ (xm_47 : HS) (H : Heap) (locs : List Loc) (ls : Array Slot), K47 xm_47 = some out → va_P D vwCl (wX A cI xx xn xm_47 xk) H → va_D G (wX A cI xx xn xm_47 xk) → va_S G s.heap H locs → lv_has ls 2 [] → WW H locs (F0 m 47 ls []) := by
    intro xm_47 H locs ls hf hP hD hS hl
    subst hK47
    refine (hWW _ _ _).mpr ?_
    refine lv_bipush (v := (-9 : Int32)) hx hb dX1_out_47 (by decide) ?_
    obtain rfl := Option.some.inj hf
    exact W.iret (v := (-9 : Int32)) hx hb hr (fun t ht hW => ⟨⟨(-9 : Int32), (), rfl, rfl, hPt ht hP⟩, hS.F ht⟩) hS.2.2 dX1_out_49
  have P13 : ∀ (n' : Nat) (j1_13 : Int32) (xm_13 : HS) (H : Heap) (locs : List Loc) (ls : Array Slot), L_X1_out_13 xx xn xk K47 n' j1_13 xm_13 = some out → va_P D vwCl (wX A cI xx xn xm_13 xk) H → va_D G (wX A cI xx xn xm_13 xk) → va_S G s.heap H locs → lv_has ls 2 [(0, .ref ((A 0) 0)), (1, .int j1_13)] → WW H locs (F0 m 13 ls []) := by
    intro n'
    induction n' with
    | zero => intro j1_13 xm_13 H locs ls hf; exact absurd (show (none : Option (Int32 × HS)) = some out from hf) (fun q => by cases q)
    | succ n' ih =>
      intro j1_13 xm_13 H locs ls hf hP hD hS hl
      rw [L_X1_out_13] at hf
      refine (hWW _ _ _).mpr ?_
      refine lv_iload_n hx hb dX1_out_13 rfl (lv_at hl 1 rfl) ?_
      refine lv_bipush (v := (60 : Int32)) hx hb dX1_out_14 (by decide) ?_
      refine lv_icmp_gt (tgt := 47) hx hb dX1_out_16 (by decide) (fun c2 => ?_) (fun c2 => ?_)
      · have hf := hT hf c2
        exact (hWW _ _ _).mp (J47 _ _ _ _ hf hP hD hS (lv_sub hl [] rfl))
      · have hf := hF hf c2
        refine lv_aload_n hx hb dX1_out_19 rfl (lv_at hl 0 rfl) ?_
        refine va_get (D := D) (ci := 1) (v := .ref ((A 2) 0)) (C := RX1) (T := TX1) (N := 9) hx hb hts hinX hown hK hP 0 rfl rfl 1 (by decide) lk0 (fun _ h9 => h9) rfl dX1_out_20 ?_
        obtain ⟨v3, hev3, hf⟩ := bS hf
        refine rVN_io (As := []) (rest := []) ⟨hx, hb, hml, hown, hts⟩ hK hN hA hP hD hS (c_X0_pileBits l D cI (A 2) xm_13 v3 hev3) ⟨va_cnB 0 hts gX1_out_X0_pileBits_n151 rfl rfl rfl (nW.m hN 26 rfl) lk2 hd_X0_pileBits.2 ⟨Nat.le_of_ble_eq_true rfl, Nat.le_of_ble_eq_true rfl⟩, lk5, lk6⟩ (va_recv hK hP (ci := 0) (q0 := 12) rfl rfl) [12, 13, 14, 15, 16, 17, 18, 19, 20, 21, 22] (by decide) rfl rfl hl.1 rfl (Nat.le_of_ble_eq_true rfl) dX1_out_23 ⟨Nat.le_of_ble_eq_true rfl, Nat.le_of_ble_eq_true rfl⟩ (fun H locs hP hD hS => ?_)
        refine lv_if_ne (tgt := 31) hx hb dX1_out_26 (by decide) (fun c4 => ?_) (fun c4 => ?_)
        · have hf := hF hf c4
          refine lv_aload_n hx hb dX1_out_31 rfl (lv_at hl 0 rfl) ?_
          refine va_get (D := D) (ci := 1) (v := .ref ((A 2) 0)) (C := RX1) (T := TX1) (N := 9) hx hb hts hinX hown hK hP 0 rfl rfl 1 (by decide) lk0 (fun _ h9 => h9) rfl dX1_out_32 ?_
          refine lv_iconst (v := (1 : Int32)) hx hb dX1_out_35 (by decide) ?_
          refine lv_iconst (v := (1 : Int32)) hx hb dX1_out_36 (by decide) ?_
          obtain ⟨v5, hev5, hf⟩ := bS hf
          refine rVN_i (ws' := (wX A cI xx xn v5.2 xk)) (As := [.int (1 : Int32), .int (1 : Int32)]) (rest := []) ⟨hx, hb, hml, hown, hts⟩ hK hN hA hP hD hS (c_X0_goOn l D cI (A 2) (1 : Int32) (1 : Int32) xm_13 v5 hev5) ⟨va_cnB 2 hts gX1_out_X0_goOn_n97 rfl rfl rfl (nW.m hN 12 rfl) lk2 hd_X0_goOn.2 ⟨Nat.le_of_ble_eq_true rfl, Nat.le_of_ble_eq_true rfl⟩, lk7, lk8⟩ (va_recv hK hP (ci := 0) (q0 := 12) rfl rfl) [12, 13, 14, 15, 16, 17, 18, 19, 20, 21, 22] (by decide) rfl rfl rfl rfl hl.1 rfl (Nat.le_of_ble_eq_true rfl) dX1_out_37 ⟨Nat.le_of_ble_eq_true rfl, Nat.le_of_ble_eq_true rfl⟩ (fun H locs hP hD hS => ?_)
          have hP : va_P D vwCl (wX A cI xx xn v5.2 xk) H := hP
          refine lv_pop hx hb dX1_out_40 rfl ?_
          refine lv_iinc (v := (j1_13 + (1 : Int32))) (lv' := [(1, .int (j1_13 + (1 : Int32))), (0, .ref ((A 0) 0))]) hx hb dX1_out_41 hl (k := 1) rfl rfl (by decide) rfl (fun ls hl => ?_)
          refine lv_goto (tgt := 13) hx hb dX1_out_44 (by decide) ?_
          exact (hWW _ _ _).mp (ih _ _ _ _ _ hf hP hD hS (lv_sub hl [1, 0] rfl))
        · have hf := hT hf c4
          refine lv_iload_n hx hb dX1_out_29 rfl (lv_at hl 1 rfl) ?_
          obtain rfl := Option.some.inj hf
          exact W.iret (v := j1_13) hx hb hr (fun t ht hW => ⟨⟨j1_13, (), rfl, rfl, hPt ht hP⟩, hS.F ht⟩) hS.2.2 dX1_out_30
  exact (hWW _ _ _).mp (P13 _ _ _ _ _ _ hf hP hD hS (lv_sub hl [1, 0] rfl))
def L_X1_ruined_30 (j1 : Int32) (xn : HS) (xk : HS) (K68 : HS → HS → Option (Int32 × HS × HS)) : Nat → Int32 → HS → HS → Option (Int32 × HS × HS)
  | 0, _, _, _ => none
  | n' + 1, j2_30, xx_30, xm_30 => if (60 : Int32) < j2_30 then (K68 xx_30 xm_30) else if (atv 6 (xm_30 9) j1) = 0 then some (j2_30, xx_30, xm_30) else (f_X0_goOn (1 : Int32) (1 : Int32) xm_30).bind fun v5 => (L_X1_ruined_30 j1 xn xk K68 n' (j2_30 + (1 : Int32)) xx_30 v5.2)
def f_X1_ruined (j1 : Int32) (xx : HS) (xn : HS) (xm : HS) (xk : HS) : Option (Int32 × HS × HS) := if (f_X0_hasBidder j1 xn) = 0 then (f_X1_refuse (-1 : Int32) xx xn xm xk).bind fun v6 => some (v6.1, v6.2, xm) else (f_X0_become xm xn).bind fun v2 => jn (fun (xx_68 : HS) (xm_68 : HS) => some ((-9 : Int32), xx_68, xm_68)) (fun (K68 : HS → HS → Option (Int32 × HS × HS)) => (L_X1_ruined_30 j1 xn xk K68 fuel (0 : Int32) xx v2))
set_option maxHeartbeats 4000000 in
set_option maxRecDepth 100000 in
theorem c_X1_ruined (l : Launch) (D : va_G) (cI : ClassId) (A : Nat → Nat → Nat) (j1 : Int32) (xx : HS) (xn : HS) (xm : HS) (xk : HS) (out : Int32 × HS × HS) (hf : f_X1_ruined j1 xx xn xm xk = some out) : uI l D cI yX1_ruined wsX1_ruined ({ frames := 5, cells := 0, slots := 0, locals := 128 } : Room) [.ref ((A 0) 0), .int j1] (wX A cI xx xn xm xk) (wX A cI out.2.1 xn out.2.2 xk) out.1 := by
  intro sz
  refine Met.ofW (cc := cX1_ruined) (maxL := 3) (ret := (some .int)) (by decide) rfl ?_
  intro p e s m args below meth c s₁ Bd hml hv
  obtain ⟨rfl, hsz, hP, hK, hD0, hN⟩ := hv
  have hx := Bd.exec
  have hb := Bd.bytes
  have hr := Bd.returns
  have hts := atoms_spec (ws := wsX1_ruined) Bd.pre
  have hown : s.vm.findClass RX1 = some m.cls := findClass_of_methodNamed Bd.named
  have hlocks := Bd.notSynchronized
  subst hsz
  have hD := hD0.self (sz := s.heap.size)
  generalize hAe : va_A (wX A cI xx xn xm xk) s.heap.size = G at hD ⊢
  have hA : ∀ q : Nat, s.heap.size ≤ q → G q := fun q h => by rw [← hAe]; exact Or.inr h
  have hS : va_S G s.heap s.heap [] := va_S.rf
  have hP : va_P D vwCl (wX A cI xx xn xm xk) s.heap := hP
  have hl := lv_entry ([.ref ((A 0) 0), .int j1]) (n := 3) (Nat.le_of_ble_eq_true rfl)
  rw [lg_entry_eq]
  generalize (lg_sl ([.ref ((A 0) 0), .int j1]) ++ List.replicate (3 - (lg_sl ([.ref ((A 0) 0), .int j1])).length) Slot.unset).toArray = ls at hl ⊢
  have hl : lv_has ls 3 [(0, .ref ((A 0) 0)), (1, .int j1)] := hl
  have hinH : ∀ w ∈ wsX00, w ∈ wsX1_ruined := by decide +kernel
  have hinX : ∀ w ∈ wsX10, w ∈ wsX1_ruined := by decide +kernel
  have lk0 := hts (.fieldLink RX1 10 "LiesBoughtBack" "now" "LLiesBoughtBack$Hall;") (by decide +kernel)
  have lk1 := hts (.initialized RX0) (by decide +kernel)
  have lk2 := hts (.instanceMethod yX0_hasBidder) (by decide +kernel)
  have lk3 := hts (.selects RX0 yX0_hasBidder yX0_hasBidder) (by decide +kernel)
  have lk4 := hts (.fieldLink RX1 16 "LiesBoughtBack" "mind" "LLiesBoughtBack$Hall;") (by decide +kernel)
  have lk5 := hts (.instanceMethod yX0_become) (by decide +kernel)
  have lk6 := hts (.selects RX0 yX0_become yX0_become) (by decide +kernel)
  have lk7 := hts (.instanceMethod yX0_goOn) (by decide +kernel)
  have lk8 := hts (.selects RX0 yX0_goOn yX0_goOn) (by decide +kernel)
  refine W_in ?_
  intro WW hWW
  refine (hWW _ _ _).mpr ?_
  unfold f_X1_ruined at hf
  refine lv_aload_n hx hb dX1_ruined_0 rfl (lv_at hl 0 rfl) ?_
  refine va_get (D := D) (ci := 1) (v := .ref ((A 1) 0)) (C := RX1) (T := TX1) (N := 9) hx hb hts hinX hown hK hP 0 rfl rfl 0 (by decide) lk0 (fun _ h9 => h9) rfl dX1_ruined_1 ?_
  refine lv_iload_n hx hb dX1_ruined_4 rfl (lv_at hl 1 rfl) ?_
  refine rVN_io (As := [.int j1]) (rest := []) ⟨hx, hb, hml, hown, hts⟩ hK hN hA hP hD hS (c_X0_hasBidder l D cI (A 1) j1 xn (f_X0_hasBidder j1 xn) rfl) ⟨va_cnB 1 hts gX1_ruined_X0_hasBidder_n59 rfl rfl rfl (nW.m hN 13 rfl) lk1 hd_X0_hasBidder.2 ⟨Nat.le_of_ble_eq_true rfl, Nat.le_of_ble_eq_true rfl⟩, lk2, lk3⟩ (va_recv hK hP (ci := 0) (q0 := 1) rfl rfl) [1, 2, 3, 4, 5, 6, 7, 8, 9, 10, 11] (by decide) rfl rfl hl.1 rfl (Nat.le_of_ble_eq_true rfl) dX1_ruined_5 ⟨Nat.le_of_ble_eq_true rfl, Nat.le_of_ble_eq_true rfl⟩ (fun H locs hP hD hS => ?_)
  refine lv_if_ne (tgt := 17) hx hb dX1_ruined_8 (by decide) (fun c1 => ?_) (fun c1 => ?_)
  · have hf := hF hf c1
    refine lv_aload_n hx hb dX1_ruined_17 rfl (lv_at hl 0 rfl) ?_
    refine va_get (D := D) (ci := 1) (v := .ref ((A 2) 0)) (C := RX1) (T := TX1) (N := 9) hx hb hts hinX hown hK hP 0 rfl rfl 1 (by decide) lk4 (fun _ h9 => h9) rfl dX1_ruined_18 ?_
    refine lv_aload_n hx hb dX1_ruined_21 rfl (lv_at hl 0 rfl) ?_
    refine va_get (D := D) (ci := 1) (v := .ref ((A 1) 0)) (C := RX1) (T := TX1) (N := 9) hx hb hts hinX hown hK hP 0 rfl rfl 0 (by decide) lk0 (fun _ h9 => h9) rfl dX1_ruined_22 ?_
    obtain ⟨v2, hev2, hf⟩ := bS hf
    refine rVN_v (ws' := (wX A cI xx xn v2 xk)) (As := [.ref ((A 1) 0)]) (rest := []) ⟨hx, hb, hml, hown, hts⟩ hK hN hA hP hD hS (c_X0_become l D cI (A 2) (A 1) xm xn v2 hev2) ⟨va_cnB 1 hts gX1_ruined_X0_become_n47 rfl rfl rfl (nW.m hN 1 rfl) lk1 hd_X0_become.2 ⟨Nat.le_of_ble_eq_true rfl, Nat.le_of_ble_eq_true rfl⟩, lk5, lk6⟩ (va_recv hK hP (ci := 0) (q0 := 12) rfl rfl) [12, 13, 14, 15, 16, 17, 18, 19, 20, 21, 22, 1, 2, 3, 4, 5, 6, 7, 8, 9, 10, 11] (by decide) rfl rfl rfl rfl hl.1 rfl (Nat.le_of_ble_eq_true rfl) dX1_ruined_25 ⟨Nat.le_of_ble_eq_true rfl, Nat.le_of_ble_eq_true rfl⟩ (fun H locs hP hD hS => ?_)
    have hP : va_P D vwCl (wX A cI xx xn v2 xk) H := hP
    refine lv_iconst (v := (0 : Int32)) hx hb dX1_ruined_28 (by decide) ?_
    refine lv_istore_n (lv' := [(2, .int (0 : Int32)), (0, .ref ((A 0) 0)), (1, .int j1)]) hx hb dX1_ruined_29 rfl hl (by decide) rfl (fun ls hl => ?_)
    obtain ⟨K68, hK68, hf⟩ := jnS hf
    have J68 : ∀ (xx_68 : HS) (xm_68 : HS) (H : Heap) (locs : List Loc) (ls : Array Slot), K68 xx_68 xm_68 = some out → va_P D vwCl (wX A cI xx_68 xn xm_68 xk) H → va_D G (wX A cI xx_68 xn xm_68 xk) → va_S G s.heap H locs → lv_has ls 3 [] → WW H locs (F0 m 68 ls []) := by
      intro xx_68 xm_68 H locs ls hf hP hD hS hl
      subst hK68
      refine (hWW _ _ _).mpr ?_
      refine lv_bipush (v := (-9 : Int32)) hx hb dX1_ruined_68 (by decide) ?_
      obtain rfl := Option.some.inj hf
      exact W.iret (v := (-9 : Int32)) hx hb hr (fun t ht hW => ⟨⟨(-9 : Int32), (), rfl, rfl, hPt ht hP⟩, hS.F ht⟩) hS.2.2 dX1_ruined_70
    have P30 : ∀ (n' : Nat) (j2_30 : Int32) (xx_30 : HS) (xm_30 : HS) (H : Heap) (locs : List Loc) (ls : Array Slot), L_X1_ruined_30 j1 xn xk K68 n' j2_30 xx_30 xm_30 = some out → va_P D vwCl (wX A cI xx_30 xn xm_30 xk) H → va_D G (wX A cI xx_30 xn xm_30 xk) → va_S G s.heap H locs → lv_has ls 3 [(0, .ref ((A 0) 0)), (1, .int j1), (2, .int j2_30)] → WW H locs (F0 m 30 ls []) := by
      intro n'
      induction n' with
      | zero => intro j2_30 xx_30 xm_30 H locs ls hf; exact absurd (show (none : Option (Int32 × HS × HS)) = some out from hf) (fun q => by cases q)
      | succ n' ih =>
        intro j2_30 xx_30 xm_30 H locs ls hf hP hD hS hl
        rw [L_X1_ruined_30] at hf
        refine (hWW _ _ _).mpr ?_
        refine lv_iload_n hx hb dX1_ruined_30 rfl (lv_at hl 2 rfl) ?_
        refine lv_bipush (v := (60 : Int32)) hx hb dX1_ruined_31 (by decide) ?_
        refine lv_icmp_gt (tgt := 68) hx hb dX1_ruined_33 (by decide) (fun c3 => ?_) (fun c3 => ?_)
        · have hf := hT hf c3
          exact (hWW _ _ _).mp (J68 _ _ _ _ _ hf hP hD hS (lv_sub hl [] rfl))
        · have hf := hF hf c3
          refine lv_aload_n hx hb dX1_ruined_36 rfl (lv_at hl 0 rfl) ?_
          refine va_get (D := D) (ci := 1) (v := .ref ((A 2) 0)) (C := RX1) (T := TX1) (N := 9) hx hb hts hinX hown hK hP 0 rfl rfl 1 (by decide) lk4 (fun _ h9 => h9) rfl dX1_ruined_37 ?_
          refine va_getN (D := D) (ci := 0) (v := .ref ((A 2) 10)) (C := RX0) (T := TX0) (N := 13) hx hb hts hinH hown hK hP 12 rfl rfl 12 (by decide) (nW.f hN 11 rfl) (fun _ h9 => h9) rfl dX1_ruined_40 ?_
          refine lv_iload_n hx hb dX1_ruined_43 rfl (lv_at hl 1 rfl) ?_
          refine rS_io (As := [.ref ((A 2) 10), .int j1]) (rest := []) ⟨hx, hb, hml, hown, hts⟩ hK hN hA hP hD hS (c_X1_at l D cI 6 (by decide) ((A 2) 10) (xm_30 9) j1) (va_cwS 2 hts gX1_ruined_X1_at rfl rfl rfl hd_X1_at.2 ⟨Nat.le_of_ble_eq_true rfl, Nat.le_of_ble_eq_true rfl⟩) [22] (by decide) rfl rfl hl.1 rfl (Nat.le_of_ble_eq_true rfl) dX1_ruined_44 ⟨Nat.le_of_ble_eq_true rfl, Nat.le_of_ble_eq_true rfl⟩ (fun H locs hP hD hS => ?_)
          refine lv_if_ne (tgt := 52) hx hb dX1_ruined_47 (by decide) (fun c4 => ?_) (fun c4 => ?_)
          · have hf := hF hf c4
            refine lv_aload_n hx hb dX1_ruined_52 rfl (lv_at hl 0 rfl) ?_
            refine va_get (D := D) (ci := 1) (v := .ref ((A 2) 0)) (C := RX1) (T := TX1) (N := 9) hx hb hts hinX hown hK hP 0 rfl rfl 1 (by decide) lk4 (fun _ h9 => h9) rfl dX1_ruined_53 ?_
            refine lv_iconst (v := (1 : Int32)) hx hb dX1_ruined_56 (by decide) ?_
            refine lv_iconst (v := (1 : Int32)) hx hb dX1_ruined_57 (by decide) ?_
            obtain ⟨v5, hev5, hf⟩ := bS hf
            refine rVN_i (ws' := (wX A cI xx_30 xn v5.2 xk)) (As := [.int (1 : Int32), .int (1 : Int32)]) (rest := []) ⟨hx, hb, hml, hown, hts⟩ hK hN hA hP hD hS (c_X0_goOn l D cI (A 2) (1 : Int32) (1 : Int32) xm_30 v5 hev5) ⟨va_cnB 2 hts gX1_ruined_X0_goOn_n97 rfl rfl rfl (nW.m hN 12 rfl) lk1 hd_X0_goOn.2 ⟨Nat.le_of_ble_eq_true rfl, Nat.le_of_ble_eq_true rfl⟩, lk7, lk8⟩ (va_recv hK hP (ci := 0) (q0 := 12) rfl rfl) [12, 13, 14, 15, 16, 17, 18, 19, 20, 21, 22] (by decide) rfl rfl rfl rfl hl.1 rfl (Nat.le_of_ble_eq_true rfl) dX1_ruined_58 ⟨Nat.le_of_ble_eq_true rfl, Nat.le_of_ble_eq_true rfl⟩ (fun H locs hP hD hS => ?_)
            have hP : va_P D vwCl (wX A cI xx_30 xn v5.2 xk) H := hP
            refine lv_pop hx hb dX1_ruined_61 rfl ?_
            refine lv_iinc (v := (j2_30 + (1 : Int32))) (lv' := [(2, .int (j2_30 + (1 : Int32))), (0, .ref ((A 0) 0)), (1, .int j1)]) hx hb dX1_ruined_62 hl (k := 2) rfl rfl (by decide) rfl (fun ls hl => ?_)
            refine lv_goto (tgt := 30) hx hb dX1_ruined_65 (by decide) ?_
            exact (hWW _ _ _).mp (ih _ _ _ _ _ _ hf hP hD hS (lv_sub hl [1, 2, 0] rfl))
          · have hf := hT hf c4
            refine lv_iload_n hx hb dX1_ruined_50 rfl (lv_at hl 2 rfl) ?_
            obtain rfl := Option.some.inj hf
            exact W.iret (v := j2_30) hx hb hr (fun t ht hW => ⟨⟨j2_30, (), rfl, rfl, hPt ht hP⟩, hS.F ht⟩) hS.2.2 dX1_ruined_51
    exact (hWW _ _ _).mp (P30 _ _ _ _ _ _ _ hf hP hD hS (lv_sub hl [1, 2, 0] rfl))
  · have hf := hT hf c1
    refine lv_aload_n hx hb dX1_ruined_11 rfl (lv_at hl 0 rfl) ?_
    refine lv_iconst (v := (-1 : Int32)) hx hb dX1_ruined_12 (by decide) ?_
    obtain ⟨v6, hev6, hf⟩ := bS hf
    refine rV_i (ws' := (wX A cI v6.2 xn xm xk)) (As := [.int (-1 : Int32)]) (rest := []) ⟨hx, hb, hml, hown, hts⟩ hK hN hA hP hD hS (c_X1_refuse l D cI A (-1 : Int32) xx xn xm xk v6 hev6) (cwV 1 hts gX1_ruined_X1_refuse rfl rfl rfl hd_X1_refuse ⟨Nat.le_of_ble_eq_true rfl, Nat.le_of_ble_eq_true rfl⟩) (va_recv hK hP (ci := 1) (q0 := 0) rfl rfl) [0, 1, 2, 3, 4, 5, 6, 7, 8, 9, 10, 11, 12, 13, 14, 15, 16, 17, 18, 19, 20, 21, 22, 23, 24, 25, 26, 27, 28, 29, 30, 31, 32, 33, 34, 35, 36] (by decide) rfl rfl rfl rfl hl.1 rfl (Nat.le_of_ble_eq_true rfl) dX1_ruined_13 ⟨Nat.le_of_ble_eq_true rfl, Nat.le_of_ble_eq_true rfl⟩ (fun H locs hP hD hS => ?_)
    have hP : va_P D vwCl (wX A cI v6.2 xn xm xk) H := hP
    obtain rfl := Option.some.inj hf
    exact W.iret (v := v6.1) hx hb hr (fun t ht hW => ⟨⟨v6.1, (), rfl, rfl, hPt ht hP⟩, hS.F ht⟩) hS.2.2 dX1_ruined_16
def L_X1_lots_47 (j1 : Int32) (j2 : Int32) (j3 : Int32) (xn : HS) (xk : HS) (K124 : Int32 → HS → HS → Option (Int32 × HS × HS)) : Nat → Int32 → Int32 → Int32 → HS → HS → Option (Int32 × HS × HS)
  | 0, _, _, _, _, _ => none
  | n' + 1, j4_47, j5_47, j6_47, xx_47, xm_47 => if j1 ≤ j6_47 then (K124 j5_47 xx_47 xm_47) else (f_X0_become xm_47 xn).bind fun v6 => (f_X0_drawPurses j4_47 v6).bind fun v7 => (f_X0_allToPile v7.2).bind fun v8 => (f_X0_goOn (2 : Int32) (1 : Int32) v8).bind fun v9 => if j3 = 0 then (f_X0_heldCount v9.2).bind fun v12 => (L_X1_lots_47 j1 j2 j3 xn xk K124 n' v7.1 (j5_47 + v12) (j6_47 + (1 : Int32)) xx_47 v9.2) else (f_X0_allBelieved v9.2).bind fun v11 => (L_X1_lots_47 j1 j2 j3 xn xk K124 n' v7.1 (j5_47 + v11) (j6_47 + (1 : Int32)) xx_47 v9.2)
def f_X1_lots (j1 : Int32) (j2 : Int32) (j3 : Int32) (xx : HS) (xn : HS) (xm : HS) (xk : HS) : Option (Int32 × HS × HS) := if (f_X1_beyond j1 (1 : Int32) (20 : Int32)) = 0 then if j3 < 0 then (f_X1_refuse (-2 : Int32) xx xn xm xk).bind fun v3 => some (v3.1, v3.2, xm) else if j3 ≤ (1 : Int32) then jn (fun (j5_124 : Int32) (xx_124 : HS) (xm_124 : HS) => some (j5_124, xx_124, xm_124)) (fun (K124 : Int32 → HS → HS → Option (Int32 × HS × HS)) => (L_X1_lots_47 j1 j2 j3 xn xk K124 fuel j2 (0 : Int32) (0 : Int32) xx xm)) else (f_X1_refuse (-2 : Int32) xx xn xm xk).bind fun v13 => some (v13.1, v13.2, xm) else (f_X1_refuse (f_X1_beyond j1 (1 : Int32) (20 : Int32)) xx xn xm xk).bind fun v14 => some (v14.1, v14.2, xm)
set_option maxHeartbeats 4000000 in
set_option maxRecDepth 100000 in
theorem c_X1_lots (l : Launch) (D : va_G) (cI : ClassId) (A : Nat → Nat → Nat) (j1 : Int32) (j2 : Int32) (j3 : Int32) (xx : HS) (xn : HS) (xm : HS) (xk : HS) (out : Int32 × HS × HS) (hf : f_X1_lots j1 j2 j3 xx xn xm xk = some out) : uI l D cI yX1_lots wsX1_lots ({ frames := 5, cells := 0, slots := 0, locals := 128 } : Room) [.ref ((A 0) 0), .int j1, .int j2, .int j3] (wX A cI xx xn xm xk) (wX A cI out.2.1 xn out.2.2 xk) out.1 := by
  intro sz
  refine Met.ofW (cc := cX1_lots) (maxL := 7) (ret := (some .int)) (by decide) rfl ?_
  intro p e s m args below meth c s₁ Bd hml hv
  obtain ⟨rfl, hsz, hP, hK, hD0, hN⟩ := hv
  have hx := Bd.exec
  have hb := Bd.bytes
  have hr := Bd.returns
  have hts := atoms_spec (ws := wsX1_lots) Bd.pre
  have hown : s.vm.findClass RX1 = some m.cls := findClass_of_methodNamed Bd.named
  have hlocks := Bd.notSynchronized
  subst hsz
  have hD := hD0.self (sz := s.heap.size)
  generalize hAe : va_A (wX A cI xx xn xm xk) s.heap.size = G at hD ⊢
  have hA : ∀ q : Nat, s.heap.size ≤ q → G q := fun q h => by rw [← hAe]; exact Or.inr h
  have hS : va_S G s.heap s.heap [] := va_S.rf
  have hP : va_P D vwCl (wX A cI xx xn xm xk) s.heap := hP
  have hl := lv_entry ([.ref ((A 0) 0), .int j1, .int j2, .int j3]) (n := 7) (Nat.le_of_ble_eq_true rfl)
  rw [lg_entry_eq]
  generalize (lg_sl ([.ref ((A 0) 0), .int j1, .int j2, .int j3]) ++ List.replicate (7 - (lg_sl ([.ref ((A 0) 0), .int j1, .int j2, .int j3])).length) Slot.unset).toArray = ls at hl ⊢
  have hl : lv_has ls 7 [(0, .ref ((A 0) 0)), (1, .int j1), (2, .int j2), (3, .int j3)] := hl
  have hinX : ∀ w ∈ wsX10, w ∈ wsX1_lots := by decide +kernel
  have lk0 := hts (.fieldLink RX1 16 "LiesBoughtBack" "mind" "LLiesBoughtBack$Hall;") (by decide +kernel)
  have lk1 := hts (.fieldLink RX1 10 "LiesBoughtBack" "now" "LLiesBoughtBack$Hall;") (by decide +kernel)
  have lk2 := hts (.initialized RX0) (by decide +kernel)
  have lk3 := hts (.instanceMethod yX0_become) (by decide +kernel)
  have lk4 := hts (.selects RX0 yX0_become yX0_become) (by decide +kernel)
  have lk5 := hts (.instanceMethod yX0_drawPurses) (by decide +kernel)
  have lk6 := hts (.selects RX0 yX0_drawPurses yX0_drawPurses) (by decide +kernel)
  have lk7 := hts (.instanceMethod yX0_allToPile) (by decide +kernel)
  have lk8 := hts (.selects RX0 yX0_allToPile yX0_allToPile) (by decide +kernel)
  have lk9 := hts (.instanceMethod yX0_goOn) (by decide +kernel)
  have lk10 := hts (.selects RX0 yX0_goOn yX0_goOn) (by decide +kernel)
  have lk11 := hts (.instanceMethod yX0_allBelieved) (by decide +kernel)
  have lk12 := hts (.selects RX0 yX0_allBelieved yX0_allBelieved) (by decide +kernel)
  have lk13 := hts (.instanceMethod yX0_heldCount) (by decide +kernel)
  have lk14 := hts (.selects RX0 yX0_heldCount yX0_heldCount) (by decide +kernel)
  refine W_in ?_
  intro WW hWW
  refine (hWW _ _ _).mpr ?_
  unfold f_X1_lots at hf
  refine lv_iload_n hx hb dX1_lots_0 rfl (lv_at hl 1 rfl) ?_
  refine lv_iconst (v := (1 : Int32)) hx hb dX1_lots_1 (by decide) ?_
  refine lv_bipush (v := (20 : Int32)) hx hb dX1_lots_2 (by decide) ?_
  refine rS_io (As := [.int j1, .int (1 : Int32), .int (20 : Int32)]) (rest := []) ⟨hx, hb, hml, hown, hts⟩ hK hN hA hP hD hS (c_X1_beyond l D cI j1 (1 : Int32) (20 : Int32) (f_X1_beyond j1 (1 : Int32) (20 : Int32)) rfl) (va_cwS 3 hts gX1_lots_X1_beyond rfl rfl rfl hd_X1_beyond.2 ⟨Nat.le_of_ble_eq_true rfl, Nat.le_of_ble_eq_true rfl⟩) [] (by decide) rfl rfl hl.1 rfl (Nat.le_of_ble_eq_true rfl) dX1_lots_4 ⟨Nat.le_of_ble_eq_true rfl, Nat.le_of_ble_eq_true rfl⟩ (fun H locs hP hD hS => ?_)
  refine lv_if_eq (tgt := 22) hx hb dX1_lots_7 (by decide) (fun c1 => ?_) (fun c1 => ?_)
  · have hf := hT hf c1
    refine lv_iload_n hx hb dX1_lots_22 rfl (lv_at hl 3 rfl) ?_
    refine lv_if_lt (tgt := 31) hx hb dX1_lots_23 (by decide) (fun c2 => ?_) (fun c2 => ?_)
    · have hf := hT hf c2
      refine lv_aload_n hx hb dX1_lots_31 rfl (lv_at hl 0 rfl) ?_
      refine lv_bipush (v := (-2 : Int32)) hx hb dX1_lots_32 (by decide) ?_
      obtain ⟨v3, hev3, hf⟩ := bS hf
      refine rV_i (ws' := (wX A cI v3.2 xn xm xk)) (As := [.int (-2 : Int32)]) (rest := []) ⟨hx, hb, hml, hown, hts⟩ hK hN hA hP hD hS (c_X1_refuse l D cI A (-2 : Int32) xx xn xm xk v3 hev3) (cwV 1 hts gX1_lots_X1_refuse rfl rfl rfl hd_X1_refuse ⟨Nat.le_of_ble_eq_true rfl, Nat.le_of_ble_eq_true rfl⟩) (va_recv hK hP (ci := 1) (q0 := 0) rfl rfl) [0, 1, 2, 3, 4, 5, 6, 7, 8, 9, 10, 11, 12, 13, 14, 15, 16, 17, 18, 19, 20, 21, 22, 23, 24, 25, 26, 27, 28, 29, 30, 31, 32, 33, 34, 35, 36] (by decide) rfl rfl rfl rfl hl.1 rfl (Nat.le_of_ble_eq_true rfl) dX1_lots_34 ⟨Nat.le_of_ble_eq_true rfl, Nat.le_of_ble_eq_true rfl⟩ (fun H locs hP hD hS => ?_)
      have hP : va_P D vwCl (wX A cI v3.2 xn xm xk) H := hP
      obtain rfl := Option.some.inj hf
      exact W.iret (v := v3.1) hx hb hr (fun t ht hW => ⟨⟨v3.1, (), rfl, rfl, hPt ht hP⟩, hS.F ht⟩) hS.2.2 dX1_lots_37
    · have hf := hF hf c2
      refine lv_iload_n hx hb dX1_lots_26 rfl (lv_at hl 3 rfl) ?_
      refine lv_iconst (v := (1 : Int32)) hx hb dX1_lots_27 (by decide) ?_
      refine lv_icmp_le (tgt := 38) hx hb dX1_lots_28 (by decide) (fun c4 => ?_) (fun c4 => ?_)
      · have hf := hT hf c4
        refine lv_iload_n hx hb dX1_lots_38 rfl (lv_at hl 2 rfl) ?_
        refine lv_istore (lv' := [(4, .int j2), (0, .ref ((A 0) 0)), (1, .int j1), (2, .int j2), (3, .int j3)]) hx hb dX1_lots_39 hl (by decide) rfl (fun ls hl => ?_)
        refine lv_iconst (v := (0 : Int32)) hx hb dX1_lots_41 (by decide) ?_
        refine lv_istore (lv' := [(5, .int (0 : Int32)), (4, .int j2), (0, .ref ((A 0) 0)), (1, .int j1), (2, .int j2), (3, .int j3)]) hx hb dX1_lots_42 hl (by decide) rfl (fun ls hl => ?_)
        refine lv_iconst (v := (0 : Int32)) hx hb dX1_lots_44 (by decide) ?_
        refine lv_istore (lv' := [(6, .int (0 : Int32)), (5, .int (0 : Int32)), (4, .int j2), (0, .ref ((A 0) 0)), (1, .int j1), (2, .int j2), (3, .int j3)]) hx hb dX1_lots_45 hl (by decide) rfl (fun ls hl => ?_)
        obtain ⟨K124, hK124, hf⟩ := jnS hf
        have J124 : ∀ (j5_124 : Int32) (xx_124 : HS) (xm_124 : HS) (H : Heap) (locs : List Loc) (ls : Array Slot), K124 j5_124 xx_124 xm_124 = some out → va_P D vwCl (wX A cI xx_124 xn xm_124 xk) H → va_D G (wX A cI xx_124 xn xm_124 xk) → va_S G s.heap H locs → lv_has ls 7 [(5, .int j5_124)] → WW H locs (F0 m 124 ls []) := by
          intro j5_124 xx_124 xm_124 H locs ls hf hP hD hS hl
          subst hK124
          refine (hWW _ _ _).mpr ?_
          refine lv_iload hx hb dX1_lots_124 (lv_at hl 0 rfl) ?_
          obtain rfl := Option.some.inj hf
          exact W.iret (v := j5_124) hx hb hr (fun t ht hW => ⟨⟨j5_124, (), rfl, rfl, hPt ht hP⟩, hS.F ht⟩) hS.2.2 dX1_lots_126
        have P47 : ∀ (n' : Nat) (j4_47 : Int32) (j5_47 : Int32) (j6_47 : Int32) (xx_47 : HS) (xm_47 : HS) (H : Heap) (locs : List Loc) (ls : Array Slot), L_X1_lots_47 j1 j2 j3 xn xk K124 n' j4_47 j5_47 j6_47 xx_47 xm_47 = some out → va_P D vwCl (wX A cI xx_47 xn xm_47 xk) H → va_D G (wX A cI xx_47 xn xm_47 xk) → va_S G s.heap H locs → lv_has ls 7 [(0, .ref ((A 0) 0)), (1, .int j1), (3, .int j3), (4, .int j4_47), (5, .int j5_47), (6, .int j6_47)] → WW H locs (F0 m 47 ls []) := by
          intro n'
          induction n' with
          | zero => intro j4_47 j5_47 j6_47 xx_47 xm_47 H locs ls hf; exact absurd (show (none : Option (Int32 × HS × HS)) = some out from hf) (fun q => by cases q)
          | succ n' ih =>
            intro j4_47 j5_47 j6_47 xx_47 xm_47 H locs ls hf hP hD hS hl
            rw [L_X1_lots_47] at hf
            refine (hWW _ _ _).mpr ?_
            refine lv_iload hx hb dX1_lots_47 (lv_at hl 5 rfl) ?_
            refine lv_iload_n hx hb dX1_lots_49 rfl (lv_at hl 1 rfl) ?_
            refine lv_icmp_ge (tgt := 124) hx hb dX1_lots_50 (by decide) (fun c5 => ?_) (fun c5 => ?_)
            · have hf := hT hf c5
              exact (hWW _ _ _).mp (J124 _ _ _ _ _ _ hf hP hD hS (lv_sub hl [4] rfl))
            · have hf := hF hf c5
              refine lv_aload_n hx hb dX1_lots_53 rfl (lv_at hl 0 rfl) ?_
              refine va_get (D := D) (ci := 1) (v := .ref ((A 2) 0)) (C := RX1) (T := TX1) (N := 9) hx hb hts hinX hown hK hP 0 rfl rfl 1 (by decide) lk0 (fun _ h9 => h9) rfl dX1_lots_54 ?_
              refine lv_aload_n hx hb dX1_lots_57 rfl (lv_at hl 0 rfl) ?_
              refine va_get (D := D) (ci := 1) (v := .ref ((A 1) 0)) (C := RX1) (T := TX1) (N := 9) hx hb hts hinX hown hK hP 0 rfl rfl 0 (by decide) lk1 (fun _ h9 => h9) rfl dX1_lots_58 ?_
              obtain ⟨v6, hev6, hf⟩ := bS hf
              refine rVN_v (ws' := (wX A cI xx_47 xn v6 xk)) (As := [.ref ((A 1) 0)]) (rest := []) ⟨hx, hb, hml, hown, hts⟩ hK hN hA hP hD hS (c_X0_become l D cI (A 2) (A 1) xm_47 xn v6 hev6) ⟨va_cnB 1 hts gX1_lots_X0_become_n47 rfl rfl rfl (nW.m hN 1 rfl) lk2 hd_X0_become.2 ⟨Nat.le_of_ble_eq_true rfl, Nat.le_of_ble_eq_true rfl⟩, lk3, lk4⟩ (va_recv hK hP (ci := 0) (q0 := 12) rfl rfl) [12, 13, 14, 15, 16, 17, 18, 19, 20, 21, 22, 1, 2, 3, 4, 5, 6, 7, 8, 9, 10, 11] (by decide) rfl rfl rfl rfl hl.1 rfl (Nat.le_of_ble_eq_true rfl) dX1_lots_61 ⟨Nat.le_of_ble_eq_true rfl, Nat.le_of_ble_eq_true rfl⟩ (fun H locs hP hD hS => ?_)
              have hP : va_P D vwCl (wX A cI xx_47 xn v6 xk) H := hP
              refine lv_aload_n hx hb dX1_lots_64 rfl (lv_at hl 0 rfl) ?_
              refine va_get (D := D) (ci := 1) (v := .ref ((A 2) 0)) (C := RX1) (T := TX1) (N := 9) hx hb hts hinX hown hK hP 0 rfl rfl 1 (by decide) lk0 (fun _ h9 => h9) rfl dX1_lots_65 ?_
              refine lv_iload hx hb dX1_lots_68 (lv_at hl 3 rfl) ?_
              obtain ⟨v7, hev7, hf⟩ := bS hf
              refine rVN_i (ws' := (wX A cI xx_47 xn v7.2 xk)) (As := [.int j4_47]) (rest := []) ⟨hx, hb, hml, hown, hts⟩ hK hN hA hP hD hS (c_X0_drawPurses l D cI (A 2) j4_47 v6 v7 hev7) ⟨va_cnB 1 hts gX1_lots_X0_drawPurses_n180 rfl rfl rfl (nW.m hN 31 rfl) lk2 hd_X0_drawPurses.2 ⟨Nat.le_of_ble_eq_true rfl, Nat.le_of_ble_eq_true rfl⟩, lk5, lk6⟩ (va_recv hK hP (ci := 0) (q0 := 12) rfl rfl) [12, 13, 14, 15, 16, 17, 18, 19, 20, 21, 22] (by decide) rfl rfl rfl rfl hl.1 rfl (Nat.le_of_ble_eq_true rfl) dX1_lots_70 ⟨Nat.le_of_ble_eq_true rfl, Nat.le_of_ble_eq_true rfl⟩ (fun H locs hP hD hS => ?_)
              have hP : va_P D vwCl (wX A cI xx_47 xn v7.2 xk) H := hP
              refine lv_istore (lv' := [(4, .int v7.1), (0, .ref ((A 0) 0)), (1, .int j1), (3, .int j3), (5, .int j5_47), (6, .int j6_47)]) hx hb dX1_lots_73 hl (by decide) rfl (fun ls hl => ?_)
              refine lv_aload_n hx hb dX1_lots_75 rfl (lv_at hl 1 rfl) ?_
              refine va_get (D := D) (ci := 1) (v := .ref ((A 2) 0)) (C := RX1) (T := TX1) (N := 9) hx hb hts hinX hown hK hP 0 rfl rfl 1 (by decide) lk0 (fun _ h9 => h9) rfl dX1_lots_76 ?_
              obtain ⟨v8, hev8, hf⟩ := bS hf
              refine rVN_v (ws' := (wX A cI xx_47 xn v8 xk)) (As := []) (rest := []) ⟨hx, hb, hml, hown, hts⟩ hK hN hA hP hD hS (c_X0_allToPile l D cI (A 2) v7.2 v8 hev8) ⟨va_cnB 0 hts gX1_lots_X0_allToPile_n183 rfl rfl rfl (nW.m hN 32 rfl) lk2 hd_X0_allToPile.2 ⟨Nat.le_of_ble_eq_true rfl, Nat.le_of_ble_eq_true rfl⟩, lk7, lk8⟩ (va_recv hK hP (ci := 0) (q0 := 12) rfl rfl) [12, 13, 14, 15, 16, 17, 18, 19, 20, 21, 22] (by decide) rfl rfl rfl rfl hl.1 rfl (Nat.le_of_ble_eq_true rfl) dX1_lots_79 ⟨Nat.le_of_ble_eq_true rfl, Nat.le_of_ble_eq_true rfl⟩ (fun H locs hP hD hS => ?_)
              have hP : va_P D vwCl (wX A cI xx_47 xn v8 xk) H := hP
              refine lv_aload_n hx hb dX1_lots_82 rfl (lv_at hl 1 rfl) ?_
              refine va_get (D := D) (ci := 1) (v := .ref ((A 2) 0)) (C := RX1) (T := TX1) (N := 9) hx hb hts hinX hown hK hP 0 rfl rfl 1 (by decide) lk0 (fun _ h9 => h9) rfl dX1_lots_83 ?_
              refine lv_iconst (v := (2 : Int32)) hx hb dX1_lots_86 (by decide) ?_
              refine lv_iconst (v := (1 : Int32)) hx hb dX1_lots_87 (by decide) ?_
              obtain ⟨v9, hev9, hf⟩ := bS hf
              refine rVN_i (ws' := (wX A cI xx_47 xn v9.2 xk)) (As := [.int (2 : Int32), .int (1 : Int32)]) (rest := []) ⟨hx, hb, hml, hown, hts⟩ hK hN hA hP hD hS (c_X0_goOn l D cI (A 2) (2 : Int32) (1 : Int32) v8 v9 hev9) ⟨va_cnB 2 hts gX1_lots_X0_goOn_n97 rfl rfl rfl (nW.m hN 12 rfl) lk2 hd_X0_goOn.2 ⟨Nat.le_of_ble_eq_true rfl, Nat.le_of_ble_eq_true rfl⟩, lk9, lk10⟩ (va_recv hK hP (ci := 0) (q0 := 12) rfl rfl) [12, 13, 14, 15, 16, 17, 18, 19, 20, 21, 22] (by decide) rfl rfl rfl rfl hl.1 rfl (Nat.le_of_ble_eq_true rfl) dX1_lots_88 ⟨Nat.le_of_ble_eq_true rfl, Nat.le_of_ble_eq_true rfl⟩ (fun H locs hP hD hS => ?_)
              have hP : va_P D vwCl (wX A cI xx_47 xn v9.2 xk) H := hP
              refine lv_pop hx hb dX1_lots_91 rfl ?_
              refine lv_iload hx hb dX1_lots_92 (lv_at hl 4 rfl) ?_
              refine lv_iload_n hx hb dX1_lots_94 rfl (lv_at hl 3 rfl) ?_
              refine lv_if_ne (tgt := 108) hx hb dX1_lots_95 (by decide) (fun c10 => ?_) (fun c10 => ?_)
              · have hf := hF hf c10
                refine lv_aload_n hx hb dX1_lots_108 rfl (lv_at hl 1 rfl) ?_
                refine va_get (D := D) (ci := 1) (v := .ref ((A 2) 0)) (C := RX1) (T := TX1) (N := 9) hx hb hts hinX hown hK hP 0 rfl rfl 1 (by decide) lk0 (fun _ h9 => h9) rfl dX1_lots_109 ?_
                obtain ⟨v11, hev11, hf⟩ := bS hf
                refine rVN_io (As := []) (rest := [.int j5_47]) ⟨hx, hb, hml, hown, hts⟩ hK hN hA hP hD hS (c_X0_allBelieved l D cI (A 2) v9.2 v11 hev11) ⟨va_cnB 0 hts gX1_lots_X0_allBelieved_n174 rfl rfl rfl (nW.m hN 30 rfl) lk2 hd_X0_allBelieved.2 ⟨Nat.le_of_ble_eq_true rfl, Nat.le_of_ble_eq_true rfl⟩, lk11, lk12⟩ (va_recv hK hP (ci := 0) (q0 := 12) rfl rfl) [12, 13, 14, 15, 16, 17, 18, 19, 20, 21, 22] (by decide) rfl rfl hl.1 rfl (Nat.le_of_ble_eq_true rfl) dX1_lots_112 ⟨Nat.le_of_ble_eq_true rfl, Nat.le_of_ble_eq_true rfl⟩ (fun H locs hP hD hS => ?_)
                refine lv_iadd hx hb dX1_lots_115 ?_
                refine lv_istore (lv' := [(5, .int (j5_47 + v11)), (4, .int v7.1), (0, .ref ((A 0) 0)), (1, .int j1), (3, .int j3), (6, .int j6_47)]) hx hb dX1_lots_116 hl (by decide) rfl (fun ls hl => ?_)
                refine lv_iinc (v := (j6_47 + (1 : Int32))) (lv' := [(6, .int (j6_47 + (1 : Int32))), (5, .int (j5_47 + v11)), (4, .int v7.1), (0, .ref ((A 0) 0)), (1, .int j1), (3, .int j3)]) hx hb dX1_lots_118 hl (k := 5) rfl rfl (by decide) rfl (fun ls hl => ?_)
                refine lv_goto (tgt := 47) hx hb dX1_lots_121 (by decide) ?_
                exact (hWW _ _ _).mp (ih _ _ _ _ _ _ _ _ hf hP hD hS (lv_sub hl [3, 4, 5, 2, 1, 0] rfl))
              · have hf := hT hf c10
                refine lv_aload_n hx hb dX1_lots_98 rfl (lv_at hl 1 rfl) ?_
                refine va_get (D := D) (ci := 1) (v := .ref ((A 2) 0)) (C := RX1) (T := TX1) (N := 9) hx hb hts hinX hown hK hP 0 rfl rfl 1 (by decide) lk0 (fun _ h9 => h9) rfl dX1_lots_99 ?_
                obtain ⟨v12, hev12, hf⟩ := bS hf
                refine rVN_io (As := []) (rest := [.int j5_47]) ⟨hx, hb, hml, hown, hts⟩ hK hN hA hP hD hS (c_X0_heldCount l D cI (A 2) v9.2 v12 hev12) ⟨va_cnB 0 hts gX1_lots_X0_heldCount_n101 rfl rfl rfl (nW.m hN 18 rfl) lk2 hd_X0_heldCount.2 ⟨Nat.le_of_ble_eq_true rfl, Nat.le_of_ble_eq_true rfl⟩, lk13, lk14⟩ (va_recv hK hP (ci := 0) (q0 := 12) rfl rfl) [12, 13, 14, 15, 16, 17, 18, 19, 20, 21, 22] (by decide) rfl rfl hl.1 rfl (Nat.le_of_ble_eq_true rfl) dX1_lots_102 ⟨Nat.le_of_ble_eq_true rfl, Nat.le_of_ble_eq_true rfl⟩ (fun H locs hP hD hS => ?_)
                refine lv_goto (tgt := 115) hx hb dX1_lots_105 (by decide) ?_
                refine lv_iadd hx hb dX1_lots_115 ?_
                refine lv_istore (lv' := [(5, .int (j5_47 + v12)), (4, .int v7.1), (0, .ref ((A 0) 0)), (1, .int j1), (3, .int j3), (6, .int j6_47)]) hx hb dX1_lots_116 hl (by decide) rfl (fun ls hl => ?_)
                refine lv_iinc (v := (j6_47 + (1 : Int32))) (lv' := [(6, .int (j6_47 + (1 : Int32))), (5, .int (j5_47 + v12)), (4, .int v7.1), (0, .ref ((A 0) 0)), (1, .int j1), (3, .int j3)]) hx hb dX1_lots_118 hl (k := 5) rfl rfl (by decide) rfl (fun ls hl => ?_)
                refine lv_goto (tgt := 47) hx hb dX1_lots_121 (by decide) ?_
                exact (hWW _ _ _).mp (ih _ _ _ _ _ _ _ _ hf hP hD hS (lv_sub hl [3, 4, 5, 2, 1, 0] rfl))
        exact (hWW _ _ _).mp (P47 _ _ _ _ _ _ _ _ _ hf hP hD hS (lv_sub hl [3, 4, 6, 2, 1, 0] rfl))
      · have hf := hF hf c4
        refine lv_aload_n hx hb dX1_lots_31 rfl (lv_at hl 0 rfl) ?_
        refine lv_bipush (v := (-2 : Int32)) hx hb dX1_lots_32 (by decide) ?_
        obtain ⟨v13, hev13, hf⟩ := bS hf
        refine rV_i (ws' := (wX A cI v13.2 xn xm xk)) (As := [.int (-2 : Int32)]) (rest := []) ⟨hx, hb, hml, hown, hts⟩ hK hN hA hP hD hS (c_X1_refuse l D cI A (-2 : Int32) xx xn xm xk v13 hev13) (cwV 1 hts gX1_lots_X1_refuse rfl rfl rfl hd_X1_refuse ⟨Nat.le_of_ble_eq_true rfl, Nat.le_of_ble_eq_true rfl⟩) (va_recv hK hP (ci := 1) (q0 := 0) rfl rfl) [0, 1, 2, 3, 4, 5, 6, 7, 8, 9, 10, 11, 12, 13, 14, 15, 16, 17, 18, 19, 20, 21, 22, 23, 24, 25, 26, 27, 28, 29, 30, 31, 32, 33, 34, 35, 36] (by decide) rfl rfl rfl rfl hl.1 rfl (Nat.le_of_ble_eq_true rfl) dX1_lots_34 ⟨Nat.le_of_ble_eq_true rfl, Nat.le_of_ble_eq_true rfl⟩ (fun H locs hP hD hS => ?_)
        have hP : va_P D vwCl (wX A cI v13.2 xn xm xk) H := hP
        obtain rfl := Option.some.inj hf
        exact W.iret (v := v13.1) hx hb hr (fun t ht hW => ⟨⟨v13.1, (), rfl, rfl, hPt ht hP⟩, hS.F ht⟩) hS.2.2 dX1_lots_37
  · have hf := hF hf c1
    refine lv_aload_n hx hb dX1_lots_10 rfl (lv_at hl 0 rfl) ?_
    refine lv_iload_n hx hb dX1_lots_11 rfl (lv_at hl 1 rfl) ?_
    refine lv_iconst (v := (1 : Int32)) hx hb dX1_lots_12 (by decide) ?_
    refine lv_bipush (v := (20 : Int32)) hx hb dX1_lots_13 (by decide) ?_
    refine rS_io (As := [.int j1, .int (1 : Int32), .int (20 : Int32)]) (rest := [.ref ((A 0) 0)]) ⟨hx, hb, hml, hown, hts⟩ hK hN hA hP hD hS (c_X1_beyond l D cI j1 (1 : Int32) (20 : Int32) (f_X1_beyond j1 (1 : Int32) (20 : Int32)) rfl) (va_cwS 3 hts gX1_lots_X1_beyond rfl rfl rfl hd_X1_beyond.2 ⟨Nat.le_of_ble_eq_true rfl, Nat.le_of_ble_eq_true rfl⟩) [] (by decide) rfl rfl hl.1 rfl (Nat.le_of_ble_eq_true rfl) dX1_lots_15 ⟨Nat.le_of_ble_eq_true rfl, Nat.le_of_ble_eq_true rfl⟩ (fun H locs hP hD hS => ?_)
    obtain ⟨v14, hev14, hf⟩ := bS hf
    refine rV_i (ws' := (wX A cI v14.2 xn xm xk)) (As := [.int (f_X1_beyond j1 (1 : Int32) (20 : Int32))]) (rest := []) ⟨hx, hb, hml, hown, hts⟩ hK hN hA hP hD hS (c_X1_refuse l D cI A (f_X1_beyond j1 (1 : Int32) (20 : Int32)) xx xn xm xk v14 hev14) (cwV 1 hts gX1_lots_X1_refuse rfl rfl rfl hd_X1_refuse ⟨Nat.le_of_ble_eq_true rfl, Nat.le_of_ble_eq_true rfl⟩) (va_recv hK hP (ci := 1) (q0 := 0) rfl rfl) [0, 1, 2, 3, 4, 5, 6, 7, 8, 9, 10, 11, 12, 13, 14, 15, 16, 17, 18, 19, 20, 21, 22, 23, 24, 25, 26, 27, 28, 29, 30, 31, 32, 33, 34, 35, 36] (by decide) rfl rfl rfl rfl hl.1 rfl (Nat.le_of_ble_eq_true rfl) dX1_lots_18 ⟨Nat.le_of_ble_eq_true rfl, Nat.le_of_ble_eq_true rfl⟩ (fun H locs hP hD hS => ?_)
    have hP : va_P D vwCl (wX A cI v14.2 xn xm xk) H := hP
    obtain rfl := Option.some.inj hf
    exact W.iret (v := v14.1) hx hb hr (fun t ht hW => ⟨⟨v14.1, (), rfl, rfl, hPt ht hP⟩, hS.F ht⟩) hS.2.2 dX1_lots_21
def L_X1_goStuttering_17 (j1 : Int32) (j2 : Int32) (j3 : Int32) (j4 : Int32) (xx : HS) (xn : HS) (xk : HS) (K82 : Int64 → HS → Option (Int64 × HS)) : Nat → Int64 → Int32 → HS → Option (Int64 × HS)
  | 0, _, _, _ => none
  | n' + 1, j5_17, j7_17, xm_17 => if j2 ≤ j7_17 then (K82 j5_17 xm_17) else if ((j4 >>> (j7_17 &&& 31)) &&& (1 : Int32)) = 0 then jn (fun (j5_54 : Int64) (j7_54 : Int32) (j8_54 : Int32) (xm_54 : HS) => if (f_X0_inPile j1 xm_54) = 0 then (L_X1_goStuttering_17 j1 j2 j3 j4 xx xn xk K82 n' j5_54 (j7_54 + (1 : Int32)) xm_54) else (f_X0_goOn (1 : Int32) j8_54 xm_54).bind fun v8 => (L_X1_goStuttering_17 j1 j2 j3 j4 xx xn xk K82 n' j5_54 (j7_54 + (1 : Int32)) v8.2)) (fun (K54 : Int64 → Int32 → Int32 → HS → Option (Int64 × HS)) => (K54 (j5_17 * ((j3 - (1 : Int32))).toInt64) j7_17 (1 : Int32) xm_17)) else jn (fun (j5_54 : Int64) (j7_54 : Int32) (j8_54 : Int32) (xm_54 : HS) => if (f_X0_inPile j1 xm_54) = 0 then (L_X1_goStuttering_17 j1 j2 j3 j4 xx xn xk K82 n' j5_54 (j7_54 + (1 : Int32)) xm_54) else (f_X0_goOn (1 : Int32) j8_54 xm_54).bind fun v5 => (L_X1_goStuttering_17 j1 j2 j3 j4 xx xn xk K82 n' j5_54 (j7_54 + (1 : Int32)) v5.2)) (fun (K54 : Int64 → Int32 → Int32 → HS → Option (Int64 × HS)) => (K54 j5_17 j7_17 (0 : Int32) xm_17))
def f_X1_goStuttering (j1 : Int32) (j2 : Int32) (j3 : Int32) (j4 : Int32) (xx : HS) (xn : HS) (xm : HS) (xk : HS) : Option (Int64 × HS) := (f_X0_become xm xn).bind fun v1 => jn (fun (j5_82 : Int64) (xm_82 : HS) => some (j5_82, xm_82)) (fun (K82 : Int64 → HS → Option (Int64 × HS)) => (L_X1_goStuttering_17 j1 j2 j3 j4 xx xn xk K82 fuel (1 : Int64) (0 : Int32) v1))
set_option maxHeartbeats 4000000 in
set_option maxRecDepth 100000 in
theorem c_X1_goStuttering (l : Launch) (D : va_G) (cI : ClassId) (A : Nat → Nat → Nat) (j1 : Int32) (j2 : Int32) (j3 : Int32) (j4 : Int32) (xx : HS) (xn : HS) (xm : HS) (xk : HS) (out : Int64 × HS) (hf : f_X1_goStuttering j1 j2 j3 j4 xx xn xm xk = some out) : uL l D cI yX1_goStuttering wsX1_goStuttering ({ frames := 5, cells := 0, slots := 0, locals := 128 } : Room) [.ref ((A 0) 0), .int j1, .int j2, .int j3, .int j4] (wX A cI xx xn xm xk) (wX A cI xx xn out.2 xk) out.1 := by
  intro sz
  refine Met.ofW (cc := cX1_goStuttering) (maxL := 9) (ret := (some .long)) (by decide) rfl ?_
  intro p e s m args below meth c s₁ Bd hml hv
  obtain ⟨rfl, hsz, hP, hK, hD0, hN⟩ := hv
  have hx := Bd.exec
  have hb := Bd.bytes
  have hr := Bd.returns
  have hts := atoms_spec (ws := wsX1_goStuttering) Bd.pre
  have hown : s.vm.findClass RX1 = some m.cls := findClass_of_methodNamed Bd.named
  have hlocks := Bd.notSynchronized
  subst hsz
  have hD := hD0.self (sz := s.heap.size)
  generalize hAe : va_A (wX A cI xx xn xm xk) s.heap.size = G at hD ⊢
  have hA : ∀ q : Nat, s.heap.size ≤ q → G q := fun q h => by rw [← hAe]; exact Or.inr h
  have hS : va_S G s.heap s.heap [] := va_S.rf
  have hP : va_P D vwCl (wX A cI xx xn xm xk) s.heap := hP
  have hl := lv_entry ([.ref ((A 0) 0), .int j1, .int j2, .int j3, .int j4]) (n := 9) (Nat.le_of_ble_eq_true rfl)
  rw [lg_entry_eq]
  generalize (lg_sl ([.ref ((A 0) 0), .int j1, .int j2, .int j3, .int j4]) ++ List.replicate (9 - (lg_sl ([.ref ((A 0) 0), .int j1, .int j2, .int j3, .int j4])).length) Slot.unset).toArray = ls at hl ⊢
  have hl : lv_has ls 9 [(0, .ref ((A 0) 0)), (1, .int j1), (2, .int j2), (3, .int j3), (4, .int j4)] := hl
  have hinX : ∀ w ∈ wsX10, w ∈ wsX1_goStuttering := by decide +kernel
  have lk0 := hts (.fieldLink RX1 16 "LiesBoughtBack" "mind" "LLiesBoughtBack$Hall;") (by decide +kernel)
  have lk1 := hts (.fieldLink RX1 10 "LiesBoughtBack" "now" "LLiesBoughtBack$Hall;") (by decide +kernel)
  have lk2 := hts (.initialized RX0) (by decide +kernel)
  have lk3 := hts (.instanceMethod yX0_become) (by decide +kernel)
  have lk4 := hts (.selects RX0 yX0_become yX0_become) (by decide +kernel)
  have lk5 := hts (.instanceMethod yX0_inPile) (by decide +kernel)
  have lk6 := hts (.selects RX0 yX0_inPile yX0_inPile) (by decide +kernel)
  have lk7 := hts (.instanceMethod yX0_goOn) (by decide +kernel)
  have lk8 := hts (.selects RX0 yX0_goOn yX0_goOn) (by decide +kernel)
  refine W_in ?_
  intro WW hWW
  refine (hWW _ _ _).mpr ?_
  unfold f_X1_goStuttering at hf
  refine lv_aload_n hx hb dX1_goStuttering_0 rfl (lv_at hl 0 rfl) ?_
  refine va_get (D := D) (ci := 1) (v := .ref ((A 2) 0)) (C := RX1) (T := TX1) (N := 9) hx hb hts hinX hown hK hP 0 rfl rfl 1 (by decide) lk0 (fun _ h9 => h9) rfl dX1_goStuttering_1 ?_
  refine lv_aload_n hx hb dX1_goStuttering_4 rfl (lv_at hl 0 rfl) ?_
  refine va_get (D := D) (ci := 1) (v := .ref ((A 1) 0)) (C := RX1) (T := TX1) (N := 9) hx hb hts hinX hown hK hP 0 rfl rfl 0 (by decide) lk1 (fun _ h9 => h9) rfl dX1_goStuttering_5 ?_
  obtain ⟨v1, hev1, hf⟩ := bS hf
  refine rVN_v (ws' := (wX A cI xx xn v1 xk)) (As := [.ref ((A 1) 0)]) (rest := []) ⟨hx, hb, hml, hown, hts⟩ hK hN hA hP hD hS (c_X0_become l D cI (A 2) (A 1) xm xn v1 hev1) ⟨va_cnB 1 hts gX1_goStuttering_X0_become_n47 rfl rfl rfl (nW.m hN 1 rfl) lk2 hd_X0_become.2 ⟨Nat.le_of_ble_eq_true rfl, Nat.le_of_ble_eq_true rfl⟩, lk3, lk4⟩ (va_recv hK hP (ci := 0) (q0 := 12) rfl rfl) [12, 13, 14, 15, 16, 17, 18, 19, 20, 21, 22, 1, 2, 3, 4, 5, 6, 7, 8, 9, 10, 11] (by decide) rfl rfl rfl rfl hl.1 rfl (Nat.le_of_ble_eq_true rfl) dX1_goStuttering_8 ⟨Nat.le_of_ble_eq_true rfl, Nat.le_of_ble_eq_true rfl⟩ (fun H locs hP hD hS => ?_)
  have hP : va_P D vwCl (wX A cI xx xn v1 xk) H := hP
  refine lv_lconst (v := (1 : Int64)) hx hb dX1_goStuttering_11 (by decide) ?_
  refine lv_lstore (lv' := [(5, .long (1 : Int64)), (0, .ref ((A 0) 0)), (1, .int j1), (2, .int j2), (3, .int j3), (4, .int j4)]) hx hb dX1_goStuttering_12 hl (by decide) rfl (fun ls hl => ?_)
  refine lv_iconst (v := (0 : Int32)) hx hb dX1_goStuttering_14 (by decide) ?_
  refine lv_istore (lv' := [(7, .int (0 : Int32)), (5, .long (1 : Int64)), (0, .ref ((A 0) 0)), (1, .int j1), (2, .int j2), (3, .int j3), (4, .int j4)]) hx hb dX1_goStuttering_15 hl (by decide) rfl (fun ls hl => ?_)
  obtain ⟨K82, hK82, hf⟩ := jnS hf
  have J82 : ∀ (j5_82 : Int64) (xm_82 : HS) (H : Heap) (locs : List Loc) (ls : Array Slot), K82 j5_82 xm_82 = some out → va_P D vwCl (wX A cI xx xn xm_82 xk) H → va_D G (wX A cI xx xn xm_82 xk) → va_S G s.heap H locs → lv_has ls 9 [(5, .long j5_82)] → WW H locs (F0 m 82 ls []) := by
    intro j5_82 xm_82 H locs ls hf hP hD hS hl
    subst hK82
    refine (hWW _ _ _).mpr ?_
    refine lv_lload hx hb dX1_goStuttering_82 (lv_at hl 0 rfl) ?_
    obtain rfl := Option.some.inj hf
    exact W.lret (v := j5_82) hx hb hr (fun t ht hW => ⟨⟨j5_82, (), rfl, rfl, hPt ht hP⟩, hS.F ht⟩) hS.2.2 dX1_goStuttering_84
  have P17 : ∀ (n' : Nat) (j5_17 : Int64) (j7_17 : Int32) (xm_17 : HS) (H : Heap) (locs : List Loc) (ls : Array Slot), L_X1_goStuttering_17 j1 j2 j3 j4 xx xn xk K82 n' j5_17 j7_17 xm_17 = some out → va_P D vwCl (wX A cI xx xn xm_17 xk) H → va_D G (wX A cI xx xn xm_17 xk) → va_S G s.heap H locs → lv_has ls 9 [(0, .ref ((A 0) 0)), (1, .int j1), (2, .int j2), (3, .int j3), (4, .int j4), (5, .long j5_17), (7, .int j7_17)] → WW H locs (F0 m 17 ls []) := by
    intro n'
    induction n' with
    | zero => intro j5_17 j7_17 xm_17 H locs ls hf; exact absurd (show (none : Option (Int64 × HS)) = some out from hf) (fun q => by cases q)
    | succ n' ih =>
      intro j5_17 j7_17 xm_17 H locs ls hf hP hD hS hl
      rw [L_X1_goStuttering_17] at hf
      refine (hWW _ _ _).mpr ?_
      refine lv_iload hx hb dX1_goStuttering_17 (lv_at hl 6 rfl) ?_
      refine lv_iload_n hx hb dX1_goStuttering_19 rfl (lv_at hl 2 rfl) ?_
      refine lv_icmp_ge (tgt := 82) hx hb dX1_goStuttering_20 (by decide) (fun c2 => ?_) (fun c2 => ?_)
      · have hf := hT hf c2
        exact (hWW _ _ _).mp (J82 _ _ _ _ _ hf hP hD hS (lv_sub hl [5] rfl))
      · have hf := hF hf c2
        refine lv_iload hx hb dX1_goStuttering_23 (lv_at hl 4 rfl) ?_
        refine lv_iload hx hb dX1_goStuttering_25 (lv_at hl 6 rfl) ?_
        refine lv_ishr hx hb dX1_goStuttering_27 ?_
        refine lv_iconst (v := (1 : Int32)) hx hb dX1_goStuttering_28 (by decide) ?_
        refine lv_iand hx hb dX1_goStuttering_29 ?_
        refine lv_if_ne (tgt := 37) hx hb dX1_goStuttering_30 (by decide) (fun c3 => ?_) (fun c3 => ?_)
        · have hf := hF hf c3
          refine lv_iconst (v := (0 : Int32)) hx hb dX1_goStuttering_37 (by decide) ?_
          refine lv_istore (lv' := [(8, .int (0 : Int32)), (0, .ref ((A 0) 0)), (1, .int j1), (2, .int j2), (3, .int j3), (4, .int j4), (5, .long j5_17), (7, .int j7_17)]) hx hb dX1_goStuttering_38 hl (by decide) rfl (fun ls hl => ?_)
          refine lv_iload hx hb dX1_goStuttering_40 (lv_at hl 0 rfl) ?_
          obtain ⟨K54, hK54, hf⟩ := jnS hf
          have J54 : ∀ (j5_54 : Int64) (j7_54 : Int32) (j8_54 : Int32) (xm_54 : HS) (H : Heap) (locs : List Loc) (ls : Array Slot), K54 j5_54 j7_54 j8_54 xm_54 = some out → va_P D vwCl (wX A cI xx xn xm_54 xk) H → va_D G (wX A cI xx xn xm_54 xk) → va_S G s.heap H locs → lv_has ls 9 [(0, .ref ((A 0) 0)), (1, .int j1), (2, .int j2), (3, .int j3), (4, .int j4), (5, .long j5_54), (7, .int j7_54), (8, .int j8_54)] → WW H locs (F0 m 54 ls []) := by
            intro j5_54 j7_54 j8_54 xm_54 H locs ls hf hP hD hS hl
            subst hK54
            refine (hWW _ _ _).mpr ?_
            refine lv_aload_n hx hb dX1_goStuttering_54 rfl (lv_at hl 0 rfl) ?_
            refine va_get (D := D) (ci := 1) (v := .ref ((A 2) 0)) (C := RX1) (T := TX1) (N := 9) hx hb hts hinX hown hK hP 0 rfl rfl 1 (by decide) lk0 (fun _ h9 => h9) rfl dX1_goStuttering_55 ?_
            refine lv_iload_n hx hb dX1_goStuttering_58 rfl (lv_at hl 1 rfl) ?_
            refine rVN_io (As := [.int j1]) (rest := []) ⟨hx, hb, hml, hown, hts⟩ hK hN hA hP hD hS (c_X0_inPile l D cI (A 2) j1 xm_54 (f_X0_inPile j1 xm_54) rfl) ⟨va_cnB 1 hts gX1_goStuttering_X0_inPile_n72 rfl rfl rfl (nW.m hN 15 rfl) lk2 hd_X0_inPile.2 ⟨Nat.le_of_ble_eq_true rfl, Nat.le_of_ble_eq_true rfl⟩, lk5, lk6⟩ (va_recv hK hP (ci := 0) (q0 := 12) rfl rfl) [12, 13, 14, 15, 16, 17, 18, 19, 20, 21, 22] (by decide) rfl rfl hl.1 rfl (Nat.le_of_ble_eq_true rfl) dX1_goStuttering_59 ⟨Nat.le_of_ble_eq_true rfl, Nat.le_of_ble_eq_true rfl⟩ (fun H locs hP hD hS => ?_)
            refine lv_if_eq (tgt := 76) hx hb dX1_goStuttering_62 (by decide) (fun c4 => ?_) (fun c4 => ?_)
            · have hf := hT hf c4
              refine lv_iinc (v := (j7_54 + (1 : Int32))) (lv' := [(7, .int (j7_54 + (1 : Int32))), (0, .ref ((A 0) 0)), (1, .int j1), (2, .int j2), (3, .int j3), (4, .int j4), (5, .long j5_54), (8, .int j8_54)]) hx hb dX1_goStuttering_76 hl (k := 6) rfl rfl (by decide) rfl (fun ls hl => ?_)
              refine lv_goto (tgt := 17) hx hb dX1_goStuttering_79 (by decide) ?_
              exact (hWW _ _ _).mp (ih _ _ _ _ _ _ hf hP hD hS (lv_sub hl [1, 2, 3, 4, 5, 6, 0] rfl))
            · have hf := hF hf c4
              refine lv_aload_n hx hb dX1_goStuttering_65 rfl (lv_at hl 0 rfl) ?_
              refine va_get (D := D) (ci := 1) (v := .ref ((A 2) 0)) (C := RX1) (T := TX1) (N := 9) hx hb hts hinX hown hK hP 0 rfl rfl 1 (by decide) lk0 (fun _ h9 => h9) rfl dX1_goStuttering_66 ?_
              refine lv_iconst (v := (1 : Int32)) hx hb dX1_goStuttering_69 (by decide) ?_
              refine lv_iload hx hb dX1_goStuttering_70 (lv_at hl 7 rfl) ?_
              obtain ⟨v5, hev5, hf⟩ := bS hf
              refine rVN_i (ws' := (wX A cI xx xn v5.2 xk)) (As := [.int (1 : Int32), .int j8_54]) (rest := []) ⟨hx, hb, hml, hown, hts⟩ hK hN hA hP hD hS (c_X0_goOn l D cI (A 2) (1 : Int32) j8_54 xm_54 v5 hev5) ⟨va_cnB 2 hts gX1_goStuttering_X0_goOn_n97 rfl rfl rfl (nW.m hN 12 rfl) lk2 hd_X0_goOn.2 ⟨Nat.le_of_ble_eq_true rfl, Nat.le_of_ble_eq_true rfl⟩, lk7, lk8⟩ (va_recv hK hP (ci := 0) (q0 := 12) rfl rfl) [12, 13, 14, 15, 16, 17, 18, 19, 20, 21, 22] (by decide) rfl rfl rfl rfl hl.1 rfl (Nat.le_of_ble_eq_true rfl) dX1_goStuttering_72 ⟨Nat.le_of_ble_eq_true rfl, Nat.le_of_ble_eq_true rfl⟩ (fun H locs hP hD hS => ?_)
              have hP : va_P D vwCl (wX A cI xx xn v5.2 xk) H := hP
              refine lv_pop hx hb dX1_goStuttering_75 rfl ?_
              refine lv_iinc (v := (j7_54 + (1 : Int32))) (lv' := [(7, .int (j7_54 + (1 : Int32))), (0, .ref ((A 0) 0)), (1, .int j1), (2, .int j2), (3, .int j3), (4, .int j4), (5, .long j5_54), (8, .int j8_54)]) hx hb dX1_goStuttering_76 hl (k := 6) rfl rfl (by decide) rfl (fun ls hl => ?_)
              refine lv_goto (tgt := 17) hx hb dX1_goStuttering_79 (by decide) ?_
              exact (hWW _ _ _).mp (ih _ _ _ _ _ _ hf hP hD hS (lv_sub hl [1, 2, 3, 4, 5, 6, 0] rfl))
          refine lv_if_eq (tgt := 54) hx hb dX1_goStuttering_42 (by decide) (fun c6 => ?_) (fun c6 => ?_)
          · exact (hWW _ _ _).mp (J54 _ _ _ _ _ _ _ hf hP hD hS (lv_sub hl [1, 2, 3, 4, 5, 6, 7, 0] rfl))
          · exact absurd c6 (by decide)
        · have hf := hT hf c3
          refine lv_iconst (v := (1 : Int32)) hx hb dX1_goStuttering_33 (by decide) ?_
          refine lv_goto (tgt := 38) hx hb dX1_goStuttering_34 (by decide) ?_
          refine lv_istore (lv' := [(8, .int (1 : Int32)), (0, .ref ((A 0) 0)), (1, .int j1), (2, .int j2), (3, .int j3), (4, .int j4), (5, .long j5_17), (7, .int j7_17)]) hx hb dX1_goStuttering_38 hl (by decide) rfl (fun ls hl => ?_)
          refine lv_iload hx hb dX1_goStuttering_40 (lv_at hl 0 rfl) ?_
          obtain ⟨K54, hK54, hf⟩ := jnS hf
          have J54 : ∀ (j5_54 : Int64) (j7_54 : Int32) (j8_54 : Int32) (xm_54 : HS) (H : Heap) (locs : List Loc) (ls : Array Slot), K54 j5_54 j7_54 j8_54 xm_54 = some out → va_P D vwCl (wX A cI xx xn xm_54 xk) H → va_D G (wX A cI xx xn xm_54 xk) → va_S G s.heap H locs → lv_has ls 9 [(0, .ref ((A 0) 0)), (1, .int j1), (2, .int j2), (3, .int j3), (4, .int j4), (5, .long j5_54), (7, .int j7_54), (8, .int j8_54)] → WW H locs (F0 m 54 ls []) := by
            intro j5_54 j7_54 j8_54 xm_54 H locs ls hf hP hD hS hl
            subst hK54
            refine (hWW _ _ _).mpr ?_
            refine lv_aload_n hx hb dX1_goStuttering_54 rfl (lv_at hl 0 rfl) ?_
            refine va_get (D := D) (ci := 1) (v := .ref ((A 2) 0)) (C := RX1) (T := TX1) (N := 9) hx hb hts hinX hown hK hP 0 rfl rfl 1 (by decide) lk0 (fun _ h9 => h9) rfl dX1_goStuttering_55 ?_
            refine lv_iload_n hx hb dX1_goStuttering_58 rfl (lv_at hl 1 rfl) ?_
            refine rVN_io (As := [.int j1]) (rest := []) ⟨hx, hb, hml, hown, hts⟩ hK hN hA hP hD hS (c_X0_inPile l D cI (A 2) j1 xm_54 (f_X0_inPile j1 xm_54) rfl) ⟨va_cnB 1 hts gX1_goStuttering_X0_inPile_n72 rfl rfl rfl (nW.m hN 15 rfl) lk2 hd_X0_inPile.2 ⟨Nat.le_of_ble_eq_true rfl, Nat.le_of_ble_eq_true rfl⟩, lk5, lk6⟩ (va_recv hK hP (ci := 0) (q0 := 12) rfl rfl) [12, 13, 14, 15, 16, 17, 18, 19, 20, 21, 22] (by decide) rfl rfl hl.1 rfl (Nat.le_of_ble_eq_true rfl) dX1_goStuttering_59 ⟨Nat.le_of_ble_eq_true rfl, Nat.le_of_ble_eq_true rfl⟩ (fun H locs hP hD hS => ?_)
            refine lv_if_eq (tgt := 76) hx hb dX1_goStuttering_62 (by decide) (fun c7 => ?_) (fun c7 => ?_)
            · have hf := hT hf c7
              refine lv_iinc (v := (j7_54 + (1 : Int32))) (lv' := [(7, .int (j7_54 + (1 : Int32))), (0, .ref ((A 0) 0)), (1, .int j1), (2, .int j2), (3, .int j3), (4, .int j4), (5, .long j5_54), (8, .int j8_54)]) hx hb dX1_goStuttering_76 hl (k := 6) rfl rfl (by decide) rfl (fun ls hl => ?_)
              refine lv_goto (tgt := 17) hx hb dX1_goStuttering_79 (by decide) ?_
              exact (hWW _ _ _).mp (ih _ _ _ _ _ _ hf hP hD hS (lv_sub hl [1, 2, 3, 4, 5, 6, 0] rfl))
            · have hf := hF hf c7
              refine lv_aload_n hx hb dX1_goStuttering_65 rfl (lv_at hl 0 rfl) ?_
              refine va_get (D := D) (ci := 1) (v := .ref ((A 2) 0)) (C := RX1) (T := TX1) (N := 9) hx hb hts hinX hown hK hP 0 rfl rfl 1 (by decide) lk0 (fun _ h9 => h9) rfl dX1_goStuttering_66 ?_
              refine lv_iconst (v := (1 : Int32)) hx hb dX1_goStuttering_69 (by decide) ?_
              refine lv_iload hx hb dX1_goStuttering_70 (lv_at hl 7 rfl) ?_
              obtain ⟨v8, hev8, hf⟩ := bS hf
              refine rVN_i (ws' := (wX A cI xx xn v8.2 xk)) (As := [.int (1 : Int32), .int j8_54]) (rest := []) ⟨hx, hb, hml, hown, hts⟩ hK hN hA hP hD hS (c_X0_goOn l D cI (A 2) (1 : Int32) j8_54 xm_54 v8 hev8) ⟨va_cnB 2 hts gX1_goStuttering_X0_goOn_n97 rfl rfl rfl (nW.m hN 12 rfl) lk2 hd_X0_goOn.2 ⟨Nat.le_of_ble_eq_true rfl, Nat.le_of_ble_eq_true rfl⟩, lk7, lk8⟩ (va_recv hK hP (ci := 0) (q0 := 12) rfl rfl) [12, 13, 14, 15, 16, 17, 18, 19, 20, 21, 22] (by decide) rfl rfl rfl rfl hl.1 rfl (Nat.le_of_ble_eq_true rfl) dX1_goStuttering_72 ⟨Nat.le_of_ble_eq_true rfl, Nat.le_of_ble_eq_true rfl⟩ (fun H locs hP hD hS => ?_)
              have hP : va_P D vwCl (wX A cI xx xn v8.2 xk) H := hP
              refine lv_pop hx hb dX1_goStuttering_75 rfl ?_
              refine lv_iinc (v := (j7_54 + (1 : Int32))) (lv' := [(7, .int (j7_54 + (1 : Int32))), (0, .ref ((A 0) 0)), (1, .int j1), (2, .int j2), (3, .int j3), (4, .int j4), (5, .long j5_54), (8, .int j8_54)]) hx hb dX1_goStuttering_76 hl (k := 6) rfl rfl (by decide) rfl (fun ls hl => ?_)
              refine lv_goto (tgt := 17) hx hb dX1_goStuttering_79 (by decide) ?_
              exact (hWW _ _ _).mp (ih _ _ _ _ _ _ hf hP hD hS (lv_sub hl [1, 2, 3, 4, 5, 6, 0] rfl))
          refine lv_if_eq (tgt := 54) hx hb dX1_goStuttering_42 (by decide) (fun c9 => ?_) (fun c9 => ?_)
          · exact absurd c9 (by decide)
          · refine lv_lload hx hb dX1_goStuttering_45 (lv_at hl 6 rfl) ?_
            refine lv_iload_n hx hb dX1_goStuttering_47 rfl (lv_at hl 4 rfl) ?_
            refine lv_iconst (v := (1 : Int32)) hx hb dX1_goStuttering_48 (by decide) ?_
            refine lv_isub hx hb dX1_goStuttering_49 ?_
            refine lv_i2l hx hb dX1_goStuttering_50 rfl ?_
            refine lv_lmul hx hb dX1_goStuttering_51 ?_
            refine lv_lstore (lv' := [(5, .long (j5_17 * ((j3 - (1 : Int32))).toInt64)), (8, .int (1 : Int32)), (0, .ref ((A 0) 0)), (1, .int j1), (2, .int j2), (3, .int j3), (4, .int j4), (7, .int j7_17)]) hx hb dX1_goStuttering_52 hl (by decide) rfl (fun ls hl => ?_)
            exact (hWW _ _ _).mp (J54 _ _ _ _ _ _ _ hf hP hD hS (lv_sub hl [2, 3, 4, 5, 6, 0, 7, 1] rfl))
  exact (hWW _ _ _).mp (P17 _ _ _ _ _ _ _ hf hP hD hS (lv_sub hl [2, 3, 4, 5, 6, 1, 0] rfl))
def L_X1_stutter_89 (j1 : Int32) (j2 : Int32) (j3 : Int32) (j4 : Int32) (j5 : Int32) (xn : HS) (xk : HS) (K109 : Int64 → HS → HS → Option (Int64 × HS × HS)) : Nat → Int64 → Int32 → HS → HS → Option (Int64 × HS × HS)
  | 0, _, _, _, _ => none
  | n' + 1, j6_89, j8_89, xx_89, xm_89 => if j3 ≤ j8_89 then (K109 j6_89 xx_89 xm_89) else (L_X1_stutter_89 j1 j2 j3 j4 j5 xn xk K109 n' (j6_89 * (j4).toInt64) (j8_89 + (1 : Int32)) xx_89 xm_89)
def L_X1_stutter_115 (j1 : Int32) (j2 : Int32) (j3 : Int32) (j4 : Int32) (j5 : Int32) (xn : HS) (xk : HS) (K163 : Int64 → Int64 → HS → HS → Option (Int64 × HS × HS)) : Nat → Int64 → Int64 → Int32 → HS → HS → Option (Int64 × HS × HS)
  | 0, _, _, _, _, _ => none
  | n' + 1, j6_115, j8_115, j10_115, xx_115, xm_115 => if ((1 : Int32) <<< (j3 &&& 31)) ≤ j10_115 then (K163 j6_115 j8_115 xx_115 xm_115) else (f_X1_goStuttering j2 j3 j4 j10_115 xx_115 xn xm_115 xk).bind fun v15 => if (atv 8 (v15.2 4) j2) = j1 then (L_X1_stutter_115 j1 j2 j3 j4 j5 xn xk K163 n' j6_115 (j8_115 + v15.1) (j10_115 + (1 : Int32)) xx_115 v15.2) else (L_X1_stutter_115 j1 j2 j3 j4 j5 xn xk K163 n' j6_115 j8_115 (j10_115 + (1 : Int32)) xx_115 v15.2)
def f_X1_stutter (j1 : Int32) (j2 : Int32) (j3 : Int32) (j4 : Int32) (j5 : Int32) (xx : HS) (xn : HS) (xm : HS) (xk : HS) : Option (Int64 × HS × HS) := if (f_X0_hasBidder j1 xn) = 0 then (f_X1_refuseFar (-1 : Int32) xx xn xm xk).bind fun v2 => some (v2.1, v2.2, xm) else if (f_X0_hasCard j2 xn) = 0 then (f_X1_refuseFar (-1 : Int32) xx xn xm xk).bind fun v21 => some (v21.1, v21.2, xm) else if j3 < 0 then (f_X1_refuseFar (-4 : Int32) xx xn xm xk).bind fun v5 => some (v5.1, v5.2, xm) else if (2 : Int32) ≤ j4 then if (7 : Int32) < j3 then (f_X1_refuseFar (-6 : Int32) xx xn xm xk).bind fun v8 => some (v8.1, v8.2, xm) else if j4 ≤ (20 : Int32) then if j5 < 0 then (f_X1_refuseFar (-2 : Int32) xx xn xm xk).bind fun v11 => some (v11.1, v11.2, xm) else if j5 ≤ (1 : Int32) then jn (fun (j6_109 : Int64) (xx_109 : HS) (xm_109 : HS) => jn (fun (j6_163 : Int64) (j8_163 : Int64) (xx_163 : HS) (xm_163 : HS) => (f_X1_inLeastTerms j8_163 j6_163 j5).bind fun v13 => some (v13, xx_163, xm_163)) (fun (K163 : Int64 → Int64 → HS → HS → Option (Int64 × HS × HS)) => (L_X1_stutter_115 j1 j2 j3 j4 j5 xn xk K163 fuel j6_109 (0 : Int64) (0 : Int32) xx_109 xm_109))) (fun (K109 : Int64 → HS → HS → Option (Int64 × HS × HS)) => (L_X1_stutter_89 j1 j2 j3 j4 j5 xn xk K109 fuel (1 : Int64) (0 : Int32) xx xm)) else (f_X1_refuseFar (-2 : Int32) xx xn xm xk).bind fun v18 => some (v18.1, v18.2, xm) else (f_X1_refuseFar (-6 : Int32) xx xn xm xk).bind fun v19 => some (v19.1, v19.2, xm) else (f_X1_refuseFar (-4 : Int32) xx xn xm xk).bind fun v20 => some (v20.1, v20.2, xm)
set_option maxHeartbeats 4000000 in
set_option maxRecDepth 100000 in
theorem c_X1_stutter (l : Launch) (D : va_G) (cI : ClassId) (A : Nat → Nat → Nat) (j1 : Int32) (j2 : Int32) (j3 : Int32) (j4 : Int32) (j5 : Int32) (xx : HS) (xn : HS) (xm : HS) (xk : HS) (out : Int64 × HS × HS) (hf : f_X1_stutter j1 j2 j3 j4 j5 xx xn xm xk = some out) : uL l D cI yX1_stutter wsX1_stutter ({ frames := 6, cells := 0, slots := 0, locals := 156 } : Room) [.ref ((A 0) 0), .int j1, .int j2, .int j3, .int j4, .int j5] (wX A cI xx xn xm xk) (wX A cI out.2.1 xn out.2.2 xk) out.1 := by
  intro sz
  refine Met.ofW (cc := cX1_stutter) (maxL := 13) (ret := (some .long)) (by decide) rfl ?_
  intro p e s m args below meth c s₁ Bd hml hv
  obtain ⟨rfl, hsz, hP, hK, hD0, hN⟩ := hv
  have hx := Bd.exec
  have hb := Bd.bytes
  have hr := Bd.returns
  have hts := atoms_spec (ws := wsX1_stutter) Bd.pre
  have hown : s.vm.findClass RX1 = some m.cls := findClass_of_methodNamed Bd.named
  have hlocks := Bd.notSynchronized
  subst hsz
  have hD := hD0.self (sz := s.heap.size)
  generalize hAe : va_A (wX A cI xx xn xm xk) s.heap.size = G at hD ⊢
  have hA : ∀ q : Nat, s.heap.size ≤ q → G q := fun q h => by rw [← hAe]; exact Or.inr h
  have hS : va_S G s.heap s.heap [] := va_S.rf
  have hP : va_P D vwCl (wX A cI xx xn xm xk) s.heap := hP
  have hl := lv_entry ([.ref ((A 0) 0), .int j1, .int j2, .int j3, .int j4, .int j5]) (n := 13) (Nat.le_of_ble_eq_true rfl)
  rw [lg_entry_eq]
  generalize (lg_sl ([.ref ((A 0) 0), .int j1, .int j2, .int j3, .int j4, .int j5]) ++ List.replicate (13 - (lg_sl ([.ref ((A 0) 0), .int j1, .int j2, .int j3, .int j4, .int j5])).length) Slot.unset).toArray = ls at hl ⊢
  have hl : lv_has ls 13 [(0, .ref ((A 0) 0)), (1, .int j1), (2, .int j2), (3, .int j3), (4, .int j4), (5, .int j5)] := hl
  have hinH : ∀ w ∈ wsX00, w ∈ wsX1_stutter := by decide +kernel
  have hinX : ∀ w ∈ wsX10, w ∈ wsX1_stutter := by decide +kernel
  have lk0 := hts (.fieldLink RX1 10 "LiesBoughtBack" "now" "LLiesBoughtBack$Hall;") (by decide +kernel)
  have lk1 := hts (.initialized RX0) (by decide +kernel)
  have lk2 := hts (.instanceMethod yX0_hasBidder) (by decide +kernel)
  have lk3 := hts (.selects RX0 yX0_hasBidder yX0_hasBidder) (by decide +kernel)
  have lk4 := hts (.instanceMethod yX0_hasCard) (by decide +kernel)
  have lk5 := hts (.selects RX0 yX0_hasCard yX0_hasCard) (by decide +kernel)
  have lk6 := hts (.fieldLink RX1 16 "LiesBoughtBack" "mind" "LLiesBoughtBack$Hall;") (by decide +kernel)
  refine W_in ?_
  intro WW hWW
  refine (hWW _ _ _).mpr ?_
  unfold f_X1_stutter at hf
  refine lv_aload_n hx hb dX1_stutter_0 rfl (lv_at hl 0 rfl) ?_
  refine va_get (D := D) (ci := 1) (v := .ref ((A 1) 0)) (C := RX1) (T := TX1) (N := 9) hx hb hts hinX hown hK hP 0 rfl rfl 0 (by decide) lk0 (fun _ h9 => h9) rfl dX1_stutter_1 ?_
  refine lv_iload_n hx hb dX1_stutter_4 rfl (lv_at hl 1 rfl) ?_
  refine rVN_io (As := [.int j1]) (rest := []) ⟨hx, hb, hml, hown, hts⟩ hK hN hA hP hD hS (c_X0_hasBidder l D cI (A 1) j1 xn (f_X0_hasBidder j1 xn) rfl) ⟨va_cnB 1 hts gX1_stutter_X0_hasBidder_n59 rfl rfl rfl (nW.m hN 13 rfl) lk1 hd_X0_hasBidder.2 ⟨Nat.le_of_ble_eq_true rfl, Nat.le_of_ble_eq_true rfl⟩, lk2, lk3⟩ (va_recv hK hP (ci := 0) (q0 := 1) rfl rfl) [1, 2, 3, 4, 5, 6, 7, 8, 9, 10, 11] (by decide) rfl rfl hl.1 rfl (Nat.le_of_ble_eq_true rfl) dX1_stutter_5 ⟨Nat.le_of_ble_eq_true rfl, Nat.le_of_ble_eq_true rfl⟩ (fun H locs hP hD hS => ?_)
  refine lv_if_eq (tgt := 22) hx hb dX1_stutter_8 (by decide) (fun c1 => ?_) (fun c1 => ?_)
  · have hf := hT hf c1
    refine lv_aload_n hx hb dX1_stutter_22 rfl (lv_at hl 0 rfl) ?_
    refine lv_iconst (v := (-1 : Int32)) hx hb dX1_stutter_23 (by decide) ?_
    obtain ⟨v2, hev2, hf⟩ := bS hf
    refine rV_l (ws' := (wX A cI v2.2 xn xm xk)) (As := [.int (-1 : Int32)]) (rest := []) ⟨hx, hb, hml, hown, hts⟩ hK hN hA hP hD hS (c_X1_refuseFar l D cI A (-1 : Int32) xx xn xm xk v2 hev2) (cwV 1 hts gX1_stutter_X1_refuseFar rfl rfl rfl hd_X1_refuseFar ⟨Nat.le_of_ble_eq_true rfl, Nat.le_of_ble_eq_true rfl⟩) (va_recv hK hP (ci := 1) (q0 := 0) rfl rfl) [0, 1, 2, 3, 4, 5, 6, 7, 8, 9, 10, 11, 12, 13, 14, 15, 16, 17, 18, 19, 20, 21, 22, 23, 24, 25, 26, 27, 28, 29, 30, 31, 32, 33, 34, 35, 36] (by decide) rfl rfl rfl rfl hl.1 rfl (Nat.le_of_ble_eq_true rfl) dX1_stutter_24 ⟨Nat.le_of_ble_eq_true rfl, Nat.le_of_ble_eq_true rfl⟩ (fun H locs hP hD hS => ?_)
    have hP : va_P D vwCl (wX A cI v2.2 xn xm xk) H := hP
    obtain rfl := Option.some.inj hf
    exact W.lret (v := v2.1) hx hb hr (fun t ht hW => ⟨⟨v2.1, (), rfl, rfl, hPt ht hP⟩, hS.F ht⟩) hS.2.2 dX1_stutter_27
  · have hf := hF hf c1
    refine lv_aload_n hx hb dX1_stutter_11 rfl (lv_at hl 0 rfl) ?_
    refine va_get (D := D) (ci := 1) (v := .ref ((A 1) 0)) (C := RX1) (T := TX1) (N := 9) hx hb hts hinX hown hK hP 0 rfl rfl 0 (by decide) lk0 (fun _ h9 => h9) rfl dX1_stutter_12 ?_
    refine lv_iload_n hx hb dX1_stutter_15 rfl (lv_at hl 2 rfl) ?_
    refine rVN_io (As := [.int j2]) (rest := []) ⟨hx, hb, hml, hown, hts⟩ hK hN hA hP hD hS (c_X0_hasCard l D cI (A 1) j2 xn (f_X0_hasCard j2 xn) rfl) ⟨va_cnB 1 hts gX1_stutter_X0_hasCard_n69 rfl rfl rfl (nW.m hN 14 rfl) lk1 hd_X0_hasCard.2 ⟨Nat.le_of_ble_eq_true rfl, Nat.le_of_ble_eq_true rfl⟩, lk4, lk5⟩ (va_recv hK hP (ci := 0) (q0 := 1) rfl rfl) [1, 2, 3, 4, 5, 6, 7, 8, 9, 10, 11] (by decide) rfl rfl hl.1 rfl (Nat.le_of_ble_eq_true rfl) dX1_stutter_16 ⟨Nat.le_of_ble_eq_true rfl, Nat.le_of_ble_eq_true rfl⟩ (fun H locs hP hD hS => ?_)
    refine lv_if_ne (tgt := 28) hx hb dX1_stutter_19 (by decide) (fun c3 => ?_) (fun c3 => ?_)
    · have hf := hF hf c3
      refine lv_iload_n hx hb dX1_stutter_28 rfl (lv_at hl 3 rfl) ?_
      refine lv_if_lt (tgt := 38) hx hb dX1_stutter_29 (by decide) (fun c4 => ?_) (fun c4 => ?_)
      · have hf := hT hf c4
        refine lv_aload_n hx hb dX1_stutter_38 rfl (lv_at hl 0 rfl) ?_
        refine lv_bipush (v := (-4 : Int32)) hx hb dX1_stutter_39 (by decide) ?_
        obtain ⟨v5, hev5, hf⟩ := bS hf
        refine rV_l (ws' := (wX A cI v5.2 xn xm xk)) (As := [.int (-4 : Int32)]) (rest := []) ⟨hx, hb, hml, hown, hts⟩ hK hN hA hP hD hS (c_X1_refuseFar l D cI A (-4 : Int32) xx xn xm xk v5 hev5) (cwV 1 hts gX1_stutter_X1_refuseFar rfl rfl rfl hd_X1_refuseFar ⟨Nat.le_of_ble_eq_true rfl, Nat.le_of_ble_eq_true rfl⟩) (va_recv hK hP (ci := 1) (q0 := 0) rfl rfl) [0, 1, 2, 3, 4, 5, 6, 7, 8, 9, 10, 11, 12, 13, 14, 15, 16, 17, 18, 19, 20, 21, 22, 23, 24, 25, 26, 27, 28, 29, 30, 31, 32, 33, 34, 35, 36] (by decide) rfl rfl rfl rfl hl.1 rfl (Nat.le_of_ble_eq_true rfl) dX1_stutter_41 ⟨Nat.le_of_ble_eq_true rfl, Nat.le_of_ble_eq_true rfl⟩ (fun H locs hP hD hS => ?_)
        have hP : va_P D vwCl (wX A cI v5.2 xn xm xk) H := hP
        obtain rfl := Option.some.inj hf
        exact W.lret (v := v5.1) hx hb hr (fun t ht hW => ⟨⟨v5.1, (), rfl, rfl, hPt ht hP⟩, hS.F ht⟩) hS.2.2 dX1_stutter_44
      · have hf := hF hf c4
        refine lv_iload hx hb dX1_stutter_32 (lv_at hl 4 rfl) ?_
        refine lv_iconst (v := (2 : Int32)) hx hb dX1_stutter_34 (by decide) ?_
        refine lv_icmp_ge (tgt := 45) hx hb dX1_stutter_35 (by decide) (fun c6 => ?_) (fun c6 => ?_)
        · have hf := hT hf c6
          refine lv_iload_n hx hb dX1_stutter_45 rfl (lv_at hl 3 rfl) ?_
          refine lv_bipush (v := (7 : Int32)) hx hb dX1_stutter_46 (by decide) ?_
          refine lv_icmp_gt (tgt := 58) hx hb dX1_stutter_48 (by decide) (fun c7 => ?_) (fun c7 => ?_)
          · have hf := hT hf c7
            refine lv_aload_n hx hb dX1_stutter_58 rfl (lv_at hl 0 rfl) ?_
            refine lv_bipush (v := (-6 : Int32)) hx hb dX1_stutter_59 (by decide) ?_
            obtain ⟨v8, hev8, hf⟩ := bS hf
            refine rV_l (ws' := (wX A cI v8.2 xn xm xk)) (As := [.int (-6 : Int32)]) (rest := []) ⟨hx, hb, hml, hown, hts⟩ hK hN hA hP hD hS (c_X1_refuseFar l D cI A (-6 : Int32) xx xn xm xk v8 hev8) (cwV 1 hts gX1_stutter_X1_refuseFar rfl rfl rfl hd_X1_refuseFar ⟨Nat.le_of_ble_eq_true rfl, Nat.le_of_ble_eq_true rfl⟩) (va_recv hK hP (ci := 1) (q0 := 0) rfl rfl) [0, 1, 2, 3, 4, 5, 6, 7, 8, 9, 10, 11, 12, 13, 14, 15, 16, 17, 18, 19, 20, 21, 22, 23, 24, 25, 26, 27, 28, 29, 30, 31, 32, 33, 34, 35, 36] (by decide) rfl rfl rfl rfl hl.1 rfl (Nat.le_of_ble_eq_true rfl) dX1_stutter_61 ⟨Nat.le_of_ble_eq_true rfl, Nat.le_of_ble_eq_true rfl⟩ (fun H locs hP hD hS => ?_)
            have hP : va_P D vwCl (wX A cI v8.2 xn xm xk) H := hP
            obtain rfl := Option.some.inj hf
            exact W.lret (v := v8.1) hx hb hr (fun t ht hW => ⟨⟨v8.1, (), rfl, rfl, hPt ht hP⟩, hS.F ht⟩) hS.2.2 dX1_stutter_64
          · have hf := hF hf c7
            refine lv_iload hx hb dX1_stutter_51 (lv_at hl 4 rfl) ?_
            refine lv_bipush (v := (20 : Int32)) hx hb dX1_stutter_53 (by decide) ?_
            refine lv_icmp_le (tgt := 65) hx hb dX1_stutter_55 (by decide) (fun c9 => ?_) (fun c9 => ?_)
            · have hf := hT hf c9
              refine lv_iload hx hb dX1_stutter_65 (lv_at hl 5 rfl) ?_
              refine lv_if_lt (tgt := 76) hx hb dX1_stutter_67 (by decide) (fun c10 => ?_) (fun c10 => ?_)
              · have hf := hT hf c10
                refine lv_aload_n hx hb dX1_stutter_76 rfl (lv_at hl 0 rfl) ?_
                refine lv_bipush (v := (-2 : Int32)) hx hb dX1_stutter_77 (by decide) ?_
                obtain ⟨v11, hev11, hf⟩ := bS hf
                refine rV_l (ws' := (wX A cI v11.2 xn xm xk)) (As := [.int (-2 : Int32)]) (rest := []) ⟨hx, hb, hml, hown, hts⟩ hK hN hA hP hD hS (c_X1_refuseFar l D cI A (-2 : Int32) xx xn xm xk v11 hev11) (cwV 1 hts gX1_stutter_X1_refuseFar rfl rfl rfl hd_X1_refuseFar ⟨Nat.le_of_ble_eq_true rfl, Nat.le_of_ble_eq_true rfl⟩) (va_recv hK hP (ci := 1) (q0 := 0) rfl rfl) [0, 1, 2, 3, 4, 5, 6, 7, 8, 9, 10, 11, 12, 13, 14, 15, 16, 17, 18, 19, 20, 21, 22, 23, 24, 25, 26, 27, 28, 29, 30, 31, 32, 33, 34, 35, 36] (by decide) rfl rfl rfl rfl hl.1 rfl (Nat.le_of_ble_eq_true rfl) dX1_stutter_79 ⟨Nat.le_of_ble_eq_true rfl, Nat.le_of_ble_eq_true rfl⟩ (fun H locs hP hD hS => ?_)
                have hP : va_P D vwCl (wX A cI v11.2 xn xm xk) H := hP
                obtain rfl := Option.some.inj hf
                exact W.lret (v := v11.1) hx hb hr (fun t ht hW => ⟨⟨v11.1, (), rfl, rfl, hPt ht hP⟩, hS.F ht⟩) hS.2.2 dX1_stutter_82
              · have hf := hF hf c10
                refine lv_iload hx hb dX1_stutter_70 (lv_at hl 5 rfl) ?_
                refine lv_iconst (v := (1 : Int32)) hx hb dX1_stutter_72 (by decide) ?_
                refine lv_icmp_le (tgt := 83) hx hb dX1_stutter_73 (by decide) (fun c12 => ?_) (fun c12 => ?_)
                · have hf := hT hf c12
                  refine lv_lconst (v := (1 : Int64)) hx hb dX1_stutter_83 (by decide) ?_
                  refine lv_lstore (lv' := [(6, .long (1 : Int64)), (0, .ref ((A 0) 0)), (1, .int j1), (2, .int j2), (3, .int j3), (4, .int j4), (5, .int j5)]) hx hb dX1_stutter_84 hl (by decide) rfl (fun ls hl => ?_)
                  refine lv_iconst (v := (0 : Int32)) hx hb dX1_stutter_86 (by decide) ?_
                  refine lv_istore (lv' := [(8, .int (0 : Int32)), (6, .long (1 : Int64)), (0, .ref ((A 0) 0)), (1, .int j1), (2, .int j2), (3, .int j3), (4, .int j4), (5, .int j5)]) hx hb dX1_stutter_87 hl (by decide) rfl (fun ls hl => ?_)
                  obtain ⟨K109, hK109, hf⟩ := jnS hf
                  have J109 : ∀ (j6_109 : Int64) (xx_109 : HS) (xm_109 : HS) (H : Heap) (locs : List Loc) (ls : Array Slot), K109 j6_109 xx_109 xm_109 = some out → va_P D vwCl (wX A cI xx_109 xn xm_109 xk) H → va_D G (wX A cI xx_109 xn xm_109 xk) → va_S G s.heap H locs → lv_has ls 13 [(0, .ref ((A 0) 0)), (1, .int j1), (2, .int j2), (3, .int j3), (4, .int j4), (5, .int j5), (6, .long j6_109)] → WW H locs (F0 m 109 ls []) := by
                    intro j6_109 xx_109 xm_109 H locs ls hf hP hD hS hl
                    subst hK109
                    refine (hWW _ _ _).mpr ?_
                    refine lv_lconst (v := (0 : Int64)) hx hb dX1_stutter_109 (by decide) ?_
                    refine lv_lstore (lv' := [(8, .long (0 : Int64)), (0, .ref ((A 0) 0)), (1, .int j1), (2, .int j2), (3, .int j3), (4, .int j4), (5, .int j5), (6, .long j6_109)]) hx hb dX1_stutter_110 hl (by decide) rfl (fun ls hl => ?_)
                    refine lv_iconst (v := (0 : Int32)) hx hb dX1_stutter_112 (by decide) ?_
                    refine lv_istore (lv' := [(10, .int (0 : Int32)), (8, .long (0 : Int64)), (0, .ref ((A 0) 0)), (1, .int j1), (2, .int j2), (3, .int j3), (4, .int j4), (5, .int j5), (6, .long j6_109)]) hx hb dX1_stutter_113 hl (by decide) rfl (fun ls hl => ?_)
                    obtain ⟨K163, hK163, hf⟩ := jnS hf
                    have J163 : ∀ (j6_163 : Int64) (j8_163 : Int64) (xx_163 : HS) (xm_163 : HS) (H : Heap) (locs : List Loc) (ls : Array Slot), K163 j6_163 j8_163 xx_163 xm_163 = some out → va_P D vwCl (wX A cI xx_163 xn xm_163 xk) H → va_D G (wX A cI xx_163 xn xm_163 xk) → va_S G s.heap H locs → lv_has ls 13 [(5, .int j5), (6, .long j6_163), (8, .long j8_163)] → WW H locs (F0 m 163 ls []) := by
                      intro j6_163 j8_163 xx_163 xm_163 H locs ls hf hP hD hS hl
                      subst hK163
                      refine (hWW _ _ _).mpr ?_
                      refine lv_lload hx hb dX1_stutter_163 (lv_at hl 2 rfl) ?_
                      refine lv_lload hx hb dX1_stutter_165 (lv_at hl 1 rfl) ?_
                      refine lv_iload hx hb dX1_stutter_167 (lv_at hl 0 rfl) ?_
                      obtain ⟨v13, hev13, hf⟩ := bS hf
                      refine rS_lo (As := [.long j8_163, .long j6_163, .int j5]) (rest := []) ⟨hx, hb, hml, hown, hts⟩ hK hN hA hP hD hS (c_X1_inLeastTerms l D cI j8_163 j6_163 j5 v13 hev13) (va_cwS 3 hts gX1_stutter_X1_inLeastTerms rfl rfl rfl hd_X1_inLeastTerms.2 ⟨Nat.le_of_ble_eq_true rfl, Nat.le_of_ble_eq_true rfl⟩) [] (by decide) rfl rfl hl.1 rfl (Nat.le_of_ble_eq_true rfl) dX1_stutter_169 ⟨Nat.le_of_ble_eq_true rfl, Nat.le_of_ble_eq_true rfl⟩ (fun H locs hP hD hS => ?_)
                      obtain rfl := Option.some.inj hf
                      exact W.lret (v := v13) hx hb hr (fun t ht hW => ⟨⟨v13, (), rfl, rfl, hPt ht hP⟩, hS.F ht⟩) hS.2.2 dX1_stutter_172
                    have P115 : ∀ (n' : Nat) (j6_115 : Int64) (j8_115 : Int64) (j10_115 : Int32) (xx_115 : HS) (xm_115 : HS) (H : Heap) (locs : List Loc) (ls : Array Slot), L_X1_stutter_115 j1 j2 j3 j4 j5 xn xk K163 n' j6_115 j8_115 j10_115 xx_115 xm_115 = some out → va_P D vwCl (wX A cI xx_115 xn xm_115 xk) H → va_D G (wX A cI xx_115 xn xm_115 xk) → va_S G s.heap H locs → lv_has ls 13 [(0, .ref ((A 0) 0)), (1, .int j1), (2, .int j2), (3, .int j3), (4, .int j4), (5, .int j5), (6, .long j6_115), (8, .long j8_115), (10, .int j10_115)] → WW H locs (F0 m 115 ls []) := by
                      intro n'
                      induction n' with
                      | zero => intro j6_115 j8_115 j10_115 xx_115 xm_115 H locs ls hf; exact absurd (show (none : Option (Int64 × HS × HS)) = some out from hf) (fun q => by cases q)
                      | succ n' ih =>
                        intro j6_115 j8_115 j10_115 xx_115 xm_115 H locs ls hf hP hD hS hl
                        rw [L_X1_stutter_115] at hf
                        refine (hWW _ _ _).mpr ?_
                        refine lv_iload hx hb dX1_stutter_115 (lv_at hl 8 rfl) ?_
                        refine lv_iconst (v := (1 : Int32)) hx hb dX1_stutter_117 (by decide) ?_
                        refine lv_iload_n hx hb dX1_stutter_118 rfl (lv_at hl 3 rfl) ?_
                        refine lv_ishl hx hb dX1_stutter_119 ?_
                        refine lv_icmp_ge (tgt := 163) hx hb dX1_stutter_120 (by decide) (fun c14 => ?_) (fun c14 => ?_)
                        · have hf := hT hf c14
                          exact (hWW _ _ _).mp (J163 _ _ _ _ _ _ _ hf hP hD hS (lv_sub hl [5, 6, 7] rfl))
                        · have hf := hF hf c14
                          refine lv_aload_n hx hb dX1_stutter_123 rfl (lv_at hl 0 rfl) ?_
                          refine lv_iload_n hx hb dX1_stutter_124 rfl (lv_at hl 2 rfl) ?_
                          refine lv_iload_n hx hb dX1_stutter_125 rfl (lv_at hl 3 rfl) ?_
                          refine lv_iload hx hb dX1_stutter_126 (lv_at hl 4 rfl) ?_
                          refine lv_iload hx hb dX1_stutter_128 (lv_at hl 8 rfl) ?_
                          obtain ⟨v15, hev15, hf⟩ := bS hf
                          refine rV_l (ws' := (wX A cI xx_115 xn v15.2 xk)) (As := [.int j2, .int j3, .int j4, .int j10_115]) (rest := []) ⟨hx, hb, hml, hown, hts⟩ hK hN hA hP hD hS (c_X1_goStuttering l D cI A j2 j3 j4 j10_115 xx_115 xn xm_115 xk v15 hev15) (cwV 4 hts gX1_stutter_X1_goStuttering rfl rfl rfl hd_X1_goStuttering ⟨Nat.le_of_ble_eq_true rfl, Nat.le_of_ble_eq_true rfl⟩) (va_recv hK hP (ci := 1) (q0 := 0) rfl rfl) [0, 1, 2, 3, 4, 5, 6, 7, 8, 9, 10, 11, 12, 13, 14, 15, 16, 17, 18, 19, 20, 21, 22, 23, 24, 25, 26, 27, 28, 29, 30, 31, 32, 33, 34, 35, 36] (by decide) rfl rfl rfl rfl hl.1 rfl (Nat.le_of_ble_eq_true rfl) dX1_stutter_130 ⟨Nat.le_of_ble_eq_true rfl, Nat.le_of_ble_eq_true rfl⟩ (fun H locs hP hD hS => ?_)
                          have hP : va_P D vwCl (wX A cI xx_115 xn v15.2 xk) H := hP
                          refine lv_lstore (lv' := [(11, .long v15.1), (0, .ref ((A 0) 0)), (1, .int j1), (2, .int j2), (3, .int j3), (4, .int j4), (5, .int j5), (6, .long j6_115), (8, .long j8_115), (10, .int j10_115)]) hx hb dX1_stutter_133 hl (by decide) rfl (fun ls hl => ?_)
                          refine lv_aload_n hx hb dX1_stutter_135 rfl (lv_at hl 1 rfl) ?_
                          refine va_get (D := D) (ci := 1) (v := .ref ((A 2) 0)) (C := RX1) (T := TX1) (N := 9) hx hb hts hinX hown hK hP 0 rfl rfl 1 (by decide) lk6 (fun _ h9 => h9) rfl dX1_stutter_136 ?_
                          refine va_getN (D := D) (ci := 0) (v := .ref ((A 2) 5)) (C := RX0) (T := TX0) (N := 13) hx hb hts hinH hown hK hP 12 rfl rfl 7 (by decide) (nW.f hN 7 rfl) (fun _ h9 => h9) rfl dX1_stutter_139 ?_
                          refine lv_iload_n hx hb dX1_stutter_142 rfl (lv_at hl 3 rfl) ?_
                          refine rS_io (As := [.ref ((A 2) 5), .int j2]) (rest := []) ⟨hx, hb, hml, hown, hts⟩ hK hN hA hP hD hS (c_X1_at l D cI 8 (by decide) ((A 2) 5) (v15.2 4) j2) (va_cwS 2 hts gX1_stutter_X1_at rfl rfl rfl hd_X1_at.2 ⟨Nat.le_of_ble_eq_true rfl, Nat.le_of_ble_eq_true rfl⟩) [17] (by decide) rfl rfl hl.1 rfl (Nat.le_of_ble_eq_true rfl) dX1_stutter_143 ⟨Nat.le_of_ble_eq_true rfl, Nat.le_of_ble_eq_true rfl⟩ (fun H locs hP hD hS => ?_)
                          refine lv_iload_n hx hb dX1_stutter_146 rfl (lv_at hl 2 rfl) ?_
                          refine lv_icmp_ne (tgt := 157) hx hb dX1_stutter_147 (by decide) (fun c16 => ?_) (fun c16 => ?_)
                          · have hf := hF hf c16
                            refine lv_iinc (v := (j10_115 + (1 : Int32))) (lv' := [(10, .int (j10_115 + (1 : Int32))), (11, .long v15.1), (0, .ref ((A 0) 0)), (1, .int j1), (2, .int j2), (3, .int j3), (4, .int j4), (5, .int j5), (6, .long j6_115), (8, .long j8_115)]) hx hb dX1_stutter_157 hl (k := 9) rfl rfl (by decide) rfl (fun ls hl => ?_)
                            refine lv_goto (tgt := 115) hx hb dX1_stutter_160 (by decide) ?_
                            exact (hWW _ _ _).mp (ih _ _ _ _ _ _ _ _ hf hP hD hS (lv_sub hl [2, 3, 4, 5, 6, 7, 8, 9, 0] rfl))
                          · have hf := hT hf c16
                            refine lv_lload hx hb dX1_stutter_150 (lv_at hl 8 rfl) ?_
                            refine lv_lload hx hb dX1_stutter_152 (lv_at hl 0 rfl) ?_
                            refine lv_ladd hx hb dX1_stutter_154 ?_
                            refine lv_lstore (lv' := [(8, .long (j8_115 + v15.1)), (11, .long v15.1), (0, .ref ((A 0) 0)), (1, .int j1), (2, .int j2), (3, .int j3), (4, .int j4), (5, .int j5), (6, .long j6_115), (10, .int j10_115)]) hx hb dX1_stutter_155 hl (by decide) rfl (fun ls hl => ?_)
                            refine lv_iinc (v := (j10_115 + (1 : Int32))) (lv' := [(10, .int (j10_115 + (1 : Int32))), (8, .long (j8_115 + v15.1)), (11, .long v15.1), (0, .ref ((A 0) 0)), (1, .int j1), (2, .int j2), (3, .int j3), (4, .int j4), (5, .int j5), (6, .long j6_115)]) hx hb dX1_stutter_157 hl (k := 9) rfl rfl (by decide) rfl (fun ls hl => ?_)
                            refine lv_goto (tgt := 115) hx hb dX1_stutter_160 (by decide) ?_
                            exact (hWW _ _ _).mp (ih _ _ _ _ _ _ _ _ hf hP hD hS (lv_sub hl [3, 4, 5, 6, 7, 8, 9, 1, 0] rfl))
                    exact (hWW _ _ _).mp (P115 _ _ _ _ _ _ _ _ _ hf hP hD hS (lv_sub hl [2, 3, 4, 5, 6, 7, 8, 1, 0] rfl))
                  have P89 : ∀ (n' : Nat) (j6_89 : Int64) (j8_89 : Int32) (xx_89 : HS) (xm_89 : HS) (H : Heap) (locs : List Loc) (ls : Array Slot), L_X1_stutter_89 j1 j2 j3 j4 j5 xn xk K109 n' j6_89 j8_89 xx_89 xm_89 = some out → va_P D vwCl (wX A cI xx_89 xn xm_89 xk) H → va_D G (wX A cI xx_89 xn xm_89 xk) → va_S G s.heap H locs → lv_has ls 13 [(0, .ref ((A 0) 0)), (1, .int j1), (2, .int j2), (3, .int j3), (4, .int j4), (5, .int j5), (6, .long j6_89), (8, .int j8_89)] → WW H locs (F0 m 89 ls []) := by
                    intro n'
                    induction n' with
                    | zero => intro j6_89 j8_89 xx_89 xm_89 H locs ls hf; exact absurd (show (none : Option (Int64 × HS × HS)) = some out from hf) (fun q => by cases q)
                    | succ n' ih =>
                      intro j6_89 j8_89 xx_89 xm_89 H locs ls hf hP hD hS hl
                      rw [L_X1_stutter_89] at hf
                      refine (hWW _ _ _).mpr ?_
                      refine lv_iload hx hb dX1_stutter_89 (lv_at hl 7 rfl) ?_
                      refine lv_iload_n hx hb dX1_stutter_91 rfl (lv_at hl 3 rfl) ?_
                      refine lv_icmp_ge (tgt := 109) hx hb dX1_stutter_92 (by decide) (fun c17 => ?_) (fun c17 => ?_)
                      · have hf := hT hf c17
                        exact (hWW _ _ _).mp (J109 _ _ _ _ _ _ hf hP hD hS (lv_sub hl [0, 1, 2, 3, 4, 5, 6] rfl))
                      · have hf := hF hf c17
                        refine lv_lload hx hb dX1_stutter_95 (lv_at hl 6 rfl) ?_
                        refine lv_iload hx hb dX1_stutter_97 (lv_at hl 4 rfl) ?_
                        refine lv_i2l hx hb dX1_stutter_99 rfl ?_
                        refine lv_lmul hx hb dX1_stutter_100 ?_
                        refine lv_lstore (lv' := [(6, .long (j6_89 * (j4).toInt64)), (0, .ref ((A 0) 0)), (1, .int j1), (2, .int j2), (3, .int j3), (4, .int j4), (5, .int j5), (8, .int j8_89)]) hx hb dX1_stutter_101 hl (by decide) rfl (fun ls hl => ?_)
                        refine lv_iinc (v := (j8_89 + (1 : Int32))) (lv' := [(8, .int (j8_89 + (1 : Int32))), (6, .long (j6_89 * (j4).toInt64)), (0, .ref ((A 0) 0)), (1, .int j1), (2, .int j2), (3, .int j3), (4, .int j4), (5, .int j5)]) hx hb dX1_stutter_103 hl (k := 7) rfl rfl (by decide) rfl (fun ls hl => ?_)
                        refine lv_goto (tgt := 89) hx hb dX1_stutter_106 (by decide) ?_
                        exact (hWW _ _ _).mp (ih _ _ _ _ _ _ _ hf hP hD hS (lv_sub hl [2, 3, 4, 5, 6, 7, 1, 0] rfl))
                  exact (hWW _ _ _).mp (P89 _ _ _ _ _ _ _ _ hf hP hD hS (lv_sub hl [2, 3, 4, 5, 6, 7, 1, 0] rfl))
                · have hf := hF hf c12
                  refine lv_aload_n hx hb dX1_stutter_76 rfl (lv_at hl 0 rfl) ?_
                  refine lv_bipush (v := (-2 : Int32)) hx hb dX1_stutter_77 (by decide) ?_
                  obtain ⟨v18, hev18, hf⟩ := bS hf
                  refine rV_l (ws' := (wX A cI v18.2 xn xm xk)) (As := [.int (-2 : Int32)]) (rest := []) ⟨hx, hb, hml, hown, hts⟩ hK hN hA hP hD hS (c_X1_refuseFar l D cI A (-2 : Int32) xx xn xm xk v18 hev18) (cwV 1 hts gX1_stutter_X1_refuseFar rfl rfl rfl hd_X1_refuseFar ⟨Nat.le_of_ble_eq_true rfl, Nat.le_of_ble_eq_true rfl⟩) (va_recv hK hP (ci := 1) (q0 := 0) rfl rfl) [0, 1, 2, 3, 4, 5, 6, 7, 8, 9, 10, 11, 12, 13, 14, 15, 16, 17, 18, 19, 20, 21, 22, 23, 24, 25, 26, 27, 28, 29, 30, 31, 32, 33, 34, 35, 36] (by decide) rfl rfl rfl rfl hl.1 rfl (Nat.le_of_ble_eq_true rfl) dX1_stutter_79 ⟨Nat.le_of_ble_eq_true rfl, Nat.le_of_ble_eq_true rfl⟩ (fun H locs hP hD hS => ?_)
                  have hP : va_P D vwCl (wX A cI v18.2 xn xm xk) H := hP
                  obtain rfl := Option.some.inj hf
                  exact W.lret (v := v18.1) hx hb hr (fun t ht hW => ⟨⟨v18.1, (), rfl, rfl, hPt ht hP⟩, hS.F ht⟩) hS.2.2 dX1_stutter_82
            · have hf := hF hf c9
              refine lv_aload_n hx hb dX1_stutter_58 rfl (lv_at hl 0 rfl) ?_
              refine lv_bipush (v := (-6 : Int32)) hx hb dX1_stutter_59 (by decide) ?_
              obtain ⟨v19, hev19, hf⟩ := bS hf
              refine rV_l (ws' := (wX A cI v19.2 xn xm xk)) (As := [.int (-6 : Int32)]) (rest := []) ⟨hx, hb, hml, hown, hts⟩ hK hN hA hP hD hS (c_X1_refuseFar l D cI A (-6 : Int32) xx xn xm xk v19 hev19) (cwV 1 hts gX1_stutter_X1_refuseFar rfl rfl rfl hd_X1_refuseFar ⟨Nat.le_of_ble_eq_true rfl, Nat.le_of_ble_eq_true rfl⟩) (va_recv hK hP (ci := 1) (q0 := 0) rfl rfl) [0, 1, 2, 3, 4, 5, 6, 7, 8, 9, 10, 11, 12, 13, 14, 15, 16, 17, 18, 19, 20, 21, 22, 23, 24, 25, 26, 27, 28, 29, 30, 31, 32, 33, 34, 35, 36] (by decide) rfl rfl rfl rfl hl.1 rfl (Nat.le_of_ble_eq_true rfl) dX1_stutter_61 ⟨Nat.le_of_ble_eq_true rfl, Nat.le_of_ble_eq_true rfl⟩ (fun H locs hP hD hS => ?_)
              have hP : va_P D vwCl (wX A cI v19.2 xn xm xk) H := hP
              obtain rfl := Option.some.inj hf
              exact W.lret (v := v19.1) hx hb hr (fun t ht hW => ⟨⟨v19.1, (), rfl, rfl, hPt ht hP⟩, hS.F ht⟩) hS.2.2 dX1_stutter_64
        · have hf := hF hf c6
          refine lv_aload_n hx hb dX1_stutter_38 rfl (lv_at hl 0 rfl) ?_
          refine lv_bipush (v := (-4 : Int32)) hx hb dX1_stutter_39 (by decide) ?_
          obtain ⟨v20, hev20, hf⟩ := bS hf
          refine rV_l (ws' := (wX A cI v20.2 xn xm xk)) (As := [.int (-4 : Int32)]) (rest := []) ⟨hx, hb, hml, hown, hts⟩ hK hN hA hP hD hS (c_X1_refuseFar l D cI A (-4 : Int32) xx xn xm xk v20 hev20) (cwV 1 hts gX1_stutter_X1_refuseFar rfl rfl rfl hd_X1_refuseFar ⟨Nat.le_of_ble_eq_true rfl, Nat.le_of_ble_eq_true rfl⟩) (va_recv hK hP (ci := 1) (q0 := 0) rfl rfl) [0, 1, 2, 3, 4, 5, 6, 7, 8, 9, 10, 11, 12, 13, 14, 15, 16, 17, 18, 19, 20, 21, 22, 23, 24, 25, 26, 27, 28, 29, 30, 31, 32, 33, 34, 35, 36] (by decide) rfl rfl rfl rfl hl.1 rfl (Nat.le_of_ble_eq_true rfl) dX1_stutter_41 ⟨Nat.le_of_ble_eq_true rfl, Nat.le_of_ble_eq_true rfl⟩ (fun H locs hP hD hS => ?_)
          have hP : va_P D vwCl (wX A cI v20.2 xn xm xk) H := hP
          obtain rfl := Option.some.inj hf
          exact W.lret (v := v20.1) hx hb hr (fun t ht hW => ⟨⟨v20.1, (), rfl, rfl, hPt ht hP⟩, hS.F ht⟩) hS.2.2 dX1_stutter_44
    · have hf := hT hf c3
      refine lv_aload_n hx hb dX1_stutter_22 rfl (lv_at hl 0 rfl) ?_
      refine lv_iconst (v := (-1 : Int32)) hx hb dX1_stutter_23 (by decide) ?_
      obtain ⟨v21, hev21, hf⟩ := bS hf
      refine rV_l (ws' := (wX A cI v21.2 xn xm xk)) (As := [.int (-1 : Int32)]) (rest := []) ⟨hx, hb, hml, hown, hts⟩ hK hN hA hP hD hS (c_X1_refuseFar l D cI A (-1 : Int32) xx xn xm xk v21 hev21) (cwV 1 hts gX1_stutter_X1_refuseFar rfl rfl rfl hd_X1_refuseFar ⟨Nat.le_of_ble_eq_true rfl, Nat.le_of_ble_eq_true rfl⟩) (va_recv hK hP (ci := 1) (q0 := 0) rfl rfl) [0, 1, 2, 3, 4, 5, 6, 7, 8, 9, 10, 11, 12, 13, 14, 15, 16, 17, 18, 19, 20, 21, 22, 23, 24, 25, 26, 27, 28, 29, 30, 31, 32, 33, 34, 35, 36] (by decide) rfl rfl rfl rfl hl.1 rfl (Nat.le_of_ble_eq_true rfl) dX1_stutter_24 ⟨Nat.le_of_ble_eq_true rfl, Nat.le_of_ble_eq_true rfl⟩ (fun H locs hP hD hS => ?_)
      have hP : va_P D vwCl (wX A cI v21.2 xn xm xk) H := hP
      obtain rfl := Option.some.inj hf
      exact W.lret (v := v21.1) hx hb hr (fun t ht hW => ⟨⟨v21.1, (), rfl, rfl, hPt ht hP⟩, hS.F ht⟩) hS.2.2 dX1_stutter_27
def L_X1_purseFor_48 (j1 : Int32) (j2 : Int32) (xn : HS) (xk : HS) (K110 : HS → HS → Option (Int32 × HS × HS)) : Nat → Int32 → HS → HS → Option (Int32 × HS × HS)
  | 0, _, _, _ => none
  | n' + 1, j3_48, xx_48, xm_48 => if (99 : Int32) < j3_48 then (K110 xx_48 xm_48) else (f_X0_become xm_48 xn).bind fun v6 => jn (st v6 8 (ptv 6 (v6 8) j1 j3_48)) (fun (xm_v7 : HS) => (f_X0_goOn (1 : Int32) (1 : Int32) xm_v7).bind fun v8 => if (atv 8 (v8.2 4) j2) = j1 then some (j3_48, xx_48, v8.2) else (L_X1_purseFor_48 j1 j2 xn xk K110 n' (j3_48 + (1 : Int32)) xx_48 v8.2))
def f_X1_purseFor (j1 : Int32) (j2 : Int32) (xx : HS) (xn : HS) (xm : HS) (xk : HS) : Option (Int32 × HS × HS) := if (f_X0_hasBidder j1 xn) = 0 then (f_X1_refuse (-1 : Int32) xx xn xm xk).bind fun v2 => some (v2.1, v2.2, xm) else if (f_X0_hasCard j2 xn) = 0 then (f_X1_refuse (-1 : Int32) xx xn xm xk).bind fun v11 => some (v11.1, v11.2, xm) else if (f_X0_inPile j2 xn) = 0 then (f_X1_refuse (-3 : Int32) xx xn xm xk).bind fun v10 => some (v10.1, v10.2, xm) else jn (fun (xx_110 : HS) (xm_110 : HS) => some ((-9 : Int32), xx_110, xm_110)) (fun (K110 : HS → HS → Option (Int32 × HS × HS)) => (L_X1_purseFor_48 j1 j2 xn xk K110 fuel (0 : Int32) xx xm))
set_option maxHeartbeats 4000000 in
set_option maxRecDepth 100000 in
theorem c_X1_purseFor (l : Launch) (D : va_G) (cI : ClassId) (A : Nat → Nat → Nat) (j1 : Int32) (j2 : Int32) (xx : HS) (xn : HS) (xm : HS) (xk : HS) (out : Int32 × HS × HS) (hf : f_X1_purseFor j1 j2 xx xn xm xk = some out) : uI l D cI yX1_purseFor wsX1_purseFor ({ frames := 5, cells := 0, slots := 0, locals := 128 } : Room) [.ref ((A 0) 0), .int j1, .int j2] (wX A cI xx xn xm xk) (wX A cI out.2.1 xn out.2.2 xk) out.1 := by
  intro sz
  refine Met.ofW (cc := cX1_purseFor) (maxL := 4) (ret := (some .int)) (by decide) rfl ?_
  intro p e s m args below meth c s₁ Bd hml hv
  obtain ⟨rfl, hsz, hP, hK, hD0, hN⟩ := hv
  have hx := Bd.exec
  have hb := Bd.bytes
  have hr := Bd.returns
  have hts := atoms_spec (ws := wsX1_purseFor) Bd.pre
  have hown : s.vm.findClass RX1 = some m.cls := findClass_of_methodNamed Bd.named
  have hlocks := Bd.notSynchronized
  subst hsz
  have hD := hD0.self (sz := s.heap.size)
  generalize hAe : va_A (wX A cI xx xn xm xk) s.heap.size = G at hD ⊢
  have hA : ∀ q : Nat, s.heap.size ≤ q → G q := fun q h => by rw [← hAe]; exact Or.inr h
  have hS : va_S G s.heap s.heap [] := va_S.rf
  have hP : va_P D vwCl (wX A cI xx xn xm xk) s.heap := hP
  have hl := lv_entry ([.ref ((A 0) 0), .int j1, .int j2]) (n := 4) (Nat.le_of_ble_eq_true rfl)
  rw [lg_entry_eq]
  generalize (lg_sl ([.ref ((A 0) 0), .int j1, .int j2]) ++ List.replicate (4 - (lg_sl ([.ref ((A 0) 0), .int j1, .int j2])).length) Slot.unset).toArray = ls at hl ⊢
  have hl : lv_has ls 4 [(0, .ref ((A 0) 0)), (1, .int j1), (2, .int j2)] := hl
  have hinH : ∀ w ∈ wsX00, w ∈ wsX1_purseFor := by decide +kernel
  have hinX : ∀ w ∈ wsX10, w ∈ wsX1_purseFor := by decide +kernel
  have lk0 := hts (.fieldLink RX1 10 "LiesBoughtBack" "now" "LLiesBoughtBack$Hall;") (by decide +kernel)
  have lk1 := hts (.initialized RX0) (by decide +kernel)
  have lk2 := hts (.instanceMethod yX0_hasBidder) (by decide +kernel)
  have lk3 := hts (.selects RX0 yX0_hasBidder yX0_hasBidder) (by decide +kernel)
  have lk4 := hts (.instanceMethod yX0_hasCard) (by decide +kernel)
  have lk5 := hts (.selects RX0 yX0_hasCard yX0_hasCard) (by decide +kernel)
  have lk6 := hts (.instanceMethod yX0_inPile) (by decide +kernel)
  have lk7 := hts (.selects RX0 yX0_inPile yX0_inPile) (by decide +kernel)
  have lk8 := hts (.fieldLink RX1 16 "LiesBoughtBack" "mind" "LLiesBoughtBack$Hall;") (by decide +kernel)
  have lk9 := hts (.instanceMethod yX0_become) (by decide +kernel)
  have lk10 := hts (.selects RX0 yX0_become yX0_become) (by decide +kernel)
  have lk11 := hts (.instanceMethod yX0_goOn) (by decide +kernel)
  have lk12 := hts (.selects RX0 yX0_goOn yX0_goOn) (by decide +kernel)
  refine W_in ?_
  intro WW hWW
  refine (hWW _ _ _).mpr ?_
  unfold f_X1_purseFor at hf
  refine lv_aload_n hx hb dX1_purseFor_0 rfl (lv_at hl 0 rfl) ?_
  refine va_get (D := D) (ci := 1) (v := .ref ((A 1) 0)) (C := RX1) (T := TX1) (N := 9) hx hb hts hinX hown hK hP 0 rfl rfl 0 (by decide) lk0 (fun _ h9 => h9) rfl dX1_purseFor_1 ?_
  refine lv_iload_n hx hb dX1_purseFor_4 rfl (lv_at hl 1 rfl) ?_
  refine rVN_io (As := [.int j1]) (rest := []) ⟨hx, hb, hml, hown, hts⟩ hK hN hA hP hD hS (c_X0_hasBidder l D cI (A 1) j1 xn (f_X0_hasBidder j1 xn) rfl) ⟨va_cnB 1 hts gX1_purseFor_X0_hasBidder_n59 rfl rfl rfl (nW.m hN 13 rfl) lk1 hd_X0_hasBidder.2 ⟨Nat.le_of_ble_eq_true rfl, Nat.le_of_ble_eq_true rfl⟩, lk2, lk3⟩ (va_recv hK hP (ci := 0) (q0 := 1) rfl rfl) [1, 2, 3, 4, 5, 6, 7, 8, 9, 10, 11] (by decide) rfl rfl hl.1 rfl (Nat.le_of_ble_eq_true rfl) dX1_purseFor_5 ⟨Nat.le_of_ble_eq_true rfl, Nat.le_of_ble_eq_true rfl⟩ (fun H locs hP hD hS => ?_)
  refine lv_if_eq (tgt := 22) hx hb dX1_purseFor_8 (by decide) (fun c1 => ?_) (fun c1 => ?_)
  · have hf := hT hf c1
    refine lv_aload_n hx hb dX1_purseFor_22 rfl (lv_at hl 0 rfl) ?_
    refine lv_iconst (v := (-1 : Int32)) hx hb dX1_purseFor_23 (by decide) ?_
    obtain ⟨v2, hev2, hf⟩ := bS hf
    refine rV_i (ws' := (wX A cI v2.2 xn xm xk)) (As := [.int (-1 : Int32)]) (rest := []) ⟨hx, hb, hml, hown, hts⟩ hK hN hA hP hD hS (c_X1_refuse l D cI A (-1 : Int32) xx xn xm xk v2 hev2) (cwV 1 hts gX1_purseFor_X1_refuse rfl rfl rfl hd_X1_refuse ⟨Nat.le_of_ble_eq_true rfl, Nat.le_of_ble_eq_true rfl⟩) (va_recv hK hP (ci := 1) (q0 := 0) rfl rfl) [0, 1, 2, 3, 4, 5, 6, 7, 8, 9, 10, 11, 12, 13, 14, 15, 16, 17, 18, 19, 20, 21, 22, 23, 24, 25, 26, 27, 28, 29, 30, 31, 32, 33, 34, 35, 36] (by decide) rfl rfl rfl rfl hl.1 rfl (Nat.le_of_ble_eq_true rfl) dX1_purseFor_24 ⟨Nat.le_of_ble_eq_true rfl, Nat.le_of_ble_eq_true rfl⟩ (fun H locs hP hD hS => ?_)
    have hP : va_P D vwCl (wX A cI v2.2 xn xm xk) H := hP
    obtain rfl := Option.some.inj hf
    exact W.iret (v := v2.1) hx hb hr (fun t ht hW => ⟨⟨v2.1, (), rfl, rfl, hPt ht hP⟩, hS.F ht⟩) hS.2.2 dX1_purseFor_27
  · have hf := hF hf c1
    refine lv_aload_n hx hb dX1_purseFor_11 rfl (lv_at hl 0 rfl) ?_
    refine va_get (D := D) (ci := 1) (v := .ref ((A 1) 0)) (C := RX1) (T := TX1) (N := 9) hx hb hts hinX hown hK hP 0 rfl rfl 0 (by decide) lk0 (fun _ h9 => h9) rfl dX1_purseFor_12 ?_
    refine lv_iload_n hx hb dX1_purseFor_15 rfl (lv_at hl 2 rfl) ?_
    refine rVN_io (As := [.int j2]) (rest := []) ⟨hx, hb, hml, hown, hts⟩ hK hN hA hP hD hS (c_X0_hasCard l D cI (A 1) j2 xn (f_X0_hasCard j2 xn) rfl) ⟨va_cnB 1 hts gX1_purseFor_X0_hasCard_n69 rfl rfl rfl (nW.m hN 14 rfl) lk1 hd_X0_hasCard.2 ⟨Nat.le_of_ble_eq_true rfl, Nat.le_of_ble_eq_true rfl⟩, lk4, lk5⟩ (va_recv hK hP (ci := 0) (q0 := 1) rfl rfl) [1, 2, 3, 4, 5, 6, 7, 8, 9, 10, 11] (by decide) rfl rfl hl.1 rfl (Nat.le_of_ble_eq_true rfl) dX1_purseFor_16 ⟨Nat.le_of_ble_eq_true rfl, Nat.le_of_ble_eq_true rfl⟩ (fun H locs hP hD hS => ?_)
    refine lv_if_ne (tgt := 28) hx hb dX1_purseFor_19 (by decide) (fun c3 => ?_) (fun c3 => ?_)
    · have hf := hF hf c3
      refine lv_aload_n hx hb dX1_purseFor_28 rfl (lv_at hl 0 rfl) ?_
      refine va_get (D := D) (ci := 1) (v := .ref ((A 1) 0)) (C := RX1) (T := TX1) (N := 9) hx hb hts hinX hown hK hP 0 rfl rfl 0 (by decide) lk0 (fun _ h9 => h9) rfl dX1_purseFor_29 ?_
      refine lv_iload_n hx hb dX1_purseFor_32 rfl (lv_at hl 2 rfl) ?_
      refine rVN_io (As := [.int j2]) (rest := []) ⟨hx, hb, hml, hown, hts⟩ hK hN hA hP hD hS (c_X0_inPile l D cI (A 1) j2 xn (f_X0_inPile j2 xn) rfl) ⟨va_cnB 1 hts gX1_purseFor_X0_inPile_n72 rfl rfl rfl (nW.m hN 15 rfl) lk1 hd_X0_inPile.2 ⟨Nat.le_of_ble_eq_true rfl, Nat.le_of_ble_eq_true rfl⟩, lk6, lk7⟩ (va_recv hK hP (ci := 0) (q0 := 1) rfl rfl) [1, 2, 3, 4, 5, 6, 7, 8, 9, 10, 11] (by decide) rfl rfl hl.1 rfl (Nat.le_of_ble_eq_true rfl) dX1_purseFor_33 ⟨Nat.le_of_ble_eq_true rfl, Nat.le_of_ble_eq_true rfl⟩ (fun H locs hP hD hS => ?_)
      refine lv_if_ne (tgt := 46) hx hb dX1_purseFor_36 (by decide) (fun c4 => ?_) (fun c4 => ?_)
      · have hf := hF hf c4
        refine lv_iconst (v := (0 : Int32)) hx hb dX1_purseFor_46 (by decide) ?_
        refine lv_istore_n (lv' := [(3, .int (0 : Int32)), (0, .ref ((A 0) 0)), (1, .int j1), (2, .int j2)]) hx hb dX1_purseFor_47 rfl hl (by decide) rfl (fun ls hl => ?_)
        obtain ⟨K110, hK110, hf⟩ := jnS hf
        have J110 : ∀ (xx_110 : HS) (xm_110 : HS) (H : Heap) (locs : List Loc) (ls : Array Slot), K110 xx_110 xm_110 = some out → va_P D vwCl (wX A cI xx_110 xn xm_110 xk) H → va_D G (wX A cI xx_110 xn xm_110 xk) → va_S G s.heap H locs → lv_has ls 4 [] → WW H locs (F0 m 110 ls []) := by
          intro xx_110 xm_110 H locs ls hf hP hD hS hl
          subst hK110
          refine (hWW _ _ _).mpr ?_
          refine lv_bipush (v := (-9 : Int32)) hx hb dX1_purseFor_110 (by decide) ?_
          obtain rfl := Option.some.inj hf
          exact W.iret (v := (-9 : Int32)) hx hb hr (fun t ht hW => ⟨⟨(-9 : Int32), (), rfl, rfl, hPt ht hP⟩, hS.F ht⟩) hS.2.2 dX1_purseFor_112
        have P48 : ∀ (n' : Nat) (j3_48 : Int32) (xx_48 : HS) (xm_48 : HS) (H : Heap) (locs : List Loc) (ls : Array Slot), L_X1_purseFor_48 j1 j2 xn xk K110 n' j3_48 xx_48 xm_48 = some out → va_P D vwCl (wX A cI xx_48 xn xm_48 xk) H → va_D G (wX A cI xx_48 xn xm_48 xk) → va_S G s.heap H locs → lv_has ls 4 [(0, .ref ((A 0) 0)), (1, .int j1), (2, .int j2), (3, .int j3_48)] → WW H locs (F0 m 48 ls []) := by
          intro n'
          induction n' with
          | zero => intro j3_48 xx_48 xm_48 H locs ls hf; exact absurd (show (none : Option (Int32 × HS × HS)) = some out from hf) (fun q => by cases q)
          | succ n' ih =>
            intro j3_48 xx_48 xm_48 H locs ls hf hP hD hS hl
            rw [L_X1_purseFor_48] at hf
            refine (hWW _ _ _).mpr ?_
            refine lv_iload_n hx hb dX1_purseFor_48 rfl (lv_at hl 3 rfl) ?_
            refine lv_bipush (v := (99 : Int32)) hx hb dX1_purseFor_49 (by decide) ?_
            refine lv_icmp_gt (tgt := 110) hx hb dX1_purseFor_51 (by decide) (fun c5 => ?_) (fun c5 => ?_)
            · have hf := hT hf c5
              exact (hWW _ _ _).mp (J110 _ _ _ _ _ hf hP hD hS (lv_sub hl [] rfl))
            · have hf := hF hf c5
              refine lv_aload_n hx hb dX1_purseFor_54 rfl (lv_at hl 0 rfl) ?_
              refine va_get (D := D) (ci := 1) (v := .ref ((A 2) 0)) (C := RX1) (T := TX1) (N := 9) hx hb hts hinX hown hK hP 0 rfl rfl 1 (by decide) lk8 (fun _ h9 => h9) rfl dX1_purseFor_55 ?_
              refine lv_aload_n hx hb dX1_purseFor_58 rfl (lv_at hl 0 rfl) ?_
              refine va_get (D := D) (ci := 1) (v := .ref ((A 1) 0)) (C := RX1) (T := TX1) (N := 9) hx hb hts hinX hown hK hP 0 rfl rfl 0 (by decide) lk0 (fun _ h9 => h9) rfl dX1_purseFor_59 ?_
              obtain ⟨v6, hev6, hf⟩ := bS hf
              refine rVN_v (ws' := (wX A cI xx_48 xn v6 xk)) (As := [.ref ((A 1) 0)]) (rest := []) ⟨hx, hb, hml, hown, hts⟩ hK hN hA hP hD hS (c_X0_become l D cI (A 2) (A 1) xm_48 xn v6 hev6) ⟨va_cnB 1 hts gX1_purseFor_X0_become_n47 rfl rfl rfl (nW.m hN 1 rfl) lk1 hd_X0_become.2 ⟨Nat.le_of_ble_eq_true rfl, Nat.le_of_ble_eq_true rfl⟩, lk9, lk10⟩ (va_recv hK hP (ci := 0) (q0 := 12) rfl rfl) [12, 13, 14, 15, 16, 17, 18, 19, 20, 21, 22, 1, 2, 3, 4, 5, 6, 7, 8, 9, 10, 11] (by decide) rfl rfl rfl rfl hl.1 rfl (Nat.le_of_ble_eq_true rfl) dX1_purseFor_62 ⟨Nat.le_of_ble_eq_true rfl, Nat.le_of_ble_eq_true rfl⟩ (fun H locs hP hD hS => ?_)
              have hP : va_P D vwCl (wX A cI xx_48 xn v6 xk) H := hP
              refine lv_aload_n hx hb dX1_purseFor_65 rfl (lv_at hl 0 rfl) ?_
              refine va_get (D := D) (ci := 1) (v := .ref ((A 2) 0)) (C := RX1) (T := TX1) (N := 9) hx hb hts hinX hown hK hP 0 rfl rfl 1 (by decide) lk8 (fun _ h9 => h9) rfl dX1_purseFor_66 ?_
              refine va_getN (D := D) (ci := 0) (v := .ref ((A 2) 9)) (C := RX0) (T := TX0) (N := 13) hx hb hts hinH hown hK hP 12 rfl rfl 11 (by decide) (nW.f hN 10 rfl) (fun _ h9 => h9) rfl dX1_purseFor_69 ?_
              refine lv_iload_n hx hb dX1_purseFor_72 rfl (lv_at hl 1 rfl) ?_
              refine lv_iload_n hx hb dX1_purseFor_73 rfl (lv_at hl 3 rfl) ?_
              obtain ⟨xm_v7, exm_v7, hf⟩ := jnS hf
              refine rS_v (ws' := (wX A cI xx_48 xn xm_v7 xk)) (As := [.ref ((A 2) 9), .int j1, .int j3_48]) (rest := []) ⟨hx, hb, hml, hown, hts⟩ hK hN hA hP hD hS (c_X1_put l D cI 6 (by decide) ((A 2) 9) (v6 8) j1 j3_48) (va_cwS 3 hts gX1_purseFor_X1_put rfl rfl rfl hd_X1_put.2 ⟨Nat.le_of_ble_eq_true rfl, Nat.le_of_ble_eq_true rfl⟩) [21] (by decide) rfl rfl ((sa_X1_m_8 A cI xx_48 xn v6 xk (ptv 6 (v6 8) j1 j3_48)).trans (congrArg (fun z => wX A cI xx_48 xn z xk) exm_v7.symm)) rfl hl.1 rfl (Nat.le_of_ble_eq_true rfl) dX1_purseFor_74 ⟨Nat.le_of_ble_eq_true rfl, Nat.le_of_ble_eq_true rfl⟩ (fun H locs hP hD hS => ?_)
              refine lv_aload_n hx hb dX1_purseFor_77 rfl (lv_at hl 0 rfl) ?_
              refine va_get (D := D) (ci := 1) (v := .ref ((A 2) 0)) (C := RX1) (T := TX1) (N := 9) hx hb hts hinX hown hK hP 0 rfl rfl 1 (by decide) lk8 (fun _ h9 => h9) rfl dX1_purseFor_78 ?_
              refine lv_iconst (v := (1 : Int32)) hx hb dX1_purseFor_81 (by decide) ?_
              refine lv_iconst (v := (1 : Int32)) hx hb dX1_purseFor_82 (by decide) ?_
              obtain ⟨v8, hev8, hf⟩ := bS hf
              refine rVN_i (ws' := (wX A cI xx_48 xn v8.2 xk)) (As := [.int (1 : Int32), .int (1 : Int32)]) (rest := []) ⟨hx, hb, hml, hown, hts⟩ hK hN hA hP hD hS (c_X0_goOn l D cI (A 2) (1 : Int32) (1 : Int32) xm_v7 v8 hev8) ⟨va_cnB 2 hts gX1_purseFor_X0_goOn_n97 rfl rfl rfl (nW.m hN 12 rfl) lk1 hd_X0_goOn.2 ⟨Nat.le_of_ble_eq_true rfl, Nat.le_of_ble_eq_true rfl⟩, lk11, lk12⟩ (va_recv hK hP (ci := 0) (q0 := 12) rfl rfl) [12, 13, 14, 15, 16, 17, 18, 19, 20, 21, 22] (by decide) rfl rfl rfl rfl hl.1 rfl (Nat.le_of_ble_eq_true rfl) dX1_purseFor_83 ⟨Nat.le_of_ble_eq_true rfl, Nat.le_of_ble_eq_true rfl⟩ (fun H locs hP hD hS => ?_)
              have hP : va_P D vwCl (wX A cI xx_48 xn v8.2 xk) H := hP
              refine lv_pop hx hb dX1_purseFor_86 rfl ?_
              refine lv_aload_n hx hb dX1_purseFor_87 rfl (lv_at hl 0 rfl) ?_
              refine va_get (D := D) (ci := 1) (v := .ref ((A 2) 0)) (C := RX1) (T := TX1) (N := 9) hx hb hts hinX hown hK hP 0 rfl rfl 1 (by decide) lk8 (fun _ h9 => h9) rfl dX1_purseFor_88 ?_
              refine va_getN (D := D) (ci := 0) (v := .ref ((A 2) 5)) (C := RX0) (T := TX0) (N := 13) hx hb hts hinH hown hK hP 12 rfl rfl 7 (by decide) (nW.f hN 7 rfl) (fun _ h9 => h9) rfl dX1_purseFor_91 ?_
              refine lv_iload_n hx hb dX1_purseFor_94 rfl (lv_at hl 2 rfl) ?_
              refine rS_io (As := [.ref ((A 2) 5), .int j2]) (rest := []) ⟨hx, hb, hml, hown, hts⟩ hK hN hA hP hD hS (c_X1_at l D cI 8 (by decide) ((A 2) 5) (v8.2 4) j2) (va_cwS 2 hts gX1_purseFor_X1_at rfl rfl rfl hd_X1_at.2 ⟨Nat.le_of_ble_eq_true rfl, Nat.le_of_ble_eq_true rfl⟩) [17] (by decide) rfl rfl hl.1 rfl (Nat.le_of_ble_eq_true rfl) dX1_purseFor_95 ⟨Nat.le_of_ble_eq_true rfl, Nat.le_of_ble_eq_true rfl⟩ (fun H locs hP hD hS => ?_)
              refine lv_iload_n hx hb dX1_purseFor_98 rfl (lv_at hl 1 rfl) ?_
              refine lv_icmp_ne (tgt := 104) hx hb dX1_purseFor_99 (by decide) (fun c9 => ?_) (fun c9 => ?_)
              · have hf := hF hf c9
                refine lv_iinc (v := (j3_48 + (1 : Int32))) (lv' := [(3, .int (j3_48 + (1 : Int32))), (0, .ref ((A 0) 0)), (1, .int j1), (2, .int j2)]) hx hb dX1_purseFor_104 hl (k := 3) rfl rfl (by decide) rfl (fun ls hl => ?_)
                refine lv_goto (tgt := 48) hx hb dX1_purseFor_107 (by decide) ?_
                exact (hWW _ _ _).mp (ih _ _ _ _ _ _ hf hP hD hS (lv_sub hl [1, 2, 3, 0] rfl))
              · have hf := hT hf c9
                refine lv_iload_n hx hb dX1_purseFor_102 rfl (lv_at hl 3 rfl) ?_
                obtain rfl := Option.some.inj hf
                exact W.iret (v := j3_48) hx hb hr (fun t ht hW => ⟨⟨j3_48, (), rfl, rfl, hPt ht hP⟩, hS.F ht⟩) hS.2.2 dX1_purseFor_103
        exact (hWW _ _ _).mp (P48 _ _ _ _ _ _ _ hf hP hD hS (lv_sub hl [1, 2, 3, 0] rfl))
      · have hf := hT hf c4
        refine lv_aload_n hx hb dX1_purseFor_39 rfl (lv_at hl 0 rfl) ?_
        refine lv_bipush (v := (-3 : Int32)) hx hb dX1_purseFor_40 (by decide) ?_
        obtain ⟨v10, hev10, hf⟩ := bS hf
        refine rV_i (ws' := (wX A cI v10.2 xn xm xk)) (As := [.int (-3 : Int32)]) (rest := []) ⟨hx, hb, hml, hown, hts⟩ hK hN hA hP hD hS (c_X1_refuse l D cI A (-3 : Int32) xx xn xm xk v10 hev10) (cwV 1 hts gX1_purseFor_X1_refuse rfl rfl rfl hd_X1_refuse ⟨Nat.le_of_ble_eq_true rfl, Nat.le_of_ble_eq_true rfl⟩) (va_recv hK hP (ci := 1) (q0 := 0) rfl rfl) [0, 1, 2, 3, 4, 5, 6, 7, 8, 9, 10, 11, 12, 13, 14, 15, 16, 17, 18, 19, 20, 21, 22, 23, 24, 25, 26, 27, 28, 29, 30, 31, 32, 33, 34, 35, 36] (by decide) rfl rfl rfl rfl hl.1 rfl (Nat.le_of_ble_eq_true rfl) dX1_purseFor_42 ⟨Nat.le_of_ble_eq_true rfl, Nat.le_of_ble_eq_true rfl⟩ (fun H locs hP hD hS => ?_)
        have hP : va_P D vwCl (wX A cI v10.2 xn xm xk) H := hP
        obtain rfl := Option.some.inj hf
        exact W.iret (v := v10.1) hx hb hr (fun t ht hW => ⟨⟨v10.1, (), rfl, rfl, hPt ht hP⟩, hS.F ht⟩) hS.2.2 dX1_purseFor_45
    · have hf := hT hf c3
      refine lv_aload_n hx hb dX1_purseFor_22 rfl (lv_at hl 0 rfl) ?_
      refine lv_iconst (v := (-1 : Int32)) hx hb dX1_purseFor_23 (by decide) ?_
      obtain ⟨v11, hev11, hf⟩ := bS hf
      refine rV_i (ws' := (wX A cI v11.2 xn xm xk)) (As := [.int (-1 : Int32)]) (rest := []) ⟨hx, hb, hml, hown, hts⟩ hK hN hA hP hD hS (c_X1_refuse l D cI A (-1 : Int32) xx xn xm xk v11 hev11) (cwV 1 hts gX1_purseFor_X1_refuse rfl rfl rfl hd_X1_refuse ⟨Nat.le_of_ble_eq_true rfl, Nat.le_of_ble_eq_true rfl⟩) (va_recv hK hP (ci := 1) (q0 := 0) rfl rfl) [0, 1, 2, 3, 4, 5, 6, 7, 8, 9, 10, 11, 12, 13, 14, 15, 16, 17, 18, 19, 20, 21, 22, 23, 24, 25, 26, 27, 28, 29, 30, 31, 32, 33, 34, 35, 36] (by decide) rfl rfl rfl rfl hl.1 rfl (Nat.le_of_ble_eq_true rfl) dX1_purseFor_24 ⟨Nat.le_of_ble_eq_true rfl, Nat.le_of_ble_eq_true rfl⟩ (fun H locs hP hD hS => ?_)
      have hP : va_P D vwCl (wX A cI v11.2 xn xm xk) H := hP
      obtain rfl := Option.some.inj hf
      exact W.iret (v := v11.1) hx hb hr (fun t ht hW => ⟨⟨v11.1, (), rfl, rfl, hPt ht hP⟩, hS.F ht⟩) hS.2.2 dX1_purseFor_27
def L_X1_first_76 (j1 : Int32) (j2 : Int32) (xn : HS) (xk : HS) (K159 : Int32 → HS → HS → Option (Int32 × HS × HS)) : Nat → Int32 → Int32 → Int32 → HS → HS → Option (Int32 × HS × HS)
  | 0, _, _, _, _, _ => none
  | n' + 1, j3_76, j4_76, j5_76, xx_76, xm_76 => if (xn 10 0) ≤ j5_76 then (K159 j4_76 xx_76 xm_76) else if (f_X0_inPile j5_76 xn) = 0 then (L_X1_first_76 j1 j2 xn xk K159 n' j3_76 j4_76 (j5_76 + (1 : Int32)) xx_76 xm_76) else (f_X0_become xm_76 xn).bind fun v8 => (f_X0_toFront j5_76 v8).bind fun v9 => (f_X0_goOn j2 (1 : Int32) v9).bind fun v10 => (f_X0_heldBy j1 v10.2).bind fun v11 => if v11 ≤ j3_76 then (L_X1_first_76 j1 j2 xn xk K159 n' j3_76 j4_76 (j5_76 + (1 : Int32)) xx_76 v10.2) else (L_X1_first_76 j1 j2 xn xk K159 n' v11 j5_76 (j5_76 + (1 : Int32)) xx_76 v10.2)
def f_X1_first (j1 : Int32) (j2 : Int32) (xx : HS) (xn : HS) (xm : HS) (xk : HS) : Option (Int32 × HS × HS) := if (f_X0_hasBidder j1 xn) = 0 then (f_X1_refuse (-1 : Int32) xx xn xm xk).bind fun v14 => some (v14.1, v14.2, xm) else if (f_X1_beyond j2 (0 : Int32) (20 : Int32)) = 0 then (f_X0_become xm xn).bind fun v3 => (f_X0_goOn j2 (1 : Int32) v3).bind fun v4 => (f_X0_heldBy j1 v4.2).bind fun v5 => jn (fun (j4_159 : Int32) (xx_159 : HS) (xm_159 : HS) => some (j4_159, xx_159, xm_159)) (fun (K159 : Int32 → HS → HS → Option (Int32 × HS × HS)) => (L_X1_first_76 j1 j2 xn xk K159 fuel v5 (-9 : Int32) (0 : Int32) xx v4.2)) else (f_X1_refuse (f_X1_beyond j2 (0 : Int32) (20 : Int32)) xx xn xm xk).bind fun v13 => some (v13.1, v13.2, xm)
set_option maxHeartbeats 4000000 in
set_option maxRecDepth 100000 in
theorem c_X1_first (l : Launch) (D : va_G) (cI : ClassId) (A : Nat → Nat → Nat) (j1 : Int32) (j2 : Int32) (xx : HS) (xn : HS) (xm : HS) (xk : HS) (out : Int32 × HS × HS) (hf : f_X1_first j1 j2 xx xn xm xk = some out) : uI l D cI yX1_first wsX1_first ({ frames := 5, cells := 0, slots := 0, locals := 128 } : Room) [.ref ((A 0) 0), .int j1, .int j2] (wX A cI xx xn xm xk) (wX A cI out.2.1 xn out.2.2 xk) out.1 := by
  intro sz
  refine Met.ofW (cc := cX1_first) (maxL := 7) (ret := (some .int)) (by decide) rfl ?_
  intro p e s m args below meth c s₁ Bd hml hv
  obtain ⟨rfl, hsz, hP, hK, hD0, hN⟩ := hv
  have hx := Bd.exec
  have hb := Bd.bytes
  have hr := Bd.returns
  have hts := atoms_spec (ws := wsX1_first) Bd.pre
  have hown : s.vm.findClass RX1 = some m.cls := findClass_of_methodNamed Bd.named
  have hlocks := Bd.notSynchronized
  subst hsz
  have hD := hD0.self (sz := s.heap.size)
  generalize hAe : va_A (wX A cI xx xn xm xk) s.heap.size = G at hD ⊢
  have hA : ∀ q : Nat, s.heap.size ≤ q → G q := fun q h => by rw [← hAe]; exact Or.inr h
  have hS : va_S G s.heap s.heap [] := va_S.rf
  have hP : va_P D vwCl (wX A cI xx xn xm xk) s.heap := hP
  have hl := lv_entry ([.ref ((A 0) 0), .int j1, .int j2]) (n := 7) (Nat.le_of_ble_eq_true rfl)
  rw [lg_entry_eq]
  generalize (lg_sl ([.ref ((A 0) 0), .int j1, .int j2]) ++ List.replicate (7 - (lg_sl ([.ref ((A 0) 0), .int j1, .int j2])).length) Slot.unset).toArray = ls at hl ⊢
  have hl : lv_has ls 7 [(0, .ref ((A 0) 0)), (1, .int j1), (2, .int j2)] := hl
  have hinH : ∀ w ∈ wsX00, w ∈ wsX1_first := by decide +kernel
  have hinX : ∀ w ∈ wsX10, w ∈ wsX1_first := by decide +kernel
  have lk0 := hts (.fieldLink RX1 10 "LiesBoughtBack" "now" "LLiesBoughtBack$Hall;") (by decide +kernel)
  have lk1 := hts (.initialized RX0) (by decide +kernel)
  have lk2 := hts (.instanceMethod yX0_hasBidder) (by decide +kernel)
  have lk3 := hts (.selects RX0 yX0_hasBidder yX0_hasBidder) (by decide +kernel)
  have lk4 := hts (.fieldLink RX1 16 "LiesBoughtBack" "mind" "LLiesBoughtBack$Hall;") (by decide +kernel)
  have lk5 := hts (.instanceMethod yX0_become) (by decide +kernel)
  have lk6 := hts (.selects RX0 yX0_become yX0_become) (by decide +kernel)
  have lk7 := hts (.instanceMethod yX0_goOn) (by decide +kernel)
  have lk8 := hts (.selects RX0 yX0_goOn yX0_goOn) (by decide +kernel)
  have lk9 := hts (.instanceMethod yX0_heldBy) (by decide +kernel)
  have lk10 := hts (.selects RX0 yX0_heldBy yX0_heldBy) (by decide +kernel)
  have lk11 := hts (.instanceMethod yX0_inPile) (by decide +kernel)
  have lk12 := hts (.selects RX0 yX0_inPile yX0_inPile) (by decide +kernel)
  have lk13 := hts (.instanceMethod yX0_toFront) (by decide +kernel)
  have lk14 := hts (.selects RX0 yX0_toFront yX0_toFront) (by decide +kernel)
  refine W_in ?_
  intro WW hWW
  refine (hWW _ _ _).mpr ?_
  unfold f_X1_first at hf
  refine lv_aload_n hx hb dX1_first_0 rfl (lv_at hl 0 rfl) ?_
  refine va_get (D := D) (ci := 1) (v := .ref ((A 1) 0)) (C := RX1) (T := TX1) (N := 9) hx hb hts hinX hown hK hP 0 rfl rfl 0 (by decide) lk0 (fun _ h9 => h9) rfl dX1_first_1 ?_
  refine lv_iload_n hx hb dX1_first_4 rfl (lv_at hl 1 rfl) ?_
  refine rVN_io (As := [.int j1]) (rest := []) ⟨hx, hb, hml, hown, hts⟩ hK hN hA hP hD hS (c_X0_hasBidder l D cI (A 1) j1 xn (f_X0_hasBidder j1 xn) rfl) ⟨va_cnB 1 hts gX1_first_X0_hasBidder_n59 rfl rfl rfl (nW.m hN 13 rfl) lk1 hd_X0_hasBidder.2 ⟨Nat.le_of_ble_eq_true rfl, Nat.le_of_ble_eq_true rfl⟩, lk2, lk3⟩ (va_recv hK hP (ci := 0) (q0 := 1) rfl rfl) [1, 2, 3, 4, 5, 6, 7, 8, 9, 10, 11] (by decide) rfl rfl hl.1 rfl (Nat.le_of_ble_eq_true rfl) dX1_first_5 ⟨Nat.le_of_ble_eq_true rfl, Nat.le_of_ble_eq_true rfl⟩ (fun H locs hP hD hS => ?_)
  refine lv_if_ne (tgt := 17) hx hb dX1_first_8 (by decide) (fun c1 => ?_) (fun c1 => ?_)
  · have hf := hF hf c1
    refine lv_iload_n hx hb dX1_first_17 rfl (lv_at hl 2 rfl) ?_
    refine lv_iconst (v := (0 : Int32)) hx hb dX1_first_18 (by decide) ?_
    refine lv_bipush (v := (20 : Int32)) hx hb dX1_first_19 (by decide) ?_
    refine rS_io (As := [.int j2, .int (0 : Int32), .int (20 : Int32)]) (rest := []) ⟨hx, hb, hml, hown, hts⟩ hK hN hA hP hD hS (c_X1_beyond l D cI j2 (0 : Int32) (20 : Int32) (f_X1_beyond j2 (0 : Int32) (20 : Int32)) rfl) (va_cwS 3 hts gX1_first_X1_beyond rfl rfl rfl hd_X1_beyond.2 ⟨Nat.le_of_ble_eq_true rfl, Nat.le_of_ble_eq_true rfl⟩) [] (by decide) rfl rfl hl.1 rfl (Nat.le_of_ble_eq_true rfl) dX1_first_21 ⟨Nat.le_of_ble_eq_true rfl, Nat.le_of_ble_eq_true rfl⟩ (fun H locs hP hD hS => ?_)
    refine lv_if_eq (tgt := 39) hx hb dX1_first_24 (by decide) (fun c2 => ?_) (fun c2 => ?_)
    · have hf := hT hf c2
      refine lv_aload_n hx hb dX1_first_39 rfl (lv_at hl 0 rfl) ?_
      refine va_get (D := D) (ci := 1) (v := .ref ((A 2) 0)) (C := RX1) (T := TX1) (N := 9) hx hb hts hinX hown hK hP 0 rfl rfl 1 (by decide) lk4 (fun _ h9 => h9) rfl dX1_first_40 ?_
      refine lv_aload_n hx hb dX1_first_43 rfl (lv_at hl 0 rfl) ?_
      refine va_get (D := D) (ci := 1) (v := .ref ((A 1) 0)) (C := RX1) (T := TX1) (N := 9) hx hb hts hinX hown hK hP 0 rfl rfl 0 (by decide) lk0 (fun _ h9 => h9) rfl dX1_first_44 ?_
      obtain ⟨v3, hev3, hf⟩ := bS hf
      refine rVN_v (ws' := (wX A cI xx xn v3 xk)) (As := [.ref ((A 1) 0)]) (rest := []) ⟨hx, hb, hml, hown, hts⟩ hK hN hA hP hD hS (c_X0_become l D cI (A 2) (A 1) xm xn v3 hev3) ⟨va_cnB 1 hts gX1_first_X0_become_n47 rfl rfl rfl (nW.m hN 1 rfl) lk1 hd_X0_become.2 ⟨Nat.le_of_ble_eq_true rfl, Nat.le_of_ble_eq_true rfl⟩, lk5, lk6⟩ (va_recv hK hP (ci := 0) (q0 := 12) rfl rfl) [12, 13, 14, 15, 16, 17, 18, 19, 20, 21, 22, 1, 2, 3, 4, 5, 6, 7, 8, 9, 10, 11] (by decide) rfl rfl rfl rfl hl.1 rfl (Nat.le_of_ble_eq_true rfl) dX1_first_47 ⟨Nat.le_of_ble_eq_true rfl, Nat.le_of_ble_eq_true rfl⟩ (fun H locs hP hD hS => ?_)
      have hP : va_P D vwCl (wX A cI xx xn v3 xk) H := hP
      refine lv_aload_n hx hb dX1_first_50 rfl (lv_at hl 0 rfl) ?_
      refine va_get (D := D) (ci := 1) (v := .ref ((A 2) 0)) (C := RX1) (T := TX1) (N := 9) hx hb hts hinX hown hK hP 0 rfl rfl 1 (by decide) lk4 (fun _ h9 => h9) rfl dX1_first_51 ?_
      refine lv_iload_n hx hb dX1_first_54 rfl (lv_at hl 2 rfl) ?_
      refine lv_iconst (v := (1 : Int32)) hx hb dX1_first_55 (by decide) ?_
      obtain ⟨v4, hev4, hf⟩ := bS hf
      refine rVN_i (ws' := (wX A cI xx xn v4.2 xk)) (As := [.int j2, .int (1 : Int32)]) (rest := []) ⟨hx, hb, hml, hown, hts⟩ hK hN hA hP hD hS (c_X0_goOn l D cI (A 2) j2 (1 : Int32) v3 v4 hev4) ⟨va_cnB 2 hts gX1_first_X0_goOn_n97 rfl rfl rfl (nW.m hN 12 rfl) lk1 hd_X0_goOn.2 ⟨Nat.le_of_ble_eq_true rfl, Nat.le_of_ble_eq_true rfl⟩, lk7, lk8⟩ (va_recv hK hP (ci := 0) (q0 := 12) rfl rfl) [12, 13, 14, 15, 16, 17, 18, 19, 20, 21, 22] (by decide) rfl rfl rfl rfl hl.1 rfl (Nat.le_of_ble_eq_true rfl) dX1_first_56 ⟨Nat.le_of_ble_eq_true rfl, Nat.le_of_ble_eq_true rfl⟩ (fun H locs hP hD hS => ?_)
      have hP : va_P D vwCl (wX A cI xx xn v4.2 xk) H := hP
      refine lv_pop hx hb dX1_first_59 rfl ?_
      refine lv_aload_n hx hb dX1_first_60 rfl (lv_at hl 0 rfl) ?_
      refine va_get (D := D) (ci := 1) (v := .ref ((A 2) 0)) (C := RX1) (T := TX1) (N := 9) hx hb hts hinX hown hK hP 0 rfl rfl 1 (by decide) lk4 (fun _ h9 => h9) rfl dX1_first_61 ?_
      refine lv_iload_n hx hb dX1_first_64 rfl (lv_at hl 1 rfl) ?_
      obtain ⟨v5, hev5, hf⟩ := bS hf
      refine rVN_io (As := [.int j1]) (rest := []) ⟨hx, hb, hml, hown, hts⟩ hK hN hA hP hD hS (c_X0_heldBy l D cI (A 2) j1 v4.2 v5 hev5) ⟨va_cnB 1 hts gX1_first_X0_heldBy_n190 rfl rfl rfl (nW.m hN 33 rfl) lk1 hd_X0_heldBy.2 ⟨Nat.le_of_ble_eq_true rfl, Nat.le_of_ble_eq_true rfl⟩, lk9, lk10⟩ (va_recv hK hP (ci := 0) (q0 := 12) rfl rfl) [12, 13, 14, 15, 16, 17, 18, 19, 20, 21, 22] (by decide) rfl rfl hl.1 rfl (Nat.le_of_ble_eq_true rfl) dX1_first_65 ⟨Nat.le_of_ble_eq_true rfl, Nat.le_of_ble_eq_true rfl⟩ (fun H locs hP hD hS => ?_)
      refine lv_istore_n (lv' := [(3, .int v5), (0, .ref ((A 0) 0)), (1, .int j1), (2, .int j2)]) hx hb dX1_first_68 rfl hl (by decide) rfl (fun ls hl => ?_)
      refine lv_bipush (v := (-9 : Int32)) hx hb dX1_first_69 (by decide) ?_
      refine lv_istore (lv' := [(4, .int (-9 : Int32)), (3, .int v5), (0, .ref ((A 0) 0)), (1, .int j1), (2, .int j2)]) hx hb dX1_first_71 hl (by decide) rfl (fun ls hl => ?_)
      refine lv_iconst (v := (0 : Int32)) hx hb dX1_first_73 (by decide) ?_
      refine lv_istore (lv' := [(5, .int (0 : Int32)), (4, .int (-9 : Int32)), (3, .int v5), (0, .ref ((A 0) 0)), (1, .int j1), (2, .int j2)]) hx hb dX1_first_74 hl (by decide) rfl (fun ls hl => ?_)
      obtain ⟨K159, hK159, hf⟩ := jnS hf
      have J159 : ∀ (j4_159 : Int32) (xx_159 : HS) (xm_159 : HS) (H : Heap) (locs : List Loc) (ls : Array Slot), K159 j4_159 xx_159 xm_159 = some out → va_P D vwCl (wX A cI xx_159 xn xm_159 xk) H → va_D G (wX A cI xx_159 xn xm_159 xk) → va_S G s.heap H locs → lv_has ls 7 [(4, .int j4_159)] → WW H locs (F0 m 159 ls []) := by
        intro j4_159 xx_159 xm_159 H locs ls hf hP hD hS hl
        subst hK159
        refine (hWW _ _ _).mpr ?_
        refine lv_iload hx hb dX1_first_159 (lv_at hl 0 rfl) ?_
        obtain rfl := Option.some.inj hf
        exact W.iret (v := j4_159) hx hb hr (fun t ht hW => ⟨⟨j4_159, (), rfl, rfl, hPt ht hP⟩, hS.F ht⟩) hS.2.2 dX1_first_161
      have P76 : ∀ (n' : Nat) (j3_76 : Int32) (j4_76 : Int32) (j5_76 : Int32) (xx_76 : HS) (xm_76 : HS) (H : Heap) (locs : List Loc) (ls : Array Slot), L_X1_first_76 j1 j2 xn xk K159 n' j3_76 j4_76 j5_76 xx_76 xm_76 = some out → va_P D vwCl (wX A cI xx_76 xn xm_76 xk) H → va_D G (wX A cI xx_76 xn xm_76 xk) → va_S G s.heap H locs → lv_has ls 7 [(0, .ref ((A 0) 0)), (1, .int j1), (2, .int j2), (3, .int j3_76), (4, .int j4_76), (5, .int j5_76)] → WW H locs (F0 m 76 ls []) := by
        intro n'
        induction n' with
        | zero => intro j3_76 j4_76 j5_76 xx_76 xm_76 H locs ls hf; exact absurd (show (none : Option (Int32 × HS × HS)) = some out from hf) (fun q => by cases q)
        | succ n' ih =>
          intro j3_76 j4_76 j5_76 xx_76 xm_76 H locs ls hf hP hD hS hl
          rw [L_X1_first_76] at hf
          refine (hWW _ _ _).mpr ?_
          refine lv_iload hx hb dX1_first_76 (lv_at hl 5 rfl) ?_
          refine lv_aload_n hx hb dX1_first_78 rfl (lv_at hl 0 rfl) ?_
          refine va_get (D := D) (ci := 1) (v := .ref ((A 1) 0)) (C := RX1) (T := TX1) (N := 9) hx hb hts hinX hown hK hP 0 rfl rfl 0 (by decide) lk0 (fun _ h9 => h9) rfl dX1_first_79 ?_
          refine va_getN (D := D) (ci := 0) (v := .int (xn 10 0)) (C := RX0) (T := TX0) (N := 13) hx hb hts hinH hown hK hP 1 rfl rfl 0 (by decide) (nW.f hN 0 rfl) (fun _ h9 => h9) rfl dX1_first_82 ?_
          refine lv_icmp_ge (tgt := 159) hx hb dX1_first_85 (by decide) (fun c6 => ?_) (fun c6 => ?_)
          · have hf := hT hf c6
            exact (hWW _ _ _).mp (J159 _ _ _ _ _ _ hf hP hD hS (lv_sub hl [4] rfl))
          · have hf := hF hf c6
            refine lv_aload_n hx hb dX1_first_88 rfl (lv_at hl 0 rfl) ?_
            refine va_get (D := D) (ci := 1) (v := .ref ((A 1) 0)) (C := RX1) (T := TX1) (N := 9) hx hb hts hinX hown hK hP 0 rfl rfl 0 (by decide) lk0 (fun _ h9 => h9) rfl dX1_first_89 ?_
            refine lv_iload hx hb dX1_first_92 (lv_at hl 5 rfl) ?_
            refine rVN_io (As := [.int j5_76]) (rest := []) ⟨hx, hb, hml, hown, hts⟩ hK hN hA hP hD hS (c_X0_inPile l D cI (A 1) j5_76 xn (f_X0_inPile j5_76 xn) rfl) ⟨va_cnB 1 hts gX1_first_X0_inPile_n72 rfl rfl rfl (nW.m hN 15 rfl) lk1 hd_X0_inPile.2 ⟨Nat.le_of_ble_eq_true rfl, Nat.le_of_ble_eq_true rfl⟩, lk11, lk12⟩ (va_recv hK hP (ci := 0) (q0 := 1) rfl rfl) [1, 2, 3, 4, 5, 6, 7, 8, 9, 10, 11] (by decide) rfl rfl hl.1 rfl (Nat.le_of_ble_eq_true rfl) dX1_first_94 ⟨Nat.le_of_ble_eq_true rfl, Nat.le_of_ble_eq_true rfl⟩ (fun H locs hP hD hS => ?_)
            refine lv_if_eq (tgt := 153) hx hb dX1_first_97 (by decide) (fun c7 => ?_) (fun c7 => ?_)
            · have hf := hT hf c7
              refine lv_iinc (v := (j5_76 + (1 : Int32))) (lv' := [(5, .int (j5_76 + (1 : Int32))), (0, .ref ((A 0) 0)), (1, .int j1), (2, .int j2), (3, .int j3_76), (4, .int j4_76)]) hx hb dX1_first_153 hl (k := 5) rfl rfl (by decide) rfl (fun ls hl => ?_)
              refine lv_goto (tgt := 76) hx hb dX1_first_156 (by decide) ?_
              exact (hWW _ _ _).mp (ih _ _ _ _ _ _ _ _ hf hP hD hS (lv_sub hl [1, 2, 3, 4, 5, 0] rfl))
            · have hf := hF hf c7
              refine lv_aload_n hx hb dX1_first_100 rfl (lv_at hl 0 rfl) ?_
              refine va_get (D := D) (ci := 1) (v := .ref ((A 2) 0)) (C := RX1) (T := TX1) (N := 9) hx hb hts hinX hown hK hP 0 rfl rfl 1 (by decide) lk4 (fun _ h9 => h9) rfl dX1_first_101 ?_
              refine lv_aload_n hx hb dX1_first_104 rfl (lv_at hl 0 rfl) ?_
              refine va_get (D := D) (ci := 1) (v := .ref ((A 1) 0)) (C := RX1) (T := TX1) (N := 9) hx hb hts hinX hown hK hP 0 rfl rfl 0 (by decide) lk0 (fun _ h9 => h9) rfl dX1_first_105 ?_
              obtain ⟨v8, hev8, hf⟩ := bS hf
              refine rVN_v (ws' := (wX A cI xx_76 xn v8 xk)) (As := [.ref ((A 1) 0)]) (rest := []) ⟨hx, hb, hml, hown, hts⟩ hK hN hA hP hD hS (c_X0_become l D cI (A 2) (A 1) xm_76 xn v8 hev8) ⟨va_cnB 1 hts gX1_first_X0_become_n47 rfl rfl rfl (nW.m hN 1 rfl) lk1 hd_X0_become.2 ⟨Nat.le_of_ble_eq_true rfl, Nat.le_of_ble_eq_true rfl⟩, lk5, lk6⟩ (va_recv hK hP (ci := 0) (q0 := 12) rfl rfl) [12, 13, 14, 15, 16, 17, 18, 19, 20, 21, 22, 1, 2, 3, 4, 5, 6, 7, 8, 9, 10, 11] (by decide) rfl rfl rfl rfl hl.1 rfl (Nat.le_of_ble_eq_true rfl) dX1_first_108 ⟨Nat.le_of_ble_eq_true rfl, Nat.le_of_ble_eq_true rfl⟩ (fun H locs hP hD hS => ?_)
              have hP : va_P D vwCl (wX A cI xx_76 xn v8 xk) H := hP
              refine lv_aload_n hx hb dX1_first_111 rfl (lv_at hl 0 rfl) ?_
              refine va_get (D := D) (ci := 1) (v := .ref ((A 2) 0)) (C := RX1) (T := TX1) (N := 9) hx hb hts hinX hown hK hP 0 rfl rfl 1 (by decide) lk4 (fun _ h9 => h9) rfl dX1_first_112 ?_
              refine lv_iload hx hb dX1_first_115 (lv_at hl 5 rfl) ?_
              obtain ⟨v9, hev9, hf⟩ := bS hf
              refine rVN_v (ws' := (wX A cI xx_76 xn v9 xk)) (As := [.int j5_76]) (rest := []) ⟨hx, hb, hml, hown, hts⟩ hK hN hA hP hD hS (c_X0_toFront l D cI (A 2) j5_76 v8 v9 hev9) ⟨va_cnB 1 hts gX1_first_X0_toFront_n193 rfl rfl rfl (nW.m hN 34 rfl) lk1 hd_X0_toFront.2 ⟨Nat.le_of_ble_eq_true rfl, Nat.le_of_ble_eq_true rfl⟩, lk13, lk14⟩ (va_recv hK hP (ci := 0) (q0 := 12) rfl rfl) [12, 13, 14, 15, 16, 17, 18, 19, 20, 21, 22] (by decide) rfl rfl rfl rfl hl.1 rfl (Nat.le_of_ble_eq_true rfl) dX1_first_117 ⟨Nat.le_of_ble_eq_true rfl, Nat.le_of_ble_eq_true rfl⟩ (fun H locs hP hD hS => ?_)
              have hP : va_P D vwCl (wX A cI xx_76 xn v9 xk) H := hP
              refine lv_aload_n hx hb dX1_first_120 rfl (lv_at hl 0 rfl) ?_
              refine va_get (D := D) (ci := 1) (v := .ref ((A 2) 0)) (C := RX1) (T := TX1) (N := 9) hx hb hts hinX hown hK hP 0 rfl rfl 1 (by decide) lk4 (fun _ h9 => h9) rfl dX1_first_121 ?_
              refine lv_iload_n hx hb dX1_first_124 rfl (lv_at hl 2 rfl) ?_
              refine lv_iconst (v := (1 : Int32)) hx hb dX1_first_125 (by decide) ?_
              obtain ⟨v10, hev10, hf⟩ := bS hf
              refine rVN_i (ws' := (wX A cI xx_76 xn v10.2 xk)) (As := [.int j2, .int (1 : Int32)]) (rest := []) ⟨hx, hb, hml, hown, hts⟩ hK hN hA hP hD hS (c_X0_goOn l D cI (A 2) j2 (1 : Int32) v9 v10 hev10) ⟨va_cnB 2 hts gX1_first_X0_goOn_n97 rfl rfl rfl (nW.m hN 12 rfl) lk1 hd_X0_goOn.2 ⟨Nat.le_of_ble_eq_true rfl, Nat.le_of_ble_eq_true rfl⟩, lk7, lk8⟩ (va_recv hK hP (ci := 0) (q0 := 12) rfl rfl) [12, 13, 14, 15, 16, 17, 18, 19, 20, 21, 22] (by decide) rfl rfl rfl rfl hl.1 rfl (Nat.le_of_ble_eq_true rfl) dX1_first_126 ⟨Nat.le_of_ble_eq_true rfl, Nat.le_of_ble_eq_true rfl⟩ (fun H locs hP hD hS => ?_)
              have hP : va_P D vwCl (wX A cI xx_76 xn v10.2 xk) H := hP
              refine lv_pop hx hb dX1_first_129 rfl ?_
              refine lv_aload_n hx hb dX1_first_130 rfl (lv_at hl 0 rfl) ?_
              refine va_get (D := D) (ci := 1) (v := .ref ((A 2) 0)) (C := RX1) (T := TX1) (N := 9) hx hb hts hinX hown hK hP 0 rfl rfl 1 (by decide) lk4 (fun _ h9 => h9) rfl dX1_first_131 ?_
              refine lv_iload_n hx hb dX1_first_134 rfl (lv_at hl 1 rfl) ?_
              obtain ⟨v11, hev11, hf⟩ := bS hf
              refine rVN_io (As := [.int j1]) (rest := []) ⟨hx, hb, hml, hown, hts⟩ hK hN hA hP hD hS (c_X0_heldBy l D cI (A 2) j1 v10.2 v11 hev11) ⟨va_cnB 1 hts gX1_first_X0_heldBy_n190 rfl rfl rfl (nW.m hN 33 rfl) lk1 hd_X0_heldBy.2 ⟨Nat.le_of_ble_eq_true rfl, Nat.le_of_ble_eq_true rfl⟩, lk9, lk10⟩ (va_recv hK hP (ci := 0) (q0 := 12) rfl rfl) [12, 13, 14, 15, 16, 17, 18, 19, 20, 21, 22] (by decide) rfl rfl hl.1 rfl (Nat.le_of_ble_eq_true rfl) dX1_first_135 ⟨Nat.le_of_ble_eq_true rfl, Nat.le_of_ble_eq_true rfl⟩ (fun H locs hP hD hS => ?_)
              refine lv_istore (lv' := [(6, .int v11), (0, .ref ((A 0) 0)), (1, .int j1), (2, .int j2), (3, .int j3_76), (4, .int j4_76), (5, .int j5_76)]) hx hb dX1_first_138 hl (by decide) rfl (fun ls hl => ?_)
              refine lv_iload hx hb dX1_first_140 (lv_at hl 0 rfl) ?_
              refine lv_iload_n hx hb dX1_first_142 rfl (lv_at hl 4 rfl) ?_
              refine lv_icmp_le (tgt := 153) hx hb dX1_first_143 (by decide) (fun c12 => ?_) (fun c12 => ?_)
              · have hf := hT hf c12
                refine lv_iinc (v := (j5_76 + (1 : Int32))) (lv' := [(5, .int (j5_76 + (1 : Int32))), (6, .int v11), (0, .ref ((A 0) 0)), (1, .int j1), (2, .int j2), (3, .int j3_76), (4, .int j4_76)]) hx hb dX1_first_153 hl (k := 6) rfl rfl (by decide) rfl (fun ls hl => ?_)
                refine lv_goto (tgt := 76) hx hb dX1_first_156 (by decide) ?_
                exact (hWW _ _ _).mp (ih _ _ _ _ _ _ _ _ hf hP hD hS (lv_sub hl [2, 3, 4, 5, 6, 0] rfl))
              · have hf := hF hf c12
                refine lv_iload hx hb dX1_first_146 (lv_at hl 0 rfl) ?_
                refine lv_istore_n (lv' := [(3, .int v11), (6, .int v11), (0, .ref ((A 0) 0)), (1, .int j1), (2, .int j2), (4, .int j4_76), (5, .int j5_76)]) hx hb dX1_first_148 rfl hl (by decide) rfl (fun ls hl => ?_)
                refine lv_iload hx hb dX1_first_149 (lv_at hl 6 rfl) ?_
                refine lv_istore (lv' := [(4, .int j5_76), (3, .int v11), (6, .int v11), (0, .ref ((A 0) 0)), (1, .int j1), (2, .int j2), (5, .int j5_76)]) hx hb dX1_first_151 hl (by decide) rfl (fun ls hl => ?_)
                refine lv_iinc (v := (j5_76 + (1 : Int32))) (lv' := [(5, .int (j5_76 + (1 : Int32))), (4, .int j5_76), (3, .int v11), (6, .int v11), (0, .ref ((A 0) 0)), (1, .int j1), (2, .int j2)]) hx hb dX1_first_153 hl (k := 6) rfl rfl (by decide) rfl (fun ls hl => ?_)
                refine lv_goto (tgt := 76) hx hb dX1_first_156 (by decide) ?_
                exact (hWW _ _ _).mp (ih _ _ _ _ _ _ _ _ hf hP hD hS (lv_sub hl [4, 5, 6, 2, 1, 0] rfl))
      exact (hWW _ _ _).mp (P76 _ _ _ _ _ _ _ _ _ hf hP hD hS (lv_sub hl [3, 4, 5, 2, 1, 0] rfl))
    · have hf := hF hf c2
      refine lv_aload_n hx hb dX1_first_27 rfl (lv_at hl 0 rfl) ?_
      refine lv_iload_n hx hb dX1_first_28 rfl (lv_at hl 2 rfl) ?_
      refine lv_iconst (v := (0 : Int32)) hx hb dX1_first_29 (by decide) ?_
      refine lv_bipush (v := (20 : Int32)) hx hb dX1_first_30 (by decide) ?_
      refine rS_io (As := [.int j2, .int (0 : Int32), .int (20 : Int32)]) (rest := [.ref ((A 0) 0)]) ⟨hx, hb, hml, hown, hts⟩ hK hN hA hP hD hS (c_X1_beyond l D cI j2 (0 : Int32) (20 : Int32) (f_X1_beyond j2 (0 : Int32) (20 : Int32)) rfl) (va_cwS 3 hts gX1_first_X1_beyond rfl rfl rfl hd_X1_beyond.2 ⟨Nat.le_of_ble_eq_true rfl, Nat.le_of_ble_eq_true rfl⟩) [] (by decide) rfl rfl hl.1 rfl (Nat.le_of_ble_eq_true rfl) dX1_first_32 ⟨Nat.le_of_ble_eq_true rfl, Nat.le_of_ble_eq_true rfl⟩ (fun H locs hP hD hS => ?_)
      obtain ⟨v13, hev13, hf⟩ := bS hf
      refine rV_i (ws' := (wX A cI v13.2 xn xm xk)) (As := [.int (f_X1_beyond j2 (0 : Int32) (20 : Int32))]) (rest := []) ⟨hx, hb, hml, hown, hts⟩ hK hN hA hP hD hS (c_X1_refuse l D cI A (f_X1_beyond j2 (0 : Int32) (20 : Int32)) xx xn xm xk v13 hev13) (cwV 1 hts gX1_first_X1_refuse rfl rfl rfl hd_X1_refuse ⟨Nat.le_of_ble_eq_true rfl, Nat.le_of_ble_eq_true rfl⟩) (va_recv hK hP (ci := 1) (q0 := 0) rfl rfl) [0, 1, 2, 3, 4, 5, 6, 7, 8, 9, 10, 11, 12, 13, 14, 15, 16, 17, 18, 19, 20, 21, 22, 23, 24, 25, 26, 27, 28, 29, 30, 31, 32, 33, 34, 35, 36] (by decide) rfl rfl rfl rfl hl.1 rfl (Nat.le_of_ble_eq_true rfl) dX1_first_35 ⟨Nat.le_of_ble_eq_true rfl, Nat.le_of_ble_eq_true rfl⟩ (fun H locs hP hD hS => ?_)
      have hP : va_P D vwCl (wX A cI v13.2 xn xm xk) H := hP
      obtain rfl := Option.some.inj hf
      exact W.iret (v := v13.1) hx hb hr (fun t ht hW => ⟨⟨v13.1, (), rfl, rfl, hPt ht hP⟩, hS.F ht⟩) hS.2.2 dX1_first_38
  · have hf := hT hf c1
    refine lv_aload_n hx hb dX1_first_11 rfl (lv_at hl 0 rfl) ?_
    refine lv_iconst (v := (-1 : Int32)) hx hb dX1_first_12 (by decide) ?_
    obtain ⟨v14, hev14, hf⟩ := bS hf
    refine rV_i (ws' := (wX A cI v14.2 xn xm xk)) (As := [.int (-1 : Int32)]) (rest := []) ⟨hx, hb, hml, hown, hts⟩ hK hN hA hP hD hS (c_X1_refuse l D cI A (-1 : Int32) xx xn xm xk v14 hev14) (cwV 1 hts gX1_first_X1_refuse rfl rfl rfl hd_X1_refuse ⟨Nat.le_of_ble_eq_true rfl, Nat.le_of_ble_eq_true rfl⟩) (va_recv hK hP (ci := 1) (q0 := 0) rfl rfl) [0, 1, 2, 3, 4, 5, 6, 7, 8, 9, 10, 11, 12, 13, 14, 15, 16, 17, 18, 19, 20, 21, 22, 23, 24, 25, 26, 27, 28, 29, 30, 31, 32, 33, 34, 35, 36] (by decide) rfl rfl rfl rfl hl.1 rfl (Nat.le_of_ble_eq_true rfl) dX1_first_13 ⟨Nat.le_of_ble_eq_true rfl, Nat.le_of_ble_eq_true rfl⟩ (fun H locs hP hD hS => ?_)
    have hP : va_P D vwCl (wX A cI v14.2 xn xm xk) H := hP
    obtain rfl := Option.some.inj hf
    exact W.iret (v := v14.1) hx hb hr (fun t ht hW => ⟨⟨v14.1, (), rfl, rfl, hPt ht hP⟩, hS.F ht⟩) hS.2.2 dX1_first_16
def L_X1_give_57 (j1 : Int32) (xn : HS) (xk : HS) (K169 : Int32 → HS → HS → Option (Int32 × HS × HS)) : Nat → Int32 → Int32 → Int32 → HS → HS → Option (Int32 × HS × HS)
  | 0, _, _, _, _, _ => none
  | n' + 1, j2_57, j3_57, j4_57, xx_57, xm_57 => if (xn 10 0) ≤ j4_57 then (K169 j3_57 xx_57 xm_57) else if (f_X0_inPile j4_57 xn) = 0 then (L_X1_give_57 j1 xn xk K169 n' j2_57 j3_57 (j4_57 + (1 : Int32)) xx_57 xm_57) else if (f_X0_hasBidder (atv 8 (xn 2) j4_57) xn) = 0 then (L_X1_give_57 j1 xn xk K169 n' j2_57 j3_57 (j4_57 + (1 : Int32)) xx_57 xm_57) else (f_X0_become xm_57 xn).bind fun v8 => jn (st v8 4 (ptv 8 (v8 4) j4_57 (atv 8 (xn 2) j4_57))) (fun (xm_v9 : HS) => (f_X0_goOn j1 (1 : Int32) xm_v9).bind fun v10 => (f_X0_allBelieved v10.2).bind fun v11 => if v11 ≤ j2_57 then (L_X1_give_57 j1 xn xk K169 n' j2_57 j3_57 (j4_57 + (1 : Int32)) xx_57 v10.2) else (L_X1_give_57 j1 xn xk K169 n' v11 j4_57 (j4_57 + (1 : Int32)) xx_57 v10.2))
def f_X1_give (j1 : Int32) (xx : HS) (xn : HS) (xm : HS) (xk : HS) : Option (Int32 × HS × HS) := if (f_X1_beyond j1 (0 : Int32) (20 : Int32)) = 0 then (f_X0_become xm xn).bind fun v2 => (f_X0_goOn j1 (1 : Int32) v2).bind fun v3 => (f_X0_allBelieved v3.2).bind fun v4 => jn (fun (j3_169 : Int32) (xx_169 : HS) (xm_169 : HS) => some (j3_169, xx_169, xm_169)) (fun (K169 : Int32 → HS → HS → Option (Int32 × HS × HS)) => (L_X1_give_57 j1 xn xk K169 fuel v4 (-9 : Int32) (0 : Int32) xx v3.2)) else (f_X1_refuse (f_X1_beyond j1 (0 : Int32) (20 : Int32)) xx xn xm xk).bind fun v13 => some (v13.1, v13.2, xm)
set_option maxHeartbeats 4000000 in
set_option maxRecDepth 100000 in
theorem c_X1_give (l : Launch) (D : va_G) (cI : ClassId) (A : Nat → Nat → Nat) (j1 : Int32) (xx : HS) (xn : HS) (xm : HS) (xk : HS) (out : Int32 × HS × HS) (hf : f_X1_give j1 xx xn xm xk = some out) : uI l D cI yX1_give wsX1_give ({ frames := 5, cells := 0, slots := 0, locals := 128 } : Room) [.ref ((A 0) 0), .int j1] (wX A cI xx xn xm xk) (wX A cI out.2.1 xn out.2.2 xk) out.1 := by
  intro sz
  refine Met.ofW (cc := cX1_give) (maxL := 7) (ret := (some .int)) (by decide) rfl ?_
  intro p e s m args below meth c s₁ Bd hml hv
  obtain ⟨rfl, hsz, hP, hK, hD0, hN⟩ := hv
  have hx := Bd.exec
  have hb := Bd.bytes
  have hr := Bd.returns
  have hts := atoms_spec (ws := wsX1_give) Bd.pre
  have hown : s.vm.findClass RX1 = some m.cls := findClass_of_methodNamed Bd.named
  have hlocks := Bd.notSynchronized
  subst hsz
  have hD := hD0.self (sz := s.heap.size)
  generalize hAe : va_A (wX A cI xx xn xm xk) s.heap.size = G at hD ⊢
  have hA : ∀ q : Nat, s.heap.size ≤ q → G q := fun q h => by rw [← hAe]; exact Or.inr h
  have hS : va_S G s.heap s.heap [] := va_S.rf
  have hP : va_P D vwCl (wX A cI xx xn xm xk) s.heap := hP
  have hl := lv_entry ([.ref ((A 0) 0), .int j1]) (n := 7) (Nat.le_of_ble_eq_true rfl)
  rw [lg_entry_eq]
  generalize (lg_sl ([.ref ((A 0) 0), .int j1]) ++ List.replicate (7 - (lg_sl ([.ref ((A 0) 0), .int j1])).length) Slot.unset).toArray = ls at hl ⊢
  have hl : lv_has ls 7 [(0, .ref ((A 0) 0)), (1, .int j1)] := hl
  have hinH : ∀ w ∈ wsX00, w ∈ wsX1_give := by decide +kernel
  have hinX : ∀ w ∈ wsX10, w ∈ wsX1_give := by decide +kernel
  have lk0 := hts (.fieldLink RX1 16 "LiesBoughtBack" "mind" "LLiesBoughtBack$Hall;") (by decide +kernel)
  have lk1 := hts (.fieldLink RX1 10 "LiesBoughtBack" "now" "LLiesBoughtBack$Hall;") (by decide +kernel)
  have lk2 := hts (.initialized RX0) (by decide +kernel)
  have lk3 := hts (.instanceMethod yX0_become) (by decide +kernel)
  have lk4 := hts (.selects RX0 yX0_become yX0_become) (by decide +kernel)
  have lk5 := hts (.instanceMethod yX0_goOn) (by decide +kernel)
  have lk6 := hts (.selects RX0 yX0_goOn yX0_goOn) (by decide +kernel)
  have lk7 := hts (.instanceMethod yX0_allBelieved) (by decide +kernel)
  have lk8 := hts (.selects RX0 yX0_allBelieved yX0_allBelieved) (by decide +kernel)
  have lk9 := hts (.instanceMethod yX0_inPile) (by decide +kernel)
  have lk10 := hts (.selects RX0 yX0_inPile yX0_inPile) (by decide +kernel)
  have lk11 := hts (.instanceMethod yX0_hasBidder) (by decide +kernel)
  have lk12 := hts (.selects RX0 yX0_hasBidder yX0_hasBidder) (by decide +kernel)
  refine W_in ?_
  intro WW hWW
  refine (hWW _ _ _).mpr ?_
  unfold f_X1_give at hf
  refine lv_iload_n hx hb dX1_give_0 rfl (lv_at hl 1 rfl) ?_
  refine lv_iconst (v := (0 : Int32)) hx hb dX1_give_1 (by decide) ?_
  refine lv_bipush (v := (20 : Int32)) hx hb dX1_give_2 (by decide) ?_
  refine rS_io (As := [.int j1, .int (0 : Int32), .int (20 : Int32)]) (rest := []) ⟨hx, hb, hml, hown, hts⟩ hK hN hA hP hD hS (c_X1_beyond l D cI j1 (0 : Int32) (20 : Int32) (f_X1_beyond j1 (0 : Int32) (20 : Int32)) rfl) (va_cwS 3 hts gX1_give_X1_beyond rfl rfl rfl hd_X1_beyond.2 ⟨Nat.le_of_ble_eq_true rfl, Nat.le_of_ble_eq_true rfl⟩) [] (by decide) rfl rfl hl.1 rfl (Nat.le_of_ble_eq_true rfl) dX1_give_4 ⟨Nat.le_of_ble_eq_true rfl, Nat.le_of_ble_eq_true rfl⟩ (fun H locs hP hD hS => ?_)
  refine lv_if_eq (tgt := 22) hx hb dX1_give_7 (by decide) (fun c1 => ?_) (fun c1 => ?_)
  · have hf := hT hf c1
    refine lv_aload_n hx hb dX1_give_22 rfl (lv_at hl 0 rfl) ?_
    refine va_get (D := D) (ci := 1) (v := .ref ((A 2) 0)) (C := RX1) (T := TX1) (N := 9) hx hb hts hinX hown hK hP 0 rfl rfl 1 (by decide) lk0 (fun _ h9 => h9) rfl dX1_give_23 ?_
    refine lv_aload_n hx hb dX1_give_26 rfl (lv_at hl 0 rfl) ?_
    refine va_get (D := D) (ci := 1) (v := .ref ((A 1) 0)) (C := RX1) (T := TX1) (N := 9) hx hb hts hinX hown hK hP 0 rfl rfl 0 (by decide) lk1 (fun _ h9 => h9) rfl dX1_give_27 ?_
    obtain ⟨v2, hev2, hf⟩ := bS hf
    refine rVN_v (ws' := (wX A cI xx xn v2 xk)) (As := [.ref ((A 1) 0)]) (rest := []) ⟨hx, hb, hml, hown, hts⟩ hK hN hA hP hD hS (c_X0_become l D cI (A 2) (A 1) xm xn v2 hev2) ⟨va_cnB 1 hts gX1_give_X0_become_n47 rfl rfl rfl (nW.m hN 1 rfl) lk2 hd_X0_become.2 ⟨Nat.le_of_ble_eq_true rfl, Nat.le_of_ble_eq_true rfl⟩, lk3, lk4⟩ (va_recv hK hP (ci := 0) (q0 := 12) rfl rfl) [12, 13, 14, 15, 16, 17, 18, 19, 20, 21, 22, 1, 2, 3, 4, 5, 6, 7, 8, 9, 10, 11] (by decide) rfl rfl rfl rfl hl.1 rfl (Nat.le_of_ble_eq_true rfl) dX1_give_30 ⟨Nat.le_of_ble_eq_true rfl, Nat.le_of_ble_eq_true rfl⟩ (fun H locs hP hD hS => ?_)
    have hP : va_P D vwCl (wX A cI xx xn v2 xk) H := hP
    refine lv_aload_n hx hb dX1_give_33 rfl (lv_at hl 0 rfl) ?_
    refine va_get (D := D) (ci := 1) (v := .ref ((A 2) 0)) (C := RX1) (T := TX1) (N := 9) hx hb hts hinX hown hK hP 0 rfl rfl 1 (by decide) lk0 (fun _ h9 => h9) rfl dX1_give_34 ?_
    refine lv_iload_n hx hb dX1_give_37 rfl (lv_at hl 1 rfl) ?_
    refine lv_iconst (v := (1 : Int32)) hx hb dX1_give_38 (by decide) ?_
    obtain ⟨v3, hev3, hf⟩ := bS hf
    refine rVN_i (ws' := (wX A cI xx xn v3.2 xk)) (As := [.int j1, .int (1 : Int32)]) (rest := []) ⟨hx, hb, hml, hown, hts⟩ hK hN hA hP hD hS (c_X0_goOn l D cI (A 2) j1 (1 : Int32) v2 v3 hev3) ⟨va_cnB 2 hts gX1_give_X0_goOn_n97 rfl rfl rfl (nW.m hN 12 rfl) lk2 hd_X0_goOn.2 ⟨Nat.le_of_ble_eq_true rfl, Nat.le_of_ble_eq_true rfl⟩, lk5, lk6⟩ (va_recv hK hP (ci := 0) (q0 := 12) rfl rfl) [12, 13, 14, 15, 16, 17, 18, 19, 20, 21, 22] (by decide) rfl rfl rfl rfl hl.1 rfl (Nat.le_of_ble_eq_true rfl) dX1_give_39 ⟨Nat.le_of_ble_eq_true rfl, Nat.le_of_ble_eq_true rfl⟩ (fun H locs hP hD hS => ?_)
    have hP : va_P D vwCl (wX A cI xx xn v3.2 xk) H := hP
    refine lv_pop hx hb dX1_give_42 rfl ?_
    refine lv_aload_n hx hb dX1_give_43 rfl (lv_at hl 0 rfl) ?_
    refine va_get (D := D) (ci := 1) (v := .ref ((A 2) 0)) (C := RX1) (T := TX1) (N := 9) hx hb hts hinX hown hK hP 0 rfl rfl 1 (by decide) lk0 (fun _ h9 => h9) rfl dX1_give_44 ?_
    obtain ⟨v4, hev4, hf⟩ := bS hf
    refine rVN_io (As := []) (rest := []) ⟨hx, hb, hml, hown, hts⟩ hK hN hA hP hD hS (c_X0_allBelieved l D cI (A 2) v3.2 v4 hev4) ⟨va_cnB 0 hts gX1_give_X0_allBelieved_n174 rfl rfl rfl (nW.m hN 30 rfl) lk2 hd_X0_allBelieved.2 ⟨Nat.le_of_ble_eq_true rfl, Nat.le_of_ble_eq_true rfl⟩, lk7, lk8⟩ (va_recv hK hP (ci := 0) (q0 := 12) rfl rfl) [12, 13, 14, 15, 16, 17, 18, 19, 20, 21, 22] (by decide) rfl rfl hl.1 rfl (Nat.le_of_ble_eq_true rfl) dX1_give_47 ⟨Nat.le_of_ble_eq_true rfl, Nat.le_of_ble_eq_true rfl⟩ (fun H locs hP hD hS => ?_)
    refine lv_istore_n (lv' := [(2, .int v4), (0, .ref ((A 0) 0)), (1, .int j1)]) hx hb dX1_give_50 rfl hl (by decide) rfl (fun ls hl => ?_)
    refine lv_bipush (v := (-9 : Int32)) hx hb dX1_give_51 (by decide) ?_
    refine lv_istore_n (lv' := [(3, .int (-9 : Int32)), (2, .int v4), (0, .ref ((A 0) 0)), (1, .int j1)]) hx hb dX1_give_53 rfl hl (by decide) rfl (fun ls hl => ?_)
    refine lv_iconst (v := (0 : Int32)) hx hb dX1_give_54 (by decide) ?_
    refine lv_istore (lv' := [(4, .int (0 : Int32)), (3, .int (-9 : Int32)), (2, .int v4), (0, .ref ((A 0) 0)), (1, .int j1)]) hx hb dX1_give_55 hl (by decide) rfl (fun ls hl => ?_)
    obtain ⟨K169, hK169, hf⟩ := jnS hf
    have J169 : ∀ (j3_169 : Int32) (xx_169 : HS) (xm_169 : HS) (H : Heap) (locs : List Loc) (ls : Array Slot), K169 j3_169 xx_169 xm_169 = some out → va_P D vwCl (wX A cI xx_169 xn xm_169 xk) H → va_D G (wX A cI xx_169 xn xm_169 xk) → va_S G s.heap H locs → lv_has ls 7 [(3, .int j3_169)] → WW H locs (F0 m 169 ls []) := by
      intro j3_169 xx_169 xm_169 H locs ls hf hP hD hS hl
      subst hK169
      refine (hWW _ _ _).mpr ?_
      refine lv_iload_n hx hb dX1_give_169 rfl (lv_at hl 0 rfl) ?_
      obtain rfl := Option.some.inj hf
      exact W.iret (v := j3_169) hx hb hr (fun t ht hW => ⟨⟨j3_169, (), rfl, rfl, hPt ht hP⟩, hS.F ht⟩) hS.2.2 dX1_give_170
    have P57 : ∀ (n' : Nat) (j2_57 : Int32) (j3_57 : Int32) (j4_57 : Int32) (xx_57 : HS) (xm_57 : HS) (H : Heap) (locs : List Loc) (ls : Array Slot), L_X1_give_57 j1 xn xk K169 n' j2_57 j3_57 j4_57 xx_57 xm_57 = some out → va_P D vwCl (wX A cI xx_57 xn xm_57 xk) H → va_D G (wX A cI xx_57 xn xm_57 xk) → va_S G s.heap H locs → lv_has ls 7 [(0, .ref ((A 0) 0)), (1, .int j1), (2, .int j2_57), (3, .int j3_57), (4, .int j4_57)] → WW H locs (F0 m 57 ls []) := by
      intro n'
      induction n' with
      | zero => intro j2_57 j3_57 j4_57 xx_57 xm_57 H locs ls hf; exact absurd (show (none : Option (Int32 × HS × HS)) = some out from hf) (fun q => by cases q)
      | succ n' ih =>
        intro j2_57 j3_57 j4_57 xx_57 xm_57 H locs ls hf hP hD hS hl
        rw [L_X1_give_57] at hf
        refine (hWW _ _ _).mpr ?_
        refine lv_iload hx hb dX1_give_57 (lv_at hl 4 rfl) ?_
        refine lv_aload_n hx hb dX1_give_59 rfl (lv_at hl 0 rfl) ?_
        refine va_get (D := D) (ci := 1) (v := .ref ((A 1) 0)) (C := RX1) (T := TX1) (N := 9) hx hb hts hinX hown hK hP 0 rfl rfl 0 (by decide) lk1 (fun _ h9 => h9) rfl dX1_give_60 ?_
        refine va_getN (D := D) (ci := 0) (v := .int (xn 10 0)) (C := RX0) (T := TX0) (N := 13) hx hb hts hinH hown hK hP 1 rfl rfl 0 (by decide) (nW.f hN 0 rfl) (fun _ h9 => h9) rfl dX1_give_63 ?_
        refine lv_icmp_ge (tgt := 169) hx hb dX1_give_66 (by decide) (fun c5 => ?_) (fun c5 => ?_)
        · have hf := hT hf c5
          exact (hWW _ _ _).mp (J169 _ _ _ _ _ _ hf hP hD hS (lv_sub hl [3] rfl))
        · have hf := hF hf c5
          refine lv_aload_n hx hb dX1_give_69 rfl (lv_at hl 0 rfl) ?_
          refine va_get (D := D) (ci := 1) (v := .ref ((A 1) 0)) (C := RX1) (T := TX1) (N := 9) hx hb hts hinX hown hK hP 0 rfl rfl 0 (by decide) lk1 (fun _ h9 => h9) rfl dX1_give_70 ?_
          refine va_getN (D := D) (ci := 0) (v := .ref ((A 1) 3)) (C := RX0) (T := TX0) (N := 13) hx hb hts hinH hown hK hP 1 rfl rfl 5 (by decide) (nW.f hN 5 rfl) (fun _ h9 => h9) rfl dX1_give_73 ?_
          refine lv_iload hx hb dX1_give_76 (lv_at hl 4 rfl) ?_
          refine rS_io (As := [.ref ((A 1) 3), .int j4_57]) (rest := []) ⟨hx, hb, hml, hown, hts⟩ hK hN hA hP hD hS (c_X1_at l D cI 8 (by decide) ((A 1) 3) (xn 2) j4_57) (va_cwS 2 hts gX1_give_X1_at rfl rfl rfl hd_X1_at.2 ⟨Nat.le_of_ble_eq_true rfl, Nat.le_of_ble_eq_true rfl⟩) [4] (by decide) rfl rfl hl.1 rfl (Nat.le_of_ble_eq_true rfl) dX1_give_78 ⟨Nat.le_of_ble_eq_true rfl, Nat.le_of_ble_eq_true rfl⟩ (fun H locs hP hD hS => ?_)
          refine lv_istore (lv' := [(5, .int (atv 8 (xn 2) j4_57)), (0, .ref ((A 0) 0)), (1, .int j1), (2, .int j2_57), (3, .int j3_57), (4, .int j4_57)]) hx hb dX1_give_81 hl (by decide) rfl (fun ls hl => ?_)
          refine lv_aload_n hx hb dX1_give_83 rfl (lv_at hl 1 rfl) ?_
          refine va_get (D := D) (ci := 1) (v := .ref ((A 1) 0)) (C := RX1) (T := TX1) (N := 9) hx hb hts hinX hown hK hP 0 rfl rfl 0 (by decide) lk1 (fun _ h9 => h9) rfl dX1_give_84 ?_
          refine lv_iload hx hb dX1_give_87 (lv_at hl 5 rfl) ?_
          refine rVN_io (As := [.int j4_57]) (rest := []) ⟨hx, hb, hml, hown, hts⟩ hK hN hA hP hD hS (c_X0_inPile l D cI (A 1) j4_57 xn (f_X0_inPile j4_57 xn) rfl) ⟨va_cnB 1 hts gX1_give_X0_inPile_n72 rfl rfl rfl (nW.m hN 15 rfl) lk2 hd_X0_inPile.2 ⟨Nat.le_of_ble_eq_true rfl, Nat.le_of_ble_eq_true rfl⟩, lk9, lk10⟩ (va_recv hK hP (ci := 0) (q0 := 1) rfl rfl) [1, 2, 3, 4, 5, 6, 7, 8, 9, 10, 11] (by decide) rfl rfl hl.1 rfl (Nat.le_of_ble_eq_true rfl) dX1_give_89 ⟨Nat.le_of_ble_eq_true rfl, Nat.le_of_ble_eq_true rfl⟩ (fun H locs hP hD hS => ?_)
          refine lv_if_eq (tgt := 163) hx hb dX1_give_92 (by decide) (fun c6 => ?_) (fun c6 => ?_)
          · have hf := hT hf c6
            refine lv_iinc (v := (j4_57 + (1 : Int32))) (lv' := [(4, .int (j4_57 + (1 : Int32))), (5, .int (atv 8 (xn 2) j4_57)), (0, .ref ((A 0) 0)), (1, .int j1), (2, .int j2_57), (3, .int j3_57)]) hx hb dX1_give_163 hl (k := 5) rfl rfl (by decide) rfl (fun ls hl => ?_)
            refine lv_goto (tgt := 57) hx hb dX1_give_166 (by decide) ?_
            exact (hWW _ _ _).mp (ih _ _ _ _ _ _ _ _ hf hP hD hS (lv_sub hl [2, 3, 4, 5, 0] rfl))
          · have hf := hF hf c6
            refine lv_aload_n hx hb dX1_give_95 rfl (lv_at hl 1 rfl) ?_
            refine va_get (D := D) (ci := 1) (v := .ref ((A 1) 0)) (C := RX1) (T := TX1) (N := 9) hx hb hts hinX hown hK hP 0 rfl rfl 0 (by decide) lk1 (fun _ h9 => h9) rfl dX1_give_96 ?_
            refine lv_iload hx hb dX1_give_99 (lv_at hl 0 rfl) ?_
            refine rVN_io (As := [.int (atv 8 (xn 2) j4_57)]) (rest := []) ⟨hx, hb, hml, hown, hts⟩ hK hN hA hP hD hS (c_X0_hasBidder l D cI (A 1) (atv 8 (xn 2) j4_57) xn (f_X0_hasBidder (atv 8 (xn 2) j4_57) xn) rfl) ⟨va_cnB 1 hts gX1_give_X0_hasBidder_n59 rfl rfl rfl (nW.m hN 13 rfl) lk2 hd_X0_hasBidder.2 ⟨Nat.le_of_ble_eq_true rfl, Nat.le_of_ble_eq_true rfl⟩, lk11, lk12⟩ (va_recv hK hP (ci := 0) (q0 := 1) rfl rfl) [1, 2, 3, 4, 5, 6, 7, 8, 9, 10, 11] (by decide) rfl rfl hl.1 rfl (Nat.le_of_ble_eq_true rfl) dX1_give_101 ⟨Nat.le_of_ble_eq_true rfl, Nat.le_of_ble_eq_true rfl⟩ (fun H locs hP hD hS => ?_)
            refine lv_if_eq (tgt := 163) hx hb dX1_give_104 (by decide) (fun c7 => ?_) (fun c7 => ?_)
            · have hf := hT hf c7
              refine lv_iinc (v := (j4_57 + (1 : Int32))) (lv' := [(4, .int (j4_57 + (1 : Int32))), (5, .int (atv 8 (xn 2) j4_57)), (0, .ref ((A 0) 0)), (1, .int j1), (2, .int j2_57), (3, .int j3_57)]) hx hb dX1_give_163 hl (k := 5) rfl rfl (by decide) rfl (fun ls hl => ?_)
              refine lv_goto (tgt := 57) hx hb dX1_give_166 (by decide) ?_
              exact (hWW _ _ _).mp (ih _ _ _ _ _ _ _ _ hf hP hD hS (lv_sub hl [2, 3, 4, 5, 0] rfl))
            · have hf := hF hf c7
              refine lv_aload_n hx hb dX1_give_107 rfl (lv_at hl 1 rfl) ?_
              refine va_get (D := D) (ci := 1) (v := .ref ((A 2) 0)) (C := RX1) (T := TX1) (N := 9) hx hb hts hinX hown hK hP 0 rfl rfl 1 (by decide) lk0 (fun _ h9 => h9) rfl dX1_give_108 ?_
              refine lv_aload_n hx hb dX1_give_111 rfl (lv_at hl 1 rfl) ?_
              refine va_get (D := D) (ci := 1) (v := .ref ((A 1) 0)) (C := RX1) (T := TX1) (N := 9) hx hb hts hinX hown hK hP 0 rfl rfl 0 (by decide) lk1 (fun _ h9 => h9) rfl dX1_give_112 ?_
              obtain ⟨v8, hev8, hf⟩ := bS hf
              refine rVN_v (ws' := (wX A cI xx_57 xn v8 xk)) (As := [.ref ((A 1) 0)]) (rest := []) ⟨hx, hb, hml, hown, hts⟩ hK hN hA hP hD hS (c_X0_become l D cI (A 2) (A 1) xm_57 xn v8 hev8) ⟨va_cnB 1 hts gX1_give_X0_become_n47 rfl rfl rfl (nW.m hN 1 rfl) lk2 hd_X0_become.2 ⟨Nat.le_of_ble_eq_true rfl, Nat.le_of_ble_eq_true rfl⟩, lk3, lk4⟩ (va_recv hK hP (ci := 0) (q0 := 12) rfl rfl) [12, 13, 14, 15, 16, 17, 18, 19, 20, 21, 22, 1, 2, 3, 4, 5, 6, 7, 8, 9, 10, 11] (by decide) rfl rfl rfl rfl hl.1 rfl (Nat.le_of_ble_eq_true rfl) dX1_give_115 ⟨Nat.le_of_ble_eq_true rfl, Nat.le_of_ble_eq_true rfl⟩ (fun H locs hP hD hS => ?_)
              have hP : va_P D vwCl (wX A cI xx_57 xn v8 xk) H := hP
              refine lv_aload_n hx hb dX1_give_118 rfl (lv_at hl 1 rfl) ?_
              refine va_get (D := D) (ci := 1) (v := .ref ((A 2) 0)) (C := RX1) (T := TX1) (N := 9) hx hb hts hinX hown hK hP 0 rfl rfl 1 (by decide) lk0 (fun _ h9 => h9) rfl dX1_give_119 ?_
              refine va_getN (D := D) (ci := 0) (v := .ref ((A 2) 5)) (C := RX0) (T := TX0) (N := 13) hx hb hts hinH hown hK hP 12 rfl rfl 7 (by decide) (nW.f hN 7 rfl) (fun _ h9 => h9) rfl dX1_give_122 ?_
              refine lv_iload hx hb dX1_give_125 (lv_at hl 5 rfl) ?_
              refine lv_iload hx hb dX1_give_127 (lv_at hl 0 rfl) ?_
              obtain ⟨xm_v9, exm_v9, hf⟩ := jnS hf
              refine rS_v (ws' := (wX A cI xx_57 xn xm_v9 xk)) (As := [.ref ((A 2) 5), .int j4_57, .int (atv 8 (xn 2) j4_57)]) (rest := []) ⟨hx, hb, hml, hown, hts⟩ hK hN hA hP hD hS (c_X1_put l D cI 8 (by decide) ((A 2) 5) (v8 4) j4_57 (atv 8 (xn 2) j4_57)) (va_cwS 3 hts gX1_give_X1_put rfl rfl rfl hd_X1_put.2 ⟨Nat.le_of_ble_eq_true rfl, Nat.le_of_ble_eq_true rfl⟩) [17] (by decide) rfl rfl ((sa_X1_m_4 A cI xx_57 xn v8 xk (ptv 8 (v8 4) j4_57 (atv 8 (xn 2) j4_57))).trans (congrArg (fun z => wX A cI xx_57 xn z xk) exm_v9.symm)) rfl hl.1 rfl (Nat.le_of_ble_eq_true rfl) dX1_give_129 ⟨Nat.le_of_ble_eq_true rfl, Nat.le_of_ble_eq_true rfl⟩ (fun H locs hP hD hS => ?_)
              refine lv_aload_n hx hb dX1_give_132 rfl (lv_at hl 1 rfl) ?_
              refine va_get (D := D) (ci := 1) (v := .ref ((A 2) 0)) (C := RX1) (T := TX1) (N := 9) hx hb hts hinX hown hK hP 0 rfl rfl 1 (by decide) lk0 (fun _ h9 => h9) rfl dX1_give_133 ?_
              refine lv_iload_n hx hb dX1_give_136 rfl (lv_at hl 2 rfl) ?_
              refine lv_iconst (v := (1 : Int32)) hx hb dX1_give_137 (by decide) ?_
              obtain ⟨v10, hev10, hf⟩ := bS hf
              refine rVN_i (ws' := (wX A cI xx_57 xn v10.2 xk)) (As := [.int j1, .int (1 : Int32)]) (rest := []) ⟨hx, hb, hml, hown, hts⟩ hK hN hA hP hD hS (c_X0_goOn l D cI (A 2) j1 (1 : Int32) xm_v9 v10 hev10) ⟨va_cnB 2 hts gX1_give_X0_goOn_n97 rfl rfl rfl (nW.m hN 12 rfl) lk2 hd_X0_goOn.2 ⟨Nat.le_of_ble_eq_true rfl, Nat.le_of_ble_eq_true rfl⟩, lk5, lk6⟩ (va_recv hK hP (ci := 0) (q0 := 12) rfl rfl) [12, 13, 14, 15, 16, 17, 18, 19, 20, 21, 22] (by decide) rfl rfl rfl rfl hl.1 rfl (Nat.le_of_ble_eq_true rfl) dX1_give_138 ⟨Nat.le_of_ble_eq_true rfl, Nat.le_of_ble_eq_true rfl⟩ (fun H locs hP hD hS => ?_)
              have hP : va_P D vwCl (wX A cI xx_57 xn v10.2 xk) H := hP
              refine lv_pop hx hb dX1_give_141 rfl ?_
              refine lv_aload_n hx hb dX1_give_142 rfl (lv_at hl 1 rfl) ?_
              refine va_get (D := D) (ci := 1) (v := .ref ((A 2) 0)) (C := RX1) (T := TX1) (N := 9) hx hb hts hinX hown hK hP 0 rfl rfl 1 (by decide) lk0 (fun _ h9 => h9) rfl dX1_give_143 ?_
              obtain ⟨v11, hev11, hf⟩ := bS hf
              refine rVN_io (As := []) (rest := []) ⟨hx, hb, hml, hown, hts⟩ hK hN hA hP hD hS (c_X0_allBelieved l D cI (A 2) v10.2 v11 hev11) ⟨va_cnB 0 hts gX1_give_X0_allBelieved_n174 rfl rfl rfl (nW.m hN 30 rfl) lk2 hd_X0_allBelieved.2 ⟨Nat.le_of_ble_eq_true rfl, Nat.le_of_ble_eq_true rfl⟩, lk7, lk8⟩ (va_recv hK hP (ci := 0) (q0 := 12) rfl rfl) [12, 13, 14, 15, 16, 17, 18, 19, 20, 21, 22] (by decide) rfl rfl hl.1 rfl (Nat.le_of_ble_eq_true rfl) dX1_give_146 ⟨Nat.le_of_ble_eq_true rfl, Nat.le_of_ble_eq_true rfl⟩ (fun H locs hP hD hS => ?_)
              refine lv_istore (lv' := [(6, .int v11), (5, .int (atv 8 (xn 2) j4_57)), (0, .ref ((A 0) 0)), (1, .int j1), (2, .int j2_57), (3, .int j3_57), (4, .int j4_57)]) hx hb dX1_give_149 hl (by decide) rfl (fun ls hl => ?_)
              refine lv_iload hx hb dX1_give_151 (lv_at hl 0 rfl) ?_
              refine lv_iload_n hx hb dX1_give_153 rfl (lv_at hl 4 rfl) ?_
              refine lv_icmp_le (tgt := 163) hx hb dX1_give_154 (by decide) (fun c12 => ?_) (fun c12 => ?_)
              · have hf := hT hf c12
                refine lv_iinc (v := (j4_57 + (1 : Int32))) (lv' := [(4, .int (j4_57 + (1 : Int32))), (6, .int v11), (5, .int (atv 8 (xn 2) j4_57)), (0, .ref ((A 0) 0)), (1, .int j1), (2, .int j2_57), (3, .int j3_57)]) hx hb dX1_give_163 hl (k := 6) rfl rfl (by decide) rfl (fun ls hl => ?_)
                refine lv_goto (tgt := 57) hx hb dX1_give_166 (by decide) ?_
                exact (hWW _ _ _).mp (ih _ _ _ _ _ _ _ _ hf hP hD hS (lv_sub hl [3, 4, 5, 6, 0] rfl))
              · have hf := hF hf c12
                refine lv_iload hx hb dX1_give_157 (lv_at hl 0 rfl) ?_
                refine lv_istore_n (lv' := [(2, .int v11), (6, .int v11), (5, .int (atv 8 (xn 2) j4_57)), (0, .ref ((A 0) 0)), (1, .int j1), (3, .int j3_57), (4, .int j4_57)]) hx hb dX1_give_159 rfl hl (by decide) rfl (fun ls hl => ?_)
                refine lv_iload hx hb dX1_give_160 (lv_at hl 6 rfl) ?_
                refine lv_istore_n (lv' := [(3, .int j4_57), (2, .int v11), (6, .int v11), (5, .int (atv 8 (xn 2) j4_57)), (0, .ref ((A 0) 0)), (1, .int j1), (4, .int j4_57)]) hx hb dX1_give_162 rfl hl (by decide) rfl (fun ls hl => ?_)
                refine lv_iinc (v := (j4_57 + (1 : Int32))) (lv' := [(4, .int (j4_57 + (1 : Int32))), (3, .int j4_57), (2, .int v11), (6, .int v11), (5, .int (atv 8 (xn 2) j4_57)), (0, .ref ((A 0) 0)), (1, .int j1)]) hx hb dX1_give_163 hl (k := 6) rfl rfl (by decide) rfl (fun ls hl => ?_)
                refine lv_goto (tgt := 57) hx hb dX1_give_166 (by decide) ?_
                exact (hWW _ _ _).mp (ih _ _ _ _ _ _ _ _ hf hP hD hS (lv_sub hl [5, 6, 2, 1, 0] rfl))
    exact (hWW _ _ _).mp (P57 _ _ _ _ _ _ _ _ _ hf hP hD hS (lv_sub hl [3, 4, 2, 1, 0] rfl))
  · have hf := hF hf c1
    refine lv_aload_n hx hb dX1_give_10 rfl (lv_at hl 0 rfl) ?_
    refine lv_iload_n hx hb dX1_give_11 rfl (lv_at hl 1 rfl) ?_
    refine lv_iconst (v := (0 : Int32)) hx hb dX1_give_12 (by decide) ?_
    refine lv_bipush (v := (20 : Int32)) hx hb dX1_give_13 (by decide) ?_
    refine rS_io (As := [.int j1, .int (0 : Int32), .int (20 : Int32)]) (rest := [.ref ((A 0) 0)]) ⟨hx, hb, hml, hown, hts⟩ hK hN hA hP hD hS (c_X1_beyond l D cI j1 (0 : Int32) (20 : Int32) (f_X1_beyond j1 (0 : Int32) (20 : Int32)) rfl) (va_cwS 3 hts gX1_give_X1_beyond rfl rfl rfl hd_X1_beyond.2 ⟨Nat.le_of_ble_eq_true rfl, Nat.le_of_ble_eq_true rfl⟩) [] (by decide) rfl rfl hl.1 rfl (Nat.le_of_ble_eq_true rfl) dX1_give_15 ⟨Nat.le_of_ble_eq_true rfl, Nat.le_of_ble_eq_true rfl⟩ (fun H locs hP hD hS => ?_)
    obtain ⟨v13, hev13, hf⟩ := bS hf
    refine rV_i (ws' := (wX A cI v13.2 xn xm xk)) (As := [.int (f_X1_beyond j1 (0 : Int32) (20 : Int32))]) (rest := []) ⟨hx, hb, hml, hown, hts⟩ hK hN hA hP hD hS (c_X1_refuse l D cI A (f_X1_beyond j1 (0 : Int32) (20 : Int32)) xx xn xm xk v13 hev13) (cwV 1 hts gX1_give_X1_refuse rfl rfl rfl hd_X1_refuse ⟨Nat.le_of_ble_eq_true rfl, Nat.le_of_ble_eq_true rfl⟩) (va_recv hK hP (ci := 1) (q0 := 0) rfl rfl) [0, 1, 2, 3, 4, 5, 6, 7, 8, 9, 10, 11, 12, 13, 14, 15, 16, 17, 18, 19, 20, 21, 22, 23, 24, 25, 26, 27, 28, 29, 30, 31, 32, 33, 34, 35, 36] (by decide) rfl rfl rfl rfl hl.1 rfl (Nat.le_of_ble_eq_true rfl) dX1_give_18 ⟨Nat.le_of_ble_eq_true rfl, Nat.le_of_ble_eq_true rfl⟩ (fun H locs hP hD hS => ?_)
    have hP : va_P D vwCl (wX A cI v13.2 xn xm xk) H := hP
    obtain rfl := Option.some.inj hf
    exact W.iret (v := v13.1) hx hb hr (fun t ht hW => ⟨⟨v13.1, (), rfl, rfl, hPt ht hP⟩, hS.F ht⟩) hS.2.2 dX1_give_21
def L_X1_pool_76 (j1 : Int32) (j2 : Int32) (xn : HS) (xk : HS) (K154 : Int32 → HS → HS → Option (Int32 × HS × HS)) : Nat → Int32 → Int32 → Int32 → HS → HS → Option (Int32 × HS × HS)
  | 0, _, _, _, _, _ => none
  | n' + 1, j3_76, j4_76, j5_76, xx_76, xm_76 => if (xn 11 0) ≤ j5_76 then (K154 j4_76 xx_76 xm_76) else if j5_76 = j1 then (L_X1_pool_76 j1 j2 xn xk K154 n' j3_76 j4_76 (j5_76 + (1 : Int32)) xx_76 xm_76) else (f_X0_become xm_76 xn).bind fun v8 => (f_X0_pourPurse j5_76 j1 v8).bind fun v9 => (f_X0_goOn j2 (1 : Int32) v9).bind fun v10 => (f_X0_heldBy j1 v10.2).bind fun v11 => if v11 ≤ j3_76 then (L_X1_pool_76 j1 j2 xn xk K154 n' j3_76 j4_76 (j5_76 + (1 : Int32)) xx_76 v10.2) else (L_X1_pool_76 j1 j2 xn xk K154 n' v11 j5_76 (j5_76 + (1 : Int32)) xx_76 v10.2)
def f_X1_pool (j1 : Int32) (j2 : Int32) (xx : HS) (xn : HS) (xm : HS) (xk : HS) : Option (Int32 × HS × HS) := if (f_X0_hasBidder j1 xn) = 0 then (f_X1_refuse (-1 : Int32) xx xn xm xk).bind fun v14 => some (v14.1, v14.2, xm) else if (f_X1_beyond j2 (0 : Int32) (20 : Int32)) = 0 then (f_X0_become xm xn).bind fun v3 => (f_X0_goOn j2 (1 : Int32) v3).bind fun v4 => (f_X0_heldBy j1 v4.2).bind fun v5 => jn (fun (j4_154 : Int32) (xx_154 : HS) (xm_154 : HS) => some (j4_154, xx_154, xm_154)) (fun (K154 : Int32 → HS → HS → Option (Int32 × HS × HS)) => (L_X1_pool_76 j1 j2 xn xk K154 fuel v5 (-9 : Int32) (0 : Int32) xx v4.2)) else (f_X1_refuse (f_X1_beyond j2 (0 : Int32) (20 : Int32)) xx xn xm xk).bind fun v13 => some (v13.1, v13.2, xm)
set_option maxHeartbeats 4000000 in
set_option maxRecDepth 100000 in
theorem c_X1_pool (l : Launch) (D : va_G) (cI : ClassId) (A : Nat → Nat → Nat) (j1 : Int32) (j2 : Int32) (xx : HS) (xn : HS) (xm : HS) (xk : HS) (out : Int32 × HS × HS) (hf : f_X1_pool j1 j2 xx xn xm xk = some out) : uI l D cI yX1_pool wsX1_pool ({ frames := 5, cells := 0, slots := 0, locals := 128 } : Room) [.ref ((A 0) 0), .int j1, .int j2] (wX A cI xx xn xm xk) (wX A cI out.2.1 xn out.2.2 xk) out.1 := by
  intro sz
  refine Met.ofW (cc := cX1_pool) (maxL := 7) (ret := (some .int)) (by decide) rfl ?_
  intro p e s m args below meth c s₁ Bd hml hv
  obtain ⟨rfl, hsz, hP, hK, hD0, hN⟩ := hv
  have hx := Bd.exec
  have hb := Bd.bytes
  have hr := Bd.returns
  have hts := atoms_spec (ws := wsX1_pool) Bd.pre
  have hown : s.vm.findClass RX1 = some m.cls := findClass_of_methodNamed Bd.named
  have hlocks := Bd.notSynchronized
  subst hsz
  have hD := hD0.self (sz := s.heap.size)
  generalize hAe : va_A (wX A cI xx xn xm xk) s.heap.size = G at hD ⊢
  have hA : ∀ q : Nat, s.heap.size ≤ q → G q := fun q h => by rw [← hAe]; exact Or.inr h
  have hS : va_S G s.heap s.heap [] := va_S.rf
  have hP : va_P D vwCl (wX A cI xx xn xm xk) s.heap := hP
  have hl := lv_entry ([.ref ((A 0) 0), .int j1, .int j2]) (n := 7) (Nat.le_of_ble_eq_true rfl)
  rw [lg_entry_eq]
  generalize (lg_sl ([.ref ((A 0) 0), .int j1, .int j2]) ++ List.replicate (7 - (lg_sl ([.ref ((A 0) 0), .int j1, .int j2])).length) Slot.unset).toArray = ls at hl ⊢
  have hl : lv_has ls 7 [(0, .ref ((A 0) 0)), (1, .int j1), (2, .int j2)] := hl
  have hinH : ∀ w ∈ wsX00, w ∈ wsX1_pool := by decide +kernel
  have hinX : ∀ w ∈ wsX10, w ∈ wsX1_pool := by decide +kernel
  have lk0 := hts (.fieldLink RX1 10 "LiesBoughtBack" "now" "LLiesBoughtBack$Hall;") (by decide +kernel)
  have lk1 := hts (.initialized RX0) (by decide +kernel)
  have lk2 := hts (.instanceMethod yX0_hasBidder) (by decide +kernel)
  have lk3 := hts (.selects RX0 yX0_hasBidder yX0_hasBidder) (by decide +kernel)
  have lk4 := hts (.fieldLink RX1 16 "LiesBoughtBack" "mind" "LLiesBoughtBack$Hall;") (by decide +kernel)
  have lk5 := hts (.instanceMethod yX0_become) (by decide +kernel)
  have lk6 := hts (.selects RX0 yX0_become yX0_become) (by decide +kernel)
  have lk7 := hts (.instanceMethod yX0_goOn) (by decide +kernel)
  have lk8 := hts (.selects RX0 yX0_goOn yX0_goOn) (by decide +kernel)
  have lk9 := hts (.instanceMethod yX0_heldBy) (by decide +kernel)
  have lk10 := hts (.selects RX0 yX0_heldBy yX0_heldBy) (by decide +kernel)
  have lk11 := hts (.instanceMethod yX0_pourPurse) (by decide +kernel)
  have lk12 := hts (.selects RX0 yX0_pourPurse yX0_pourPurse) (by decide +kernel)
  refine W_in ?_
  intro WW hWW
  refine (hWW _ _ _).mpr ?_
  unfold f_X1_pool at hf
  refine lv_aload_n hx hb dX1_pool_0 rfl (lv_at hl 0 rfl) ?_
  refine va_get (D := D) (ci := 1) (v := .ref ((A 1) 0)) (C := RX1) (T := TX1) (N := 9) hx hb hts hinX hown hK hP 0 rfl rfl 0 (by decide) lk0 (fun _ h9 => h9) rfl dX1_pool_1 ?_
  refine lv_iload_n hx hb dX1_pool_4 rfl (lv_at hl 1 rfl) ?_
  refine rVN_io (As := [.int j1]) (rest := []) ⟨hx, hb, hml, hown, hts⟩ hK hN hA hP hD hS (c_X0_hasBidder l D cI (A 1) j1 xn (f_X0_hasBidder j1 xn) rfl) ⟨va_cnB 1 hts gX1_pool_X0_hasBidder_n59 rfl rfl rfl (nW.m hN 13 rfl) lk1 hd_X0_hasBidder.2 ⟨Nat.le_of_ble_eq_true rfl, Nat.le_of_ble_eq_true rfl⟩, lk2, lk3⟩ (va_recv hK hP (ci := 0) (q0 := 1) rfl rfl) [1, 2, 3, 4, 5, 6, 7, 8, 9, 10, 11] (by decide) rfl rfl hl.1 rfl (Nat.le_of_ble_eq_true rfl) dX1_pool_5 ⟨Nat.le_of_ble_eq_true rfl, Nat.le_of_ble_eq_true rfl⟩ (fun H locs hP hD hS => ?_)
  refine lv_if_ne (tgt := 17) hx hb dX1_pool_8 (by decide) (fun c1 => ?_) (fun c1 => ?_)
  · have hf := hF hf c1
    refine lv_iload_n hx hb dX1_pool_17 rfl (lv_at hl 2 rfl) ?_
    refine lv_iconst (v := (0 : Int32)) hx hb dX1_pool_18 (by decide) ?_
    refine lv_bipush (v := (20 : Int32)) hx hb dX1_pool_19 (by decide) ?_
    refine rS_io (As := [.int j2, .int (0 : Int32), .int (20 : Int32)]) (rest := []) ⟨hx, hb, hml, hown, hts⟩ hK hN hA hP hD hS (c_X1_beyond l D cI j2 (0 : Int32) (20 : Int32) (f_X1_beyond j2 (0 : Int32) (20 : Int32)) rfl) (va_cwS 3 hts gX1_pool_X1_beyond rfl rfl rfl hd_X1_beyond.2 ⟨Nat.le_of_ble_eq_true rfl, Nat.le_of_ble_eq_true rfl⟩) [] (by decide) rfl rfl hl.1 rfl (Nat.le_of_ble_eq_true rfl) dX1_pool_21 ⟨Nat.le_of_ble_eq_true rfl, Nat.le_of_ble_eq_true rfl⟩ (fun H locs hP hD hS => ?_)
    refine lv_if_eq (tgt := 39) hx hb dX1_pool_24 (by decide) (fun c2 => ?_) (fun c2 => ?_)
    · have hf := hT hf c2
      refine lv_aload_n hx hb dX1_pool_39 rfl (lv_at hl 0 rfl) ?_
      refine va_get (D := D) (ci := 1) (v := .ref ((A 2) 0)) (C := RX1) (T := TX1) (N := 9) hx hb hts hinX hown hK hP 0 rfl rfl 1 (by decide) lk4 (fun _ h9 => h9) rfl dX1_pool_40 ?_
      refine lv_aload_n hx hb dX1_pool_43 rfl (lv_at hl 0 rfl) ?_
      refine va_get (D := D) (ci := 1) (v := .ref ((A 1) 0)) (C := RX1) (T := TX1) (N := 9) hx hb hts hinX hown hK hP 0 rfl rfl 0 (by decide) lk0 (fun _ h9 => h9) rfl dX1_pool_44 ?_
      obtain ⟨v3, hev3, hf⟩ := bS hf
      refine rVN_v (ws' := (wX A cI xx xn v3 xk)) (As := [.ref ((A 1) 0)]) (rest := []) ⟨hx, hb, hml, hown, hts⟩ hK hN hA hP hD hS (c_X0_become l D cI (A 2) (A 1) xm xn v3 hev3) ⟨va_cnB 1 hts gX1_pool_X0_become_n47 rfl rfl rfl (nW.m hN 1 rfl) lk1 hd_X0_become.2 ⟨Nat.le_of_ble_eq_true rfl, Nat.le_of_ble_eq_true rfl⟩, lk5, lk6⟩ (va_recv hK hP (ci := 0) (q0 := 12) rfl rfl) [12, 13, 14, 15, 16, 17, 18, 19, 20, 21, 22, 1, 2, 3, 4, 5, 6, 7, 8, 9, 10, 11] (by decide) rfl rfl rfl rfl hl.1 rfl (Nat.le_of_ble_eq_true rfl) dX1_pool_47 ⟨Nat.le_of_ble_eq_true rfl, Nat.le_of_ble_eq_true rfl⟩ (fun H locs hP hD hS => ?_)
      have hP : va_P D vwCl (wX A cI xx xn v3 xk) H := hP
      refine lv_aload_n hx hb dX1_pool_50 rfl (lv_at hl 0 rfl) ?_
      refine va_get (D := D) (ci := 1) (v := .ref ((A 2) 0)) (C := RX1) (T := TX1) (N := 9) hx hb hts hinX hown hK hP 0 rfl rfl 1 (by decide) lk4 (fun _ h9 => h9) rfl dX1_pool_51 ?_
      refine lv_iload_n hx hb dX1_pool_54 rfl (lv_at hl 2 rfl) ?_
      refine lv_iconst (v := (1 : Int32)) hx hb dX1_pool_55 (by decide) ?_
      obtain ⟨v4, hev4, hf⟩ := bS hf
      refine rVN_i (ws' := (wX A cI xx xn v4.2 xk)) (As := [.int j2, .int (1 : Int32)]) (rest := []) ⟨hx, hb, hml, hown, hts⟩ hK hN hA hP hD hS (c_X0_goOn l D cI (A 2) j2 (1 : Int32) v3 v4 hev4) ⟨va_cnB 2 hts gX1_pool_X0_goOn_n97 rfl rfl rfl (nW.m hN 12 rfl) lk1 hd_X0_goOn.2 ⟨Nat.le_of_ble_eq_true rfl, Nat.le_of_ble_eq_true rfl⟩, lk7, lk8⟩ (va_recv hK hP (ci := 0) (q0 := 12) rfl rfl) [12, 13, 14, 15, 16, 17, 18, 19, 20, 21, 22] (by decide) rfl rfl rfl rfl hl.1 rfl (Nat.le_of_ble_eq_true rfl) dX1_pool_56 ⟨Nat.le_of_ble_eq_true rfl, Nat.le_of_ble_eq_true rfl⟩ (fun H locs hP hD hS => ?_)
      have hP : va_P D vwCl (wX A cI xx xn v4.2 xk) H := hP
      refine lv_pop hx hb dX1_pool_59 rfl ?_
      refine lv_aload_n hx hb dX1_pool_60 rfl (lv_at hl 0 rfl) ?_
      refine va_get (D := D) (ci := 1) (v := .ref ((A 2) 0)) (C := RX1) (T := TX1) (N := 9) hx hb hts hinX hown hK hP 0 rfl rfl 1 (by decide) lk4 (fun _ h9 => h9) rfl dX1_pool_61 ?_
      refine lv_iload_n hx hb dX1_pool_64 rfl (lv_at hl 1 rfl) ?_
      obtain ⟨v5, hev5, hf⟩ := bS hf
      refine rVN_io (As := [.int j1]) (rest := []) ⟨hx, hb, hml, hown, hts⟩ hK hN hA hP hD hS (c_X0_heldBy l D cI (A 2) j1 v4.2 v5 hev5) ⟨va_cnB 1 hts gX1_pool_X0_heldBy_n190 rfl rfl rfl (nW.m hN 33 rfl) lk1 hd_X0_heldBy.2 ⟨Nat.le_of_ble_eq_true rfl, Nat.le_of_ble_eq_true rfl⟩, lk9, lk10⟩ (va_recv hK hP (ci := 0) (q0 := 12) rfl rfl) [12, 13, 14, 15, 16, 17, 18, 19, 20, 21, 22] (by decide) rfl rfl hl.1 rfl (Nat.le_of_ble_eq_true rfl) dX1_pool_65 ⟨Nat.le_of_ble_eq_true rfl, Nat.le_of_ble_eq_true rfl⟩ (fun H locs hP hD hS => ?_)
      refine lv_istore_n (lv' := [(3, .int v5), (0, .ref ((A 0) 0)), (1, .int j1), (2, .int j2)]) hx hb dX1_pool_68 rfl hl (by decide) rfl (fun ls hl => ?_)
      refine lv_bipush (v := (-9 : Int32)) hx hb dX1_pool_69 (by decide) ?_
      refine lv_istore (lv' := [(4, .int (-9 : Int32)), (3, .int v5), (0, .ref ((A 0) 0)), (1, .int j1), (2, .int j2)]) hx hb dX1_pool_71 hl (by decide) rfl (fun ls hl => ?_)
      refine lv_iconst (v := (0 : Int32)) hx hb dX1_pool_73 (by decide) ?_
      refine lv_istore (lv' := [(5, .int (0 : Int32)), (4, .int (-9 : Int32)), (3, .int v5), (0, .ref ((A 0) 0)), (1, .int j1), (2, .int j2)]) hx hb dX1_pool_74 hl (by decide) rfl (fun ls hl => ?_)
      obtain ⟨K154, hK154, hf⟩ := jnS hf
      have J154 : ∀ (j4_154 : Int32) (xx_154 : HS) (xm_154 : HS) (H : Heap) (locs : List Loc) (ls : Array Slot), K154 j4_154 xx_154 xm_154 = some out → va_P D vwCl (wX A cI xx_154 xn xm_154 xk) H → va_D G (wX A cI xx_154 xn xm_154 xk) → va_S G s.heap H locs → lv_has ls 7 [(4, .int j4_154)] → WW H locs (F0 m 154 ls []) := by
        intro j4_154 xx_154 xm_154 H locs ls hf hP hD hS hl
        subst hK154
        refine (hWW _ _ _).mpr ?_
        refine lv_iload hx hb dX1_pool_154 (lv_at hl 0 rfl) ?_
        obtain rfl := Option.some.inj hf
        exact W.iret (v := j4_154) hx hb hr (fun t ht hW => ⟨⟨j4_154, (), rfl, rfl, hPt ht hP⟩, hS.F ht⟩) hS.2.2 dX1_pool_156
      have P76 : ∀ (n' : Nat) (j3_76 : Int32) (j4_76 : Int32) (j5_76 : Int32) (xx_76 : HS) (xm_76 : HS) (H : Heap) (locs : List Loc) (ls : Array Slot), L_X1_pool_76 j1 j2 xn xk K154 n' j3_76 j4_76 j5_76 xx_76 xm_76 = some out → va_P D vwCl (wX A cI xx_76 xn xm_76 xk) H → va_D G (wX A cI xx_76 xn xm_76 xk) → va_S G s.heap H locs → lv_has ls 7 [(0, .ref ((A 0) 0)), (1, .int j1), (2, .int j2), (3, .int j3_76), (4, .int j4_76), (5, .int j5_76)] → WW H locs (F0 m 76 ls []) := by
        intro n'
        induction n' with
        | zero => intro j3_76 j4_76 j5_76 xx_76 xm_76 H locs ls hf; exact absurd (show (none : Option (Int32 × HS × HS)) = some out from hf) (fun q => by cases q)
        | succ n' ih =>
          intro j3_76 j4_76 j5_76 xx_76 xm_76 H locs ls hf hP hD hS hl
          rw [L_X1_pool_76] at hf
          refine (hWW _ _ _).mpr ?_
          refine lv_iload hx hb dX1_pool_76 (lv_at hl 5 rfl) ?_
          refine lv_aload_n hx hb dX1_pool_78 rfl (lv_at hl 0 rfl) ?_
          refine va_get (D := D) (ci := 1) (v := .ref ((A 1) 0)) (C := RX1) (T := TX1) (N := 9) hx hb hts hinX hown hK hP 0 rfl rfl 0 (by decide) lk0 (fun _ h9 => h9) rfl dX1_pool_79 ?_
          refine va_getN (D := D) (ci := 0) (v := .int (xn 11 0)) (C := RX0) (T := TX0) (N := 13) hx hb hts hinH hown hK hP 1 rfl rfl 1 (by decide) (nW.f hN 1 rfl) (fun _ h9 => h9) rfl dX1_pool_82 ?_
          refine lv_icmp_ge (tgt := 154) hx hb dX1_pool_85 (by decide) (fun c6 => ?_) (fun c6 => ?_)
          · have hf := hT hf c6
            exact (hWW _ _ _).mp (J154 _ _ _ _ _ _ hf hP hD hS (lv_sub hl [4] rfl))
          · have hf := hF hf c6
            refine lv_iload hx hb dX1_pool_88 (lv_at hl 5 rfl) ?_
            refine lv_iload_n hx hb dX1_pool_90 rfl (lv_at hl 1 rfl) ?_
            refine lv_icmp_eq (tgt := 148) hx hb dX1_pool_91 (by decide) (fun c7 => ?_) (fun c7 => ?_)
            · have hf := hT hf c7
              refine lv_iinc (v := (j5_76 + (1 : Int32))) (lv' := [(5, .int (j5_76 + (1 : Int32))), (0, .ref ((A 0) 0)), (1, .int j1), (2, .int j2), (3, .int j3_76), (4, .int j4_76)]) hx hb dX1_pool_148 hl (k := 5) rfl rfl (by decide) rfl (fun ls hl => ?_)
              refine lv_goto (tgt := 76) hx hb dX1_pool_151 (by decide) ?_
              exact (hWW _ _ _).mp (ih _ _ _ _ _ _ _ _ hf hP hD hS (lv_sub hl [1, 2, 3, 4, 5, 0] rfl))
            · have hf := hF hf c7
              refine lv_aload_n hx hb dX1_pool_94 rfl (lv_at hl 0 rfl) ?_
              refine va_get (D := D) (ci := 1) (v := .ref ((A 2) 0)) (C := RX1) (T := TX1) (N := 9) hx hb hts hinX hown hK hP 0 rfl rfl 1 (by decide) lk4 (fun _ h9 => h9) rfl dX1_pool_95 ?_
              refine lv_aload_n hx hb dX1_pool_98 rfl (lv_at hl 0 rfl) ?_
              refine va_get (D := D) (ci := 1) (v := .ref ((A 1) 0)) (C := RX1) (T := TX1) (N := 9) hx hb hts hinX hown hK hP 0 rfl rfl 0 (by decide) lk0 (fun _ h9 => h9) rfl dX1_pool_99 ?_
              obtain ⟨v8, hev8, hf⟩ := bS hf
              refine rVN_v (ws' := (wX A cI xx_76 xn v8 xk)) (As := [.ref ((A 1) 0)]) (rest := []) ⟨hx, hb, hml, hown, hts⟩ hK hN hA hP hD hS (c_X0_become l D cI (A 2) (A 1) xm_76 xn v8 hev8) ⟨va_cnB 1 hts gX1_pool_X0_become_n47 rfl rfl rfl (nW.m hN 1 rfl) lk1 hd_X0_become.2 ⟨Nat.le_of_ble_eq_true rfl, Nat.le_of_ble_eq_true rfl⟩, lk5, lk6⟩ (va_recv hK hP (ci := 0) (q0 := 12) rfl rfl) [12, 13, 14, 15, 16, 17, 18, 19, 20, 21, 22, 1, 2, 3, 4, 5, 6, 7, 8, 9, 10, 11] (by decide) rfl rfl rfl rfl hl.1 rfl (Nat.le_of_ble_eq_true rfl) dX1_pool_102 ⟨Nat.le_of_ble_eq_true rfl, Nat.le_of_ble_eq_true rfl⟩ (fun H locs hP hD hS => ?_)
              have hP : va_P D vwCl (wX A cI xx_76 xn v8 xk) H := hP
              refine lv_aload_n hx hb dX1_pool_105 rfl (lv_at hl 0 rfl) ?_
              refine va_get (D := D) (ci := 1) (v := .ref ((A 2) 0)) (C := RX1) (T := TX1) (N := 9) hx hb hts hinX hown hK hP 0 rfl rfl 1 (by decide) lk4 (fun _ h9 => h9) rfl dX1_pool_106 ?_
              refine lv_iload hx hb dX1_pool_109 (lv_at hl 5 rfl) ?_
              refine lv_iload_n hx hb dX1_pool_111 rfl (lv_at hl 1 rfl) ?_
              obtain ⟨v9, hev9, hf⟩ := bS hf
              refine rVN_v (ws' := (wX A cI xx_76 xn v9 xk)) (As := [.int j5_76, .int j1]) (rest := []) ⟨hx, hb, hml, hown, hts⟩ hK hN hA hP hD hS (c_X0_pourPurse l D cI (A 2) j5_76 j1 v8 v9 hev9) ⟨va_cnB 2 hts gX1_pool_X0_pourPurse_n197 rfl rfl rfl (nW.m hN 35 rfl) lk1 hd_X0_pourPurse.2 ⟨Nat.le_of_ble_eq_true rfl, Nat.le_of_ble_eq_true rfl⟩, lk11, lk12⟩ (va_recv hK hP (ci := 0) (q0 := 12) rfl rfl) [12, 13, 14, 15, 16, 17, 18, 19, 20, 21, 22] (by decide) rfl rfl rfl rfl hl.1 rfl (Nat.le_of_ble_eq_true rfl) dX1_pool_112 ⟨Nat.le_of_ble_eq_true rfl, Nat.le_of_ble_eq_true rfl⟩ (fun H locs hP hD hS => ?_)
              have hP : va_P D vwCl (wX A cI xx_76 xn v9 xk) H := hP
              refine lv_aload_n hx hb dX1_pool_115 rfl (lv_at hl 0 rfl) ?_
              refine va_get (D := D) (ci := 1) (v := .ref ((A 2) 0)) (C := RX1) (T := TX1) (N := 9) hx hb hts hinX hown hK hP 0 rfl rfl 1 (by decide) lk4 (fun _ h9 => h9) rfl dX1_pool_116 ?_
              refine lv_iload_n hx hb dX1_pool_119 rfl (lv_at hl 2 rfl) ?_
              refine lv_iconst (v := (1 : Int32)) hx hb dX1_pool_120 (by decide) ?_
              obtain ⟨v10, hev10, hf⟩ := bS hf
              refine rVN_i (ws' := (wX A cI xx_76 xn v10.2 xk)) (As := [.int j2, .int (1 : Int32)]) (rest := []) ⟨hx, hb, hml, hown, hts⟩ hK hN hA hP hD hS (c_X0_goOn l D cI (A 2) j2 (1 : Int32) v9 v10 hev10) ⟨va_cnB 2 hts gX1_pool_X0_goOn_n97 rfl rfl rfl (nW.m hN 12 rfl) lk1 hd_X0_goOn.2 ⟨Nat.le_of_ble_eq_true rfl, Nat.le_of_ble_eq_true rfl⟩, lk7, lk8⟩ (va_recv hK hP (ci := 0) (q0 := 12) rfl rfl) [12, 13, 14, 15, 16, 17, 18, 19, 20, 21, 22] (by decide) rfl rfl rfl rfl hl.1 rfl (Nat.le_of_ble_eq_true rfl) dX1_pool_121 ⟨Nat.le_of_ble_eq_true rfl, Nat.le_of_ble_eq_true rfl⟩ (fun H locs hP hD hS => ?_)
              have hP : va_P D vwCl (wX A cI xx_76 xn v10.2 xk) H := hP
              refine lv_pop hx hb dX1_pool_124 rfl ?_
              refine lv_aload_n hx hb dX1_pool_125 rfl (lv_at hl 0 rfl) ?_
              refine va_get (D := D) (ci := 1) (v := .ref ((A 2) 0)) (C := RX1) (T := TX1) (N := 9) hx hb hts hinX hown hK hP 0 rfl rfl 1 (by decide) lk4 (fun _ h9 => h9) rfl dX1_pool_126 ?_
              refine lv_iload_n hx hb dX1_pool_129 rfl (lv_at hl 1 rfl) ?_
              obtain ⟨v11, hev11, hf⟩ := bS hf
              refine rVN_io (As := [.int j1]) (rest := []) ⟨hx, hb, hml, hown, hts⟩ hK hN hA hP hD hS (c_X0_heldBy l D cI (A 2) j1 v10.2 v11 hev11) ⟨va_cnB 1 hts gX1_pool_X0_heldBy_n190 rfl rfl rfl (nW.m hN 33 rfl) lk1 hd_X0_heldBy.2 ⟨Nat.le_of_ble_eq_true rfl, Nat.le_of_ble_eq_true rfl⟩, lk9, lk10⟩ (va_recv hK hP (ci := 0) (q0 := 12) rfl rfl) [12, 13, 14, 15, 16, 17, 18, 19, 20, 21, 22] (by decide) rfl rfl hl.1 rfl (Nat.le_of_ble_eq_true rfl) dX1_pool_130 ⟨Nat.le_of_ble_eq_true rfl, Nat.le_of_ble_eq_true rfl⟩ (fun H locs hP hD hS => ?_)
              refine lv_istore (lv' := [(6, .int v11), (0, .ref ((A 0) 0)), (1, .int j1), (2, .int j2), (3, .int j3_76), (4, .int j4_76), (5, .int j5_76)]) hx hb dX1_pool_133 hl (by decide) rfl (fun ls hl => ?_)
              refine lv_iload hx hb dX1_pool_135 (lv_at hl 0 rfl) ?_
              refine lv_iload_n hx hb dX1_pool_137 rfl (lv_at hl 4 rfl) ?_
              refine lv_icmp_le (tgt := 148) hx hb dX1_pool_138 (by decide) (fun c12 => ?_) (fun c12 => ?_)
              · have hf := hT hf c12
                refine lv_iinc (v := (j5_76 + (1 : Int32))) (lv' := [(5, .int (j5_76 + (1 : Int32))), (6, .int v11), (0, .ref ((A 0) 0)), (1, .int j1), (2, .int j2), (3, .int j3_76), (4, .int j4_76)]) hx hb dX1_pool_148 hl (k := 6) rfl rfl (by decide) rfl (fun ls hl => ?_)
                refine lv_goto (tgt := 76) hx hb dX1_pool_151 (by decide) ?_
                exact (hWW _ _ _).mp (ih _ _ _ _ _ _ _ _ hf hP hD hS (lv_sub hl [2, 3, 4, 5, 6, 0] rfl))
              · have hf := hF hf c12
                refine lv_iload hx hb dX1_pool_141 (lv_at hl 0 rfl) ?_
                refine lv_istore_n (lv' := [(3, .int v11), (6, .int v11), (0, .ref ((A 0) 0)), (1, .int j1), (2, .int j2), (4, .int j4_76), (5, .int j5_76)]) hx hb dX1_pool_143 rfl hl (by decide) rfl (fun ls hl => ?_)
                refine lv_iload hx hb dX1_pool_144 (lv_at hl 6 rfl) ?_
                refine lv_istore (lv' := [(4, .int j5_76), (3, .int v11), (6, .int v11), (0, .ref ((A 0) 0)), (1, .int j1), (2, .int j2), (5, .int j5_76)]) hx hb dX1_pool_146 hl (by decide) rfl (fun ls hl => ?_)
                refine lv_iinc (v := (j5_76 + (1 : Int32))) (lv' := [(5, .int (j5_76 + (1 : Int32))), (4, .int j5_76), (3, .int v11), (6, .int v11), (0, .ref ((A 0) 0)), (1, .int j1), (2, .int j2)]) hx hb dX1_pool_148 hl (k := 6) rfl rfl (by decide) rfl (fun ls hl => ?_)
                refine lv_goto (tgt := 76) hx hb dX1_pool_151 (by decide) ?_
                exact (hWW _ _ _).mp (ih _ _ _ _ _ _ _ _ hf hP hD hS (lv_sub hl [4, 5, 6, 2, 1, 0] rfl))
      exact (hWW _ _ _).mp (P76 _ _ _ _ _ _ _ _ _ hf hP hD hS (lv_sub hl [3, 4, 5, 2, 1, 0] rfl))
    · have hf := hF hf c2
      refine lv_aload_n hx hb dX1_pool_27 rfl (lv_at hl 0 rfl) ?_
      refine lv_iload_n hx hb dX1_pool_28 rfl (lv_at hl 2 rfl) ?_
      refine lv_iconst (v := (0 : Int32)) hx hb dX1_pool_29 (by decide) ?_
      refine lv_bipush (v := (20 : Int32)) hx hb dX1_pool_30 (by decide) ?_
      refine rS_io (As := [.int j2, .int (0 : Int32), .int (20 : Int32)]) (rest := [.ref ((A 0) 0)]) ⟨hx, hb, hml, hown, hts⟩ hK hN hA hP hD hS (c_X1_beyond l D cI j2 (0 : Int32) (20 : Int32) (f_X1_beyond j2 (0 : Int32) (20 : Int32)) rfl) (va_cwS 3 hts gX1_pool_X1_beyond rfl rfl rfl hd_X1_beyond.2 ⟨Nat.le_of_ble_eq_true rfl, Nat.le_of_ble_eq_true rfl⟩) [] (by decide) rfl rfl hl.1 rfl (Nat.le_of_ble_eq_true rfl) dX1_pool_32 ⟨Nat.le_of_ble_eq_true rfl, Nat.le_of_ble_eq_true rfl⟩ (fun H locs hP hD hS => ?_)
      obtain ⟨v13, hev13, hf⟩ := bS hf
      refine rV_i (ws' := (wX A cI v13.2 xn xm xk)) (As := [.int (f_X1_beyond j2 (0 : Int32) (20 : Int32))]) (rest := []) ⟨hx, hb, hml, hown, hts⟩ hK hN hA hP hD hS (c_X1_refuse l D cI A (f_X1_beyond j2 (0 : Int32) (20 : Int32)) xx xn xm xk v13 hev13) (cwV 1 hts gX1_pool_X1_refuse rfl rfl rfl hd_X1_refuse ⟨Nat.le_of_ble_eq_true rfl, Nat.le_of_ble_eq_true rfl⟩) (va_recv hK hP (ci := 1) (q0 := 0) rfl rfl) [0, 1, 2, 3, 4, 5, 6, 7, 8, 9, 10, 11, 12, 13, 14, 15, 16, 17, 18, 19, 20, 21, 22, 23, 24, 25, 26, 27, 28, 29, 30, 31, 32, 33, 34, 35, 36] (by decide) rfl rfl rfl rfl hl.1 rfl (Nat.le_of_ble_eq_true rfl) dX1_pool_35 ⟨Nat.le_of_ble_eq_true rfl, Nat.le_of_ble_eq_true rfl⟩ (fun H locs hP hD hS => ?_)
      have hP : va_P D vwCl (wX A cI v13.2 xn xm xk) H := hP
      obtain rfl := Option.some.inj hf
      exact W.iret (v := v13.1) hx hb hr (fun t ht hW => ⟨⟨v13.1, (), rfl, rfl, hPt ht hP⟩, hS.F ht⟩) hS.2.2 dX1_pool_38
  · have hf := hT hf c1
    refine lv_aload_n hx hb dX1_pool_11 rfl (lv_at hl 0 rfl) ?_
    refine lv_iconst (v := (-1 : Int32)) hx hb dX1_pool_12 (by decide) ?_
    obtain ⟨v14, hev14, hf⟩ := bS hf
    refine rV_i (ws' := (wX A cI v14.2 xn xm xk)) (As := [.int (-1 : Int32)]) (rest := []) ⟨hx, hb, hml, hown, hts⟩ hK hN hA hP hD hS (c_X1_refuse l D cI A (-1 : Int32) xx xn xm xk v14 hev14) (cwV 1 hts gX1_pool_X1_refuse rfl rfl rfl hd_X1_refuse ⟨Nat.le_of_ble_eq_true rfl, Nat.le_of_ble_eq_true rfl⟩) (va_recv hK hP (ci := 1) (q0 := 0) rfl rfl) [0, 1, 2, 3, 4, 5, 6, 7, 8, 9, 10, 11, 12, 13, 14, 15, 16, 17, 18, 19, 20, 21, 22, 23, 24, 25, 26, 27, 28, 29, 30, 31, 32, 33, 34, 35, 36] (by decide) rfl rfl rfl rfl hl.1 rfl (Nat.le_of_ble_eq_true rfl) dX1_pool_13 ⟨Nat.le_of_ble_eq_true rfl, Nat.le_of_ble_eq_true rfl⟩ (fun H locs hP hD hS => ?_)
    have hP : va_P D vwCl (wX A cI v14.2 xn xm xk) H := hP
    obtain rfl := Option.some.inj hf
    exact W.iret (v := v14.1) hx hb hr (fun t ht hW => ⟨⟨v14.1, (), rfl, rfl, hPt ht hP⟩, hS.F ht⟩) hS.2.2 dX1_pool_16
def L_X1_stay_25 (j1 : Int32) (xn : HS) (xk : HS) (K96 : Int32 → Int32 → HS → HS → Option (Int32 × HS × HS)) : Nat → Int32 → Int32 → Int32 → HS → HS → Option (Int32 × HS × HS)
  | 0, _, _, _, _, _ => none
  | n' + 1, j2_25, j3_25, j4_25, xx_25, xm_25 => if (xn 11 0) ≤ j4_25 then (K96 j2_25 j3_25 xx_25 xm_25) else (f_X0_become xm_25 xn).bind fun v6 => jn (st v6 8 (ptv 6 (v6 8) j4_25 (0 : Int32))) (fun (xm_v7 : HS) => (f_X0_goOn (1 : Int32) (1 : Int32) xm_v7).bind fun v8 => if j2_25 = (-9 : Int32) then (L_X1_stay_25 j1 xn xk K96 n' j4_25 v8.1 (j4_25 + (1 : Int32)) xx_25 v8.2) else if j3_25 ≤ v8.1 then (L_X1_stay_25 j1 xn xk K96 n' j2_25 j3_25 (j4_25 + (1 : Int32)) xx_25 v8.2) else (L_X1_stay_25 j1 xn xk K96 n' j4_25 v8.1 (j4_25 + (1 : Int32)) xx_25 v8.2))
def f_X1_stay (j1 : Int32) (xx : HS) (xn : HS) (xm : HS) (xk : HS) : Option (Int32 × HS × HS) := if j1 < 0 then (f_X1_refuse (-2 : Int32) xx xn xm xk).bind fun v2 => some (v2.1, v2.2, xm) else if j1 ≤ (1 : Int32) then jn (fun (j2_96 : Int32) (j3_96 : Int32) (xx_96 : HS) (xm_96 : HS) => if j1 = 0 then some (j2_96, xx_96, xm_96) else some (j3_96, xx_96, xm_96)) (fun (K96 : Int32 → Int32 → HS → HS → Option (Int32 × HS × HS)) => (L_X1_stay_25 j1 xn xk K96 fuel (-9 : Int32) (-9 : Int32) (0 : Int32) xx xm)) else (f_X1_refuse (-2 : Int32) xx xn xm xk).bind fun v11 => some (v11.1, v11.2, xm)
set_option maxHeartbeats 4000000 in
set_option maxRecDepth 100000 in
theorem c_X1_stay (l : Launch) (D : va_G) (cI : ClassId) (A : Nat → Nat → Nat) (j1 : Int32) (xx : HS) (xn : HS) (xm : HS) (xk : HS) (out : Int32 × HS × HS) (hf : f_X1_stay j1 xx xn xm xk = some out) : uI l D cI yX1_stay wsX1_stay ({ frames := 5, cells := 0, slots := 0, locals := 128 } : Room) [.ref ((A 0) 0), .int j1] (wX A cI xx xn xm xk) (wX A cI out.2.1 xn out.2.2 xk) out.1 := by
  intro sz
  refine Met.ofW (cc := cX1_stay) (maxL := 6) (ret := (some .int)) (by decide) rfl ?_
  intro p e s m args below meth c s₁ Bd hml hv
  obtain ⟨rfl, hsz, hP, hK, hD0, hN⟩ := hv
  have hx := Bd.exec
  have hb := Bd.bytes
  have hr := Bd.returns
  have hts := atoms_spec (ws := wsX1_stay) Bd.pre
  have hown : s.vm.findClass RX1 = some m.cls := findClass_of_methodNamed Bd.named
  have hlocks := Bd.notSynchronized
  subst hsz
  have hD := hD0.self (sz := s.heap.size)
  generalize hAe : va_A (wX A cI xx xn xm xk) s.heap.size = G at hD ⊢
  have hA : ∀ q : Nat, s.heap.size ≤ q → G q := fun q h => by rw [← hAe]; exact Or.inr h
  have hS : va_S G s.heap s.heap [] := va_S.rf
  have hP : va_P D vwCl (wX A cI xx xn xm xk) s.heap := hP
  have hl := lv_entry ([.ref ((A 0) 0), .int j1]) (n := 6) (Nat.le_of_ble_eq_true rfl)
  rw [lg_entry_eq]
  generalize (lg_sl ([.ref ((A 0) 0), .int j1]) ++ List.replicate (6 - (lg_sl ([.ref ((A 0) 0), .int j1])).length) Slot.unset).toArray = ls at hl ⊢
  have hl : lv_has ls 6 [(0, .ref ((A 0) 0)), (1, .int j1)] := hl
  have hinH : ∀ w ∈ wsX00, w ∈ wsX1_stay := by decide +kernel
  have hinX : ∀ w ∈ wsX10, w ∈ wsX1_stay := by decide +kernel
  have lk0 := hts (.fieldLink RX1 10 "LiesBoughtBack" "now" "LLiesBoughtBack$Hall;") (by decide +kernel)
  have lk1 := hts (.fieldLink RX1 16 "LiesBoughtBack" "mind" "LLiesBoughtBack$Hall;") (by decide +kernel)
  have lk2 := hts (.initialized RX0) (by decide +kernel)
  have lk3 := hts (.instanceMethod yX0_become) (by decide +kernel)
  have lk4 := hts (.selects RX0 yX0_become yX0_become) (by decide +kernel)
  have lk5 := hts (.instanceMethod yX0_goOn) (by decide +kernel)
  have lk6 := hts (.selects RX0 yX0_goOn yX0_goOn) (by decide +kernel)
  refine W_in ?_
  intro WW hWW
  refine (hWW _ _ _).mpr ?_
  unfold f_X1_stay at hf
  refine lv_iload_n hx hb dX1_stay_0 rfl (lv_at hl 1 rfl) ?_
  refine lv_if_lt (tgt := 9) hx hb dX1_stay_1 (by decide) (fun c1 => ?_) (fun c1 => ?_)
  · have hf := hT hf c1
    refine lv_aload_n hx hb dX1_stay_9 rfl (lv_at hl 0 rfl) ?_
    refine lv_bipush (v := (-2 : Int32)) hx hb dX1_stay_10 (by decide) ?_
    obtain ⟨v2, hev2, hf⟩ := bS hf
    refine rV_i (ws' := (wX A cI v2.2 xn xm xk)) (As := [.int (-2 : Int32)]) (rest := []) ⟨hx, hb, hml, hown, hts⟩ hK hN hA hP hD hS (c_X1_refuse l D cI A (-2 : Int32) xx xn xm xk v2 hev2) (cwV 1 hts gX1_stay_X1_refuse rfl rfl rfl hd_X1_refuse ⟨Nat.le_of_ble_eq_true rfl, Nat.le_of_ble_eq_true rfl⟩) (va_recv hK hP (ci := 1) (q0 := 0) rfl rfl) [0, 1, 2, 3, 4, 5, 6, 7, 8, 9, 10, 11, 12, 13, 14, 15, 16, 17, 18, 19, 20, 21, 22, 23, 24, 25, 26, 27, 28, 29, 30, 31, 32, 33, 34, 35, 36] (by decide) rfl rfl rfl rfl hl.1 rfl (Nat.le_of_ble_eq_true rfl) dX1_stay_12 ⟨Nat.le_of_ble_eq_true rfl, Nat.le_of_ble_eq_true rfl⟩ (fun H locs hP hD hS => ?_)
    have hP : va_P D vwCl (wX A cI v2.2 xn xm xk) H := hP
    obtain rfl := Option.some.inj hf
    exact W.iret (v := v2.1) hx hb hr (fun t ht hW => ⟨⟨v2.1, (), rfl, rfl, hPt ht hP⟩, hS.F ht⟩) hS.2.2 dX1_stay_15
  · have hf := hF hf c1
    refine lv_iload_n hx hb dX1_stay_4 rfl (lv_at hl 1 rfl) ?_
    refine lv_iconst (v := (1 : Int32)) hx hb dX1_stay_5 (by decide) ?_
    refine lv_icmp_le (tgt := 16) hx hb dX1_stay_6 (by decide) (fun c3 => ?_) (fun c3 => ?_)
    · have hf := hT hf c3
      refine lv_bipush (v := (-9 : Int32)) hx hb dX1_stay_16 (by decide) ?_
      refine lv_istore_n (lv' := [(2, .int (-9 : Int32)), (0, .ref ((A 0) 0)), (1, .int j1)]) hx hb dX1_stay_18 rfl hl (by decide) rfl (fun ls hl => ?_)
      refine lv_bipush (v := (-9 : Int32)) hx hb dX1_stay_19 (by decide) ?_
      refine lv_istore_n (lv' := [(3, .int (-9 : Int32)), (2, .int (-9 : Int32)), (0, .ref ((A 0) 0)), (1, .int j1)]) hx hb dX1_stay_21 rfl hl (by decide) rfl (fun ls hl => ?_)
      refine lv_iconst (v := (0 : Int32)) hx hb dX1_stay_22 (by decide) ?_
      refine lv_istore (lv' := [(4, .int (0 : Int32)), (3, .int (-9 : Int32)), (2, .int (-9 : Int32)), (0, .ref ((A 0) 0)), (1, .int j1)]) hx hb dX1_stay_23 hl (by decide) rfl (fun ls hl => ?_)
      obtain ⟨K96, hK96, hf⟩ := jnS hf
      have J96 : ∀ (j2_96 : Int32) (j3_96 : Int32) (xx_96 : HS) (xm_96 : HS) (H : Heap) (locs : List Loc) (ls : Array Slot), K96 j2_96 j3_96 xx_96 xm_96 = some out → va_P D vwCl (wX A cI xx_96 xn xm_96 xk) H → va_D G (wX A cI xx_96 xn xm_96 xk) → va_S G s.heap H locs → lv_has ls 6 [(1, .int j1), (2, .int j2_96), (3, .int j3_96)] → WW H locs (F0 m 96 ls []) := by
        intro j2_96 j3_96 xx_96 xm_96 H locs ls hf hP hD hS hl
        subst hK96
        refine (hWW _ _ _).mpr ?_
        refine lv_iload_n hx hb dX1_stay_96 rfl (lv_at hl 0 rfl) ?_
        refine lv_if_ne (tgt := 104) hx hb dX1_stay_97 (by decide) (fun c4 => ?_) (fun c4 => ?_)
        · have hf := hF hf c4
          refine lv_iload_n hx hb dX1_stay_104 rfl (lv_at hl 2 rfl) ?_
          obtain rfl := Option.some.inj hf
          exact W.iret (v := j3_96) hx hb hr (fun t ht hW => ⟨⟨j3_96, (), rfl, rfl, hPt ht hP⟩, hS.F ht⟩) hS.2.2 dX1_stay_105
        · have hf := hT hf c4
          refine lv_iload_n hx hb dX1_stay_100 rfl (lv_at hl 1 rfl) ?_
          refine lv_goto (tgt := 105) hx hb dX1_stay_101 (by decide) ?_
          obtain rfl := Option.some.inj hf
          exact W.iret (v := j2_96) hx hb hr (fun t ht hW => ⟨⟨j2_96, (), rfl, rfl, hPt ht hP⟩, hS.F ht⟩) hS.2.2 dX1_stay_105
      have P25 : ∀ (n' : Nat) (j2_25 : Int32) (j3_25 : Int32) (j4_25 : Int32) (xx_25 : HS) (xm_25 : HS) (H : Heap) (locs : List Loc) (ls : Array Slot), L_X1_stay_25 j1 xn xk K96 n' j2_25 j3_25 j4_25 xx_25 xm_25 = some out → va_P D vwCl (wX A cI xx_25 xn xm_25 xk) H → va_D G (wX A cI xx_25 xn xm_25 xk) → va_S G s.heap H locs → lv_has ls 6 [(0, .ref ((A 0) 0)), (1, .int j1), (2, .int j2_25), (3, .int j3_25), (4, .int j4_25)] → WW H locs (F0 m 25 ls []) := by
        intro n'
        induction n' with
        | zero => intro j2_25 j3_25 j4_25 xx_25 xm_25 H locs ls hf; exact absurd (show (none : Option (Int32 × HS × HS)) = some out from hf) (fun q => by cases q)
        | succ n' ih =>
          intro j2_25 j3_25 j4_25 xx_25 xm_25 H locs ls hf hP hD hS hl
          rw [L_X1_stay_25] at hf
          refine (hWW _ _ _).mpr ?_
          refine lv_iload hx hb dX1_stay_25 (lv_at hl 4 rfl) ?_
          refine lv_aload_n hx hb dX1_stay_27 rfl (lv_at hl 0 rfl) ?_
          refine va_get (D := D) (ci := 1) (v := .ref ((A 1) 0)) (C := RX1) (T := TX1) (N := 9) hx hb hts hinX hown hK hP 0 rfl rfl 0 (by decide) lk0 (fun _ h9 => h9) rfl dX1_stay_28 ?_
          refine va_getN (D := D) (ci := 0) (v := .int (xn 11 0)) (C := RX0) (T := TX0) (N := 13) hx hb hts hinH hown hK hP 1 rfl rfl 1 (by decide) (nW.f hN 1 rfl) (fun _ h9 => h9) rfl dX1_stay_31 ?_
          refine lv_icmp_ge (tgt := 96) hx hb dX1_stay_34 (by decide) (fun c5 => ?_) (fun c5 => ?_)
          · have hf := hT hf c5
            exact (hWW _ _ _).mp (J96 _ _ _ _ _ _ _ hf hP hD hS (lv_sub hl [1, 2, 3] rfl))
          · have hf := hF hf c5
            refine lv_aload_n hx hb dX1_stay_37 rfl (lv_at hl 0 rfl) ?_
            refine va_get (D := D) (ci := 1) (v := .ref ((A 2) 0)) (C := RX1) (T := TX1) (N := 9) hx hb hts hinX hown hK hP 0 rfl rfl 1 (by decide) lk1 (fun _ h9 => h9) rfl dX1_stay_38 ?_
            refine lv_aload_n hx hb dX1_stay_41 rfl (lv_at hl 0 rfl) ?_
            refine va_get (D := D) (ci := 1) (v := .ref ((A 1) 0)) (C := RX1) (T := TX1) (N := 9) hx hb hts hinX hown hK hP 0 rfl rfl 0 (by decide) lk0 (fun _ h9 => h9) rfl dX1_stay_42 ?_
            obtain ⟨v6, hev6, hf⟩ := bS hf
            refine rVN_v (ws' := (wX A cI xx_25 xn v6 xk)) (As := [.ref ((A 1) 0)]) (rest := []) ⟨hx, hb, hml, hown, hts⟩ hK hN hA hP hD hS (c_X0_become l D cI (A 2) (A 1) xm_25 xn v6 hev6) ⟨va_cnB 1 hts gX1_stay_X0_become_n47 rfl rfl rfl (nW.m hN 1 rfl) lk2 hd_X0_become.2 ⟨Nat.le_of_ble_eq_true rfl, Nat.le_of_ble_eq_true rfl⟩, lk3, lk4⟩ (va_recv hK hP (ci := 0) (q0 := 12) rfl rfl) [12, 13, 14, 15, 16, 17, 18, 19, 20, 21, 22, 1, 2, 3, 4, 5, 6, 7, 8, 9, 10, 11] (by decide) rfl rfl rfl rfl hl.1 rfl (Nat.le_of_ble_eq_true rfl) dX1_stay_45 ⟨Nat.le_of_ble_eq_true rfl, Nat.le_of_ble_eq_true rfl⟩ (fun H locs hP hD hS => ?_)
            have hP : va_P D vwCl (wX A cI xx_25 xn v6 xk) H := hP
            refine lv_aload_n hx hb dX1_stay_48 rfl (lv_at hl 0 rfl) ?_
            refine va_get (D := D) (ci := 1) (v := .ref ((A 2) 0)) (C := RX1) (T := TX1) (N := 9) hx hb hts hinX hown hK hP 0 rfl rfl 1 (by decide) lk1 (fun _ h9 => h9) rfl dX1_stay_49 ?_
            refine va_getN (D := D) (ci := 0) (v := .ref ((A 2) 9)) (C := RX0) (T := TX0) (N := 13) hx hb hts hinH hown hK hP 12 rfl rfl 11 (by decide) (nW.f hN 10 rfl) (fun _ h9 => h9) rfl dX1_stay_52 ?_
            refine lv_iload hx hb dX1_stay_55 (lv_at hl 4 rfl) ?_
            refine lv_iconst (v := (0 : Int32)) hx hb dX1_stay_57 (by decide) ?_
            obtain ⟨xm_v7, exm_v7, hf⟩ := jnS hf
            refine rS_v (ws' := (wX A cI xx_25 xn xm_v7 xk)) (As := [.ref ((A 2) 9), .int j4_25, .int (0 : Int32)]) (rest := []) ⟨hx, hb, hml, hown, hts⟩ hK hN hA hP hD hS (c_X1_put l D cI 6 (by decide) ((A 2) 9) (v6 8) j4_25 (0 : Int32)) (va_cwS 3 hts gX1_stay_X1_put rfl rfl rfl hd_X1_put.2 ⟨Nat.le_of_ble_eq_true rfl, Nat.le_of_ble_eq_true rfl⟩) [21] (by decide) rfl rfl ((sa_X1_m_8 A cI xx_25 xn v6 xk (ptv 6 (v6 8) j4_25 (0 : Int32))).trans (congrArg (fun z => wX A cI xx_25 xn z xk) exm_v7.symm)) rfl hl.1 rfl (Nat.le_of_ble_eq_true rfl) dX1_stay_58 ⟨Nat.le_of_ble_eq_true rfl, Nat.le_of_ble_eq_true rfl⟩ (fun H locs hP hD hS => ?_)
            refine lv_aload_n hx hb dX1_stay_61 rfl (lv_at hl 0 rfl) ?_
            refine va_get (D := D) (ci := 1) (v := .ref ((A 2) 0)) (C := RX1) (T := TX1) (N := 9) hx hb hts hinX hown hK hP 0 rfl rfl 1 (by decide) lk1 (fun _ h9 => h9) rfl dX1_stay_62 ?_
            refine lv_iconst (v := (1 : Int32)) hx hb dX1_stay_65 (by decide) ?_
            refine lv_iconst (v := (1 : Int32)) hx hb dX1_stay_66 (by decide) ?_
            obtain ⟨v8, hev8, hf⟩ := bS hf
            refine rVN_i (ws' := (wX A cI xx_25 xn v8.2 xk)) (As := [.int (1 : Int32), .int (1 : Int32)]) (rest := []) ⟨hx, hb, hml, hown, hts⟩ hK hN hA hP hD hS (c_X0_goOn l D cI (A 2) (1 : Int32) (1 : Int32) xm_v7 v8 hev8) ⟨va_cnB 2 hts gX1_stay_X0_goOn_n97 rfl rfl rfl (nW.m hN 12 rfl) lk2 hd_X0_goOn.2 ⟨Nat.le_of_ble_eq_true rfl, Nat.le_of_ble_eq_true rfl⟩, lk5, lk6⟩ (va_recv hK hP (ci := 0) (q0 := 12) rfl rfl) [12, 13, 14, 15, 16, 17, 18, 19, 20, 21, 22] (by decide) rfl rfl rfl rfl hl.1 rfl (Nat.le_of_ble_eq_true rfl) dX1_stay_67 ⟨Nat.le_of_ble_eq_true rfl, Nat.le_of_ble_eq_true rfl⟩ (fun H locs hP hD hS => ?_)
            have hP : va_P D vwCl (wX A cI xx_25 xn v8.2 xk) H := hP
            refine lv_istore (lv' := [(5, .int v8.1), (0, .ref ((A 0) 0)), (1, .int j1), (2, .int j2_25), (3, .int j3_25), (4, .int j4_25)]) hx hb dX1_stay_70 hl (by decide) rfl (fun ls hl => ?_)
            refine lv_iload_n hx hb dX1_stay_72 rfl (lv_at hl 3 rfl) ?_
            refine lv_bipush (v := (-9 : Int32)) hx hb dX1_stay_73 (by decide) ?_
            refine lv_icmp_eq (tgt := 84) hx hb dX1_stay_75 (by decide) (fun c9 => ?_) (fun c9 => ?_)
            · have hf := hT hf c9
              refine lv_iload hx hb dX1_stay_84 (lv_at hl 5 rfl) ?_
              refine lv_istore_n (lv' := [(2, .int j4_25), (5, .int v8.1), (0, .ref ((A 0) 0)), (1, .int j1), (3, .int j3_25), (4, .int j4_25)]) hx hb dX1_stay_86 rfl hl (by decide) rfl (fun ls hl => ?_)
              refine lv_iload hx hb dX1_stay_87 (lv_at hl 1 rfl) ?_
              refine lv_istore_n (lv' := [(3, .int v8.1), (2, .int j4_25), (5, .int v8.1), (0, .ref ((A 0) 0)), (1, .int j1), (4, .int j4_25)]) hx hb dX1_stay_89 rfl hl (by decide) rfl (fun ls hl => ?_)
              refine lv_iinc (v := (j4_25 + (1 : Int32))) (lv' := [(4, .int (j4_25 + (1 : Int32))), (3, .int v8.1), (2, .int j4_25), (5, .int v8.1), (0, .ref ((A 0) 0)), (1, .int j1)]) hx hb dX1_stay_90 hl (k := 5) rfl rfl (by decide) rfl (fun ls hl => ?_)
              refine lv_goto (tgt := 25) hx hb dX1_stay_93 (by decide) ?_
              exact (hWW _ _ _).mp (ih _ _ _ _ _ _ _ _ hf hP hD hS (lv_sub hl [4, 5, 2, 1, 0] rfl))
            · have hf := hF hf c9
              refine lv_iload hx hb dX1_stay_78 (lv_at hl 0 rfl) ?_
              refine lv_iload_n hx hb dX1_stay_80 rfl (lv_at hl 4 rfl) ?_
              refine lv_icmp_ge (tgt := 90) hx hb dX1_stay_81 (by decide) (fun c10 => ?_) (fun c10 => ?_)
              · have hf := hT hf c10
                refine lv_iinc (v := (j4_25 + (1 : Int32))) (lv' := [(4, .int (j4_25 + (1 : Int32))), (5, .int v8.1), (0, .ref ((A 0) 0)), (1, .int j1), (2, .int j2_25), (3, .int j3_25)]) hx hb dX1_stay_90 hl (k := 5) rfl rfl (by decide) rfl (fun ls hl => ?_)
                refine lv_goto (tgt := 25) hx hb dX1_stay_93 (by decide) ?_
                exact (hWW _ _ _).mp (ih _ _ _ _ _ _ _ _ hf hP hD hS (lv_sub hl [2, 3, 4, 5, 0] rfl))
              · have hf := hF hf c10
                refine lv_iload hx hb dX1_stay_84 (lv_at hl 5 rfl) ?_
                refine lv_istore_n (lv' := [(2, .int j4_25), (5, .int v8.1), (0, .ref ((A 0) 0)), (1, .int j1), (3, .int j3_25), (4, .int j4_25)]) hx hb dX1_stay_86 rfl hl (by decide) rfl (fun ls hl => ?_)
                refine lv_iload hx hb dX1_stay_87 (lv_at hl 1 rfl) ?_
                refine lv_istore_n (lv' := [(3, .int v8.1), (2, .int j4_25), (5, .int v8.1), (0, .ref ((A 0) 0)), (1, .int j1), (4, .int j4_25)]) hx hb dX1_stay_89 rfl hl (by decide) rfl (fun ls hl => ?_)
                refine lv_iinc (v := (j4_25 + (1 : Int32))) (lv' := [(4, .int (j4_25 + (1 : Int32))), (3, .int v8.1), (2, .int j4_25), (5, .int v8.1), (0, .ref ((A 0) 0)), (1, .int j1)]) hx hb dX1_stay_90 hl (k := 5) rfl rfl (by decide) rfl (fun ls hl => ?_)
                refine lv_goto (tgt := 25) hx hb dX1_stay_93 (by decide) ?_
                exact (hWW _ _ _).mp (ih _ _ _ _ _ _ _ _ hf hP hD hS (lv_sub hl [4, 5, 2, 1, 0] rfl))
      exact (hWW _ _ _).mp (P25 _ _ _ _ _ _ _ _ _ hf hP hD hS (lv_sub hl [3, 4, 2, 1, 0] rfl))
    · have hf := hF hf c3
      refine lv_aload_n hx hb dX1_stay_9 rfl (lv_at hl 0 rfl) ?_
      refine lv_bipush (v := (-2 : Int32)) hx hb dX1_stay_10 (by decide) ?_
      obtain ⟨v11, hev11, hf⟩ := bS hf
      refine rV_i (ws' := (wX A cI v11.2 xn xm xk)) (As := [.int (-2 : Int32)]) (rest := []) ⟨hx, hb, hml, hown, hts⟩ hK hN hA hP hD hS (c_X1_refuse l D cI A (-2 : Int32) xx xn xm xk v11 hev11) (cwV 1 hts gX1_stay_X1_refuse rfl rfl rfl hd_X1_refuse ⟨Nat.le_of_ble_eq_true rfl, Nat.le_of_ble_eq_true rfl⟩) (va_recv hK hP (ci := 1) (q0 := 0) rfl rfl) [0, 1, 2, 3, 4, 5, 6, 7, 8, 9, 10, 11, 12, 13, 14, 15, 16, 17, 18, 19, 20, 21, 22, 23, 24, 25, 26, 27, 28, 29, 30, 31, 32, 33, 34, 35, 36] (by decide) rfl rfl rfl rfl hl.1 rfl (Nat.le_of_ble_eq_true rfl) dX1_stay_12 ⟨Nat.le_of_ble_eq_true rfl, Nat.le_of_ble_eq_true rfl⟩ (fun H locs hP hD hS => ?_)
      have hP : va_P D vwCl (wX A cI v11.2 xn xm xk) H := hP
      obtain rfl := Option.some.inj hf
      exact W.iret (v := v11.1) hx hb hr (fun t ht hW => ⟨⟨v11.1, (), rfl, rfl, hPt ht hP⟩, hS.F ht⟩) hS.2.2 dX1_stay_15
def f_X1_away (j0 : Int32) (j1 : Int32) : Int32 := if j1 = (1 : Int32) then (0 : Int32) else ((1 : Int32) <<< (j0 &&& 31))
set_option maxHeartbeats 4000000 in
set_option maxRecDepth 100000 in
theorem c_X1_away (l : Launch) (D : va_G) (cI : ClassId) (j0 : Int32) (j1 : Int32) (out : Int32) (hf : f_X1_away j0 j1 = out) : uI l D cI yX1_away wsX1_away ({ frames := 0, cells := 0, slots := 0, locals := 0 } : Room) [.int j0, .int j1] [] [] out := by
  intro sz
  refine Met.ofW (cc := cX1_away) (maxL := 2) (ret := (some .int)) (by decide) rfl ?_
  intro p e s m args below meth c s₁ Bd hml hv
  obtain ⟨rfl, hsz, hP, hK, hD0, hN⟩ := hv
  have hx := Bd.exec
  have hb := Bd.bytes
  have hr := Bd.returns
  have hts := atoms_spec (ws := wsX1_away) Bd.pre
  have hown : s.vm.findClass RX1 = some m.cls := findClass_of_methodNamed Bd.named
  have hlocks := Bd.notSynchronized
  subst hsz
  have hD := hD0.self (sz := s.heap.size)
  generalize hAe : va_A [] s.heap.size = G at hD ⊢
  have hA : ∀ q : Nat, s.heap.size ≤ q → G q := fun q h => by rw [← hAe]; exact Or.inr h
  have hS : va_S G s.heap s.heap [] := va_S.rf
  have hP : va_P D vwCl [] s.heap := hP
  have hl := lv_entry ([.int j0, .int j1]) (n := 2) (Nat.le_of_ble_eq_true rfl)
  rw [lg_entry_eq]
  generalize (lg_sl ([.int j0, .int j1]) ++ List.replicate (2 - (lg_sl ([.int j0, .int j1])).length) Slot.unset).toArray = ls at hl ⊢
  have hl : lv_has ls 2 [(0, .int j0), (1, .int j1)] := hl
  refine W_in ?_
  intro WW hWW
  refine (hWW _ _ _).mpr ?_
  unfold f_X1_away at hf
  refine lv_iload_n hx hb dX1_away_0 rfl (lv_at hl 1 rfl) ?_
  refine lv_iconst (v := (1 : Int32)) hx hb dX1_away_1 (by decide) ?_
  refine lv_icmp_ne (tgt := 9) hx hb dX1_away_2 (by decide) (fun c1 => ?_) (fun c1 => ?_)
  · have hf := hF hf c1
    refine lv_iconst (v := (1 : Int32)) hx hb dX1_away_9 (by decide) ?_
    refine lv_iload_n hx hb dX1_away_10 rfl (lv_at hl 0 rfl) ?_
    refine lv_ishl hx hb dX1_away_11 ?_
    subst hf
    exact W.iret (v := ((1 : Int32) <<< (j0 &&& 31))) hx hb hr (fun t ht hW => ⟨⟨((1 : Int32) <<< (j0 &&& 31)), (), rfl, rfl, hPt ht hP⟩, hS.F ht⟩) hS.2.2 dX1_away_12
  · have hf := hT hf c1
    refine lv_iconst (v := (0 : Int32)) hx hb dX1_away_5 (by decide) ?_
    refine lv_goto (tgt := 12) hx hb dX1_away_6 (by decide) ?_
    subst hf
    exact W.iret (v := (0 : Int32)) hx hb hr (fun t ht hW => ⟨⟨(0 : Int32), (), rfl, rfl, hPt ht hP⟩, hS.F ht⟩) hS.2.2 dX1_away_12
def L_X1_two_74 (j1 : Int32) (j2 : Int32) (j3 : Int32) (xn : HS) (xm : HS) (xk : HS) (K180 : Int32 → HS → Option (Int32 × HS)) : Nat → Int32 → Int32 → HS → Option (Int32 × HS)
  | 0, _, _, _ => none
  | n' + 1, j4_74, j5_74, xx_74 => if (1 : Int32) < j5_74 then (K180 j4_74 xx_74) else (f_X0_gain j1 j3 ((f_X1_away j1 j4_74) ||| (f_X1_away j2 j5_74)) xn).bind fun v11 => (f_X0_gain j1 j3 (((f_X1_away j1 j4_74) ||| (f_X1_away j2 j5_74)) ^^^ ((1 : Int32) <<< (j1 &&& 31))) xn).bind fun v12 => jn (fun (j4_157 : Int32) (j5_157 : Int32) (xx_157 : HS) => (L_X1_two_74 j1 j2 j3 xn xm xk K180 n' j4_157 (j5_157 + (1 : Int32)) xx_157)) (fun (K157 : Int32 → Int32 → HS → Option (Int32 × HS)) => if v11 < v12 then (K157 j4_74 j5_74 xx_74) else (f_X0_gain j2 j3 ((f_X1_away j1 j4_74) ||| (f_X1_away j2 j5_74)) xn).bind fun v15 => (f_X0_gain j2 j3 (((f_X1_away j1 j4_74) ||| (f_X1_away j2 j5_74)) ^^^ ((1 : Int32) <<< (j2 &&& 31))) xn).bind fun v16 => if v15 < v16 then (K157 j4_74 j5_74 xx_74) else some ((((10 : Int32) * j4_74) + j5_74), xx_74))
def L_X1_two_65 (j1 : Int32) (j2 : Int32) (j3 : Int32) (xn : HS) (xm : HS) (xk : HS) (K186 : HS → Option (Int32 × HS)) : Nat → Int32 → HS → Option (Int32 × HS)
  | 0, _, _ => none
  | n' + 1, j4_65, xx_65 => if (1 : Int32) < j4_65 then (K186 xx_65) else jn (fun (j4_180 : Int32) (xx_180 : HS) => (L_X1_two_65 j1 j2 j3 xn xm xk K186 n' (j4_180 + (1 : Int32)) xx_180)) (fun (K180 : Int32 → HS → Option (Int32 × HS)) => (L_X1_two_74 j1 j2 j3 xn xm xk K180 fuel j4_65 (0 : Int32) xx_65))
def f_X1_two (j1 : Int32) (j2 : Int32) (j3 : Int32) (xx : HS) (xn : HS) (xm : HS) (xk : HS) : Option (Int32 × HS) := if (f_X0_hasBidder j1 xn) = 0 then (f_X1_refuse (-1 : Int32) xx xn xm xk).bind fun v2 => some (v2.1, v2.2) else if (f_X0_hasBidder j2 xn) = 0 then (f_X1_refuse (-1 : Int32) xx xn xm xk).bind fun v4 => some (v4.1, v4.2) else if j1 = j2 then (f_X1_refuse (-1 : Int32) xx xn xm xk).bind fun v6 => some (v6.1, v6.2) else if (f_X0_hasCard j3 xn) = 0 then (f_X1_refuse (-1 : Int32) xx xn xm xk).bind fun v20 => some (v20.1, v20.2) else if (f_X0_inPile j3 xn) = 0 then (f_X1_refuse (-3 : Int32) xx xn xm xk).bind fun v19 => some (v19.1, v19.2) else jn (fun (xx_186 : HS) => some ((-9 : Int32), xx_186)) (fun (K186 : HS → Option (Int32 × HS)) => (L_X1_two_65 j1 j2 j3 xn xm xk K186 fuel (0 : Int32) xx))
set_option maxHeartbeats 4000000 in
set_option maxRecDepth 100000 in
theorem c_X1_two (l : Launch) (D : va_G) (cI : ClassId) (A : Nat → Nat → Nat) (j1 : Int32) (j2 : Int32) (j3 : Int32) (xx : HS) (xn : HS) (xm : HS) (xk : HS) (out : Int32 × HS) (hf : f_X1_two j1 j2 j3 xx xn xm xk = some out) : uI l D cI yX1_two wsX1_two ({ frames := 4, cells := 0, slots := 0, locals := 101 } : Room) [.ref ((A 0) 0), .int j1, .int j2, .int j3] (wX A cI xx xn xm xk) (wX A cI out.2 xn xm xk) out.1 := by
  intro sz
  refine Met.ofW (cc := cX1_two) (maxL := 8) (ret := (some .int)) (by decide) rfl ?_
  intro p e s m args below meth c s₁ Bd hml hv
  obtain ⟨rfl, hsz, hP, hK, hD0, hN⟩ := hv
  have hx := Bd.exec
  have hb := Bd.bytes
  have hr := Bd.returns
  have hts := atoms_spec (ws := wsX1_two) Bd.pre
  have hown : s.vm.findClass RX1 = some m.cls := findClass_of_methodNamed Bd.named
  have hlocks := Bd.notSynchronized
  subst hsz
  have hD := hD0.self (sz := s.heap.size)
  generalize hAe : va_A (wX A cI xx xn xm xk) s.heap.size = G at hD ⊢
  have hA : ∀ q : Nat, s.heap.size ≤ q → G q := fun q h => by rw [← hAe]; exact Or.inr h
  have hS : va_S G s.heap s.heap [] := va_S.rf
  have hP : va_P D vwCl (wX A cI xx xn xm xk) s.heap := hP
  have hl := lv_entry ([.ref ((A 0) 0), .int j1, .int j2, .int j3]) (n := 8) (Nat.le_of_ble_eq_true rfl)
  rw [lg_entry_eq]
  generalize (lg_sl ([.ref ((A 0) 0), .int j1, .int j2, .int j3]) ++ List.replicate (8 - (lg_sl ([.ref ((A 0) 0), .int j1, .int j2, .int j3])).length) Slot.unset).toArray = ls at hl ⊢
  have hl : lv_has ls 8 [(0, .ref ((A 0) 0)), (1, .int j1), (2, .int j2), (3, .int j3)] := hl
  have hinX : ∀ w ∈ wsX10, w ∈ wsX1_two := by decide +kernel
  have lk0 := hts (.fieldLink RX1 10 "LiesBoughtBack" "now" "LLiesBoughtBack$Hall;") (by decide +kernel)
  have lk1 := hts (.initialized RX0) (by decide +kernel)
  have lk2 := hts (.instanceMethod yX0_hasBidder) (by decide +kernel)
  have lk3 := hts (.selects RX0 yX0_hasBidder yX0_hasBidder) (by decide +kernel)
  have lk4 := hts (.instanceMethod yX0_hasCard) (by decide +kernel)
  have lk5 := hts (.selects RX0 yX0_hasCard yX0_hasCard) (by decide +kernel)
  have lk6 := hts (.instanceMethod yX0_inPile) (by decide +kernel)
  have lk7 := hts (.selects RX0 yX0_inPile yX0_inPile) (by decide +kernel)
  have lk8 := hts (.instanceMethod yX0_gain) (by decide +kernel)
  have lk9 := hts (.selects RX0 yX0_gain yX0_gain) (by decide +kernel)
  refine W_in ?_
  intro WW hWW
  refine (hWW _ _ _).mpr ?_
  unfold f_X1_two at hf
  refine lv_aload_n hx hb dX1_two_0 rfl (lv_at hl 0 rfl) ?_
  refine va_get (D := D) (ci := 1) (v := .ref ((A 1) 0)) (C := RX1) (T := TX1) (N := 9) hx hb hts hinX hown hK hP 0 rfl rfl 0 (by decide) lk0 (fun _ h9 => h9) rfl dX1_two_1 ?_
  refine lv_iload_n hx hb dX1_two_4 rfl (lv_at hl 1 rfl) ?_
  refine rVN_io (As := [.int j1]) (rest := []) ⟨hx, hb, hml, hown, hts⟩ hK hN hA hP hD hS (c_X0_hasBidder l D cI (A 1) j1 xn (f_X0_hasBidder j1 xn) rfl) ⟨va_cnB 1 hts gX1_two_X0_hasBidder_n59 rfl rfl rfl (nW.m hN 13 rfl) lk1 hd_X0_hasBidder.2 ⟨Nat.le_of_ble_eq_true rfl, Nat.le_of_ble_eq_true rfl⟩, lk2, lk3⟩ (va_recv hK hP (ci := 0) (q0 := 1) rfl rfl) [1, 2, 3, 4, 5, 6, 7, 8, 9, 10, 11] (by decide) rfl rfl hl.1 rfl (Nat.le_of_ble_eq_true rfl) dX1_two_5 ⟨Nat.le_of_ble_eq_true rfl, Nat.le_of_ble_eq_true rfl⟩ (fun H locs hP hD hS => ?_)
  refine lv_if_eq (tgt := 38) hx hb dX1_two_8 (by decide) (fun c1 => ?_) (fun c1 => ?_)
  · have hf := hT hf c1
    refine lv_aload_n hx hb dX1_two_38 rfl (lv_at hl 0 rfl) ?_
    refine lv_iconst (v := (-1 : Int32)) hx hb dX1_two_39 (by decide) ?_
    obtain ⟨v2, hev2, hf⟩ := bS hf
    refine rV_i (ws' := (wX A cI v2.2 xn xm xk)) (As := [.int (-1 : Int32)]) (rest := []) ⟨hx, hb, hml, hown, hts⟩ hK hN hA hP hD hS (c_X1_refuse l D cI A (-1 : Int32) xx xn xm xk v2 hev2) (cwV 1 hts gX1_two_X1_refuse rfl rfl rfl hd_X1_refuse ⟨Nat.le_of_ble_eq_true rfl, Nat.le_of_ble_eq_true rfl⟩) (va_recv hK hP (ci := 1) (q0 := 0) rfl rfl) [0, 1, 2, 3, 4, 5, 6, 7, 8, 9, 10, 11, 12, 13, 14, 15, 16, 17, 18, 19, 20, 21, 22, 23, 24, 25, 26, 27, 28, 29, 30, 31, 32, 33, 34, 35, 36] (by decide) rfl rfl rfl rfl hl.1 rfl (Nat.le_of_ble_eq_true rfl) dX1_two_40 ⟨Nat.le_of_ble_eq_true rfl, Nat.le_of_ble_eq_true rfl⟩ (fun H locs hP hD hS => ?_)
    have hP : va_P D vwCl (wX A cI v2.2 xn xm xk) H := hP
    obtain rfl := Option.some.inj hf
    exact W.iret (v := v2.1) hx hb hr (fun t ht hW => ⟨⟨v2.1, (), rfl, rfl, hPt ht hP⟩, hS.F ht⟩) hS.2.2 dX1_two_43
  · have hf := hF hf c1
    refine lv_aload_n hx hb dX1_two_11 rfl (lv_at hl 0 rfl) ?_
    refine va_get (D := D) (ci := 1) (v := .ref ((A 1) 0)) (C := RX1) (T := TX1) (N := 9) hx hb hts hinX hown hK hP 0 rfl rfl 0 (by decide) lk0 (fun _ h9 => h9) rfl dX1_two_12 ?_
    refine lv_iload_n hx hb dX1_two_15 rfl (lv_at hl 2 rfl) ?_
    refine rVN_io (As := [.int j2]) (rest := []) ⟨hx, hb, hml, hown, hts⟩ hK hN hA hP hD hS (c_X0_hasBidder l D cI (A 1) j2 xn (f_X0_hasBidder j2 xn) rfl) ⟨va_cnB 1 hts gX1_two_X0_hasBidder_n59 rfl rfl rfl (nW.m hN 13 rfl) lk1 hd_X0_hasBidder.2 ⟨Nat.le_of_ble_eq_true rfl, Nat.le_of_ble_eq_true rfl⟩, lk2, lk3⟩ (va_recv hK hP (ci := 0) (q0 := 1) rfl rfl) [1, 2, 3, 4, 5, 6, 7, 8, 9, 10, 11] (by decide) rfl rfl hl.1 rfl (Nat.le_of_ble_eq_true rfl) dX1_two_16 ⟨Nat.le_of_ble_eq_true rfl, Nat.le_of_ble_eq_true rfl⟩ (fun H locs hP hD hS => ?_)
    refine lv_if_eq (tgt := 38) hx hb dX1_two_19 (by decide) (fun c3 => ?_) (fun c3 => ?_)
    · have hf := hT hf c3
      refine lv_aload_n hx hb dX1_two_38 rfl (lv_at hl 0 rfl) ?_
      refine lv_iconst (v := (-1 : Int32)) hx hb dX1_two_39 (by decide) ?_
      obtain ⟨v4, hev4, hf⟩ := bS hf
      refine rV_i (ws' := (wX A cI v4.2 xn xm xk)) (As := [.int (-1 : Int32)]) (rest := []) ⟨hx, hb, hml, hown, hts⟩ hK hN hA hP hD hS (c_X1_refuse l D cI A (-1 : Int32) xx xn xm xk v4 hev4) (cwV 1 hts gX1_two_X1_refuse rfl rfl rfl hd_X1_refuse ⟨Nat.le_of_ble_eq_true rfl, Nat.le_of_ble_eq_true rfl⟩) (va_recv hK hP (ci := 1) (q0 := 0) rfl rfl) [0, 1, 2, 3, 4, 5, 6, 7, 8, 9, 10, 11, 12, 13, 14, 15, 16, 17, 18, 19, 20, 21, 22, 23, 24, 25, 26, 27, 28, 29, 30, 31, 32, 33, 34, 35, 36] (by decide) rfl rfl rfl rfl hl.1 rfl (Nat.le_of_ble_eq_true rfl) dX1_two_40 ⟨Nat.le_of_ble_eq_true rfl, Nat.le_of_ble_eq_true rfl⟩ (fun H locs hP hD hS => ?_)
      have hP : va_P D vwCl (wX A cI v4.2 xn xm xk) H := hP
      obtain rfl := Option.some.inj hf
      exact W.iret (v := v4.1) hx hb hr (fun t ht hW => ⟨⟨v4.1, (), rfl, rfl, hPt ht hP⟩, hS.F ht⟩) hS.2.2 dX1_two_43
    · have hf := hF hf c3
      refine lv_iload_n hx hb dX1_two_22 rfl (lv_at hl 1 rfl) ?_
      refine lv_iload_n hx hb dX1_two_23 rfl (lv_at hl 2 rfl) ?_
      refine lv_icmp_eq (tgt := 38) hx hb dX1_two_24 (by decide) (fun c5 => ?_) (fun c5 => ?_)
      · have hf := hT hf c5
        refine lv_aload_n hx hb dX1_two_38 rfl (lv_at hl 0 rfl) ?_
        refine lv_iconst (v := (-1 : Int32)) hx hb dX1_two_39 (by decide) ?_
        obtain ⟨v6, hev6, hf⟩ := bS hf
        refine rV_i (ws' := (wX A cI v6.2 xn xm xk)) (As := [.int (-1 : Int32)]) (rest := []) ⟨hx, hb, hml, hown, hts⟩ hK hN hA hP hD hS (c_X1_refuse l D cI A (-1 : Int32) xx xn xm xk v6 hev6) (cwV 1 hts gX1_two_X1_refuse rfl rfl rfl hd_X1_refuse ⟨Nat.le_of_ble_eq_true rfl, Nat.le_of_ble_eq_true rfl⟩) (va_recv hK hP (ci := 1) (q0 := 0) rfl rfl) [0, 1, 2, 3, 4, 5, 6, 7, 8, 9, 10, 11, 12, 13, 14, 15, 16, 17, 18, 19, 20, 21, 22, 23, 24, 25, 26, 27, 28, 29, 30, 31, 32, 33, 34, 35, 36] (by decide) rfl rfl rfl rfl hl.1 rfl (Nat.le_of_ble_eq_true rfl) dX1_two_40 ⟨Nat.le_of_ble_eq_true rfl, Nat.le_of_ble_eq_true rfl⟩ (fun H locs hP hD hS => ?_)
        have hP : va_P D vwCl (wX A cI v6.2 xn xm xk) H := hP
        obtain rfl := Option.some.inj hf
        exact W.iret (v := v6.1) hx hb hr (fun t ht hW => ⟨⟨v6.1, (), rfl, rfl, hPt ht hP⟩, hS.F ht⟩) hS.2.2 dX1_two_43
      · have hf := hF hf c5
        refine lv_aload_n hx hb dX1_two_27 rfl (lv_at hl 0 rfl) ?_
        refine va_get (D := D) (ci := 1) (v := .ref ((A 1) 0)) (C := RX1) (T := TX1) (N := 9) hx hb hts hinX hown hK hP 0 rfl rfl 0 (by decide) lk0 (fun _ h9 => h9) rfl dX1_two_28 ?_
        refine lv_iload_n hx hb dX1_two_31 rfl (lv_at hl 3 rfl) ?_
        refine rVN_io (As := [.int j3]) (rest := []) ⟨hx, hb, hml, hown, hts⟩ hK hN hA hP hD hS (c_X0_hasCard l D cI (A 1) j3 xn (f_X0_hasCard j3 xn) rfl) ⟨va_cnB 1 hts gX1_two_X0_hasCard_n69 rfl rfl rfl (nW.m hN 14 rfl) lk1 hd_X0_hasCard.2 ⟨Nat.le_of_ble_eq_true rfl, Nat.le_of_ble_eq_true rfl⟩, lk4, lk5⟩ (va_recv hK hP (ci := 0) (q0 := 1) rfl rfl) [1, 2, 3, 4, 5, 6, 7, 8, 9, 10, 11] (by decide) rfl rfl hl.1 rfl (Nat.le_of_ble_eq_true rfl) dX1_two_32 ⟨Nat.le_of_ble_eq_true rfl, Nat.le_of_ble_eq_true rfl⟩ (fun H locs hP hD hS => ?_)
        refine lv_if_ne (tgt := 44) hx hb dX1_two_35 (by decide) (fun c7 => ?_) (fun c7 => ?_)
        · have hf := hF hf c7
          refine lv_aload_n hx hb dX1_two_44 rfl (lv_at hl 0 rfl) ?_
          refine va_get (D := D) (ci := 1) (v := .ref ((A 1) 0)) (C := RX1) (T := TX1) (N := 9) hx hb hts hinX hown hK hP 0 rfl rfl 0 (by decide) lk0 (fun _ h9 => h9) rfl dX1_two_45 ?_
          refine lv_iload_n hx hb dX1_two_48 rfl (lv_at hl 3 rfl) ?_
          refine rVN_io (As := [.int j3]) (rest := []) ⟨hx, hb, hml, hown, hts⟩ hK hN hA hP hD hS (c_X0_inPile l D cI (A 1) j3 xn (f_X0_inPile j3 xn) rfl) ⟨va_cnB 1 hts gX1_two_X0_inPile_n72 rfl rfl rfl (nW.m hN 15 rfl) lk1 hd_X0_inPile.2 ⟨Nat.le_of_ble_eq_true rfl, Nat.le_of_ble_eq_true rfl⟩, lk6, lk7⟩ (va_recv hK hP (ci := 0) (q0 := 1) rfl rfl) [1, 2, 3, 4, 5, 6, 7, 8, 9, 10, 11] (by decide) rfl rfl hl.1 rfl (Nat.le_of_ble_eq_true rfl) dX1_two_49 ⟨Nat.le_of_ble_eq_true rfl, Nat.le_of_ble_eq_true rfl⟩ (fun H locs hP hD hS => ?_)
          refine lv_if_ne (tgt := 62) hx hb dX1_two_52 (by decide) (fun c8 => ?_) (fun c8 => ?_)
          · have hf := hF hf c8
            refine lv_iconst (v := (0 : Int32)) hx hb dX1_two_62 (by decide) ?_
            refine lv_istore (lv' := [(4, .int (0 : Int32)), (0, .ref ((A 0) 0)), (1, .int j1), (2, .int j2), (3, .int j3)]) hx hb dX1_two_63 hl (by decide) rfl (fun ls hl => ?_)
            obtain ⟨K186, hK186, hf⟩ := jnS hf
            have J186 : ∀ (xx_186 : HS) (H : Heap) (locs : List Loc) (ls : Array Slot), K186 xx_186 = some out → va_P D vwCl (wX A cI xx_186 xn xm xk) H → va_D G (wX A cI xx_186 xn xm xk) → va_S G s.heap H locs → lv_has ls 8 [] → WW H locs (F0 m 186 ls []) := by
              intro xx_186 H locs ls hf hP hD hS hl
              subst hK186
              refine (hWW _ _ _).mpr ?_
              refine lv_bipush (v := (-9 : Int32)) hx hb dX1_two_186 (by decide) ?_
              obtain rfl := Option.some.inj hf
              exact W.iret (v := (-9 : Int32)) hx hb hr (fun t ht hW => ⟨⟨(-9 : Int32), (), rfl, rfl, hPt ht hP⟩, hS.F ht⟩) hS.2.2 dX1_two_188
            have P65 : ∀ (n' : Nat) (j4_65 : Int32) (xx_65 : HS) (H : Heap) (locs : List Loc) (ls : Array Slot), L_X1_two_65 j1 j2 j3 xn xm xk K186 n' j4_65 xx_65 = some out → va_P D vwCl (wX A cI xx_65 xn xm xk) H → va_D G (wX A cI xx_65 xn xm xk) → va_S G s.heap H locs → lv_has ls 8 [(0, .ref ((A 0) 0)), (1, .int j1), (2, .int j2), (3, .int j3), (4, .int j4_65)] → WW H locs (F0 m 65 ls []) := by
              intro n'
              induction n' with
              | zero => intro j4_65 xx_65 H locs ls hf; exact absurd (show (none : Option (Int32 × HS)) = some out from hf) (fun q => by cases q)
              | succ n' ih =>
                intro j4_65 xx_65 H locs ls hf hP hD hS hl
                rw [L_X1_two_65] at hf
                refine (hWW _ _ _).mpr ?_
                refine lv_iload hx hb dX1_two_65 (lv_at hl 4 rfl) ?_
                refine lv_iconst (v := (1 : Int32)) hx hb dX1_two_67 (by decide) ?_
                refine lv_icmp_gt (tgt := 186) hx hb dX1_two_68 (by decide) (fun c9 => ?_) (fun c9 => ?_)
                · have hf := hT hf c9
                  exact (hWW _ _ _).mp (J186 _ _ _ _ hf hP hD hS (lv_sub hl [] rfl))
                · have hf := hF hf c9
                  refine lv_iconst (v := (0 : Int32)) hx hb dX1_two_71 (by decide) ?_
                  refine lv_istore (lv' := [(5, .int (0 : Int32)), (0, .ref ((A 0) 0)), (1, .int j1), (2, .int j2), (3, .int j3), (4, .int j4_65)]) hx hb dX1_two_72 hl (by decide) rfl (fun ls hl => ?_)
                  obtain ⟨K180, hK180, hf⟩ := jnS hf
                  have J180 : ∀ (j4_180 : Int32) (xx_180 : HS) (H : Heap) (locs : List Loc) (ls : Array Slot), K180 j4_180 xx_180 = some out → va_P D vwCl (wX A cI xx_180 xn xm xk) H → va_D G (wX A cI xx_180 xn xm xk) → va_S G s.heap H locs → lv_has ls 8 [(0, .ref ((A 0) 0)), (1, .int j1), (2, .int j2), (3, .int j3), (4, .int j4_180)] → WW H locs (F0 m 180 ls []) := by
                    intro j4_180 xx_180 H locs ls hf hP hD hS hl
                    subst hK180
                    refine (hWW _ _ _).mpr ?_
                    refine lv_iinc (v := (j4_180 + (1 : Int32))) (lv' := [(4, .int (j4_180 + (1 : Int32))), (0, .ref ((A 0) 0)), (1, .int j1), (2, .int j2), (3, .int j3)]) hx hb dX1_two_180 hl (k := 4) rfl rfl (by decide) rfl (fun ls hl => ?_)
                    refine lv_goto (tgt := 65) hx hb dX1_two_183 (by decide) ?_
                    exact (hWW _ _ _).mp (ih _ _ _ _ _ hf hP hD hS (lv_sub hl [1, 2, 3, 4, 0] rfl))
                  have P74 : ∀ (n' : Nat) (j4_74 : Int32) (j5_74 : Int32) (xx_74 : HS) (H : Heap) (locs : List Loc) (ls : Array Slot), L_X1_two_74 j1 j2 j3 xn xm xk K180 n' j4_74 j5_74 xx_74 = some out → va_P D vwCl (wX A cI xx_74 xn xm xk) H → va_D G (wX A cI xx_74 xn xm xk) → va_S G s.heap H locs → lv_has ls 8 [(0, .ref ((A 0) 0)), (1, .int j1), (2, .int j2), (3, .int j3), (4, .int j4_74), (5, .int j5_74)] → WW H locs (F0 m 74 ls []) := by
                    intro n'
                    induction n' with
                    | zero => intro j4_74 j5_74 xx_74 H locs ls hf; exact absurd (show (none : Option (Int32 × HS)) = some out from hf) (fun q => by cases q)
                    | succ n' ih =>
                      intro j4_74 j5_74 xx_74 H locs ls hf hP hD hS hl
                      rw [L_X1_two_74] at hf
                      refine (hWW _ _ _).mpr ?_
                      refine lv_iload hx hb dX1_two_74 (lv_at hl 5 rfl) ?_
                      refine lv_iconst (v := (1 : Int32)) hx hb dX1_two_76 (by decide) ?_
                      refine lv_icmp_gt (tgt := 180) hx hb dX1_two_77 (by decide) (fun c10 => ?_) (fun c10 => ?_)
                      · have hf := hT hf c10
                        exact (hWW _ _ _).mp (J180 _ _ _ _ _ hf hP hD hS (lv_sub hl [0, 1, 2, 3, 4] rfl))
                      · have hf := hF hf c10
                        refine lv_iload_n hx hb dX1_two_80 rfl (lv_at hl 1 rfl) ?_
                        refine lv_iload hx hb dX1_two_81 (lv_at hl 4 rfl) ?_
                        refine rS_io (As := [.int j1, .int j4_74]) (rest := []) ⟨hx, hb, hml, hown, hts⟩ hK hN hA hP hD hS (c_X1_away l D cI j1 j4_74 (f_X1_away j1 j4_74) rfl) (va_cwS 2 hts gX1_two_X1_away rfl rfl rfl hd_X1_away.2 ⟨Nat.le_of_ble_eq_true rfl, Nat.le_of_ble_eq_true rfl⟩) [] (by decide) rfl rfl hl.1 rfl (Nat.le_of_ble_eq_true rfl) dX1_two_83 ⟨Nat.le_of_ble_eq_true rfl, Nat.le_of_ble_eq_true rfl⟩ (fun H locs hP hD hS => ?_)
                        refine lv_iload_n hx hb dX1_two_86 rfl (lv_at hl 2 rfl) ?_
                        refine lv_iload hx hb dX1_two_87 (lv_at hl 5 rfl) ?_
                        refine rS_io (As := [.int j2, .int j5_74]) (rest := [.int (f_X1_away j1 j4_74)]) ⟨hx, hb, hml, hown, hts⟩ hK hN hA hP hD hS (c_X1_away l D cI j2 j5_74 (f_X1_away j2 j5_74) rfl) (va_cwS 2 hts gX1_two_X1_away rfl rfl rfl hd_X1_away.2 ⟨Nat.le_of_ble_eq_true rfl, Nat.le_of_ble_eq_true rfl⟩) [] (by decide) rfl rfl hl.1 rfl (Nat.le_of_ble_eq_true rfl) dX1_two_89 ⟨Nat.le_of_ble_eq_true rfl, Nat.le_of_ble_eq_true rfl⟩ (fun H locs hP hD hS => ?_)
                        refine lv_ior hx hb dX1_two_92 ?_
                        refine lv_istore (lv' := [(6, .int ((f_X1_away j1 j4_74) ||| (f_X1_away j2 j5_74))), (0, .ref ((A 0) 0)), (1, .int j1), (2, .int j2), (3, .int j3), (4, .int j4_74), (5, .int j5_74)]) hx hb dX1_two_93 hl (by decide) rfl (fun ls hl => ?_)
                        refine lv_aload_n hx hb dX1_two_95 rfl (lv_at hl 1 rfl) ?_
                        refine va_get (D := D) (ci := 1) (v := .ref ((A 1) 0)) (C := RX1) (T := TX1) (N := 9) hx hb hts hinX hown hK hP 0 rfl rfl 0 (by decide) lk0 (fun _ h9 => h9) rfl dX1_two_96 ?_
                        refine lv_iload_n hx hb dX1_two_99 rfl (lv_at hl 2 rfl) ?_
                        refine lv_iload_n hx hb dX1_two_100 rfl (lv_at hl 4 rfl) ?_
                        refine lv_iload hx hb dX1_two_101 (lv_at hl 0 rfl) ?_
                        obtain ⟨v11, hev11, hf⟩ := bS hf
                        refine rVN_io (As := [.int j1, .int j3, .int ((f_X1_away j1 j4_74) ||| (f_X1_away j2 j5_74))]) (rest := []) ⟨hx, hb, hml, hown, hts⟩ hK hN hA hP hD hS (c_X0_gain l D cI (A 1) j1 j3 ((f_X1_away j1 j4_74) ||| (f_X1_away j2 j5_74)) xn v11 hev11) ⟨va_cnB 3 hts gX1_two_X0_gain_n204 rfl rfl rfl (nW.m hN 36 rfl) lk1 hd_X0_gain.2 ⟨Nat.le_of_ble_eq_true rfl, Nat.le_of_ble_eq_true rfl⟩, lk8, lk9⟩ (va_recv hK hP (ci := 0) (q0 := 1) rfl rfl) [1, 2, 3, 4, 5, 6, 7, 8, 9, 10, 11] (by decide) rfl rfl hl.1 rfl (Nat.le_of_ble_eq_true rfl) dX1_two_103 ⟨Nat.le_of_ble_eq_true rfl, Nat.le_of_ble_eq_true rfl⟩ (fun H locs hP hD hS => ?_)
                        refine lv_aload_n hx hb dX1_two_106 rfl (lv_at hl 1 rfl) ?_
                        refine va_get (D := D) (ci := 1) (v := .ref ((A 1) 0)) (C := RX1) (T := TX1) (N := 9) hx hb hts hinX hown hK hP 0 rfl rfl 0 (by decide) lk0 (fun _ h9 => h9) rfl dX1_two_107 ?_
                        refine lv_iload_n hx hb dX1_two_110 rfl (lv_at hl 2 rfl) ?_
                        refine lv_iload_n hx hb dX1_two_111 rfl (lv_at hl 4 rfl) ?_
                        refine lv_iload hx hb dX1_two_112 (lv_at hl 0 rfl) ?_
                        refine lv_iconst (v := (1 : Int32)) hx hb dX1_two_114 (by decide) ?_
                        refine lv_iload_n hx hb dX1_two_115 rfl (lv_at hl 2 rfl) ?_
                        refine lv_ishl hx hb dX1_two_116 ?_
                        refine lv_ixor hx hb dX1_two_117 ?_
                        obtain ⟨v12, hev12, hf⟩ := bS hf
                        refine rVN_io (As := [.int j1, .int j3, .int (((f_X1_away j1 j4_74) ||| (f_X1_away j2 j5_74)) ^^^ ((1 : Int32) <<< (j1 &&& 31)))]) (rest := [.int v11]) ⟨hx, hb, hml, hown, hts⟩ hK hN hA hP hD hS (c_X0_gain l D cI (A 1) j1 j3 (((f_X1_away j1 j4_74) ||| (f_X1_away j2 j5_74)) ^^^ ((1 : Int32) <<< (j1 &&& 31))) xn v12 hev12) ⟨va_cnB 3 hts gX1_two_X0_gain_n204 rfl rfl rfl (nW.m hN 36 rfl) lk1 hd_X0_gain.2 ⟨Nat.le_of_ble_eq_true rfl, Nat.le_of_ble_eq_true rfl⟩, lk8, lk9⟩ (va_recv hK hP (ci := 0) (q0 := 1) rfl rfl) [1, 2, 3, 4, 5, 6, 7, 8, 9, 10, 11] (by decide) rfl rfl hl.1 rfl (Nat.le_of_ble_eq_true rfl) dX1_two_118 ⟨Nat.le_of_ble_eq_true rfl, Nat.le_of_ble_eq_true rfl⟩ (fun H locs hP hD hS => ?_)
                        obtain ⟨K157, hK157, hf⟩ := jnS hf
                        have J157 : ∀ (j4_157 : Int32) (j5_157 : Int32) (xx_157 : HS) (H : Heap) (locs : List Loc) (ls : Array Slot), K157 j4_157 j5_157 xx_157 = some out → va_P D vwCl (wX A cI xx_157 xn xm xk) H → va_D G (wX A cI xx_157 xn xm xk) → va_S G s.heap H locs → lv_has ls 8 [(0, .ref ((A 0) 0)), (1, .int j1), (2, .int j2), (3, .int j3), (4, .int j4_157), (5, .int j5_157)] → WW H locs (F0 m 157 ls []) := by
                          intro j4_157 j5_157 xx_157 H locs ls hf hP hD hS hl
                          subst hK157
                          refine (hWW _ _ _).mpr ?_
                          refine lv_iconst (v := (0 : Int32)) hx hb dX1_two_157 (by decide) ?_
                          refine lv_istore (lv' := [(7, .int (0 : Int32)), (0, .ref ((A 0) 0)), (1, .int j1), (2, .int j2), (3, .int j3), (4, .int j4_157), (5, .int j5_157)]) hx hb dX1_two_158 hl (by decide) rfl (fun ls hl => ?_)
                          refine lv_iload hx hb dX1_two_160 (lv_at hl 0 rfl) ?_
                          refine lv_if_eq (tgt := 174) hx hb dX1_two_162 (by decide) (fun c13 => ?_) (fun c13 => ?_)
                          · refine lv_iinc (v := (j5_157 + (1 : Int32))) (lv' := [(5, .int (j5_157 + (1 : Int32))), (7, .int (0 : Int32)), (0, .ref ((A 0) 0)), (1, .int j1), (2, .int j2), (3, .int j3), (4, .int j4_157)]) hx hb dX1_two_174 hl (k := 6) rfl rfl (by decide) rfl (fun ls hl => ?_)
                            refine lv_goto (tgt := 74) hx hb dX1_two_177 (by decide) ?_
                            exact (hWW _ _ _).mp (ih _ _ _ _ _ _ hf hP hD hS (lv_sub hl [2, 3, 4, 5, 6, 0] rfl))
                          · exact absurd c13 (by decide)
                        refine lv_icmp_lt (tgt := 157) hx hb dX1_two_121 (by decide) (fun c14 => ?_) (fun c14 => ?_)
                        · have hf := hT hf c14
                          exact (hWW _ _ _).mp (J157 _ _ _ _ _ _ hf hP hD hS (lv_sub hl [1, 2, 3, 4, 5, 6] rfl))
                        · have hf := hF hf c14
                          refine lv_aload_n hx hb dX1_two_124 rfl (lv_at hl 1 rfl) ?_
                          refine va_get (D := D) (ci := 1) (v := .ref ((A 1) 0)) (C := RX1) (T := TX1) (N := 9) hx hb hts hinX hown hK hP 0 rfl rfl 0 (by decide) lk0 (fun _ h9 => h9) rfl dX1_two_125 ?_
                          refine lv_iload_n hx hb dX1_two_128 rfl (lv_at hl 3 rfl) ?_
                          refine lv_iload_n hx hb dX1_two_129 rfl (lv_at hl 4 rfl) ?_
                          refine lv_iload hx hb dX1_two_130 (lv_at hl 0 rfl) ?_
                          obtain ⟨v15, hev15, hf⟩ := bS hf
                          refine rVN_io (As := [.int j2, .int j3, .int ((f_X1_away j1 j4_74) ||| (f_X1_away j2 j5_74))]) (rest := []) ⟨hx, hb, hml, hown, hts⟩ hK hN hA hP hD hS (c_X0_gain l D cI (A 1) j2 j3 ((f_X1_away j1 j4_74) ||| (f_X1_away j2 j5_74)) xn v15 hev15) ⟨va_cnB 3 hts gX1_two_X0_gain_n204 rfl rfl rfl (nW.m hN 36 rfl) lk1 hd_X0_gain.2 ⟨Nat.le_of_ble_eq_true rfl, Nat.le_of_ble_eq_true rfl⟩, lk8, lk9⟩ (va_recv hK hP (ci := 0) (q0 := 1) rfl rfl) [1, 2, 3, 4, 5, 6, 7, 8, 9, 10, 11] (by decide) rfl rfl hl.1 rfl (Nat.le_of_ble_eq_true rfl) dX1_two_132 ⟨Nat.le_of_ble_eq_true rfl, Nat.le_of_ble_eq_true rfl⟩ (fun H locs hP hD hS => ?_)
                          refine lv_aload_n hx hb dX1_two_135 rfl (lv_at hl 1 rfl) ?_
                          refine va_get (D := D) (ci := 1) (v := .ref ((A 1) 0)) (C := RX1) (T := TX1) (N := 9) hx hb hts hinX hown hK hP 0 rfl rfl 0 (by decide) lk0 (fun _ h9 => h9) rfl dX1_two_136 ?_
                          refine lv_iload_n hx hb dX1_two_139 rfl (lv_at hl 3 rfl) ?_
                          refine lv_iload_n hx hb dX1_two_140 rfl (lv_at hl 4 rfl) ?_
                          refine lv_iload hx hb dX1_two_141 (lv_at hl 0 rfl) ?_
                          refine lv_iconst (v := (1 : Int32)) hx hb dX1_two_143 (by decide) ?_
                          refine lv_iload_n hx hb dX1_two_144 rfl (lv_at hl 3 rfl) ?_
                          refine lv_ishl hx hb dX1_two_145 ?_
                          refine lv_ixor hx hb dX1_two_146 ?_
                          obtain ⟨v16, hev16, hf⟩ := bS hf
                          refine rVN_io (As := [.int j2, .int j3, .int (((f_X1_away j1 j4_74) ||| (f_X1_away j2 j5_74)) ^^^ ((1 : Int32) <<< (j2 &&& 31)))]) (rest := [.int v15]) ⟨hx, hb, hml, hown, hts⟩ hK hN hA hP hD hS (c_X0_gain l D cI (A 1) j2 j3 (((f_X1_away j1 j4_74) ||| (f_X1_away j2 j5_74)) ^^^ ((1 : Int32) <<< (j2 &&& 31))) xn v16 hev16) ⟨va_cnB 3 hts gX1_two_X0_gain_n204 rfl rfl rfl (nW.m hN 36 rfl) lk1 hd_X0_gain.2 ⟨Nat.le_of_ble_eq_true rfl, Nat.le_of_ble_eq_true rfl⟩, lk8, lk9⟩ (va_recv hK hP (ci := 0) (q0 := 1) rfl rfl) [1, 2, 3, 4, 5, 6, 7, 8, 9, 10, 11] (by decide) rfl rfl hl.1 rfl (Nat.le_of_ble_eq_true rfl) dX1_two_147 ⟨Nat.le_of_ble_eq_true rfl, Nat.le_of_ble_eq_true rfl⟩ (fun H locs hP hD hS => ?_)
                          refine lv_icmp_lt (tgt := 157) hx hb dX1_two_150 (by decide) (fun c17 => ?_) (fun c17 => ?_)
                          · have hf := hT hf c17
                            exact (hWW _ _ _).mp (J157 _ _ _ _ _ _ hf hP hD hS (lv_sub hl [1, 2, 3, 4, 5, 6] rfl))
                          · have hf := hF hf c17
                            refine lv_iconst (v := (1 : Int32)) hx hb dX1_two_153 (by decide) ?_
                            refine lv_goto (tgt := 158) hx hb dX1_two_154 (by decide) ?_
                            refine lv_istore (lv' := [(7, .int (1 : Int32)), (6, .int ((f_X1_away j1 j4_74) ||| (f_X1_away j2 j5_74))), (0, .ref ((A 0) 0)), (1, .int j1), (2, .int j2), (3, .int j3), (4, .int j4_74), (5, .int j5_74)]) hx hb dX1_two_158 hl (by decide) rfl (fun ls hl => ?_)
                            refine lv_iload hx hb dX1_two_160 (lv_at hl 0 rfl) ?_
                            refine lv_if_eq (tgt := 174) hx hb dX1_two_162 (by decide) (fun c18 => ?_) (fun c18 => ?_)
                            · exact absurd c18 (by decide)
                            · refine lv_bipush (v := (10 : Int32)) hx hb dX1_two_165 (by decide) ?_
                              refine lv_iload hx hb dX1_two_167 (lv_at hl 6 rfl) ?_
                              refine lv_imul hx hb dX1_two_169 ?_
                              refine lv_iload hx hb dX1_two_170 (lv_at hl 7 rfl) ?_
                              refine lv_iadd hx hb dX1_two_172 ?_
                              obtain rfl := Option.some.inj hf
                              exact W.iret (v := (((10 : Int32) * j4_74) + j5_74)) hx hb hr (fun t ht hW => ⟨⟨(((10 : Int32) * j4_74) + j5_74), (), rfl, rfl, hPt ht hP⟩, hS.F ht⟩) hS.2.2 dX1_two_173
                  exact (hWW _ _ _).mp (P74 _ _ _ _ _ _ _ hf hP hD hS (lv_sub hl [1, 2, 3, 4, 5, 0] rfl))
            exact (hWW _ _ _).mp (P65 _ _ _ _ _ _ hf hP hD hS (lv_sub hl [1, 2, 3, 4, 0] rfl))
          · have hf := hT hf c8
            refine lv_aload_n hx hb dX1_two_55 rfl (lv_at hl 0 rfl) ?_
            refine lv_bipush (v := (-3 : Int32)) hx hb dX1_two_56 (by decide) ?_
            obtain ⟨v19, hev19, hf⟩ := bS hf
            refine rV_i (ws' := (wX A cI v19.2 xn xm xk)) (As := [.int (-3 : Int32)]) (rest := []) ⟨hx, hb, hml, hown, hts⟩ hK hN hA hP hD hS (c_X1_refuse l D cI A (-3 : Int32) xx xn xm xk v19 hev19) (cwV 1 hts gX1_two_X1_refuse rfl rfl rfl hd_X1_refuse ⟨Nat.le_of_ble_eq_true rfl, Nat.le_of_ble_eq_true rfl⟩) (va_recv hK hP (ci := 1) (q0 := 0) rfl rfl) [0, 1, 2, 3, 4, 5, 6, 7, 8, 9, 10, 11, 12, 13, 14, 15, 16, 17, 18, 19, 20, 21, 22, 23, 24, 25, 26, 27, 28, 29, 30, 31, 32, 33, 34, 35, 36] (by decide) rfl rfl rfl rfl hl.1 rfl (Nat.le_of_ble_eq_true rfl) dX1_two_58 ⟨Nat.le_of_ble_eq_true rfl, Nat.le_of_ble_eq_true rfl⟩ (fun H locs hP hD hS => ?_)
            have hP : va_P D vwCl (wX A cI v19.2 xn xm xk) H := hP
            obtain rfl := Option.some.inj hf
            exact W.iret (v := v19.1) hx hb hr (fun t ht hW => ⟨⟨v19.1, (), rfl, rfl, hPt ht hP⟩, hS.F ht⟩) hS.2.2 dX1_two_61
        · have hf := hT hf c7
          refine lv_aload_n hx hb dX1_two_38 rfl (lv_at hl 0 rfl) ?_
          refine lv_iconst (v := (-1 : Int32)) hx hb dX1_two_39 (by decide) ?_
          obtain ⟨v20, hev20, hf⟩ := bS hf
          refine rV_i (ws' := (wX A cI v20.2 xn xm xk)) (As := [.int (-1 : Int32)]) (rest := []) ⟨hx, hb, hml, hown, hts⟩ hK hN hA hP hD hS (c_X1_refuse l D cI A (-1 : Int32) xx xn xm xk v20 hev20) (cwV 1 hts gX1_two_X1_refuse rfl rfl rfl hd_X1_refuse ⟨Nat.le_of_ble_eq_true rfl, Nat.le_of_ble_eq_true rfl⟩) (va_recv hK hP (ci := 1) (q0 := 0) rfl rfl) [0, 1, 2, 3, 4, 5, 6, 7, 8, 9, 10, 11, 12, 13, 14, 15, 16, 17, 18, 19, 20, 21, 22, 23, 24, 25, 26, 27, 28, 29, 30, 31, 32, 33, 34, 35, 36] (by decide) rfl rfl rfl rfl hl.1 rfl (Nat.le_of_ble_eq_true rfl) dX1_two_40 ⟨Nat.le_of_ble_eq_true rfl, Nat.le_of_ble_eq_true rfl⟩ (fun H locs hP hD hS => ?_)
          have hP : va_P D vwCl (wX A cI v20.2 xn xm xk) H := hP
          obtain rfl := Option.some.inj hf
          exact W.iret (v := v20.1) hx hb hr (fun t ht hW => ⟨⟨v20.1, (), rfl, rfl, hPt ht hP⟩, hS.F ht⟩) hS.2.2 dX1_two_43
def f_X1_row (j1 : Int32) (xx : HS) (xn : HS) (xm : HS) (xk : HS) : Option (Int32 × HS) := if 0 ≤ j1 then if (99 : Int32) < j1 then (f_X1_refuse (-6 : Int32) xx xn xm xk).bind fun v3 => some (v3.1, v3.2) else if (xx 5 0) < (16 : Int32) then jn (st xx 1 (ptv 16 (xx 1) (xx 5 0) j1)) (fun (xx_v5 : HS) => jn (st xx_v5 5 (fun _ => ((xx_v5 5 0) + (1 : Int32)))) (fun (xx_v6 : HS) => some ((xx_v6 5 0), xx_v6))) else (f_X1_refuse (-6 : Int32) xx xn xm xk).bind fun v7 => some (v7.1, v7.2) else (f_X1_refuse (-4 : Int32) xx xn xm xk).bind fun v8 => some (v8.1, v8.2)
set_option maxHeartbeats 4000000 in
set_option maxRecDepth 100000 in
theorem c_X1_row (l : Launch) (D : va_G) (cI : ClassId) (A : Nat → Nat → Nat) (j1 : Int32) (xx : HS) (xn : HS) (xm : HS) (xk : HS) (out : Int32 × HS) (hf : f_X1_row j1 xx xn xm xk = some out) : uI l D cI yX1_row wsX1_row ({ frames := 2, cells := 0, slots := 0, locals := 43 } : Room) [.ref ((A 0) 0), .int j1] (wX A cI xx xn xm xk) (wX A cI out.2 xn xm xk) out.1 := by
  intro sz
  refine Met.ofW (cc := cX1_row) (maxL := 2) (ret := (some .int)) (by decide) rfl ?_
  intro p e s m args below meth c s₁ Bd hml hv
  obtain ⟨rfl, hsz, hP, hK, hD0, hN⟩ := hv
  have hx := Bd.exec
  have hb := Bd.bytes
  have hr := Bd.returns
  have hts := atoms_spec (ws := wsX1_row) Bd.pre
  have hown : s.vm.findClass RX1 = some m.cls := findClass_of_methodNamed Bd.named
  have hlocks := Bd.notSynchronized
  subst hsz
  have hD := hD0.self (sz := s.heap.size)
  generalize hAe : va_A (wX A cI xx xn xm xk) s.heap.size = G at hD ⊢
  have hA : ∀ q : Nat, s.heap.size ≤ q → G q := fun q h => by rw [← hAe]; exact Or.inr h
  have hS : va_S G s.heap s.heap [] := va_S.rf
  have hP : va_P D vwCl (wX A cI xx xn xm xk) s.heap := hP
  have hl := lv_entry ([.ref ((A 0) 0), .int j1]) (n := 2) (Nat.le_of_ble_eq_true rfl)
  rw [lg_entry_eq]
  generalize (lg_sl ([.ref ((A 0) 0), .int j1]) ++ List.replicate (2 - (lg_sl ([.ref ((A 0) 0), .int j1])).length) Slot.unset).toArray = ls at hl ⊢
  have hl : lv_has ls 2 [(0, .ref ((A 0) 0)), (1, .int j1)] := hl
  have hinX : ∀ w ∈ wsX10, w ∈ wsX1_row := by decide +kernel
  have lk0 := hts (.fieldLink RX1 177 "LiesBoughtBack" "numberCount" "I") (by decide +kernel)
  have lk1 := hts (.fieldLink RX1 26 "LiesBoughtBack" "numbers" "[I") (by decide +kernel)
  refine W_in ?_
  intro WW hWW
  refine (hWW _ _ _).mpr ?_
  unfold f_X1_row at hf
  refine lv_iload_n hx hb dX1_row_0 rfl (lv_at hl 1 rfl) ?_
  refine lv_if_ge (tgt := 11) hx hb dX1_row_1 (by decide) (fun c1 => ?_) (fun c1 => ?_)
  · have hf := hT hf c1
    refine lv_iload_n hx hb dX1_row_11 rfl (lv_at hl 1 rfl) ?_
    refine lv_bipush (v := (99 : Int32)) hx hb dX1_row_12 (by decide) ?_
    refine lv_icmp_gt (tgt := 26) hx hb dX1_row_14 (by decide) (fun c2 => ?_) (fun c2 => ?_)
    · have hf := hT hf c2
      refine lv_aload_n hx hb dX1_row_26 rfl (lv_at hl 0 rfl) ?_
      refine lv_bipush (v := (-6 : Int32)) hx hb dX1_row_27 (by decide) ?_
      obtain ⟨v3, hev3, hf⟩ := bS hf
      refine rV_i (ws' := (wX A cI v3.2 xn xm xk)) (As := [.int (-6 : Int32)]) (rest := []) ⟨hx, hb, hml, hown, hts⟩ hK hN hA hP hD hS (c_X1_refuse l D cI A (-6 : Int32) xx xn xm xk v3 hev3) (cwV 1 hts gX1_row_X1_refuse rfl rfl rfl hd_X1_refuse ⟨Nat.le_of_ble_eq_true rfl, Nat.le_of_ble_eq_true rfl⟩) (va_recv hK hP (ci := 1) (q0 := 0) rfl rfl) [0, 1, 2, 3, 4, 5, 6, 7, 8, 9, 10, 11, 12, 13, 14, 15, 16, 17, 18, 19, 20, 21, 22, 23, 24, 25, 26, 27, 28, 29, 30, 31, 32, 33, 34, 35, 36] (by decide) rfl rfl rfl rfl hl.1 rfl (Nat.le_of_ble_eq_true rfl) dX1_row_29 ⟨Nat.le_of_ble_eq_true rfl, Nat.le_of_ble_eq_true rfl⟩ (fun H locs hP hD hS => ?_)
      have hP : va_P D vwCl (wX A cI v3.2 xn xm xk) H := hP
      obtain rfl := Option.some.inj hf
      exact W.iret (v := v3.1) hx hb hr (fun t ht hW => ⟨⟨v3.1, (), rfl, rfl, hPt ht hP⟩, hS.F ht⟩) hS.2.2 dX1_row_32
    · have hf := hF hf c2
      refine lv_aload_n hx hb dX1_row_17 rfl (lv_at hl 0 rfl) ?_
      refine va_get (D := D) (ci := 1) (v := .int (xx 5 0)) (C := RX1) (T := TX1) (N := 9) hx hb hts hinX hown hK hP 0 rfl rfl 7 (by decide) lk0 (fun _ h9 => h9) rfl dX1_row_18 ?_
      refine lv_bipush (v := (16 : Int32)) hx hb dX1_row_21 (by decide) ?_
      refine lv_icmp_lt (tgt := 33) hx hb dX1_row_23 (by decide) (fun c4 => ?_) (fun c4 => ?_)
      · have hf := hT hf c4
        refine lv_aload_n hx hb dX1_row_33 rfl (lv_at hl 0 rfl) ?_
        refine va_get (D := D) (ci := 1) (v := .ref ((A 0) 2)) (C := RX1) (T := TX1) (N := 9) hx hb hts hinX hown hK hP 0 rfl rfl 6 (by decide) lk1 (fun _ h9 => h9) rfl dX1_row_34 ?_
        refine lv_aload_n hx hb dX1_row_37 rfl (lv_at hl 0 rfl) ?_
        refine va_get (D := D) (ci := 1) (v := .int (xx 5 0)) (C := RX1) (T := TX1) (N := 9) hx hb hts hinX hown hK hP 0 rfl rfl 7 (by decide) lk0 (fun _ h9 => h9) rfl dX1_row_38 ?_
        refine lv_iload_n hx hb dX1_row_41 rfl (lv_at hl 1 rfl) ?_
        obtain ⟨xx_v5, exx_v5, hf⟩ := jnS hf
        refine rS_v (ws' := (wX A cI xx_v5 xn xm xk)) (As := [.ref ((A 0) 2), .int (xx 5 0), .int j1]) (rest := []) ⟨hx, hb, hml, hown, hts⟩ hK hN hA hP hD hS (c_X1_put l D cI 16 (by decide) ((A 0) 2) (xx 1) (xx 5 0) j1) (va_cwS 3 hts gX1_row_X1_put rfl rfl rfl hd_X1_put.2 ⟨Nat.le_of_ble_eq_true rfl, Nat.le_of_ble_eq_true rfl⟩) [35] (by decide) rfl rfl ((sa_X1_x_1 A cI xx xn xm xk (ptv 16 (xx 1) (xx 5 0) j1)).trans (congrArg (fun z => wX A cI z xn xm xk) exx_v5.symm)) rfl hl.1 rfl (Nat.le_of_ble_eq_true rfl) dX1_row_42 ⟨Nat.le_of_ble_eq_true rfl, Nat.le_of_ble_eq_true rfl⟩ (fun H locs hP hD hS => ?_)
        refine lv_aload_n hx hb dX1_row_45 rfl (lv_at hl 0 rfl) ?_
        refine lv_dup hx hb dX1_row_46 rfl ?_
        refine va_get (D := D) (ci := 1) (v := .int (xx_v5 5 0)) (C := RX1) (T := TX1) (N := 9) hx hb hts hinX hown hK hP 0 rfl rfl 7 (by decide) lk0 (fun _ h9 => h9) rfl dX1_row_47 ?_
        refine lv_iconst (v := (1 : Int32)) hx hb dX1_row_50 (by decide) ?_
        refine lv_iadd hx hb dX1_row_51 ?_
        obtain ⟨xx_v6, exx_v6, hf⟩ := jnS hf
        refine va_put (D := D) (ci := 1) (v := .int ((xx_v5 5 0) + (1 : Int32))) (ty := .int) (C := RX1) (T := TX1) (N := 9) hx hb hts hinX tyX1 tyX1_ok nmX1 hown hK hP hD hS 0 rfl rfl 7 (by decide) lk0 (fun _ h9 => h9) rfl (by decide +kernel) rfl rfl (Nat.le_of_ble_eq_true rfl) dX1_row_52 (fun H locs hP hD hS => ?_)
        have hE : _ = (wX A cI xx_v6 xn xm xk) := ((sf_X1_x_5 A cI xx_v5 xn xm xk ((xx_v5 5 0) + (1 : Int32))).trans (congrArg (fun z => wX A cI z xn xm xk) exx_v6.symm))
        have hP : va_P D vwCl (wX A cI xx_v6 xn xm xk) H := hE ▸ hP
        have hD : va_D G (wX A cI xx_v6 xn xm xk) := hE ▸ hD
        refine lv_aload_n hx hb dX1_row_55 rfl (lv_at hl 0 rfl) ?_
        refine va_get (D := D) (ci := 1) (v := .int (xx_v6 5 0)) (C := RX1) (T := TX1) (N := 9) hx hb hts hinX hown hK hP 0 rfl rfl 7 (by decide) lk0 (fun _ h9 => h9) rfl dX1_row_56 ?_
        obtain rfl := Option.some.inj hf
        exact W.iret (v := (xx_v6 5 0)) hx hb hr (fun t ht hW => ⟨⟨(xx_v6 5 0), (), rfl, rfl, hPt ht hP⟩, hS.F ht⟩) hS.2.2 dX1_row_59
      · have hf := hF hf c4
        refine lv_aload_n hx hb dX1_row_26 rfl (lv_at hl 0 rfl) ?_
        refine lv_bipush (v := (-6 : Int32)) hx hb dX1_row_27 (by decide) ?_
        obtain ⟨v7, hev7, hf⟩ := bS hf
        refine rV_i (ws' := (wX A cI v7.2 xn xm xk)) (As := [.int (-6 : Int32)]) (rest := []) ⟨hx, hb, hml, hown, hts⟩ hK hN hA hP hD hS (c_X1_refuse l D cI A (-6 : Int32) xx xn xm xk v7 hev7) (cwV 1 hts gX1_row_X1_refuse rfl rfl rfl hd_X1_refuse ⟨Nat.le_of_ble_eq_true rfl, Nat.le_of_ble_eq_true rfl⟩) (va_recv hK hP (ci := 1) (q0 := 0) rfl rfl) [0, 1, 2, 3, 4, 5, 6, 7, 8, 9, 10, 11, 12, 13, 14, 15, 16, 17, 18, 19, 20, 21, 22, 23, 24, 25, 26, 27, 28, 29, 30, 31, 32, 33, 34, 35, 36] (by decide) rfl rfl rfl rfl hl.1 rfl (Nat.le_of_ble_eq_true rfl) dX1_row_29 ⟨Nat.le_of_ble_eq_true rfl, Nat.le_of_ble_eq_true rfl⟩ (fun H locs hP hD hS => ?_)
        have hP : va_P D vwCl (wX A cI v7.2 xn xm xk) H := hP
        obtain rfl := Option.some.inj hf
        exact W.iret (v := v7.1) hx hb hr (fun t ht hW => ⟨⟨v7.1, (), rfl, rfl, hPt ht hP⟩, hS.F ht⟩) hS.2.2 dX1_row_32
  · have hf := hF hf c1
    refine lv_aload_n hx hb dX1_row_4 rfl (lv_at hl 0 rfl) ?_
    refine lv_bipush (v := (-4 : Int32)) hx hb dX1_row_5 (by decide) ?_
    obtain ⟨v8, hev8, hf⟩ := bS hf
    refine rV_i (ws' := (wX A cI v8.2 xn xm xk)) (As := [.int (-4 : Int32)]) (rest := []) ⟨hx, hb, hml, hown, hts⟩ hK hN hA hP hD hS (c_X1_refuse l D cI A (-4 : Int32) xx xn xm xk v8 hev8) (cwV 1 hts gX1_row_X1_refuse rfl rfl rfl hd_X1_refuse ⟨Nat.le_of_ble_eq_true rfl, Nat.le_of_ble_eq_true rfl⟩) (va_recv hK hP (ci := 1) (q0 := 0) rfl rfl) [0, 1, 2, 3, 4, 5, 6, 7, 8, 9, 10, 11, 12, 13, 14, 15, 16, 17, 18, 19, 20, 21, 22, 23, 24, 25, 26, 27, 28, 29, 30, 31, 32, 33, 34, 35, 36] (by decide) rfl rfl rfl rfl hl.1 rfl (Nat.le_of_ble_eq_true rfl) dX1_row_7 ⟨Nat.le_of_ble_eq_true rfl, Nat.le_of_ble_eq_true rfl⟩ (fun H locs hP hD hS => ?_)
    have hP : va_P D vwCl (wX A cI v8.2 xn xm xk) H := hP
    obtain rfl := Option.some.inj hf
    exact W.iret (v := v8.1) hx hb hr (fun t ht hW => ⟨⟨v8.1, (), rfl, rfl, hPt ht hP⟩, hS.F ht⟩) hS.2.2 dX1_row_10
def f_X1_clear (xx : HS) (xn : HS) (xm : HS) (xk : HS) : Option (Int32 × HS) := jn (st xx 5 (fun _ => (0 : Int32))) (fun (xx_v1 : HS) => some ((xx 5 0), xx_v1))
set_option maxHeartbeats 4000000 in
set_option maxRecDepth 100000 in
theorem c_X1_clear (l : Launch) (D : va_G) (cI : ClassId) (A : Nat → Nat → Nat) (xx : HS) (xn : HS) (xm : HS) (xk : HS) (out : Int32 × HS) (hf : f_X1_clear xx xn xm xk = some out) : uI l D cI yX1_clear wsX1_clear ({ frames := 0, cells := 0, slots := 0, locals := 0 } : Room) [.ref ((A 0) 0)] (wX A cI xx xn xm xk) (wX A cI out.2 xn xm xk) out.1 := by
  intro sz
  refine Met.ofW (cc := cX1_clear) (maxL := 2) (ret := (some .int)) (by decide) rfl ?_
  intro p e s m args below meth c s₁ Bd hml hv
  obtain ⟨rfl, hsz, hP, hK, hD0, hN⟩ := hv
  have hx := Bd.exec
  have hb := Bd.bytes
  have hr := Bd.returns
  have hts := atoms_spec (ws := wsX1_clear) Bd.pre
  have hown : s.vm.findClass RX1 = some m.cls := findClass_of_methodNamed Bd.named
  have hlocks := Bd.notSynchronized
  subst hsz
  have hD := hD0.self (sz := s.heap.size)
  generalize hAe : va_A (wX A cI xx xn xm xk) s.heap.size = G at hD ⊢
  have hA : ∀ q : Nat, s.heap.size ≤ q → G q := fun q h => by rw [← hAe]; exact Or.inr h
  have hS : va_S G s.heap s.heap [] := va_S.rf
  have hP : va_P D vwCl (wX A cI xx xn xm xk) s.heap := hP
  have hl := lv_entry ([.ref ((A 0) 0)]) (n := 2) (Nat.le_of_ble_eq_true rfl)
  rw [lg_entry_eq]
  generalize (lg_sl ([.ref ((A 0) 0)]) ++ List.replicate (2 - (lg_sl ([.ref ((A 0) 0)])).length) Slot.unset).toArray = ls at hl ⊢
  have hl : lv_has ls 2 [(0, .ref ((A 0) 0))] := hl
  have hinX : ∀ w ∈ wsX10, w ∈ wsX1_clear := by decide +kernel
  have lk0 := hts (.fieldLink RX1 177 "LiesBoughtBack" "numberCount" "I") (by decide +kernel)
  refine W_in ?_
  intro WW hWW
  refine (hWW _ _ _).mpr ?_
  unfold f_X1_clear at hf
  refine lv_aload_n hx hb dX1_clear_0 rfl (lv_at hl 0 rfl) ?_
  refine va_get (D := D) (ci := 1) (v := .int (xx 5 0)) (C := RX1) (T := TX1) (N := 9) hx hb hts hinX hown hK hP 0 rfl rfl 7 (by decide) lk0 (fun _ h9 => h9) rfl dX1_clear_1 ?_
  refine lv_istore_n (lv' := [(1, .int (xx 5 0)), (0, .ref ((A 0) 0))]) hx hb dX1_clear_4 rfl hl (by decide) rfl (fun ls hl => ?_)
  refine lv_aload_n hx hb dX1_clear_5 rfl (lv_at hl 1 rfl) ?_
  refine lv_iconst (v := (0 : Int32)) hx hb dX1_clear_6 (by decide) ?_
  obtain ⟨xx_v1, exx_v1, hf⟩ := jnS hf
  refine va_put (D := D) (ci := 1) (v := .int (0 : Int32)) (ty := .int) (C := RX1) (T := TX1) (N := 9) hx hb hts hinX tyX1 tyX1_ok nmX1 hown hK hP hD hS 0 rfl rfl 7 (by decide) lk0 (fun _ h9 => h9) rfl (by decide +kernel) rfl rfl (Nat.le_of_ble_eq_true rfl) dX1_clear_7 (fun H locs hP hD hS => ?_)
  have hE : _ = (wX A cI xx_v1 xn xm xk) := ((sf_X1_x_5 A cI xx xn xm xk (0 : Int32)).trans (congrArg (fun z => wX A cI z xn xm xk) exx_v1.symm))
  have hP : va_P D vwCl (wX A cI xx_v1 xn xm xk) H := hE ▸ hP
  have hD : va_D G (wX A cI xx_v1 xn xm xk) := hE ▸ hD
  refine lv_iload_n hx hb dX1_clear_10 rfl (lv_at hl 0 rfl) ?_
  obtain rfl := Option.some.inj hf
  exact W.iret (v := (xx 5 0)) hx hb hr (fun t ht hW => ⟨⟨(xx 5 0), (), rfl, rfl, hPt ht hP⟩, hS.F ht⟩) hS.2.2 dX1_clear_11
def L_X1_judge_5 (xn : HS) (xm : HS) (xk : HS) (K57 : Int32 → HS → Option (Int32 × HS)) : Nat → Int32 → Int32 → HS → Option (Int32 × HS)
  | 0, _, _, _ => none
  | n' + 1, j1_5, j2_5, xx_5 => if (xx_5 5 0) ≤ j2_5 then (K57 j1_5 xx_5) else if j1_5 = (-9 : Int32) then if (f_X0_hasCard j2_5 xn) = 0 then (L_X1_judge_5 xn xm xk K57 n' j2_5 (j2_5 + (1 : Int32)) xx_5) else if (f_X0_worth j2_5 xn) = (atv 16 (xx_5 1) j2_5) then (L_X1_judge_5 xn xm xk K57 n' j1_5 (j2_5 + (1 : Int32)) xx_5) else (L_X1_judge_5 xn xm xk K57 n' j2_5 (j2_5 + (1 : Int32)) xx_5) else (K57 j1_5 xx_5)
def f_X1_judge (xx : HS) (xn : HS) (xm : HS) (xk : HS) : Option (Int32 × HS) := jn (fun (j1_57 : Int32) (xx_57 : HS) => jn (st xx_57 5 (fun _ => (0 : Int32))) (fun (xx_v1 : HS) => some (j1_57, xx_v1))) (fun (K57 : Int32 → HS → Option (Int32 × HS)) => (L_X1_judge_5 xn xm xk K57 fuel (-9 : Int32) (0 : Int32) xx))
set_option maxHeartbeats 4000000 in
set_option maxRecDepth 100000 in
theorem c_X1_judge (l : Launch) (D : va_G) (cI : ClassId) (A : Nat → Nat → Nat) (xx : HS) (xn : HS) (xm : HS) (xk : HS) (out : Int32 × HS) (hf : f_X1_judge xx xn xm xk = some out) : uI l D cI yX1_judge wsX1_judge ({ frames := 2, cells := 0, slots := 0, locals := 44 } : Room) [.ref ((A 0) 0)] (wX A cI xx xn xm xk) (wX A cI out.2 xn xm xk) out.1 := by
  intro sz
  refine Met.ofW (cc := cX1_judge) (maxL := 3) (ret := (some .int)) (by decide) rfl ?_
  intro p e s m args below meth c s₁ Bd hml hv
  obtain ⟨rfl, hsz, hP, hK, hD0, hN⟩ := hv
  have hx := Bd.exec
  have hb := Bd.bytes
  have hr := Bd.returns
  have hts := atoms_spec (ws := wsX1_judge) Bd.pre
  have hown : s.vm.findClass RX1 = some m.cls := findClass_of_methodNamed Bd.named
  have hlocks := Bd.notSynchronized
  subst hsz
  have hD := hD0.self (sz := s.heap.size)
  generalize hAe : va_A (wX A cI xx xn xm xk) s.heap.size = G at hD ⊢
  have hA : ∀ q : Nat, s.heap.size ≤ q → G q := fun q h => by rw [← hAe]; exact Or.inr h
  have hS : va_S G s.heap s.heap [] := va_S.rf
  have hP : va_P D vwCl (wX A cI xx xn xm xk) s.heap := hP
  have hl := lv_entry ([.ref ((A 0) 0)]) (n := 3) (Nat.le_of_ble_eq_true rfl)
  rw [lg_entry_eq]
  generalize (lg_sl ([.ref ((A 0) 0)]) ++ List.replicate (3 - (lg_sl ([.ref ((A 0) 0)])).length) Slot.unset).toArray = ls at hl ⊢
  have hl : lv_has ls 3 [(0, .ref ((A 0) 0))] := hl
  have hinX : ∀ w ∈ wsX10, w ∈ wsX1_judge := by decide +kernel
  have lk0 := hts (.fieldLink RX1 177 "LiesBoughtBack" "numberCount" "I") (by decide +kernel)
  have lk1 := hts (.fieldLink RX1 10 "LiesBoughtBack" "now" "LLiesBoughtBack$Hall;") (by decide +kernel)
  have lk2 := hts (.initialized RX0) (by decide +kernel)
  have lk3 := hts (.instanceMethod yX0_hasCard) (by decide +kernel)
  have lk4 := hts (.selects RX0 yX0_hasCard yX0_hasCard) (by decide +kernel)
  have lk5 := hts (.instanceMethod yX0_worth) (by decide +kernel)
  have lk6 := hts (.selects RX0 yX0_worth yX0_worth) (by decide +kernel)
  have lk7 := hts (.fieldLink RX1 26 "LiesBoughtBack" "numbers" "[I") (by decide +kernel)
  refine W_in ?_
  intro WW hWW
  refine (hWW _ _ _).mpr ?_
  unfold f_X1_judge at hf
  refine lv_bipush (v := (-9 : Int32)) hx hb dX1_judge_0 (by decide) ?_
  refine lv_istore_n (lv' := [(1, .int (-9 : Int32)), (0, .ref ((A 0) 0))]) hx hb dX1_judge_2 rfl hl (by decide) rfl (fun ls hl => ?_)
  refine lv_iconst (v := (0 : Int32)) hx hb dX1_judge_3 (by decide) ?_
  refine lv_istore_n (lv' := [(2, .int (0 : Int32)), (1, .int (-9 : Int32)), (0, .ref ((A 0) 0))]) hx hb dX1_judge_4 rfl hl (by decide) rfl (fun ls hl => ?_)
  obtain ⟨K57, hK57, hf⟩ := jnS hf
  have J57 : ∀ (j1_57 : Int32) (xx_57 : HS) (H : Heap) (locs : List Loc) (ls : Array Slot), K57 j1_57 xx_57 = some out → va_P D vwCl (wX A cI xx_57 xn xm xk) H → va_D G (wX A cI xx_57 xn xm xk) → va_S G s.heap H locs → lv_has ls 3 [(0, .ref ((A 0) 0)), (1, .int j1_57)] → WW H locs (F0 m 57 ls []) := by
    intro j1_57 xx_57 H locs ls hf hP hD hS hl
    subst hK57
    refine (hWW _ _ _).mpr ?_
    refine lv_aload_n hx hb dX1_judge_57 rfl (lv_at hl 0 rfl) ?_
    refine lv_iconst (v := (0 : Int32)) hx hb dX1_judge_58 (by decide) ?_
    obtain ⟨xx_v1, exx_v1, hf⟩ := jnS hf
    refine va_put (D := D) (ci := 1) (v := .int (0 : Int32)) (ty := .int) (C := RX1) (T := TX1) (N := 9) hx hb hts hinX tyX1 tyX1_ok nmX1 hown hK hP hD hS 0 rfl rfl 7 (by decide) lk0 (fun _ h9 => h9) rfl (by decide +kernel) rfl rfl (Nat.le_of_ble_eq_true rfl) dX1_judge_59 (fun H locs hP hD hS => ?_)
    have hE : _ = (wX A cI xx_v1 xn xm xk) := ((sf_X1_x_5 A cI xx_57 xn xm xk (0 : Int32)).trans (congrArg (fun z => wX A cI z xn xm xk) exx_v1.symm))
    have hP : va_P D vwCl (wX A cI xx_v1 xn xm xk) H := hE ▸ hP
    have hD : va_D G (wX A cI xx_v1 xn xm xk) := hE ▸ hD
    refine lv_iload_n hx hb dX1_judge_62 rfl (lv_at hl 1 rfl) ?_
    obtain rfl := Option.some.inj hf
    exact W.iret (v := j1_57) hx hb hr (fun t ht hW => ⟨⟨j1_57, (), rfl, rfl, hPt ht hP⟩, hS.F ht⟩) hS.2.2 dX1_judge_63
  have P5 : ∀ (n' : Nat) (j1_5 : Int32) (j2_5 : Int32) (xx_5 : HS) (H : Heap) (locs : List Loc) (ls : Array Slot), L_X1_judge_5 xn xm xk K57 n' j1_5 j2_5 xx_5 = some out → va_P D vwCl (wX A cI xx_5 xn xm xk) H → va_D G (wX A cI xx_5 xn xm xk) → va_S G s.heap H locs → lv_has ls 3 [(0, .ref ((A 0) 0)), (1, .int j1_5), (2, .int j2_5)] → WW H locs (F0 m 5 ls []) := by
    intro n'
    induction n' with
    | zero => intro j1_5 j2_5 xx_5 H locs ls hf; exact absurd (show (none : Option (Int32 × HS)) = some out from hf) (fun q => by cases q)
    | succ n' ih =>
      intro j1_5 j2_5 xx_5 H locs ls hf hP hD hS hl
      rw [L_X1_judge_5] at hf
      refine (hWW _ _ _).mpr ?_
      refine lv_iload_n hx hb dX1_judge_5 rfl (lv_at hl 2 rfl) ?_
      refine lv_aload_n hx hb dX1_judge_6 rfl (lv_at hl 0 rfl) ?_
      refine va_get (D := D) (ci := 1) (v := .int (xx_5 5 0)) (C := RX1) (T := TX1) (N := 9) hx hb hts hinX hown hK hP 0 rfl rfl 7 (by decide) lk0 (fun _ h9 => h9) rfl dX1_judge_7 ?_
      refine lv_icmp_ge (tgt := 57) hx hb dX1_judge_10 (by decide) (fun c2 => ?_) (fun c2 => ?_)
      · have hf := hT hf c2
        exact (hWW _ _ _).mp (J57 _ _ _ _ _ hf hP hD hS (lv_sub hl [0, 1] rfl))
      · have hf := hF hf c2
        refine lv_iload_n hx hb dX1_judge_13 rfl (lv_at hl 1 rfl) ?_
        refine lv_bipush (v := (-9 : Int32)) hx hb dX1_judge_14 (by decide) ?_
        refine lv_icmp_ne (tgt := 57) hx hb dX1_judge_16 (by decide) (fun c3 => ?_) (fun c3 => ?_)
        · have hf := hF hf c3
          exact (hWW _ _ _).mp (J57 _ _ _ _ _ hf hP hD hS (lv_sub hl [0, 1] rfl))
        · have hf := hT hf c3
          refine lv_aload_n hx hb dX1_judge_19 rfl (lv_at hl 0 rfl) ?_
          refine va_get (D := D) (ci := 1) (v := .ref ((A 1) 0)) (C := RX1) (T := TX1) (N := 9) hx hb hts hinX hown hK hP 0 rfl rfl 0 (by decide) lk1 (fun _ h9 => h9) rfl dX1_judge_20 ?_
          refine lv_iload_n hx hb dX1_judge_23 rfl (lv_at hl 2 rfl) ?_
          refine rVN_io (As := [.int j2_5]) (rest := []) ⟨hx, hb, hml, hown, hts⟩ hK hN hA hP hD hS (c_X0_hasCard l D cI (A 1) j2_5 xn (f_X0_hasCard j2_5 xn) rfl) ⟨va_cnB 1 hts gX1_judge_X0_hasCard_n69 rfl rfl rfl (nW.m hN 14 rfl) lk2 hd_X0_hasCard.2 ⟨Nat.le_of_ble_eq_true rfl, Nat.le_of_ble_eq_true rfl⟩, lk3, lk4⟩ (va_recv hK hP (ci := 0) (q0 := 1) rfl rfl) [1, 2, 3, 4, 5, 6, 7, 8, 9, 10, 11] (by decide) rfl rfl hl.1 rfl (Nat.le_of_ble_eq_true rfl) dX1_judge_24 ⟨Nat.le_of_ble_eq_true rfl, Nat.le_of_ble_eq_true rfl⟩ (fun H locs hP hD hS => ?_)
          refine lv_if_eq (tgt := 49) hx hb dX1_judge_27 (by decide) (fun c4 => ?_) (fun c4 => ?_)
          · have hf := hT hf c4
            refine lv_iload_n hx hb dX1_judge_49 rfl (lv_at hl 2 rfl) ?_
            refine lv_istore_n (lv' := [(1, .int j2_5), (0, .ref ((A 0) 0)), (2, .int j2_5)]) hx hb dX1_judge_50 rfl hl (by decide) rfl (fun ls hl => ?_)
            refine lv_iinc (v := (j2_5 + (1 : Int32))) (lv' := [(2, .int (j2_5 + (1 : Int32))), (1, .int j2_5), (0, .ref ((A 0) 0))]) hx hb dX1_judge_51 hl (k := 2) rfl rfl (by decide) rfl (fun ls hl => ?_)
            refine lv_goto (tgt := 5) hx hb dX1_judge_54 (by decide) ?_
            exact (hWW _ _ _).mp (ih _ _ _ _ _ _ hf hP hD hS (lv_sub hl [2, 1, 0] rfl))
          · have hf := hF hf c4
            refine lv_aload_n hx hb dX1_judge_30 rfl (lv_at hl 0 rfl) ?_
            refine va_get (D := D) (ci := 1) (v := .ref ((A 1) 0)) (C := RX1) (T := TX1) (N := 9) hx hb hts hinX hown hK hP 0 rfl rfl 0 (by decide) lk1 (fun _ h9 => h9) rfl dX1_judge_31 ?_
            refine lv_iload_n hx hb dX1_judge_34 rfl (lv_at hl 2 rfl) ?_
            refine rVN_io (As := [.int j2_5]) (rest := []) ⟨hx, hb, hml, hown, hts⟩ hK hN hA hP hD hS (c_X0_worth l D cI (A 1) j2_5 xn (f_X0_worth j2_5 xn) rfl) ⟨va_cnB 1 hts gX1_judge_X0_worth_n117 rfl rfl rfl (nW.m hN 19 rfl) lk2 hd_X0_worth.2 ⟨Nat.le_of_ble_eq_true rfl, Nat.le_of_ble_eq_true rfl⟩, lk5, lk6⟩ (va_recv hK hP (ci := 0) (q0 := 1) rfl rfl) [1, 2, 3, 4, 5, 6, 7, 8, 9, 10, 11] (by decide) rfl rfl hl.1 rfl (Nat.le_of_ble_eq_true rfl) dX1_judge_35 ⟨Nat.le_of_ble_eq_true rfl, Nat.le_of_ble_eq_true rfl⟩ (fun H locs hP hD hS => ?_)
            refine lv_aload_n hx hb dX1_judge_38 rfl (lv_at hl 0 rfl) ?_
            refine va_get (D := D) (ci := 1) (v := .ref ((A 0) 2)) (C := RX1) (T := TX1) (N := 9) hx hb hts hinX hown hK hP 0 rfl rfl 6 (by decide) lk7 (fun _ h9 => h9) rfl dX1_judge_39 ?_
            refine lv_iload_n hx hb dX1_judge_42 rfl (lv_at hl 2 rfl) ?_
            refine rS_io (As := [.ref ((A 0) 2), .int j2_5]) (rest := [.int (f_X0_worth j2_5 xn)]) ⟨hx, hb, hml, hown, hts⟩ hK hN hA hP hD hS (c_X1_at l D cI 16 (by decide) ((A 0) 2) (xx_5 1) j2_5) (va_cwS 2 hts gX1_judge_X1_at rfl rfl rfl hd_X1_at.2 ⟨Nat.le_of_ble_eq_true rfl, Nat.le_of_ble_eq_true rfl⟩) [35] (by decide) rfl rfl hl.1 rfl (Nat.le_of_ble_eq_true rfl) dX1_judge_43 ⟨Nat.le_of_ble_eq_true rfl, Nat.le_of_ble_eq_true rfl⟩ (fun H locs hP hD hS => ?_)
            refine lv_icmp_eq (tgt := 51) hx hb dX1_judge_46 (by decide) (fun c5 => ?_) (fun c5 => ?_)
            · have hf := hT hf c5
              refine lv_iinc (v := (j2_5 + (1 : Int32))) (lv' := [(2, .int (j2_5 + (1 : Int32))), (0, .ref ((A 0) 0)), (1, .int j1_5)]) hx hb dX1_judge_51 hl (k := 2) rfl rfl (by decide) rfl (fun ls hl => ?_)
              refine lv_goto (tgt := 5) hx hb dX1_judge_54 (by decide) ?_
              exact (hWW _ _ _).mp (ih _ _ _ _ _ _ hf hP hD hS (lv_sub hl [1, 2, 0] rfl))
            · have hf := hF hf c5
              refine lv_iload_n hx hb dX1_judge_49 rfl (lv_at hl 2 rfl) ?_
              refine lv_istore_n (lv' := [(1, .int j2_5), (0, .ref ((A 0) 0)), (2, .int j2_5)]) hx hb dX1_judge_50 rfl hl (by decide) rfl (fun ls hl => ?_)
              refine lv_iinc (v := (j2_5 + (1 : Int32))) (lv' := [(2, .int (j2_5 + (1 : Int32))), (1, .int j2_5), (0, .ref ((A 0) 0))]) hx hb dX1_judge_51 hl (k := 2) rfl rfl (by decide) rfl (fun ls hl => ?_)
              refine lv_goto (tgt := 5) hx hb dX1_judge_54 (by decide) ?_
              exact (hWW _ _ _).mp (ih _ _ _ _ _ _ hf hP hD hS (lv_sub hl [2, 1, 0] rfl))
  exact (hWW _ _ _).mp (P5 _ _ _ _ _ _ _ hf hP hD hS (lv_sub hl [2, 1, 0] rfl))
def L_X1_rowTellsHolders_2 (xx : HS) (xn : HS) (xm : HS) (xk : HS) (K69 : Option (Int32)) : Nat → Int32 → Option (Int32)
  | 0, _ => none
  | n' + 1, j1_2 => if (xx 5 0) ≤ j1_2 then K69 else if (f_X0_inPile j1_2 xm) = 0 then if (f_X0_hasCard j1_2 xm) = 0 then some (0 : Int32) else if (atv 16 (xx 1) j1_2) = (atv 8 (xm 4) j1_2) then (L_X1_rowTellsHolders_2 xx xn xm xk K69 n' (j1_2 + (1 : Int32))) else some (0 : Int32) else if (f_X0_hasCard j1_2 xm) = 0 then some (0 : Int32) else if (atv 16 (xx 1) j1_2) = (9 : Int32) then (L_X1_rowTellsHolders_2 xx xn xm xk K69 n' (j1_2 + (1 : Int32))) else some (0 : Int32)
def f_X1_rowTellsHolders (xx : HS) (xn : HS) (xm : HS) (xk : HS) : Option (Int32) := jn (some (1 : Int32)) (fun (K69 : Option (Int32)) => (L_X1_rowTellsHolders_2 xx xn xm xk K69 fuel (0 : Int32)))
set_option maxHeartbeats 4000000 in
set_option maxRecDepth 100000 in
theorem c_X1_rowTellsHolders (l : Launch) (D : va_G) (cI : ClassId) (A : Nat → Nat → Nat) (xx : HS) (xn : HS) (xm : HS) (xk : HS) (out : Int32) (hf : f_X1_rowTellsHolders xx xn xm xk = some out) : uI l D cI yX1_rowTellsHolders wsX1_rowTellsHolders ({ frames := 2, cells := 0, slots := 0, locals := 42 } : Room) [.ref ((A 0) 0)] (wX A cI xx xn xm xk) (wX A cI xx xn xm xk) out := by
  intro sz
  refine Met.ofW (cc := cX1_rowTellsHolders) (maxL := 3) (ret := (some .boolean)) (by decide) rfl ?_
  intro p e s m args below meth c s₁ Bd hml hv
  obtain ⟨rfl, hsz, hP, hK, hD0, hN⟩ := hv
  have hx := Bd.exec
  have hb := Bd.bytes
  have hr := Bd.returns
  have hts := atoms_spec (ws := wsX1_rowTellsHolders) Bd.pre
  have hown : s.vm.findClass RX1 = some m.cls := findClass_of_methodNamed Bd.named
  have hlocks := Bd.notSynchronized
  subst hsz
  have hD := hD0.self (sz := s.heap.size)
  generalize hAe : va_A (wX A cI xx xn xm xk) s.heap.size = G at hD ⊢
  have hA : ∀ q : Nat, s.heap.size ≤ q → G q := fun q h => by rw [← hAe]; exact Or.inr h
  have hS : va_S G s.heap s.heap [] := va_S.rf
  have hP : va_P D vwCl (wX A cI xx xn xm xk) s.heap := hP
  have hl := lv_entry ([.ref ((A 0) 0)]) (n := 3) (Nat.le_of_ble_eq_true rfl)
  rw [lg_entry_eq]
  generalize (lg_sl ([.ref ((A 0) 0)]) ++ List.replicate (3 - (lg_sl ([.ref ((A 0) 0)])).length) Slot.unset).toArray = ls at hl ⊢
  have hl : lv_has ls 3 [(0, .ref ((A 0) 0))] := hl
  have hinH : ∀ w ∈ wsX00, w ∈ wsX1_rowTellsHolders := by decide +kernel
  have hinX : ∀ w ∈ wsX10, w ∈ wsX1_rowTellsHolders := by decide +kernel
  have lk0 := hts (.fieldLink RX1 177 "LiesBoughtBack" "numberCount" "I") (by decide +kernel)
  have lk1 := hts (.fieldLink RX1 16 "LiesBoughtBack" "mind" "LLiesBoughtBack$Hall;") (by decide +kernel)
  have lk2 := hts (.initialized RX0) (by decide +kernel)
  have lk3 := hts (.instanceMethod yX0_inPile) (by decide +kernel)
  have lk4 := hts (.selects RX0 yX0_inPile yX0_inPile) (by decide +kernel)
  have lk5 := hts (.instanceMethod yX0_hasCard) (by decide +kernel)
  have lk6 := hts (.selects RX0 yX0_hasCard yX0_hasCard) (by decide +kernel)
  have lk7 := hts (.fieldLink RX1 26 "LiesBoughtBack" "numbers" "[I") (by decide +kernel)
  refine W_in ?_
  intro WW hWW
  refine (hWW _ _ _).mpr ?_
  unfold f_X1_rowTellsHolders at hf
  refine lv_iconst (v := (0 : Int32)) hx hb dX1_rowTellsHolders_0 (by decide) ?_
  refine lv_istore_n (lv' := [(1, .int (0 : Int32)), (0, .ref ((A 0) 0))]) hx hb dX1_rowTellsHolders_1 rfl hl (by decide) rfl (fun ls hl => ?_)
  obtain ⟨K69, hK69, hf⟩ := jnS hf
  have J69 : ∀  (H : Heap) (locs : List Loc) (ls : Array Slot), K69 = some out → va_P D vwCl (wX A cI xx xn xm xk) H → va_D G (wX A cI xx xn xm xk) → va_S G s.heap H locs → lv_has ls 3 [] → WW H locs (F0 m 69 ls []) := by
    intro  H locs ls hf hP hD hS hl
    subst hK69
    refine (hWW _ _ _).mpr ?_
    refine lv_iconst (v := (1 : Int32)) hx hb dX1_rowTellsHolders_69 (by decide) ?_
    obtain rfl := Option.some.inj hf
    exact W.zret (ty := .boolean) (v := (1 : Int32)) hx hb hr rfl (fun t ht hW => ⟨⟨(1 : Int32), (), rfl, rfl, hPt ht hP⟩, hS.F ht⟩) hS.2.2 dX1_rowTellsHolders_70
  have P2 : ∀ (n' : Nat) (j1_2 : Int32) (H : Heap) (locs : List Loc) (ls : Array Slot), L_X1_rowTellsHolders_2 xx xn xm xk K69 n' j1_2 = some out → va_P D vwCl (wX A cI xx xn xm xk) H → va_D G (wX A cI xx xn xm xk) → va_S G s.heap H locs → lv_has ls 3 [(0, .ref ((A 0) 0)), (1, .int j1_2)] → WW H locs (F0 m 2 ls []) := by
    intro n'
    induction n' with
    | zero => intro j1_2 H locs ls hf; exact absurd (show (none : Option (Int32)) = some out from hf) (fun q => by cases q)
    | succ n' ih =>
      intro j1_2 H locs ls hf hP hD hS hl
      rw [L_X1_rowTellsHolders_2] at hf
      refine (hWW _ _ _).mpr ?_
      refine lv_iload_n hx hb dX1_rowTellsHolders_2 rfl (lv_at hl 1 rfl) ?_
      refine lv_aload_n hx hb dX1_rowTellsHolders_3 rfl (lv_at hl 0 rfl) ?_
      refine va_get (D := D) (ci := 1) (v := .int (xx 5 0)) (C := RX1) (T := TX1) (N := 9) hx hb hts hinX hown hK hP 0 rfl rfl 7 (by decide) lk0 (fun _ h9 => h9) rfl dX1_rowTellsHolders_4 ?_
      refine lv_icmp_ge (tgt := 69) hx hb dX1_rowTellsHolders_7 (by decide) (fun c1 => ?_) (fun c1 => ?_)
      · have hf := hT hf c1
        exact (hWW _ _ _).mp (J69  _ _ _ hf hP hD hS (lv_sub hl [] rfl))
      · have hf := hF hf c1
        refine lv_aload_n hx hb dX1_rowTellsHolders_10 rfl (lv_at hl 0 rfl) ?_
        refine va_get (D := D) (ci := 1) (v := .ref ((A 2) 0)) (C := RX1) (T := TX1) (N := 9) hx hb hts hinX hown hK hP 0 rfl rfl 1 (by decide) lk1 (fun _ h9 => h9) rfl dX1_rowTellsHolders_11 ?_
        refine lv_iload_n hx hb dX1_rowTellsHolders_14 rfl (lv_at hl 1 rfl) ?_
        refine rVN_io (As := [.int j1_2]) (rest := []) ⟨hx, hb, hml, hown, hts⟩ hK hN hA hP hD hS (c_X0_inPile l D cI (A 2) j1_2 xm (f_X0_inPile j1_2 xm) rfl) ⟨va_cnB 1 hts gX1_rowTellsHolders_X0_inPile_n72 rfl rfl rfl (nW.m hN 15 rfl) lk2 hd_X0_inPile.2 ⟨Nat.le_of_ble_eq_true rfl, Nat.le_of_ble_eq_true rfl⟩, lk3, lk4⟩ (va_recv hK hP (ci := 0) (q0 := 12) rfl rfl) [12, 13, 14, 15, 16, 17, 18, 19, 20, 21, 22] (by decide) rfl rfl hl.1 rfl (Nat.le_of_ble_eq_true rfl) dX1_rowTellsHolders_15 ⟨Nat.le_of_ble_eq_true rfl, Nat.le_of_ble_eq_true rfl⟩ (fun H locs hP hD hS => ?_)
        refine lv_if_eq (tgt := 26) hx hb dX1_rowTellsHolders_18 (by decide) (fun c2 => ?_) (fun c2 => ?_)
        · have hf := hT hf c2
          refine lv_aload_n hx hb dX1_rowTellsHolders_26 rfl (lv_at hl 0 rfl) ?_
          refine va_get (D := D) (ci := 1) (v := .ref ((A 2) 0)) (C := RX1) (T := TX1) (N := 9) hx hb hts hinX hown hK hP 0 rfl rfl 1 (by decide) lk1 (fun _ h9 => h9) rfl dX1_rowTellsHolders_27 ?_
          refine va_getN (D := D) (ci := 0) (v := .ref ((A 2) 5)) (C := RX0) (T := TX0) (N := 13) hx hb hts hinH hown hK hP 12 rfl rfl 7 (by decide) (nW.f hN 7 rfl) (fun _ h9 => h9) rfl dX1_rowTellsHolders_30 ?_
          refine lv_iload_n hx hb dX1_rowTellsHolders_33 rfl (lv_at hl 1 rfl) ?_
          refine rS_io (As := [.ref ((A 2) 5), .int j1_2]) (rest := []) ⟨hx, hb, hml, hown, hts⟩ hK hN hA hP hD hS (c_X1_at l D cI 8 (by decide) ((A 2) 5) (xm 4) j1_2) (va_cwS 2 hts gX1_rowTellsHolders_X1_at rfl rfl rfl hd_X1_at.2 ⟨Nat.le_of_ble_eq_true rfl, Nat.le_of_ble_eq_true rfl⟩) [17] (by decide) rfl rfl hl.1 rfl (Nat.le_of_ble_eq_true rfl) dX1_rowTellsHolders_34 ⟨Nat.le_of_ble_eq_true rfl, Nat.le_of_ble_eq_true rfl⟩ (fun H locs hP hD hS => ?_)
          refine lv_istore_n (lv' := [(2, .int (atv 8 (xm 4) j1_2)), (0, .ref ((A 0) 0)), (1, .int j1_2)]) hx hb dX1_rowTellsHolders_37 rfl hl (by decide) rfl (fun ls hl => ?_)
          refine lv_aload_n hx hb dX1_rowTellsHolders_38 rfl (lv_at hl 1 rfl) ?_
          refine va_get (D := D) (ci := 1) (v := .ref ((A 2) 0)) (C := RX1) (T := TX1) (N := 9) hx hb hts hinX hown hK hP 0 rfl rfl 1 (by decide) lk1 (fun _ h9 => h9) rfl dX1_rowTellsHolders_39 ?_
          refine lv_iload_n hx hb dX1_rowTellsHolders_42 rfl (lv_at hl 2 rfl) ?_
          refine rVN_io (As := [.int j1_2]) (rest := []) ⟨hx, hb, hml, hown, hts⟩ hK hN hA hP hD hS (c_X0_hasCard l D cI (A 2) j1_2 xm (f_X0_hasCard j1_2 xm) rfl) ⟨va_cnB 1 hts gX1_rowTellsHolders_X0_hasCard_n69 rfl rfl rfl (nW.m hN 14 rfl) lk2 hd_X0_hasCard.2 ⟨Nat.le_of_ble_eq_true rfl, Nat.le_of_ble_eq_true rfl⟩, lk5, lk6⟩ (va_recv hK hP (ci := 0) (q0 := 12) rfl rfl) [12, 13, 14, 15, 16, 17, 18, 19, 20, 21, 22] (by decide) rfl rfl hl.1 rfl (Nat.le_of_ble_eq_true rfl) dX1_rowTellsHolders_43 ⟨Nat.le_of_ble_eq_true rfl, Nat.le_of_ble_eq_true rfl⟩ (fun H locs hP hD hS => ?_)
          refine lv_if_eq (tgt := 61) hx hb dX1_rowTellsHolders_46 (by decide) (fun c3 => ?_) (fun c3 => ?_)
          · have hf := hT hf c3
            refine lv_iconst (v := (0 : Int32)) hx hb dX1_rowTellsHolders_61 (by decide) ?_
            obtain rfl := Option.some.inj hf
            exact W.zret (ty := .boolean) (v := (0 : Int32)) hx hb hr rfl (fun t ht hW => ⟨⟨(0 : Int32), (), rfl, rfl, hPt ht hP⟩, hS.F ht⟩) hS.2.2 dX1_rowTellsHolders_62
          · have hf := hF hf c3
            refine lv_aload_n hx hb dX1_rowTellsHolders_49 rfl (lv_at hl 1 rfl) ?_
            refine va_get (D := D) (ci := 1) (v := .ref ((A 0) 2)) (C := RX1) (T := TX1) (N := 9) hx hb hts hinX hown hK hP 0 rfl rfl 6 (by decide) lk7 (fun _ h9 => h9) rfl dX1_rowTellsHolders_50 ?_
            refine lv_iload_n hx hb dX1_rowTellsHolders_53 rfl (lv_at hl 2 rfl) ?_
            refine rS_io (As := [.ref ((A 0) 2), .int j1_2]) (rest := []) ⟨hx, hb, hml, hown, hts⟩ hK hN hA hP hD hS (c_X1_at l D cI 16 (by decide) ((A 0) 2) (xx 1) j1_2) (va_cwS 2 hts gX1_rowTellsHolders_X1_at rfl rfl rfl hd_X1_at.2 ⟨Nat.le_of_ble_eq_true rfl, Nat.le_of_ble_eq_true rfl⟩) [35] (by decide) rfl rfl hl.1 rfl (Nat.le_of_ble_eq_true rfl) dX1_rowTellsHolders_54 ⟨Nat.le_of_ble_eq_true rfl, Nat.le_of_ble_eq_true rfl⟩ (fun H locs hP hD hS => ?_)
            refine lv_iload_n hx hb dX1_rowTellsHolders_57 rfl (lv_at hl 0 rfl) ?_
            refine lv_icmp_eq (tgt := 63) hx hb dX1_rowTellsHolders_58 (by decide) (fun c4 => ?_) (fun c4 => ?_)
            · have hf := hT hf c4
              refine lv_iinc (v := (j1_2 + (1 : Int32))) (lv' := [(1, .int (j1_2 + (1 : Int32))), (2, .int (atv 8 (xm 4) j1_2)), (0, .ref ((A 0) 0))]) hx hb dX1_rowTellsHolders_63 hl (k := 2) rfl rfl (by decide) rfl (fun ls hl => ?_)
              refine lv_goto (tgt := 2) hx hb dX1_rowTellsHolders_66 (by decide) ?_
              exact (hWW _ _ _).mp (ih _ _ _ _ hf hP hD hS (lv_sub hl [2, 0] rfl))
            · have hf := hF hf c4
              refine lv_iconst (v := (0 : Int32)) hx hb dX1_rowTellsHolders_61 (by decide) ?_
              obtain rfl := Option.some.inj hf
              exact W.zret (ty := .boolean) (v := (0 : Int32)) hx hb hr rfl (fun t ht hW => ⟨⟨(0 : Int32), (), rfl, rfl, hPt ht hP⟩, hS.F ht⟩) hS.2.2 dX1_rowTellsHolders_62
        · have hf := hF hf c2
          refine lv_bipush (v := (9 : Int32)) hx hb dX1_rowTellsHolders_21 (by decide) ?_
          refine lv_goto (tgt := 37) hx hb dX1_rowTellsHolders_23 (by decide) ?_
          refine lv_istore_n (lv' := [(2, .int (9 : Int32)), (0, .ref ((A 0) 0)), (1, .int j1_2)]) hx hb dX1_rowTellsHolders_37 rfl hl (by decide) rfl (fun ls hl => ?_)
          refine lv_aload_n hx hb dX1_rowTellsHolders_38 rfl (lv_at hl 1 rfl) ?_
          refine va_get (D := D) (ci := 1) (v := .ref ((A 2) 0)) (C := RX1) (T := TX1) (N := 9) hx hb hts hinX hown hK hP 0 rfl rfl 1 (by decide) lk1 (fun _ h9 => h9) rfl dX1_rowTellsHolders_39 ?_
          refine lv_iload_n hx hb dX1_rowTellsHolders_42 rfl (lv_at hl 2 rfl) ?_
          refine rVN_io (As := [.int j1_2]) (rest := []) ⟨hx, hb, hml, hown, hts⟩ hK hN hA hP hD hS (c_X0_hasCard l D cI (A 2) j1_2 xm (f_X0_hasCard j1_2 xm) rfl) ⟨va_cnB 1 hts gX1_rowTellsHolders_X0_hasCard_n69 rfl rfl rfl (nW.m hN 14 rfl) lk2 hd_X0_hasCard.2 ⟨Nat.le_of_ble_eq_true rfl, Nat.le_of_ble_eq_true rfl⟩, lk5, lk6⟩ (va_recv hK hP (ci := 0) (q0 := 12) rfl rfl) [12, 13, 14, 15, 16, 17, 18, 19, 20, 21, 22] (by decide) rfl rfl hl.1 rfl (Nat.le_of_ble_eq_true rfl) dX1_rowTellsHolders_43 ⟨Nat.le_of_ble_eq_true rfl, Nat.le_of_ble_eq_true rfl⟩ (fun H locs hP hD hS => ?_)
          refine lv_if_eq (tgt := 61) hx hb dX1_rowTellsHolders_46 (by decide) (fun c5 => ?_) (fun c5 => ?_)
          · have hf := hT hf c5
            refine lv_iconst (v := (0 : Int32)) hx hb dX1_rowTellsHolders_61 (by decide) ?_
            obtain rfl := Option.some.inj hf
            exact W.zret (ty := .boolean) (v := (0 : Int32)) hx hb hr rfl (fun t ht hW => ⟨⟨(0 : Int32), (), rfl, rfl, hPt ht hP⟩, hS.F ht⟩) hS.2.2 dX1_rowTellsHolders_62
          · have hf := hF hf c5
            refine lv_aload_n hx hb dX1_rowTellsHolders_49 rfl (lv_at hl 1 rfl) ?_
            refine va_get (D := D) (ci := 1) (v := .ref ((A 0) 2)) (C := RX1) (T := TX1) (N := 9) hx hb hts hinX hown hK hP 0 rfl rfl 6 (by decide) lk7 (fun _ h9 => h9) rfl dX1_rowTellsHolders_50 ?_
            refine lv_iload_n hx hb dX1_rowTellsHolders_53 rfl (lv_at hl 2 rfl) ?_
            refine rS_io (As := [.ref ((A 0) 2), .int j1_2]) (rest := []) ⟨hx, hb, hml, hown, hts⟩ hK hN hA hP hD hS (c_X1_at l D cI 16 (by decide) ((A 0) 2) (xx 1) j1_2) (va_cwS 2 hts gX1_rowTellsHolders_X1_at rfl rfl rfl hd_X1_at.2 ⟨Nat.le_of_ble_eq_true rfl, Nat.le_of_ble_eq_true rfl⟩) [35] (by decide) rfl rfl hl.1 rfl (Nat.le_of_ble_eq_true rfl) dX1_rowTellsHolders_54 ⟨Nat.le_of_ble_eq_true rfl, Nat.le_of_ble_eq_true rfl⟩ (fun H locs hP hD hS => ?_)
            refine lv_iload_n hx hb dX1_rowTellsHolders_57 rfl (lv_at hl 0 rfl) ?_
            refine lv_icmp_eq (tgt := 63) hx hb dX1_rowTellsHolders_58 (by decide) (fun c6 => ?_) (fun c6 => ?_)
            · have hf := hT hf c6
              refine lv_iinc (v := (j1_2 + (1 : Int32))) (lv' := [(1, .int (j1_2 + (1 : Int32))), (2, .int (9 : Int32)), (0, .ref ((A 0) 0))]) hx hb dX1_rowTellsHolders_63 hl (k := 2) rfl rfl (by decide) rfl (fun ls hl => ?_)
              refine lv_goto (tgt := 2) hx hb dX1_rowTellsHolders_66 (by decide) ?_
              exact (hWW _ _ _).mp (ih _ _ _ _ hf hP hD hS (lv_sub hl [2, 0] rfl))
            · have hf := hF hf c6
              refine lv_iconst (v := (0 : Int32)) hx hb dX1_rowTellsHolders_61 (by decide) ?_
              obtain rfl := Option.some.inj hf
              exact W.zret (ty := .boolean) (v := (0 : Int32)) hx hb hr rfl (fun t ht hW => ⟨⟨(0 : Int32), (), rfl, rfl, hPt ht hP⟩, hS.F ht⟩) hS.2.2 dX1_rowTellsHolders_62
  exact (hWW _ _ _).mp (P2 _ _ _ _ _ hf hP hD hS (lv_sub hl [1, 0] rfl))
def L_X1_whoTold_38 (j1 : Int32) (j2 : Int32) (xn : HS) (xk : HS) (K113 : Int32 → HS → HS → Option (Int32 × HS × HS)) : Nat → Int32 → Int32 → HS → HS → Option (Int32 × HS × HS)
  | 0, _, _, _, _ => none
  | n' + 1, j3_38, j4_38, xx_38, xm_38 => if (6 : Int32) ≤ j4_38 then (K113 j3_38 xx_38 xm_38) else (f_X0_become xm_38 xn).bind fun v6 => if j2 = 0 then jn (st v6 2 (ptv 8 (v6 2) j1 j4_38)) (fun (xm_v12 : HS) => (f_X0_goOn (1 : Int32) (1 : Int32) xm_v12).bind fun v13 => (f_X1_rowTellsHolders xx_38 xn v13.2 xk).bind fun v14 => if v14 = 0 then (L_X1_whoTold_38 j1 j2 xn xk K113 n' j3_38 (j4_38 + (1 : Int32)) xx_38 v13.2) else (L_X1_whoTold_38 j1 j2 xn xk K113 n' (j3_38 ||| ((1 : Int32) <<< (j4_38 &&& 31))) (j4_38 + (1 : Int32)) xx_38 v13.2)) else jn (st v6 0 (ptv 8 (v6 0) j1 j4_38)) (fun (xm_v8 : HS) => (f_X0_goOn (1 : Int32) (1 : Int32) xm_v8).bind fun v9 => (f_X1_rowTellsHolders xx_38 xn v9.2 xk).bind fun v10 => if v10 = 0 then (L_X1_whoTold_38 j1 j2 xn xk K113 n' j3_38 (j4_38 + (1 : Int32)) xx_38 v9.2) else (L_X1_whoTold_38 j1 j2 xn xk K113 n' (j3_38 ||| ((1 : Int32) <<< (j4_38 &&& 31))) (j4_38 + (1 : Int32)) xx_38 v9.2))
def f_X1_whoTold (j1 : Int32) (j2 : Int32) (xx : HS) (xn : HS) (xm : HS) (xk : HS) : Option (Int32 × HS × HS) := if (f_X0_hasCard j1 xn) = 0 then (f_X1_refuse (-1 : Int32) xx xn xm xk).bind fun v17 => some (v17.1, v17.2, xm) else if j2 < 0 then (f_X1_refuse (-2 : Int32) xx xn xm xk).bind fun v3 => some (v3.1, v3.2, xm) else if j2 ≤ (1 : Int32) then jn (fun (j3_113 : Int32) (xx_113 : HS) (xm_113 : HS) => some (j3_113, xx_113, xm_113)) (fun (K113 : Int32 → HS → HS → Option (Int32 × HS × HS)) => (L_X1_whoTold_38 j1 j2 xn xk K113 fuel (0 : Int32) (0 : Int32) xx xm)) else (f_X1_refuse (-2 : Int32) xx xn xm xk).bind fun v16 => some (v16.1, v16.2, xm)
set_option maxHeartbeats 4000000 in
set_option maxRecDepth 100000 in
theorem c_X1_whoTold (l : Launch) (D : va_G) (cI : ClassId) (A : Nat → Nat → Nat) (j1 : Int32) (j2 : Int32) (xx : HS) (xn : HS) (xm : HS) (xk : HS) (out : Int32 × HS × HS) (hf : f_X1_whoTold j1 j2 xx xn xm xk = some out) : uI l D cI yX1_whoTold wsX1_whoTold ({ frames := 5, cells := 0, slots := 0, locals := 128 } : Room) [.ref ((A 0) 0), .int j1, .int j2] (wX A cI xx xn xm xk) (wX A cI out.2.1 xn out.2.2 xk) out.1 := by
  intro sz
  refine Met.ofW (cc := cX1_whoTold) (maxL := 5) (ret := (some .int)) (by decide) rfl ?_
  intro p e s m args below meth c s₁ Bd hml hv
  obtain ⟨rfl, hsz, hP, hK, hD0, hN⟩ := hv
  have hx := Bd.exec
  have hb := Bd.bytes
  have hr := Bd.returns
  have hts := atoms_spec (ws := wsX1_whoTold) Bd.pre
  have hown : s.vm.findClass RX1 = some m.cls := findClass_of_methodNamed Bd.named
  have hlocks := Bd.notSynchronized
  subst hsz
  have hD := hD0.self (sz := s.heap.size)
  generalize hAe : va_A (wX A cI xx xn xm xk) s.heap.size = G at hD ⊢
  have hA : ∀ q : Nat, s.heap.size ≤ q → G q := fun q h => by rw [← hAe]; exact Or.inr h
  have hS : va_S G s.heap s.heap [] := va_S.rf
  have hP : va_P D vwCl (wX A cI xx xn xm xk) s.heap := hP
  have hl := lv_entry ([.ref ((A 0) 0), .int j1, .int j2]) (n := 5) (Nat.le_of_ble_eq_true rfl)
  rw [lg_entry_eq]
  generalize (lg_sl ([.ref ((A 0) 0), .int j1, .int j2]) ++ List.replicate (5 - (lg_sl ([.ref ((A 0) 0), .int j1, .int j2])).length) Slot.unset).toArray = ls at hl ⊢
  have hl : lv_has ls 5 [(0, .ref ((A 0) 0)), (1, .int j1), (2, .int j2)] := hl
  have hinH : ∀ w ∈ wsX00, w ∈ wsX1_whoTold := by decide +kernel
  have hinX : ∀ w ∈ wsX10, w ∈ wsX1_whoTold := by decide +kernel
  have lk0 := hts (.fieldLink RX1 10 "LiesBoughtBack" "now" "LLiesBoughtBack$Hall;") (by decide +kernel)
  have lk1 := hts (.initialized RX0) (by decide +kernel)
  have lk2 := hts (.instanceMethod yX0_hasCard) (by decide +kernel)
  have lk3 := hts (.selects RX0 yX0_hasCard yX0_hasCard) (by decide +kernel)
  have lk4 := hts (.fieldLink RX1 16 "LiesBoughtBack" "mind" "LLiesBoughtBack$Hall;") (by decide +kernel)
  have lk5 := hts (.instanceMethod yX0_become) (by decide +kernel)
  have lk6 := hts (.selects RX0 yX0_become yX0_become) (by decide +kernel)
  have lk7 := hts (.instanceMethod yX0_goOn) (by decide +kernel)
  have lk8 := hts (.selects RX0 yX0_goOn yX0_goOn) (by decide +kernel)
  refine W_in ?_
  intro WW hWW
  refine (hWW _ _ _).mpr ?_
  unfold f_X1_whoTold at hf
  refine lv_aload_n hx hb dX1_whoTold_0 rfl (lv_at hl 0 rfl) ?_
  refine va_get (D := D) (ci := 1) (v := .ref ((A 1) 0)) (C := RX1) (T := TX1) (N := 9) hx hb hts hinX hown hK hP 0 rfl rfl 0 (by decide) lk0 (fun _ h9 => h9) rfl dX1_whoTold_1 ?_
  refine lv_iload_n hx hb dX1_whoTold_4 rfl (lv_at hl 1 rfl) ?_
  refine rVN_io (As := [.int j1]) (rest := []) ⟨hx, hb, hml, hown, hts⟩ hK hN hA hP hD hS (c_X0_hasCard l D cI (A 1) j1 xn (f_X0_hasCard j1 xn) rfl) ⟨va_cnB 1 hts gX1_whoTold_X0_hasCard_n69 rfl rfl rfl (nW.m hN 14 rfl) lk1 hd_X0_hasCard.2 ⟨Nat.le_of_ble_eq_true rfl, Nat.le_of_ble_eq_true rfl⟩, lk2, lk3⟩ (va_recv hK hP (ci := 0) (q0 := 1) rfl rfl) [1, 2, 3, 4, 5, 6, 7, 8, 9, 10, 11] (by decide) rfl rfl hl.1 rfl (Nat.le_of_ble_eq_true rfl) dX1_whoTold_5 ⟨Nat.le_of_ble_eq_true rfl, Nat.le_of_ble_eq_true rfl⟩ (fun H locs hP hD hS => ?_)
  refine lv_if_ne (tgt := 17) hx hb dX1_whoTold_8 (by decide) (fun c1 => ?_) (fun c1 => ?_)
  · have hf := hF hf c1
    refine lv_iload_n hx hb dX1_whoTold_17 rfl (lv_at hl 2 rfl) ?_
    refine lv_if_lt (tgt := 26) hx hb dX1_whoTold_18 (by decide) (fun c2 => ?_) (fun c2 => ?_)
    · have hf := hT hf c2
      refine lv_aload_n hx hb dX1_whoTold_26 rfl (lv_at hl 0 rfl) ?_
      refine lv_bipush (v := (-2 : Int32)) hx hb dX1_whoTold_27 (by decide) ?_
      obtain ⟨v3, hev3, hf⟩ := bS hf
      refine rV_i (ws' := (wX A cI v3.2 xn xm xk)) (As := [.int (-2 : Int32)]) (rest := []) ⟨hx, hb, hml, hown, hts⟩ hK hN hA hP hD hS (c_X1_refuse l D cI A (-2 : Int32) xx xn xm xk v3 hev3) (cwV 1 hts gX1_whoTold_X1_refuse rfl rfl rfl hd_X1_refuse ⟨Nat.le_of_ble_eq_true rfl, Nat.le_of_ble_eq_true rfl⟩) (va_recv hK hP (ci := 1) (q0 := 0) rfl rfl) [0, 1, 2, 3, 4, 5, 6, 7, 8, 9, 10, 11, 12, 13, 14, 15, 16, 17, 18, 19, 20, 21, 22, 23, 24, 25, 26, 27, 28, 29, 30, 31, 32, 33, 34, 35, 36] (by decide) rfl rfl rfl rfl hl.1 rfl (Nat.le_of_ble_eq_true rfl) dX1_whoTold_29 ⟨Nat.le_of_ble_eq_true rfl, Nat.le_of_ble_eq_true rfl⟩ (fun H locs hP hD hS => ?_)
      have hP : va_P D vwCl (wX A cI v3.2 xn xm xk) H := hP
      obtain rfl := Option.some.inj hf
      exact W.iret (v := v3.1) hx hb hr (fun t ht hW => ⟨⟨v3.1, (), rfl, rfl, hPt ht hP⟩, hS.F ht⟩) hS.2.2 dX1_whoTold_32
    · have hf := hF hf c2
      refine lv_iload_n hx hb dX1_whoTold_21 rfl (lv_at hl 2 rfl) ?_
      refine lv_iconst (v := (1 : Int32)) hx hb dX1_whoTold_22 (by decide) ?_
      refine lv_icmp_le (tgt := 33) hx hb dX1_whoTold_23 (by decide) (fun c4 => ?_) (fun c4 => ?_)
      · have hf := hT hf c4
        refine lv_iconst (v := (0 : Int32)) hx hb dX1_whoTold_33 (by decide) ?_
        refine lv_istore_n (lv' := [(3, .int (0 : Int32)), (0, .ref ((A 0) 0)), (1, .int j1), (2, .int j2)]) hx hb dX1_whoTold_34 rfl hl (by decide) rfl (fun ls hl => ?_)
        refine lv_iconst (v := (0 : Int32)) hx hb dX1_whoTold_35 (by decide) ?_
        refine lv_istore (lv' := [(4, .int (0 : Int32)), (3, .int (0 : Int32)), (0, .ref ((A 0) 0)), (1, .int j1), (2, .int j2)]) hx hb dX1_whoTold_36 hl (by decide) rfl (fun ls hl => ?_)
        obtain ⟨K113, hK113, hf⟩ := jnS hf
        have J113 : ∀ (j3_113 : Int32) (xx_113 : HS) (xm_113 : HS) (H : Heap) (locs : List Loc) (ls : Array Slot), K113 j3_113 xx_113 xm_113 = some out → va_P D vwCl (wX A cI xx_113 xn xm_113 xk) H → va_D G (wX A cI xx_113 xn xm_113 xk) → va_S G s.heap H locs → lv_has ls 5 [(3, .int j3_113)] → WW H locs (F0 m 113 ls []) := by
          intro j3_113 xx_113 xm_113 H locs ls hf hP hD hS hl
          subst hK113
          refine (hWW _ _ _).mpr ?_
          refine lv_iload_n hx hb dX1_whoTold_113 rfl (lv_at hl 0 rfl) ?_
          obtain rfl := Option.some.inj hf
          exact W.iret (v := j3_113) hx hb hr (fun t ht hW => ⟨⟨j3_113, (), rfl, rfl, hPt ht hP⟩, hS.F ht⟩) hS.2.2 dX1_whoTold_114
        have P38 : ∀ (n' : Nat) (j3_38 : Int32) (j4_38 : Int32) (xx_38 : HS) (xm_38 : HS) (H : Heap) (locs : List Loc) (ls : Array Slot), L_X1_whoTold_38 j1 j2 xn xk K113 n' j3_38 j4_38 xx_38 xm_38 = some out → va_P D vwCl (wX A cI xx_38 xn xm_38 xk) H → va_D G (wX A cI xx_38 xn xm_38 xk) → va_S G s.heap H locs → lv_has ls 5 [(0, .ref ((A 0) 0)), (1, .int j1), (2, .int j2), (3, .int j3_38), (4, .int j4_38)] → WW H locs (F0 m 38 ls []) := by
          intro n'
          induction n' with
          | zero => intro j3_38 j4_38 xx_38 xm_38 H locs ls hf; exact absurd (show (none : Option (Int32 × HS × HS)) = some out from hf) (fun q => by cases q)
          | succ n' ih =>
            intro j3_38 j4_38 xx_38 xm_38 H locs ls hf hP hD hS hl
            rw [L_X1_whoTold_38] at hf
            refine (hWW _ _ _).mpr ?_
            refine lv_iload hx hb dX1_whoTold_38 (lv_at hl 4 rfl) ?_
            refine lv_bipush (v := (6 : Int32)) hx hb dX1_whoTold_40 (by decide) ?_
            refine lv_icmp_ge (tgt := 113) hx hb dX1_whoTold_42 (by decide) (fun c5 => ?_) (fun c5 => ?_)
            · have hf := hT hf c5
              exact (hWW _ _ _).mp (J113 _ _ _ _ _ _ hf hP hD hS (lv_sub hl [3] rfl))
            · have hf := hF hf c5
              refine lv_aload_n hx hb dX1_whoTold_45 rfl (lv_at hl 0 rfl) ?_
              refine va_get (D := D) (ci := 1) (v := .ref ((A 2) 0)) (C := RX1) (T := TX1) (N := 9) hx hb hts hinX hown hK hP 0 rfl rfl 1 (by decide) lk4 (fun _ h9 => h9) rfl dX1_whoTold_46 ?_
              refine lv_aload_n hx hb dX1_whoTold_49 rfl (lv_at hl 0 rfl) ?_
              refine va_get (D := D) (ci := 1) (v := .ref ((A 1) 0)) (C := RX1) (T := TX1) (N := 9) hx hb hts hinX hown hK hP 0 rfl rfl 0 (by decide) lk0 (fun _ h9 => h9) rfl dX1_whoTold_50 ?_
              obtain ⟨v6, hev6, hf⟩ := bS hf
              refine rVN_v (ws' := (wX A cI xx_38 xn v6 xk)) (As := [.ref ((A 1) 0)]) (rest := []) ⟨hx, hb, hml, hown, hts⟩ hK hN hA hP hD hS (c_X0_become l D cI (A 2) (A 1) xm_38 xn v6 hev6) ⟨va_cnB 1 hts gX1_whoTold_X0_become_n47 rfl rfl rfl (nW.m hN 1 rfl) lk1 hd_X0_become.2 ⟨Nat.le_of_ble_eq_true rfl, Nat.le_of_ble_eq_true rfl⟩, lk5, lk6⟩ (va_recv hK hP (ci := 0) (q0 := 12) rfl rfl) [12, 13, 14, 15, 16, 17, 18, 19, 20, 21, 22, 1, 2, 3, 4, 5, 6, 7, 8, 9, 10, 11] (by decide) rfl rfl rfl rfl hl.1 rfl (Nat.le_of_ble_eq_true rfl) dX1_whoTold_53 ⟨Nat.le_of_ble_eq_true rfl, Nat.le_of_ble_eq_true rfl⟩ (fun H locs hP hD hS => ?_)
              have hP : va_P D vwCl (wX A cI xx_38 xn v6 xk) H := hP
              refine lv_iload_n hx hb dX1_whoTold_56 rfl (lv_at hl 2 rfl) ?_
              refine lv_if_ne (tgt := 70) hx hb dX1_whoTold_57 (by decide) (fun c7 => ?_) (fun c7 => ?_)
              · have hf := hF hf c7
                refine lv_aload_n hx hb dX1_whoTold_70 rfl (lv_at hl 0 rfl) ?_
                refine va_get (D := D) (ci := 1) (v := .ref ((A 2) 0)) (C := RX1) (T := TX1) (N := 9) hx hb hts hinX hown hK hP 0 rfl rfl 1 (by decide) lk4 (fun _ h9 => h9) rfl dX1_whoTold_71 ?_
                refine va_getN (D := D) (ci := 0) (v := .ref ((A 2) 1)) (C := RX0) (T := TX0) (N := 13) hx hb hts hinH hown hK hP 12 rfl rfl 3 (by decide) (nW.f hN 3 rfl) (fun _ h9 => h9) rfl dX1_whoTold_74 ?_
                refine lv_iload_n hx hb dX1_whoTold_77 rfl (lv_at hl 1 rfl) ?_
                refine lv_iload hx hb dX1_whoTold_78 (lv_at hl 4 rfl) ?_
                obtain ⟨xm_v8, exm_v8, hf⟩ := jnS hf
                refine rS_v (ws' := (wX A cI xx_38 xn xm_v8 xk)) (As := [.ref ((A 2) 1), .int j1, .int j4_38]) (rest := []) ⟨hx, hb, hml, hown, hts⟩ hK hN hA hP hD hS (c_X1_put l D cI 8 (by decide) ((A 2) 1) (v6 0) j1 j4_38) (va_cwS 3 hts gX1_whoTold_X1_put rfl rfl rfl hd_X1_put.2 ⟨Nat.le_of_ble_eq_true rfl, Nat.le_of_ble_eq_true rfl⟩) [13] (by decide) rfl rfl ((sa_X1_m_0 A cI xx_38 xn v6 xk (ptv 8 (v6 0) j1 j4_38)).trans (congrArg (fun z => wX A cI xx_38 xn z xk) exm_v8.symm)) rfl hl.1 rfl (Nat.le_of_ble_eq_true rfl) dX1_whoTold_80 ⟨Nat.le_of_ble_eq_true rfl, Nat.le_of_ble_eq_true rfl⟩ (fun H locs hP hD hS => ?_)
                refine lv_aload_n hx hb dX1_whoTold_83 rfl (lv_at hl 0 rfl) ?_
                refine va_get (D := D) (ci := 1) (v := .ref ((A 2) 0)) (C := RX1) (T := TX1) (N := 9) hx hb hts hinX hown hK hP 0 rfl rfl 1 (by decide) lk4 (fun _ h9 => h9) rfl dX1_whoTold_84 ?_
                refine lv_iconst (v := (1 : Int32)) hx hb dX1_whoTold_87 (by decide) ?_
                refine lv_iconst (v := (1 : Int32)) hx hb dX1_whoTold_88 (by decide) ?_
                obtain ⟨v9, hev9, hf⟩ := bS hf
                refine rVN_i (ws' := (wX A cI xx_38 xn v9.2 xk)) (As := [.int (1 : Int32), .int (1 : Int32)]) (rest := []) ⟨hx, hb, hml, hown, hts⟩ hK hN hA hP hD hS (c_X0_goOn l D cI (A 2) (1 : Int32) (1 : Int32) xm_v8 v9 hev9) ⟨va_cnB 2 hts gX1_whoTold_X0_goOn_n97 rfl rfl rfl (nW.m hN 12 rfl) lk1 hd_X0_goOn.2 ⟨Nat.le_of_ble_eq_true rfl, Nat.le_of_ble_eq_true rfl⟩, lk7, lk8⟩ (va_recv hK hP (ci := 0) (q0 := 12) rfl rfl) [12, 13, 14, 15, 16, 17, 18, 19, 20, 21, 22] (by decide) rfl rfl rfl rfl hl.1 rfl (Nat.le_of_ble_eq_true rfl) dX1_whoTold_89 ⟨Nat.le_of_ble_eq_true rfl, Nat.le_of_ble_eq_true rfl⟩ (fun H locs hP hD hS => ?_)
                have hP : va_P D vwCl (wX A cI xx_38 xn v9.2 xk) H := hP
                refine lv_pop hx hb dX1_whoTold_92 rfl ?_
                refine lv_aload_n hx hb dX1_whoTold_93 rfl (lv_at hl 0 rfl) ?_
                obtain ⟨v10, hev10, hf⟩ := bS hf
                refine rV_io (As := []) (rest := []) ⟨hx, hb, hml, hown, hts⟩ hK hN hA hP hD hS (c_X1_rowTellsHolders l D cI A xx_38 xn v9.2 xk v10 hev10) (cwV 0 hts gX1_whoTold_X1_rowTellsHolders rfl rfl rfl hd_X1_rowTellsHolders ⟨Nat.le_of_ble_eq_true rfl, Nat.le_of_ble_eq_true rfl⟩) (va_recv hK hP (ci := 1) (q0 := 0) rfl rfl) [0, 1, 2, 3, 4, 5, 6, 7, 8, 9, 10, 11, 12, 13, 14, 15, 16, 17, 18, 19, 20, 21, 22, 23, 24, 25, 26, 27, 28, 29, 30, 31, 32, 33, 34, 35, 36] (by decide) rfl rfl hl.1 rfl (Nat.le_of_ble_eq_true rfl) dX1_whoTold_94 ⟨Nat.le_of_ble_eq_true rfl, Nat.le_of_ble_eq_true rfl⟩ (fun H locs hP hD hS => ?_)
                refine lv_if_eq (tgt := 107) hx hb dX1_whoTold_97 (by decide) (fun c11 => ?_) (fun c11 => ?_)
                · have hf := hT hf c11
                  refine lv_iinc (v := (j4_38 + (1 : Int32))) (lv' := [(4, .int (j4_38 + (1 : Int32))), (0, .ref ((A 0) 0)), (1, .int j1), (2, .int j2), (3, .int j3_38)]) hx hb dX1_whoTold_107 hl (k := 4) rfl rfl (by decide) rfl (fun ls hl => ?_)
                  refine lv_goto (tgt := 38) hx hb dX1_whoTold_110 (by decide) ?_
                  exact (hWW _ _ _).mp (ih _ _ _ _ _ _ _ hf hP hD hS (lv_sub hl [1, 2, 3, 4, 0] rfl))
                · have hf := hF hf c11
                  refine lv_iload_n hx hb dX1_whoTold_100 rfl (lv_at hl 3 rfl) ?_
                  refine lv_iconst (v := (1 : Int32)) hx hb dX1_whoTold_101 (by decide) ?_
                  refine lv_iload hx hb dX1_whoTold_102 (lv_at hl 4 rfl) ?_
                  refine lv_ishl hx hb dX1_whoTold_104 ?_
                  refine lv_ior hx hb dX1_whoTold_105 ?_
                  refine lv_istore_n (lv' := [(3, .int (j3_38 ||| ((1 : Int32) <<< (j4_38 &&& 31)))), (0, .ref ((A 0) 0)), (1, .int j1), (2, .int j2), (4, .int j4_38)]) hx hb dX1_whoTold_106 rfl hl (by decide) rfl (fun ls hl => ?_)
                  refine lv_iinc (v := (j4_38 + (1 : Int32))) (lv' := [(4, .int (j4_38 + (1 : Int32))), (3, .int (j3_38 ||| ((1 : Int32) <<< (j4_38 &&& 31)))), (0, .ref ((A 0) 0)), (1, .int j1), (2, .int j2)]) hx hb dX1_whoTold_107 hl (k := 4) rfl rfl (by decide) rfl (fun ls hl => ?_)
                  refine lv_goto (tgt := 38) hx hb dX1_whoTold_110 (by decide) ?_
                  exact (hWW _ _ _).mp (ih _ _ _ _ _ _ _ hf hP hD hS (lv_sub hl [2, 3, 4, 1, 0] rfl))
              · have hf := hT hf c7
                refine lv_aload_n hx hb dX1_whoTold_60 rfl (lv_at hl 0 rfl) ?_
                refine va_get (D := D) (ci := 1) (v := .ref ((A 2) 0)) (C := RX1) (T := TX1) (N := 9) hx hb hts hinX hown hK hP 0 rfl rfl 1 (by decide) lk4 (fun _ h9 => h9) rfl dX1_whoTold_61 ?_
                refine va_getN (D := D) (ci := 0) (v := .ref ((A 2) 3)) (C := RX0) (T := TX0) (N := 13) hx hb hts hinH hown hK hP 12 rfl rfl 5 (by decide) (nW.f hN 5 rfl) (fun _ h9 => h9) rfl dX1_whoTold_64 ?_
                refine lv_goto (tgt := 77) hx hb dX1_whoTold_67 (by decide) ?_
                refine lv_iload_n hx hb dX1_whoTold_77 rfl (lv_at hl 1 rfl) ?_
                refine lv_iload hx hb dX1_whoTold_78 (lv_at hl 4 rfl) ?_
                obtain ⟨xm_v12, exm_v12, hf⟩ := jnS hf
                refine rS_v (ws' := (wX A cI xx_38 xn xm_v12 xk)) (As := [.ref ((A 2) 3), .int j1, .int j4_38]) (rest := []) ⟨hx, hb, hml, hown, hts⟩ hK hN hA hP hD hS (c_X1_put l D cI 8 (by decide) ((A 2) 3) (v6 2) j1 j4_38) (va_cwS 3 hts gX1_whoTold_X1_put rfl rfl rfl hd_X1_put.2 ⟨Nat.le_of_ble_eq_true rfl, Nat.le_of_ble_eq_true rfl⟩) [15] (by decide) rfl rfl ((sa_X1_m_2 A cI xx_38 xn v6 xk (ptv 8 (v6 2) j1 j4_38)).trans (congrArg (fun z => wX A cI xx_38 xn z xk) exm_v12.symm)) rfl hl.1 rfl (Nat.le_of_ble_eq_true rfl) dX1_whoTold_80 ⟨Nat.le_of_ble_eq_true rfl, Nat.le_of_ble_eq_true rfl⟩ (fun H locs hP hD hS => ?_)
                refine lv_aload_n hx hb dX1_whoTold_83 rfl (lv_at hl 0 rfl) ?_
                refine va_get (D := D) (ci := 1) (v := .ref ((A 2) 0)) (C := RX1) (T := TX1) (N := 9) hx hb hts hinX hown hK hP 0 rfl rfl 1 (by decide) lk4 (fun _ h9 => h9) rfl dX1_whoTold_84 ?_
                refine lv_iconst (v := (1 : Int32)) hx hb dX1_whoTold_87 (by decide) ?_
                refine lv_iconst (v := (1 : Int32)) hx hb dX1_whoTold_88 (by decide) ?_
                obtain ⟨v13, hev13, hf⟩ := bS hf
                refine rVN_i (ws' := (wX A cI xx_38 xn v13.2 xk)) (As := [.int (1 : Int32), .int (1 : Int32)]) (rest := []) ⟨hx, hb, hml, hown, hts⟩ hK hN hA hP hD hS (c_X0_goOn l D cI (A 2) (1 : Int32) (1 : Int32) xm_v12 v13 hev13) ⟨va_cnB 2 hts gX1_whoTold_X0_goOn_n97 rfl rfl rfl (nW.m hN 12 rfl) lk1 hd_X0_goOn.2 ⟨Nat.le_of_ble_eq_true rfl, Nat.le_of_ble_eq_true rfl⟩, lk7, lk8⟩ (va_recv hK hP (ci := 0) (q0 := 12) rfl rfl) [12, 13, 14, 15, 16, 17, 18, 19, 20, 21, 22] (by decide) rfl rfl rfl rfl hl.1 rfl (Nat.le_of_ble_eq_true rfl) dX1_whoTold_89 ⟨Nat.le_of_ble_eq_true rfl, Nat.le_of_ble_eq_true rfl⟩ (fun H locs hP hD hS => ?_)
                have hP : va_P D vwCl (wX A cI xx_38 xn v13.2 xk) H := hP
                refine lv_pop hx hb dX1_whoTold_92 rfl ?_
                refine lv_aload_n hx hb dX1_whoTold_93 rfl (lv_at hl 0 rfl) ?_
                obtain ⟨v14, hev14, hf⟩ := bS hf
                refine rV_io (As := []) (rest := []) ⟨hx, hb, hml, hown, hts⟩ hK hN hA hP hD hS (c_X1_rowTellsHolders l D cI A xx_38 xn v13.2 xk v14 hev14) (cwV 0 hts gX1_whoTold_X1_rowTellsHolders rfl rfl rfl hd_X1_rowTellsHolders ⟨Nat.le_of_ble_eq_true rfl, Nat.le_of_ble_eq_true rfl⟩) (va_recv hK hP (ci := 1) (q0 := 0) rfl rfl) [0, 1, 2, 3, 4, 5, 6, 7, 8, 9, 10, 11, 12, 13, 14, 15, 16, 17, 18, 19, 20, 21, 22, 23, 24, 25, 26, 27, 28, 29, 30, 31, 32, 33, 34, 35, 36] (by decide) rfl rfl hl.1 rfl (Nat.le_of_ble_eq_true rfl) dX1_whoTold_94 ⟨Nat.le_of_ble_eq_true rfl, Nat.le_of_ble_eq_true rfl⟩ (fun H locs hP hD hS => ?_)
                refine lv_if_eq (tgt := 107) hx hb dX1_whoTold_97 (by decide) (fun c15 => ?_) (fun c15 => ?_)
                · have hf := hT hf c15
                  refine lv_iinc (v := (j4_38 + (1 : Int32))) (lv' := [(4, .int (j4_38 + (1 : Int32))), (0, .ref ((A 0) 0)), (1, .int j1), (2, .int j2), (3, .int j3_38)]) hx hb dX1_whoTold_107 hl (k := 4) rfl rfl (by decide) rfl (fun ls hl => ?_)
                  refine lv_goto (tgt := 38) hx hb dX1_whoTold_110 (by decide) ?_
                  exact (hWW _ _ _).mp (ih _ _ _ _ _ _ _ hf hP hD hS (lv_sub hl [1, 2, 3, 4, 0] rfl))
                · have hf := hF hf c15
                  refine lv_iload_n hx hb dX1_whoTold_100 rfl (lv_at hl 3 rfl) ?_
                  refine lv_iconst (v := (1 : Int32)) hx hb dX1_whoTold_101 (by decide) ?_
                  refine lv_iload hx hb dX1_whoTold_102 (lv_at hl 4 rfl) ?_
                  refine lv_ishl hx hb dX1_whoTold_104 ?_
                  refine lv_ior hx hb dX1_whoTold_105 ?_
                  refine lv_istore_n (lv' := [(3, .int (j3_38 ||| ((1 : Int32) <<< (j4_38 &&& 31)))), (0, .ref ((A 0) 0)), (1, .int j1), (2, .int j2), (4, .int j4_38)]) hx hb dX1_whoTold_106 rfl hl (by decide) rfl (fun ls hl => ?_)
                  refine lv_iinc (v := (j4_38 + (1 : Int32))) (lv' := [(4, .int (j4_38 + (1 : Int32))), (3, .int (j3_38 ||| ((1 : Int32) <<< (j4_38 &&& 31)))), (0, .ref ((A 0) 0)), (1, .int j1), (2, .int j2)]) hx hb dX1_whoTold_107 hl (k := 4) rfl rfl (by decide) rfl (fun ls hl => ?_)
                  refine lv_goto (tgt := 38) hx hb dX1_whoTold_110 (by decide) ?_
                  exact (hWW _ _ _).mp (ih _ _ _ _ _ _ _ hf hP hD hS (lv_sub hl [2, 3, 4, 1, 0] rfl))
        exact (hWW _ _ _).mp (P38 _ _ _ _ _ _ _ _ hf hP hD hS (lv_sub hl [2, 3, 4, 1, 0] rfl))
      · have hf := hF hf c4
        refine lv_aload_n hx hb dX1_whoTold_26 rfl (lv_at hl 0 rfl) ?_
        refine lv_bipush (v := (-2 : Int32)) hx hb dX1_whoTold_27 (by decide) ?_
        obtain ⟨v16, hev16, hf⟩ := bS hf
        refine rV_i (ws' := (wX A cI v16.2 xn xm xk)) (As := [.int (-2 : Int32)]) (rest := []) ⟨hx, hb, hml, hown, hts⟩ hK hN hA hP hD hS (c_X1_refuse l D cI A (-2 : Int32) xx xn xm xk v16 hev16) (cwV 1 hts gX1_whoTold_X1_refuse rfl rfl rfl hd_X1_refuse ⟨Nat.le_of_ble_eq_true rfl, Nat.le_of_ble_eq_true rfl⟩) (va_recv hK hP (ci := 1) (q0 := 0) rfl rfl) [0, 1, 2, 3, 4, 5, 6, 7, 8, 9, 10, 11, 12, 13, 14, 15, 16, 17, 18, 19, 20, 21, 22, 23, 24, 25, 26, 27, 28, 29, 30, 31, 32, 33, 34, 35, 36] (by decide) rfl rfl rfl rfl hl.1 rfl (Nat.le_of_ble_eq_true rfl) dX1_whoTold_29 ⟨Nat.le_of_ble_eq_true rfl, Nat.le_of_ble_eq_true rfl⟩ (fun H locs hP hD hS => ?_)
        have hP : va_P D vwCl (wX A cI v16.2 xn xm xk) H := hP
        obtain rfl := Option.some.inj hf
        exact W.iret (v := v16.1) hx hb hr (fun t ht hW => ⟨⟨v16.1, (), rfl, rfl, hPt ht hP⟩, hS.F ht⟩) hS.2.2 dX1_whoTold_32
  · have hf := hT hf c1
    refine lv_aload_n hx hb dX1_whoTold_11 rfl (lv_at hl 0 rfl) ?_
    refine lv_iconst (v := (-1 : Int32)) hx hb dX1_whoTold_12 (by decide) ?_
    obtain ⟨v17, hev17, hf⟩ := bS hf
    refine rV_i (ws' := (wX A cI v17.2 xn xm xk)) (As := [.int (-1 : Int32)]) (rest := []) ⟨hx, hb, hml, hown, hts⟩ hK hN hA hP hD hS (c_X1_refuse l D cI A (-1 : Int32) xx xn xm xk v17 hev17) (cwV 1 hts gX1_whoTold_X1_refuse rfl rfl rfl hd_X1_refuse ⟨Nat.le_of_ble_eq_true rfl, Nat.le_of_ble_eq_true rfl⟩) (va_recv hK hP (ci := 1) (q0 := 0) rfl rfl) [0, 1, 2, 3, 4, 5, 6, 7, 8, 9, 10, 11, 12, 13, 14, 15, 16, 17, 18, 19, 20, 21, 22, 23, 24, 25, 26, 27, 28, 29, 30, 31, 32, 33, 34, 35, 36] (by decide) rfl rfl rfl rfl hl.1 rfl (Nat.le_of_ble_eq_true rfl) dX1_whoTold_13 ⟨Nat.le_of_ble_eq_true rfl, Nat.le_of_ble_eq_true rfl⟩ (fun H locs hP hD hS => ?_)
    have hP : va_P D vwCl (wX A cI v17.2 xn xm xk) H := hP
    obtain rfl := Option.some.inj hf
    exact W.iret (v := v17.1) hx hb hr (fun t ht hW => ⟨⟨v17.1, (), rfl, rfl, hPt ht hP⟩, hS.F ht⟩) hS.2.2 dX1_whoTold_16
def f_X1_image (xx : HS) (xn : HS) (xm : HS) (xk : HS) : Option (Int32 × HS × HS) := (f_X0_become xk xn).bind fun v1 => jn (st xx 3 (fun _ => (1 : Int32))) (fun (xx_v2 : HS) => some ((xn 12 0), xx_v2, v1))
set_option maxHeartbeats 4000000 in
set_option maxRecDepth 100000 in
theorem c_X1_image (l : Launch) (D : va_G) (cI : ClassId) (A : Nat → Nat → Nat) (xx : HS) (xn : HS) (xm : HS) (xk : HS) (out : Int32 × HS × HS) (hf : f_X1_image xx xn xm xk = some out) : uI l D cI yX1_image wsX1_image ({ frames := 3, cells := 0, slots := 0, locals := 65 } : Room) [.ref ((A 0) 0)] (wX A cI xx xn xm xk) (wX A cI out.2.1 xn xm out.2.2) out.1 := by
  intro sz
  refine Met.ofW (cc := cX1_image) (maxL := 1) (ret := (some .int)) (by decide) rfl ?_
  intro p e s m args below meth c s₁ Bd hml hv
  obtain ⟨rfl, hsz, hP, hK, hD0, hN⟩ := hv
  have hx := Bd.exec
  have hb := Bd.bytes
  have hr := Bd.returns
  have hts := atoms_spec (ws := wsX1_image) Bd.pre
  have hown : s.vm.findClass RX1 = some m.cls := findClass_of_methodNamed Bd.named
  have hlocks := Bd.notSynchronized
  subst hsz
  have hD := hD0.self (sz := s.heap.size)
  generalize hAe : va_A (wX A cI xx xn xm xk) s.heap.size = G at hD ⊢
  have hA : ∀ q : Nat, s.heap.size ≤ q → G q := fun q h => by rw [← hAe]; exact Or.inr h
  have hS : va_S G s.heap s.heap [] := va_S.rf
  have hP : va_P D vwCl (wX A cI xx xn xm xk) s.heap := hP
  have hl := lv_entry ([.ref ((A 0) 0)]) (n := 1) (Nat.le_of_ble_eq_true rfl)
  rw [lg_entry_eq]
  generalize (lg_sl ([.ref ((A 0) 0)]) ++ List.replicate (1 - (lg_sl ([.ref ((A 0) 0)])).length) Slot.unset).toArray = ls at hl ⊢
  have hl : lv_has ls 1 [(0, .ref ((A 0) 0))] := hl
  have hinH : ∀ w ∈ wsX00, w ∈ wsX1_image := by decide +kernel
  have hinX : ∀ w ∈ wsX10, w ∈ wsX1_image := by decide +kernel
  have lk0 := hts (.fieldLink RX1 19 "LiesBoughtBack" "kept" "LLiesBoughtBack$Hall;") (by decide +kernel)
  have lk1 := hts (.fieldLink RX1 10 "LiesBoughtBack" "now" "LLiesBoughtBack$Hall;") (by decide +kernel)
  have lk2 := hts (.initialized RX0) (by decide +kernel)
  have lk3 := hts (.instanceMethod yX0_become) (by decide +kernel)
  have lk4 := hts (.selects RX0 yX0_become yX0_become) (by decide +kernel)
  have lk5 := hts (.fieldLink RX1 211 "LiesBoughtBack" "taken" "Z") (by decide +kernel)
  refine W_in ?_
  intro WW hWW
  refine (hWW _ _ _).mpr ?_
  unfold f_X1_image at hf
  refine lv_aload_n hx hb dX1_image_0 rfl (lv_at hl 0 rfl) ?_
  refine va_get (D := D) (ci := 1) (v := .ref ((A 3) 0)) (C := RX1) (T := TX1) (N := 9) hx hb hts hinX hown hK hP 0 rfl rfl 2 (by decide) lk0 (fun _ h9 => h9) rfl dX1_image_1 ?_
  refine lv_aload_n hx hb dX1_image_4 rfl (lv_at hl 0 rfl) ?_
  refine va_get (D := D) (ci := 1) (v := .ref ((A 1) 0)) (C := RX1) (T := TX1) (N := 9) hx hb hts hinX hown hK hP 0 rfl rfl 0 (by decide) lk1 (fun _ h9 => h9) rfl dX1_image_5 ?_
  obtain ⟨v1, hev1, hf⟩ := bS hf
  refine rVN_v (ws' := (wX A cI xx xn xm v1)) (As := [.ref ((A 1) 0)]) (rest := []) ⟨hx, hb, hml, hown, hts⟩ hK hN hA hP hD hS (c_X0_become l D cI (A 3) (A 1) xk xn v1 hev1) ⟨va_cnB 1 hts gX1_image_X0_become_n47 rfl rfl rfl (nW.m hN 1 rfl) lk2 hd_X0_become.2 ⟨Nat.le_of_ble_eq_true rfl, Nat.le_of_ble_eq_true rfl⟩, lk3, lk4⟩ (va_recv hK hP (ci := 0) (q0 := 23) rfl rfl) [23, 24, 25, 26, 27, 28, 29, 30, 31, 32, 33, 1, 2, 3, 4, 5, 6, 7, 8, 9, 10, 11] (by decide) rfl rfl rfl rfl hl.1 rfl (Nat.le_of_ble_eq_true rfl) dX1_image_8 ⟨Nat.le_of_ble_eq_true rfl, Nat.le_of_ble_eq_true rfl⟩ (fun H locs hP hD hS => ?_)
  have hP : va_P D vwCl (wX A cI xx xn xm v1) H := hP
  refine lv_aload_n hx hb dX1_image_11 rfl (lv_at hl 0 rfl) ?_
  refine lv_iconst (v := (1 : Int32)) hx hb dX1_image_12 (by decide) ?_
  obtain ⟨xx_v2, exx_v2, hf⟩ := jnS hf
  refine va_put (D := D) (ci := 1) (v := .int (1 : Int32)) (ty := .boolean) (C := RX1) (T := TX1) (N := 9) hx hb hts hinX tyX1 tyX1_ok nmX1 hown hK hP hD hS 0 rfl rfl 3 (by decide) lk5 (fun _ h9 => h9) rfl (by decide +kernel) rfl rfl (Nat.le_of_ble_eq_true rfl) dX1_image_13 (fun H locs hP hD hS => ?_)
  have hE : _ = (wX A cI xx_v2 xn xm v1) := ((sf_X1_x_3 A cI xx xn xm v1 (1 : Int32)).trans (congrArg (fun z => wX A cI z xn xm v1) exx_v2.symm))
  have hP : va_P D vwCl (wX A cI xx_v2 xn xm v1) H := hE ▸ hP
  have hD : va_D G (wX A cI xx_v2 xn xm v1) := hE ▸ hD
  refine lv_aload_n hx hb dX1_image_16 rfl (lv_at hl 0 rfl) ?_
  refine va_get (D := D) (ci := 1) (v := .ref ((A 1) 0)) (C := RX1) (T := TX1) (N := 9) hx hb hts hinX hown hK hP 0 rfl rfl 0 (by decide) lk1 (fun _ h9 => h9) rfl dX1_image_17 ?_
  refine va_getN (D := D) (ci := 0) (v := .int (xn 12 0)) (C := RX0) (T := TX0) (N := 13) hx hb hts hinH hown hK hP 1 rfl rfl 2 (by decide) (nW.f hN 2 rfl) (fun _ h9 => h9) rfl dX1_image_20 ?_
  obtain rfl := Option.some.inj hf
  exact W.iret (v := (xn 12 0)) hx hb hr (fun t ht hW => ⟨⟨(xn 12 0), (), rfl, rfl, hPt ht hP⟩, hS.F ht⟩) hS.2.2 dX1_image_23
def f_X1_on (xx : HS) (xn : HS) (xm : HS) (xk : HS) : Option (Int32 × HS × HS) := if (xx 3 0) = 0 then (f_X1_refuse (-3 : Int32) xx xn xm xk).bind fun v3 => some (v3.1, v3.2, xn) else (f_X0_become xn xk).bind fun v2 => some ((v2 12 0), xx, v2)
set_option maxHeartbeats 4000000 in
set_option maxRecDepth 100000 in
theorem c_X1_on (l : Launch) (D : va_G) (cI : ClassId) (A : Nat → Nat → Nat) (xx : HS) (xn : HS) (xm : HS) (xk : HS) (out : Int32 × HS × HS) (hf : f_X1_on xx xn xm xk = some out) : uI l D cI yX1_on wsX1_on ({ frames := 3, cells := 0, slots := 0, locals := 65 } : Room) [.ref ((A 0) 0)] (wX A cI xx xn xm xk) (wX A cI out.2.1 out.2.2 xm xk) out.1 := by
  intro sz
  refine Met.ofW (cc := cX1_on) (maxL := 1) (ret := (some .int)) (by decide) rfl ?_
  intro p e s m args below meth c s₁ Bd hml hv
  obtain ⟨rfl, hsz, hP, hK, hD0, hN⟩ := hv
  have hx := Bd.exec
  have hb := Bd.bytes
  have hr := Bd.returns
  have hts := atoms_spec (ws := wsX1_on) Bd.pre
  have hown : s.vm.findClass RX1 = some m.cls := findClass_of_methodNamed Bd.named
  have hlocks := Bd.notSynchronized
  subst hsz
  have hD := hD0.self (sz := s.heap.size)
  generalize hAe : va_A (wX A cI xx xn xm xk) s.heap.size = G at hD ⊢
  have hA : ∀ q : Nat, s.heap.size ≤ q → G q := fun q h => by rw [← hAe]; exact Or.inr h
  have hS : va_S G s.heap s.heap [] := va_S.rf
  have hP : va_P D vwCl (wX A cI xx xn xm xk) s.heap := hP
  have hl := lv_entry ([.ref ((A 0) 0)]) (n := 1) (Nat.le_of_ble_eq_true rfl)
  rw [lg_entry_eq]
  generalize (lg_sl ([.ref ((A 0) 0)]) ++ List.replicate (1 - (lg_sl ([.ref ((A 0) 0)])).length) Slot.unset).toArray = ls at hl ⊢
  have hl : lv_has ls 1 [(0, .ref ((A 0) 0))] := hl
  have hinH : ∀ w ∈ wsX00, w ∈ wsX1_on := by decide +kernel
  have hinX : ∀ w ∈ wsX10, w ∈ wsX1_on := by decide +kernel
  have lk0 := hts (.fieldLink RX1 211 "LiesBoughtBack" "taken" "Z") (by decide +kernel)
  have lk1 := hts (.fieldLink RX1 10 "LiesBoughtBack" "now" "LLiesBoughtBack$Hall;") (by decide +kernel)
  have lk2 := hts (.fieldLink RX1 19 "LiesBoughtBack" "kept" "LLiesBoughtBack$Hall;") (by decide +kernel)
  have lk3 := hts (.initialized RX0) (by decide +kernel)
  have lk4 := hts (.instanceMethod yX0_become) (by decide +kernel)
  have lk5 := hts (.selects RX0 yX0_become yX0_become) (by decide +kernel)
  refine W_in ?_
  intro WW hWW
  refine (hWW _ _ _).mpr ?_
  unfold f_X1_on at hf
  refine lv_aload_n hx hb dX1_on_0 rfl (lv_at hl 0 rfl) ?_
  refine va_get (D := D) (ci := 1) (v := .int (xx 3 0)) (C := RX1) (T := TX1) (N := 9) hx hb hts hinX hown hK hP 0 rfl rfl 3 (by decide) lk0 (fun _ h9 => h9) rfl dX1_on_1 ?_
  refine lv_if_ne (tgt := 14) hx hb dX1_on_4 (by decide) (fun c1 => ?_) (fun c1 => ?_)
  · have hf := hF hf c1
    refine lv_aload_n hx hb dX1_on_14 rfl (lv_at hl 0 rfl) ?_
    refine va_get (D := D) (ci := 1) (v := .ref ((A 1) 0)) (C := RX1) (T := TX1) (N := 9) hx hb hts hinX hown hK hP 0 rfl rfl 0 (by decide) lk1 (fun _ h9 => h9) rfl dX1_on_15 ?_
    refine lv_aload_n hx hb dX1_on_18 rfl (lv_at hl 0 rfl) ?_
    refine va_get (D := D) (ci := 1) (v := .ref ((A 3) 0)) (C := RX1) (T := TX1) (N := 9) hx hb hts hinX hown hK hP 0 rfl rfl 2 (by decide) lk2 (fun _ h9 => h9) rfl dX1_on_19 ?_
    obtain ⟨v2, hev2, hf⟩ := bS hf
    refine rVN_v (ws' := (wX A cI xx v2 xm xk)) (As := [.ref ((A 3) 0)]) (rest := []) ⟨hx, hb, hml, hown, hts⟩ hK hN hA hP hD hS (c_X0_become l D cI (A 1) (A 3) xn xk v2 hev2) ⟨va_cnB 1 hts gX1_on_X0_become_n47 rfl rfl rfl (nW.m hN 1 rfl) lk3 hd_X0_become.2 ⟨Nat.le_of_ble_eq_true rfl, Nat.le_of_ble_eq_true rfl⟩, lk4, lk5⟩ (va_recv hK hP (ci := 0) (q0 := 1) rfl rfl) [1, 2, 3, 4, 5, 6, 7, 8, 9, 10, 11, 23, 24, 25, 26, 27, 28, 29, 30, 31, 32, 33] (by decide) rfl rfl rfl rfl hl.1 rfl (Nat.le_of_ble_eq_true rfl) dX1_on_22 ⟨Nat.le_of_ble_eq_true rfl, Nat.le_of_ble_eq_true rfl⟩ (fun H locs hP hD hS => ?_)
    have hP : va_P D vwCl (wX A cI xx v2 xm xk) H := hP
    refine lv_aload_n hx hb dX1_on_25 rfl (lv_at hl 0 rfl) ?_
    refine va_get (D := D) (ci := 1) (v := .ref ((A 1) 0)) (C := RX1) (T := TX1) (N := 9) hx hb hts hinX hown hK hP 0 rfl rfl 0 (by decide) lk1 (fun _ h9 => h9) rfl dX1_on_26 ?_
    refine va_getN (D := D) (ci := 0) (v := .int (v2 12 0)) (C := RX0) (T := TX0) (N := 13) hx hb hts hinH hown hK hP 1 rfl rfl 2 (by decide) (nW.f hN 2 rfl) (fun _ h9 => h9) rfl dX1_on_29 ?_
    obtain rfl := Option.some.inj hf
    exact W.iret (v := (v2 12 0)) hx hb hr (fun t ht hW => ⟨⟨(v2 12 0), (), rfl, rfl, hPt ht hP⟩, hS.F ht⟩) hS.2.2 dX1_on_32
  · have hf := hT hf c1
    refine lv_aload_n hx hb dX1_on_7 rfl (lv_at hl 0 rfl) ?_
    refine lv_bipush (v := (-3 : Int32)) hx hb dX1_on_8 (by decide) ?_
    obtain ⟨v3, hev3, hf⟩ := bS hf
    refine rV_i (ws' := (wX A cI v3.2 xn xm xk)) (As := [.int (-3 : Int32)]) (rest := []) ⟨hx, hb, hml, hown, hts⟩ hK hN hA hP hD hS (c_X1_refuse l D cI A (-3 : Int32) xx xn xm xk v3 hev3) (cwV 1 hts gX1_on_X1_refuse rfl rfl rfl hd_X1_refuse ⟨Nat.le_of_ble_eq_true rfl, Nat.le_of_ble_eq_true rfl⟩) (va_recv hK hP (ci := 1) (q0 := 0) rfl rfl) [0, 1, 2, 3, 4, 5, 6, 7, 8, 9, 10, 11, 12, 13, 14, 15, 16, 17, 18, 19, 20, 21, 22, 23, 24, 25, 26, 27, 28, 29, 30, 31, 32, 33, 34, 35, 36] (by decide) rfl rfl rfl rfl hl.1 rfl (Nat.le_of_ble_eq_true rfl) dX1_on_10 ⟨Nat.le_of_ble_eq_true rfl, Nat.le_of_ble_eq_true rfl⟩ (fun H locs hP hD hS => ?_)
    have hP : va_P D vwCl (wX A cI v3.2 xn xm xk) H := hP
    obtain rfl := Option.some.inj hf
    exact W.iret (v := v3.1) hx hb hr (fun t ht hW => ⟨⟨v3.1, (), rfl, rfl, hPt ht hP⟩, hS.F ht⟩) hS.2.2 dX1_on_13
def L_X1_number_5 (j1 : Int32) (j2 : Int32) (xx : HS) (xn : HS) (xm : HS) (xk : HS) (K37 : Int32 → Option (Int32)) : Nat → Int32 → Int32 → Option (Int32)
  | 0, _, _ => none
  | n' + 1, j3_5, j4_5 => if j2 ≤ j4_5 then (K37 j3_5) else (L_X1_number_5 j1 j2 xx xn xm xk K37 n' ((((10 : Int32) * j3_5) + (atv 96 (xx 0) (j1 + j4_5))) - (48 : Int32)) (j4_5 + (1 : Int32)))
def f_X1_number (j1 : Int32) (j2 : Int32) (xx : HS) (xn : HS) (xm : HS) (xk : HS) : Option (Int32) := jn (fun (j3_37 : Int32) => some j3_37) (fun (K37 : Int32 → Option (Int32)) => (L_X1_number_5 j1 j2 xx xn xm xk K37 fuel (0 : Int32) (0 : Int32)))
set_option maxHeartbeats 4000000 in
set_option maxRecDepth 100000 in
theorem c_X1_number (l : Launch) (D : va_G) (cI : ClassId) (A : Nat → Nat → Nat) (j1 : Int32) (j2 : Int32) (xx : HS) (xn : HS) (xm : HS) (xk : HS) (out : Int32) (hf : f_X1_number j1 j2 xx xn xm xk = some out) : uI l D cI yX1_number wsX1_number ({ frames := 1, cells := 0, slots := 0, locals := 21 } : Room) [.ref ((A 0) 0), .int j1, .int j2] (wX A cI xx xn xm xk) (wX A cI xx xn xm xk) out := by
  intro sz
  refine Met.ofW (cc := cX1_number) (maxL := 5) (ret := (some .int)) (by decide) rfl ?_
  intro p e s m args below meth c s₁ Bd hml hv
  obtain ⟨rfl, hsz, hP, hK, hD0, hN⟩ := hv
  have hx := Bd.exec
  have hb := Bd.bytes
  have hr := Bd.returns
  have hts := atoms_spec (ws := wsX1_number) Bd.pre
  have hown : s.vm.findClass RX1 = some m.cls := findClass_of_methodNamed Bd.named
  have hlocks := Bd.notSynchronized
  subst hsz
  have hD := hD0.self (sz := s.heap.size)
  generalize hAe : va_A (wX A cI xx xn xm xk) s.heap.size = G at hD ⊢
  have hA : ∀ q : Nat, s.heap.size ≤ q → G q := fun q h => by rw [← hAe]; exact Or.inr h
  have hS : va_S G s.heap s.heap [] := va_S.rf
  have hP : va_P D vwCl (wX A cI xx xn xm xk) s.heap := hP
  have hl := lv_entry ([.ref ((A 0) 0), .int j1, .int j2]) (n := 5) (Nat.le_of_ble_eq_true rfl)
  rw [lg_entry_eq]
  generalize (lg_sl ([.ref ((A 0) 0), .int j1, .int j2]) ++ List.replicate (5 - (lg_sl ([.ref ((A 0) 0), .int j1, .int j2])).length) Slot.unset).toArray = ls at hl ⊢
  have hl : lv_has ls 5 [(0, .ref ((A 0) 0)), (1, .int j1), (2, .int j2)] := hl
  have hinX : ∀ w ∈ wsX10, w ∈ wsX1_number := by decide +kernel
  have lk0 := hts (.fieldLink RX1 22 "LiesBoughtBack" "letters" "[I") (by decide +kernel)
  refine W_in ?_
  intro WW hWW
  refine (hWW _ _ _).mpr ?_
  unfold f_X1_number at hf
  refine lv_iconst (v := (0 : Int32)) hx hb dX1_number_0 (by decide) ?_
  refine lv_istore_n (lv' := [(3, .int (0 : Int32)), (0, .ref ((A 0) 0)), (1, .int j1), (2, .int j2)]) hx hb dX1_number_1 rfl hl (by decide) rfl (fun ls hl => ?_)
  refine lv_iconst (v := (0 : Int32)) hx hb dX1_number_2 (by decide) ?_
  refine lv_istore (lv' := [(4, .int (0 : Int32)), (3, .int (0 : Int32)), (0, .ref ((A 0) 0)), (1, .int j1), (2, .int j2)]) hx hb dX1_number_3 hl (by decide) rfl (fun ls hl => ?_)
  obtain ⟨K37, hK37, hf⟩ := jnS hf
  have J37 : ∀ (j3_37 : Int32) (H : Heap) (locs : List Loc) (ls : Array Slot), K37 j3_37 = some out → va_P D vwCl (wX A cI xx xn xm xk) H → va_D G (wX A cI xx xn xm xk) → va_S G s.heap H locs → lv_has ls 5 [(3, .int j3_37)] → WW H locs (F0 m 37 ls []) := by
    intro j3_37 H locs ls hf hP hD hS hl
    subst hK37
    refine (hWW _ _ _).mpr ?_
    refine lv_iload_n hx hb dX1_number_37 rfl (lv_at hl 0 rfl) ?_
    obtain rfl := Option.some.inj hf
    exact W.iret (v := j3_37) hx hb hr (fun t ht hW => ⟨⟨j3_37, (), rfl, rfl, hPt ht hP⟩, hS.F ht⟩) hS.2.2 dX1_number_38
  have P5 : ∀ (n' : Nat) (j3_5 : Int32) (j4_5 : Int32) (H : Heap) (locs : List Loc) (ls : Array Slot), L_X1_number_5 j1 j2 xx xn xm xk K37 n' j3_5 j4_5 = some out → va_P D vwCl (wX A cI xx xn xm xk) H → va_D G (wX A cI xx xn xm xk) → va_S G s.heap H locs → lv_has ls 5 [(0, .ref ((A 0) 0)), (1, .int j1), (2, .int j2), (3, .int j3_5), (4, .int j4_5)] → WW H locs (F0 m 5 ls []) := by
    intro n'
    induction n' with
    | zero => intro j3_5 j4_5 H locs ls hf; exact absurd (show (none : Option (Int32)) = some out from hf) (fun q => by cases q)
    | succ n' ih =>
      intro j3_5 j4_5 H locs ls hf hP hD hS hl
      rw [L_X1_number_5] at hf
      refine (hWW _ _ _).mpr ?_
      refine lv_iload hx hb dX1_number_5 (lv_at hl 4 rfl) ?_
      refine lv_iload_n hx hb dX1_number_7 rfl (lv_at hl 2 rfl) ?_
      refine lv_icmp_ge (tgt := 37) hx hb dX1_number_8 (by decide) (fun c1 => ?_) (fun c1 => ?_)
      · have hf := hT hf c1
        exact (hWW _ _ _).mp (J37 _ _ _ _ hf hP hD hS (lv_sub hl [3] rfl))
      · have hf := hF hf c1
        refine lv_bipush (v := (10 : Int32)) hx hb dX1_number_11 (by decide) ?_
        refine lv_iload_n hx hb dX1_number_13 rfl (lv_at hl 3 rfl) ?_
        refine lv_imul hx hb dX1_number_14 ?_
        refine lv_aload_n hx hb dX1_number_15 rfl (lv_at hl 0 rfl) ?_
        refine va_get (D := D) (ci := 1) (v := .ref ((A 0) 1)) (C := RX1) (T := TX1) (N := 9) hx hb hts hinX hown hK hP 0 rfl rfl 4 (by decide) lk0 (fun _ h9 => h9) rfl dX1_number_16 ?_
        refine lv_iload_n hx hb dX1_number_19 rfl (lv_at hl 1 rfl) ?_
        refine lv_iload hx hb dX1_number_20 (lv_at hl 4 rfl) ?_
        refine lv_iadd hx hb dX1_number_22 ?_
        refine rS_io (As := [.ref ((A 0) 1), .int (j1 + j4_5)]) (rest := [.int ((10 : Int32) * j3_5)]) ⟨hx, hb, hml, hown, hts⟩ hK hN hA hP hD hS (c_X1_at l D cI 96 (by decide) ((A 0) 1) (xx 0) (j1 + j4_5)) (va_cwS 2 hts gX1_number_X1_at rfl rfl rfl hd_X1_at.2 ⟨Nat.le_of_ble_eq_true rfl, Nat.le_of_ble_eq_true rfl⟩) [34] (by decide) rfl rfl hl.1 rfl (Nat.le_of_ble_eq_true rfl) dX1_number_23 ⟨Nat.le_of_ble_eq_true rfl, Nat.le_of_ble_eq_true rfl⟩ (fun H locs hP hD hS => ?_)
        refine lv_iadd hx hb dX1_number_26 ?_
        refine lv_bipush (v := (48 : Int32)) hx hb dX1_number_27 (by decide) ?_
        refine lv_isub hx hb dX1_number_29 ?_
        refine lv_istore_n (lv' := [(3, .int ((((10 : Int32) * j3_5) + (atv 96 (xx 0) (j1 + j4_5))) - (48 : Int32))), (0, .ref ((A 0) 0)), (1, .int j1), (2, .int j2), (4, .int j4_5)]) hx hb dX1_number_30 rfl hl (by decide) rfl (fun ls hl => ?_)
        refine lv_iinc (v := (j4_5 + (1 : Int32))) (lv' := [(4, .int (j4_5 + (1 : Int32))), (3, .int ((((10 : Int32) * j3_5) + (atv 96 (xx 0) (j1 + j4_5))) - (48 : Int32))), (0, .ref ((A 0) 0)), (1, .int j1), (2, .int j2)]) hx hb dX1_number_31 hl (k := 4) rfl rfl (by decide) rfl (fun ls hl => ?_)
        refine lv_goto (tgt := 5) hx hb dX1_number_34 (by decide) ?_
        exact (hWW _ _ _).mp (ih _ _ _ _ _ hf hP hD hS (lv_sub hl [2, 3, 4, 1, 0] rfl))
  exact (hWW _ _ _).mp (P5 _ _ _ _ _ _ hf hP hD hS (lv_sub hl [2, 3, 4, 1, 0] rfl))
