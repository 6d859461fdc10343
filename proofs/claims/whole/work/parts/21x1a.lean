theorem hd_X0_allBelieved : yX0_allBelieved.cls = RX0 ∧ yX0_allBelieved.cls ≠ "java/lang/invoke/MethodHandle" ∧ yX0_allBelieved.cls ≠ "java/lang/invoke/VarHandle" ∧ (parseMethodDescriptor yX0_allBelieved.desc).map (fun d => d.parameters.length) = some 0 := by decide +kernel
theorem hd_X0_allCardBits : yX0_allCardBits.cls = RX0 ∧ yX0_allCardBits.cls ≠ "java/lang/invoke/MethodHandle" ∧ yX0_allCardBits.cls ≠ "java/lang/invoke/VarHandle" ∧ (parseMethodDescriptor yX0_allCardBits.desc).map (fun d => d.parameters.length) = some 0 := by decide +kernel
theorem hd_X0_allPurses : yX0_allPurses.cls = RX0 ∧ yX0_allPurses.cls ≠ "java/lang/invoke/MethodHandle" ∧ yX0_allPurses.cls ≠ "java/lang/invoke/VarHandle" ∧ (parseMethodDescriptor yX0_allPurses.desc).map (fun d => d.parameters.length) = some 0 := by decide +kernel
theorem hd_X0_allToPile : yX0_allToPile.cls = RX0 ∧ yX0_allToPile.cls ≠ "java/lang/invoke/MethodHandle" ∧ yX0_allToPile.cls ≠ "java/lang/invoke/VarHandle" ∧ (parseMethodDescriptor yX0_allToPile.desc).map (fun d => d.parameters.length) = some 0 := by decide +kernel
theorem hd_X0_allWorth : yX0_allWorth.cls = RX0 ∧ yX0_allWorth.cls ≠ "java/lang/invoke/MethodHandle" ∧ yX0_allWorth.cls ≠ "java/lang/invoke/VarHandle" ∧ (parseMethodDescriptor yX0_allWorth.desc).map (fun d => d.parameters.length) = some 0 := by decide +kernel
theorem hd_X0_become : yX0_become.cls = RX0 ∧ yX0_become.cls ≠ "java/lang/invoke/MethodHandle" ∧ yX0_become.cls ≠ "java/lang/invoke/VarHandle" ∧ (parseMethodDescriptor yX0_become.desc).map (fun d => d.parameters.length) = some 1 := by decide +kernel
theorem hd_X0_changePlaces : yX0_changePlaces.cls = RX0 ∧ yX0_changePlaces.cls ≠ "java/lang/invoke/MethodHandle" ∧ yX0_changePlaces.cls ≠ "java/lang/invoke/VarHandle" ∧ (parseMethodDescriptor yX0_changePlaces.desc).map (fun d => d.parameters.length) = some 2 := by decide +kernel
theorem hd_X0_cleanBits : yX0_cleanBits.cls = RX0 ∧ yX0_cleanBits.cls ≠ "java/lang/invoke/MethodHandle" ∧ yX0_cleanBits.cls ≠ "java/lang/invoke/VarHandle" ∧ (parseMethodDescriptor yX0_cleanBits.desc).map (fun d => d.parameters.length) = some 0 := by decide +kernel
theorem hd_X0_drawPurses : yX0_drawPurses.cls = RX0 ∧ yX0_drawPurses.cls ≠ "java/lang/invoke/MethodHandle" ∧ yX0_drawPurses.cls ≠ "java/lang/invoke/VarHandle" ∧ (parseMethodDescriptor yX0_drawPurses.desc).map (fun d => d.parameters.length) = some 1 := by decide +kernel
theorem hd_X0_gain : yX0_gain.cls = RX0 ∧ yX0_gain.cls ≠ "java/lang/invoke/MethodHandle" ∧ yX0_gain.cls ≠ "java/lang/invoke/VarHandle" ∧ (parseMethodDescriptor yX0_gain.desc).map (fun d => d.parameters.length) = some 3 := by decide +kernel
theorem hd_X0_goOn : yX0_goOn.cls = RX0 ∧ yX0_goOn.cls ≠ "java/lang/invoke/MethodHandle" ∧ yX0_goOn.cls ≠ "java/lang/invoke/VarHandle" ∧ (parseMethodDescriptor yX0_goOn.desc).map (fun d => d.parameters.length) = some 2 := by decide +kernel
theorem hd_X0_hasTimeFor : yX0_hasTimeFor.cls = RX0 ∧ yX0_hasTimeFor.cls ≠ "java/lang/invoke/MethodHandle" ∧ yX0_hasTimeFor.cls ≠ "java/lang/invoke/VarHandle" ∧ (parseMethodDescriptor yX0_hasTimeFor.desc).map (fun d => d.parameters.length) = some 1 := by decide +kernel
theorem hd_X0_heldBy : yX0_heldBy.cls = RX0 ∧ yX0_heldBy.cls ≠ "java/lang/invoke/MethodHandle" ∧ yX0_heldBy.cls ≠ "java/lang/invoke/VarHandle" ∧ (parseMethodDescriptor yX0_heldBy.desc).map (fun d => d.parameters.length) = some 1 := by decide +kernel
theorem hd_X0_heldCount : yX0_heldCount.cls = RX0 ∧ yX0_heldCount.cls ≠ "java/lang/invoke/MethodHandle" ∧ yX0_heldCount.cls ≠ "java/lang/invoke/VarHandle" ∧ (parseMethodDescriptor yX0_heldCount.desc).map (fun d => d.parameters.length) = some 0 := by decide +kernel
theorem hd_X0_ownBits : yX0_ownBits.cls = RX0 ∧ yX0_ownBits.cls ≠ "java/lang/invoke/MethodHandle" ∧ yX0_ownBits.cls ≠ "java/lang/invoke/VarHandle" ∧ (parseMethodDescriptor yX0_ownBits.desc).map (fun d => d.parameters.length) = some 0 := by decide +kernel
theorem hd_X0_pourPurse : yX0_pourPurse.cls = RX0 ∧ yX0_pourPurse.cls ≠ "java/lang/invoke/MethodHandle" ∧ yX0_pourPurse.cls ≠ "java/lang/invoke/VarHandle" ∧ (parseMethodDescriptor yX0_pourPurse.desc).map (fun d => d.parameters.length) = some 2 := by decide +kernel
theorem hd_X0_rivals : yX0_rivals.cls = RX0 ∧ yX0_rivals.cls ≠ "java/lang/invoke/MethodHandle" ∧ yX0_rivals.cls ≠ "java/lang/invoke/VarHandle" ∧ (parseMethodDescriptor yX0_rivals.desc).map (fun d => d.parameters.length) = some 1 := by decide +kernel
theorem hd_X0_toFront : yX0_toFront.cls = RX0 ∧ yX0_toFront.cls ≠ "java/lang/invoke/MethodHandle" ∧ yX0_toFront.cls ≠ "java/lang/invoke/VarHandle" ∧ (parseMethodDescriptor yX0_toFront.desc).map (fun d => d.parameters.length) = some 1 := by decide +kernel
theorem hd_X1_away : yX1_away.cls = RX1 ∧ yX1_away.cls ≠ "java/lang/invoke/MethodHandle" ∧ yX1_away.cls ≠ "java/lang/invoke/VarHandle" ∧ (parseMethodDescriptor yX1_away.desc).map (fun d => d.parameters.length) = some 2 := by decide +kernel
theorem hd_X1_beyond : yX1_beyond.cls = RX1 ∧ yX1_beyond.cls ≠ "java/lang/invoke/MethodHandle" ∧ yX1_beyond.cls ≠ "java/lang/invoke/VarHandle" ∧ (parseMethodDescriptor yX1_beyond.desc).map (fun d => d.parameters.length) = some 3 := by decide +kernel
theorem hd_X1_goStuttering : yX1_goStuttering.cls = RX1 ∧ yX1_goStuttering.cls ≠ "java/lang/invoke/MethodHandle" ∧ yX1_goStuttering.cls ≠ "java/lang/invoke/VarHandle" ∧ (parseMethodDescriptor yX1_goStuttering.desc).map (fun d => d.parameters.length) = some 4 := by decide +kernel
theorem hd_X1_inLeastTerms : yX1_inLeastTerms.cls = RX1 ∧ yX1_inLeastTerms.cls ≠ "java/lang/invoke/MethodHandle" ∧ yX1_inLeastTerms.cls ≠ "java/lang/invoke/VarHandle" ∧ (parseMethodDescriptor yX1_inLeastTerms.desc).map (fun d => d.parameters.length) = some 3 := by decide +kernel
theorem hd_X1_refuse : yX1_refuse.cls = RX1 ∧ yX1_refuse.cls ≠ "java/lang/invoke/MethodHandle" ∧ yX1_refuse.cls ≠ "java/lang/invoke/VarHandle" ∧ (parseMethodDescriptor yX1_refuse.desc).map (fun d => d.parameters.length) = some 1 := by decide +kernel
theorem hd_X1_refuseFar : yX1_refuseFar.cls = RX1 ∧ yX1_refuseFar.cls ≠ "java/lang/invoke/MethodHandle" ∧ yX1_refuseFar.cls ≠ "java/lang/invoke/VarHandle" ∧ (parseMethodDescriptor yX1_refuseFar.desc).map (fun d => d.parameters.length) = some 1 := by decide +kernel
theorem hd_X1_riches : yX1_riches.cls = RX1 ∧ yX1_riches.cls ≠ "java/lang/invoke/MethodHandle" ∧ yX1_riches.cls ≠ "java/lang/invoke/VarHandle" ∧ (parseMethodDescriptor yX1_riches.desc).map (fun d => d.parameters.length) = some 2 := by decide +kernel
theorem hd_X1_rowTellsHolders : yX1_rowTellsHolders.cls = RX1 ∧ yX1_rowTellsHolders.cls ≠ "java/lang/invoke/MethodHandle" ∧ yX1_rowTellsHolders.cls ≠ "java/lang/invoke/VarHandle" ∧ (parseMethodDescriptor yX1_rowTellsHolders.desc).map (fun d => d.parameters.length) = some 0 := by decide +kernel
set_option maxHeartbeats 4000000 in
set_option maxRecDepth 100000 in
theorem c_X1_refuse (l : Launch) (D : va_G) (cI : ClassId) (A : Nat → Nat → Nat) (j1 : Int32) (xx : HS) (xn : HS) (xm : HS) (xk : HS) (out : Int32 × HS) (hf : f_X1_refuse j1 xx xn xm xk = some out) : uI l D cI yX1_refuse wsX1_refuse ({ frames := 1, cells := 0, slots := 0, locals := 22 } : Room) [.ref ((A 0) 0), .int j1] (wX A cI xx xn xm xk) (wX A cI out.2 xn xm xk) out.1 := by
  intro sz
  refine Met.ofW (cc := cX1_refuse) (maxL := 2) (ret := (some .int)) (by decide) rfl ?_
  intro p e s m args below meth c s₁ Bd hml hv
  obtain ⟨rfl, hsz, hP, hK, hD0, hN⟩ := hv
  have hx := Bd.exec
  have hb := Bd.bytes
  have hr := Bd.returns
  have hts := atoms_spec (ws := wsX1_refuse) Bd.pre
  have hown : s.vm.findClass RX1 = some m.cls := findClass_of_methodNamed Bd.named
  have hlocks := Bd.notSynchronized
  subst hsz
  have hD := hD0.self (sz := s.heap.size)
  generalize hAe : va_A (wX A cI xx xn xm xk) s.heap.size = G at hD ⊢
  have hA : ∀ q : Nat, s.heap.size ≤ q → G q := fun q h => by rw [← hAe]; exact Or.inr h
  have hS : va_S G s.heap s.heap [] := va_S.rf
  have hP : va_P D vwCl (wX A cI xx xn xm xk) s.heap := hP
  have hl := lv_entry ([.ref ((A 0) 0), .int j1]) (n := 2) (Nat.le_of_ble_eq_true rfl)
  rw [lg_entry_eq]
  generalize (lg_sl ([.ref ((A 0) 0), .int j1]) ++ List.replicate (2 - (lg_sl ([.ref ((A 0) 0), .int j1])).length) Slot.unset).toArray = ls at hl ⊢
  have hl : lv_has ls 2 [(0, .ref ((A 0) 0)), (1, .int j1)] := hl
  have hinX : ∀ w ∈ wsX10, w ∈ wsX1_refuse := by decide +kernel
  have lk0 := hts (.fieldLink RX1 29 "LiesBoughtBack" "refused" "[I") (by decide +kernel)
  refine W_in ?_
  intro WW hWW
  refine (hWW _ _ _).mpr ?_
  unfold f_X1_refuse at hf
  refine lv_aload_n hx hb dX1_refuse_0 rfl (lv_at hl 0 rfl) ?_
  refine va_get (D := D) (ci := 1) (v := .ref ((A 0) 3)) (C := RX1) (T := TX1) (N := 9) hx hb hts hinX hown hK hP 0 rfl rfl 8 (by decide) lk0 (fun _ h9 => h9) rfl dX1_refuse_1 ?_
  refine lv_iload_n hx hb dX1_refuse_4 rfl (lv_at hl 1 rfl) ?_
  refine lv_ineg hx hb dX1_refuse_5 ?_
  refine lv_aload_n hx hb dX1_refuse_6 rfl (lv_at hl 0 rfl) ?_
  refine va_get (D := D) (ci := 1) (v := .ref ((A 0) 3)) (C := RX1) (T := TX1) (N := 9) hx hb hts hinX hown hK hP 0 rfl rfl 8 (by decide) lk0 (fun _ h9 => h9) rfl dX1_refuse_7 ?_
  refine lv_iload_n hx hb dX1_refuse_10 rfl (lv_at hl 1 rfl) ?_
  refine lv_ineg hx hb dX1_refuse_11 ?_
  refine qS_i (As := [.ref ((A 0) 3), .int (-j1)]) (rest := [.int (-j1), .ref ((A 0) 3)]) ⟨hx, hb, hml, hown, hts⟩ hK hN hA hP hD hS (c_X1_at l D cI 7 (by decide) ((A 0) 3) (xx 2) (-j1)) (va_cwS 2 hts gX1_refuse_X1_at rfl rfl rfl hd_X1_at.2 ⟨Nat.le_of_ble_eq_true rfl, Nat.le_of_ble_eq_true rfl⟩) (bA_X1_x_2 A cI xx xn xm xk) rfl hl.1 rfl (Nat.le_of_ble_eq_true rfl) dX1_refuse_12 ⟨Nat.le_of_ble_eq_true rfl, Nat.le_of_ble_eq_true rfl⟩ (fun H locs hP hD hS => ?_)
  refine lv_iconst (v := (1 : Int32)) hx hb dX1_refuse_15 (by decide) ?_
  refine lv_iadd hx hb dX1_refuse_16 ?_
  obtain ⟨xx_v1, exx_v1, hf⟩ := jnS hf
  refine qS_v (ws' := (wX A cI xx_v1 xn xm xk)) (As := [.ref ((A 0) 3), .int (-j1), .int ((atv 7 (xx 2) (-j1)) + (1 : Int32))]) (rest := []) ⟨hx, hb, hml, hown, hts⟩ hK hN hA hP hD hS (c_X1_put l D cI 7 (by decide) ((A 0) 3) (xx 2) (-j1) ((atv 7 (xx 2) (-j1)) + (1 : Int32))) (va_cwS 3 hts gX1_refuse_X1_put rfl rfl rfl hd_X1_put.2 ⟨Nat.le_of_ble_eq_true rfl, Nat.le_of_ble_eq_true rfl⟩) ((bP_X1_x_2 A cI xx xn xm xk (ptv 7 (xx 2) (-j1) ((atv 7 (xx 2) (-j1)) + (1 : Int32))) _ exx_v1)) rfl hl.1 rfl (Nat.le_of_ble_eq_true rfl) dX1_refuse_17 ⟨Nat.le_of_ble_eq_true rfl, Nat.le_of_ble_eq_true rfl⟩ (fun H locs hP hD hS => ?_)
  refine lv_iload_n hx hb dX1_refuse_20 rfl (lv_at hl 1 rfl) ?_
  obtain rfl := Option.some.inj hf
  exact W.iret (v := j1) hx hb hr (fun t ht hW => ⟨⟨j1, (), rfl, rfl, hPt ht hP⟩, hS.F ht⟩) hS.2.2 dX1_refuse_21
set_option maxHeartbeats 4000000 in
set_option maxRecDepth 100000 in
theorem c_X1_letter (l : Launch) (D : va_G) (cI : ClassId) (A : Nat → Nat → Nat) (j1 : Int32) (xx : HS) (xn : HS) (xm : HS) (xk : HS) (out : Int32 × HS) (hf : f_X1_letter j1 xx xn xm xk = some out) : uI l D cI yX1_letter wsX1_letter ({ frames := 2, cells := 0, slots := 0, locals := 43 } : Room) [.ref ((A 0) 0), .int j1] (wX A cI xx xn xm xk) (wX A cI out.2 xn xm xk) out.1 := by
  intro sz
  refine Met.ofW (cc := cX1_letter) (maxL := 2) (ret := (some .int)) (by decide) rfl ?_
  intro p e s m args below meth c s₁ Bd hml hv
  obtain ⟨rfl, hsz, hP, hK, hD0, hN⟩ := hv
  have hx := Bd.exec
  have hb := Bd.bytes
  have hr := Bd.returns
  have hts := atoms_spec (ws := wsX1_letter) Bd.pre
  have hown : s.vm.findClass RX1 = some m.cls := findClass_of_methodNamed Bd.named
  have hlocks := Bd.notSynchronized
  subst hsz
  have hD := hD0.self (sz := s.heap.size)
  generalize hAe : va_A (wX A cI xx xn xm xk) s.heap.size = G at hD ⊢
  have hA : ∀ q : Nat, s.heap.size ≤ q → G q := fun q h => by rw [← hAe]; exact Or.inr h
  have hS : va_S G s.heap s.heap [] := va_S.rf
  have hP : va_P D vwCl (wX A cI xx xn xm xk) s.heap := hP
  have hl := lv_entry ([.ref ((A 0) 0), .int j1]) (n := 2) (Nat.le_of_ble_eq_true rfl)
  rw [lg_entry_eq]
  generalize (lg_sl ([.ref ((A 0) 0), .int j1]) ++ List.replicate (2 - (lg_sl ([.ref ((A 0) 0), .int j1])).length) Slot.unset).toArray = ls at hl ⊢
  have hl : lv_has ls 2 [(0, .ref ((A 0) 0)), (1, .int j1)] := hl
  have hinX : ∀ w ∈ wsX10, w ∈ wsX1_letter := by decide +kernel
  have lk0 := hts (.fieldLink RX1 36 "LiesBoughtBack" "letterCount" "I") (by decide +kernel)
  have lk1 := hts (.fieldLink RX1 22 "LiesBoughtBack" "letters" "[I") (by decide +kernel)
  refine W_in ?_
  intro WW hWW
  refine (hWW _ _ _).mpr ?_
  unfold f_X1_letter at hf
  refine lv_iload_n hx hb dX1_letter_0 rfl (lv_at hl 1 rfl) ?_
  refine lv_if_ge (tgt := 11) hx hb dX1_letter_1 (by decide) (fun c1 => ?_) (fun c1 => ?_)
  · have hf := hT hf c1
    refine lv_iload_n hx hb dX1_letter_11 rfl (lv_at hl 1 rfl) ?_
    refine lv_sipush (v := (255 : Int32)) hx hb dX1_letter_12 (by decide) ?_
    refine lv_icmp_gt (tgt := 27) hx hb dX1_letter_15 (by decide) (fun c2 => ?_) (fun c2 => ?_)
    · have hf := hT hf c2
      refine lv_aload_n hx hb dX1_letter_27 rfl (lv_at hl 0 rfl) ?_
      refine lv_bipush (v := (-6 : Int32)) hx hb dX1_letter_28 (by decide) ?_
      obtain ⟨v3, hev3, hf⟩ := bS hf
      refine qV_i (ws' := (wX A cI v3.2 xn xm xk)) (As := [.int (-6 : Int32)]) (rest := []) ⟨hx, hb, hml, hown, hts⟩ hK hN hA hP hD hS (c_X1_refuse l D cI A (-6 : Int32) xx xn xm xk v3 hev3) (cwV 1 hts gX1_letter_X1_refuse rfl rfl rfl hd_X1_refuse ⟨Nat.le_of_ble_eq_true rfl, Nat.le_of_ble_eq_true rfl⟩) (va_recv hK hP (ci := 1) (q0 := 0) rfl rfl) (bp_X1_X1_xnmk_x A cI xx xn xm xk v3.2) rfl hl.1 rfl (Nat.le_of_ble_eq_true rfl) dX1_letter_30 ⟨Nat.le_of_ble_eq_true rfl, Nat.le_of_ble_eq_true rfl⟩ (fun H locs hP hD hS => ?_)
      have hP : va_P D vwCl (wX A cI v3.2 xn xm xk) H := hP
      obtain rfl := Option.some.inj hf
      exact W.iret (v := v3.1) hx hb hr (fun t ht hW => ⟨⟨v3.1, (), rfl, rfl, hPt ht hP⟩, hS.F ht⟩) hS.2.2 dX1_letter_33
    · have hf := hF hf c2
      refine lv_aload_n hx hb dX1_letter_18 rfl (lv_at hl 0 rfl) ?_
      refine va_get (D := D) (ci := 1) (v := .int (xx 4 0)) (C := RX1) (T := TX1) (N := 9) hx hb hts hinX hown hK hP 0 rfl rfl 5 (by decide) lk0 (fun _ h9 => h9) rfl dX1_letter_19 ?_
      refine lv_bipush (v := (96 : Int32)) hx hb dX1_letter_22 (by decide) ?_
      refine lv_icmp_lt (tgt := 34) hx hb dX1_letter_24 (by decide) (fun c4 => ?_) (fun c4 => ?_)
      · have hf := hT hf c4
        refine lv_aload_n hx hb dX1_letter_34 rfl (lv_at hl 0 rfl) ?_
        refine va_get (D := D) (ci := 1) (v := .ref ((A 0) 1)) (C := RX1) (T := TX1) (N := 9) hx hb hts hinX hown hK hP 0 rfl rfl 4 (by decide) lk1 (fun _ h9 => h9) rfl dX1_letter_35 ?_
        refine lv_aload_n hx hb dX1_letter_38 rfl (lv_at hl 0 rfl) ?_
        refine va_get (D := D) (ci := 1) (v := .int (xx 4 0)) (C := RX1) (T := TX1) (N := 9) hx hb hts hinX hown hK hP 0 rfl rfl 5 (by decide) lk0 (fun _ h9 => h9) rfl dX1_letter_39 ?_
        refine lv_iload_n hx hb dX1_letter_42 rfl (lv_at hl 1 rfl) ?_
        obtain ⟨xx_v5, exx_v5, hf⟩ := jnS hf
        refine qS_v (ws' := (wX A cI xx_v5 xn xm xk)) (As := [.ref ((A 0) 1), .int (xx 4 0), .int j1]) (rest := []) ⟨hx, hb, hml, hown, hts⟩ hK hN hA hP hD hS (c_X1_put l D cI 96 (by decide) ((A 0) 1) (xx 0) (xx 4 0) j1) (va_cwS 3 hts gX1_letter_X1_put rfl rfl rfl hd_X1_put.2 ⟨Nat.le_of_ble_eq_true rfl, Nat.le_of_ble_eq_true rfl⟩) ((bP_X1_x_0 A cI xx xn xm xk (ptv 96 (xx 0) (xx 4 0) j1) _ exx_v5)) rfl hl.1 rfl (Nat.le_of_ble_eq_true rfl) dX1_letter_43 ⟨Nat.le_of_ble_eq_true rfl, Nat.le_of_ble_eq_true rfl⟩ (fun H locs hP hD hS => ?_)
        refine lv_aload_n hx hb dX1_letter_46 rfl (lv_at hl 0 rfl) ?_
        refine lv_dup hx hb dX1_letter_47 rfl ?_
        refine va_get (D := D) (ci := 1) (v := .int (xx_v5 4 0)) (C := RX1) (T := TX1) (N := 9) hx hb hts hinX hown hK hP 0 rfl rfl 5 (by decide) lk0 (fun _ h9 => h9) rfl dX1_letter_48 ?_
        refine lv_iconst (v := (1 : Int32)) hx hb dX1_letter_51 (by decide) ?_
        refine lv_iadd hx hb dX1_letter_52 ?_
        obtain ⟨xx_v6, exx_v6, hf⟩ := jnS hf
        refine va_put (D := D) (ci := 1) (v := .int ((xx_v5 4 0) + (1 : Int32))) (ty := .int) (C := RX1) (T := TX1) (N := 9) hx hb hts hinX tyX1 tyX1_ok nmX1 hown hK hP hD hS 0 rfl rfl 5 (by decide) lk0 (fun _ h9 => h9) rfl (by decide +kernel) rfl rfl (Nat.le_of_ble_eq_true rfl) dX1_letter_53 (fun H locs hP hD hS => ?_)
        have hE : _ = (wX A cI xx_v6 xn xm xk) := ((sf_X1_x_4 A cI xx_v5 xn xm xk ((xx_v5 4 0) + (1 : Int32))).trans (congrArg (fun z => wX A cI z xn xm xk) exx_v6.symm))
        have hP : va_P D vwCl (wX A cI xx_v6 xn xm xk) H := hE ▸ hP
        have hD : va_D G (wX A cI xx_v6 xn xm xk) := hE ▸ hD
        refine lv_aload_n hx hb dX1_letter_56 rfl (lv_at hl 0 rfl) ?_
        refine va_get (D := D) (ci := 1) (v := .int (xx_v6 4 0)) (C := RX1) (T := TX1) (N := 9) hx hb hts hinX hown hK hP 0 rfl rfl 5 (by decide) lk0 (fun _ h9 => h9) rfl dX1_letter_57 ?_
        obtain rfl := Option.some.inj hf
        exact W.iret (v := (xx_v6 4 0)) hx hb hr (fun t ht hW => ⟨⟨(xx_v6 4 0), (), rfl, rfl, hPt ht hP⟩, hS.F ht⟩) hS.2.2 dX1_letter_60
      · have hf := hF hf c4
        refine lv_aload_n hx hb dX1_letter_27 rfl (lv_at hl 0 rfl) ?_
        refine lv_bipush (v := (-6 : Int32)) hx hb dX1_letter_28 (by decide) ?_
        obtain ⟨v7, hev7, hf⟩ := bS hf
        refine qV_i (ws' := (wX A cI v7.2 xn xm xk)) (As := [.int (-6 : Int32)]) (rest := []) ⟨hx, hb, hml, hown, hts⟩ hK hN hA hP hD hS (c_X1_refuse l D cI A (-6 : Int32) xx xn xm xk v7 hev7) (cwV 1 hts gX1_letter_X1_refuse rfl rfl rfl hd_X1_refuse ⟨Nat.le_of_ble_eq_true rfl, Nat.le_of_ble_eq_true rfl⟩) (va_recv hK hP (ci := 1) (q0 := 0) rfl rfl) (bp_X1_X1_xnmk_x A cI xx xn xm xk v7.2) rfl hl.1 rfl (Nat.le_of_ble_eq_true rfl) dX1_letter_30 ⟨Nat.le_of_ble_eq_true rfl, Nat.le_of_ble_eq_true rfl⟩ (fun H locs hP hD hS => ?_)
        have hP : va_P D vwCl (wX A cI v7.2 xn xm xk) H := hP
        obtain rfl := Option.some.inj hf
        exact W.iret (v := v7.1) hx hb hr (fun t ht hW => ⟨⟨v7.1, (), rfl, rfl, hPt ht hP⟩, hS.F ht⟩) hS.2.2 dX1_letter_33
  · have hf := hF hf c1
    refine lv_aload_n hx hb dX1_letter_4 rfl (lv_at hl 0 rfl) ?_
    refine lv_bipush (v := (-4 : Int32)) hx hb dX1_letter_5 (by decide) ?_
    obtain ⟨v8, hev8, hf⟩ := bS hf
    refine qV_i (ws' := (wX A cI v8.2 xn xm xk)) (As := [.int (-4 : Int32)]) (rest := []) ⟨hx, hb, hml, hown, hts⟩ hK hN hA hP hD hS (c_X1_refuse l D cI A (-4 : Int32) xx xn xm xk v8 hev8) (cwV 1 hts gX1_letter_X1_refuse rfl rfl rfl hd_X1_refuse ⟨Nat.le_of_ble_eq_true rfl, Nat.le_of_ble_eq_true rfl⟩) (va_recv hK hP (ci := 1) (q0 := 0) rfl rfl) (bp_X1_X1_xnmk_x A cI xx xn xm xk v8.2) rfl hl.1 rfl (Nat.le_of_ble_eq_true rfl) dX1_letter_7 ⟨Nat.le_of_ble_eq_true rfl, Nat.le_of_ble_eq_true rfl⟩ (fun H locs hP hD hS => ?_)
    have hP : va_P D vwCl (wX A cI v8.2 xn xm xk) H := hP
    obtain rfl := Option.some.inj hf
    exact W.iret (v := v8.1) hx hb hr (fun t ht hW => ⟨⟨v8.1, (), rfl, rfl, hPt ht hP⟩, hS.F ht⟩) hS.2.2 dX1_letter_10
set_option maxHeartbeats 4000000 in
set_option maxRecDepth 100000 in
theorem c_X1_beyond (l : Launch) (D : va_G) (cI : ClassId) (j0 : Int32) (j1 : Int32) (j2 : Int32) (out : Int32) (hf : f_X1_beyond j0 j1 j2 = out) : uI l D cI yX1_beyond wsX1_beyond ({ frames := 0, cells := 0, slots := 0, locals := 0 } : Room) [.int j0, .int j1, .int j2] [] [] out := by
  intro sz
  refine Met.ofW (cc := cX1_beyond) (maxL := 3) (ret := (some .int)) (by decide) rfl ?_
  intro p e s m args below meth c s₁ Bd hml hv
  obtain ⟨rfl, hsz, hP, hK, hD0, hN⟩ := hv
  have hx := Bd.exec
  have hb := Bd.bytes
  have hr := Bd.returns
  have hts := atoms_spec (ws := wsX1_beyond) Bd.pre
  have hown : s.vm.findClass RX1 = some m.cls := findClass_of_methodNamed Bd.named
  have hlocks := Bd.notSynchronized
  subst hsz
  have hD := hD0.self (sz := s.heap.size)
  generalize hAe : va_A [] s.heap.size = G at hD ⊢
  have hA : ∀ q : Nat, s.heap.size ≤ q → G q := fun q h => by rw [← hAe]; exact Or.inr h
  have hS : va_S G s.heap s.heap [] := va_S.rf
  have hP : va_P D vwCl [] s.heap := hP
  have hl := lv_entry ([.int j0, .int j1, .int j2]) (n := 3) (Nat.le_of_ble_eq_true rfl)
  rw [lg_entry_eq]
  generalize (lg_sl ([.int j0, .int j1, .int j2]) ++ List.replicate (3 - (lg_sl ([.int j0, .int j1, .int j2])).length) Slot.unset).toArray = ls at hl ⊢
  have hl : lv_has ls 3 [(0, .int j0), (1, .int j1), (2, .int j2)] := hl
  refine W_in ?_
  intro WW hWW
  refine (hWW _ _ _).mpr ?_
  unfold f_X1_beyond at hf
  refine lv_iload_n hx hb dX1_beyond_0 rfl (lv_at hl 0 rfl) ?_
  refine lv_iload_n hx hb dX1_beyond_1 rfl (lv_at hl 1 rfl) ?_
  refine lv_icmp_ge (tgt := 8) hx hb dX1_beyond_2 (by decide) (fun c1 => ?_) (fun c1 => ?_)
  · have hf := hT hf c1
    refine lv_iload_n hx hb dX1_beyond_8 rfl (lv_at hl 0 rfl) ?_
    refine lv_iload_n hx hb dX1_beyond_9 rfl (lv_at hl 2 rfl) ?_
    refine lv_icmp_le (tgt := 18) hx hb dX1_beyond_10 (by decide) (fun c2 => ?_) (fun c2 => ?_)
    · have hf := hT hf c2
      refine lv_iconst (v := (0 : Int32)) hx hb dX1_beyond_18 (by decide) ?_
      subst hf
      exact W.iret (v := (0 : Int32)) hx hb hr (fun t ht hW => ⟨⟨(0 : Int32), (), rfl, rfl, hPt ht hP⟩, hS.F ht⟩) hS.2.2 dX1_beyond_19
    · have hf := hF hf c2
      refine lv_bipush (v := (-6 : Int32)) hx hb dX1_beyond_13 (by decide) ?_
      refine lv_goto (tgt := 19) hx hb dX1_beyond_15 (by decide) ?_
      subst hf
      exact W.iret (v := (-6 : Int32)) hx hb hr (fun t ht hW => ⟨⟨(-6 : Int32), (), rfl, rfl, hPt ht hP⟩, hS.F ht⟩) hS.2.2 dX1_beyond_19
  · have hf := hF hf c1
    refine lv_bipush (v := (-4 : Int32)) hx hb dX1_beyond_5 (by decide) ?_
    subst hf
    exact W.iret (v := (-4 : Int32)) hx hb hr (fun t ht hW => ⟨⟨(-4 : Int32), (), rfl, rfl, hPt ht hP⟩, hS.F ht⟩) hS.2.2 dX1_beyond_7
set_option maxHeartbeats 4000000 in
set_option maxRecDepth 100000 in
theorem c_X1_pays (l : Launch) (D : va_G) (cI : ClassId) (A : Nat → Nat → Nat) (j1 : Int32) (j2 : Int32) (xx : HS) (xn : HS) (xm : HS) (xk : HS) (out : Int32 × HS × HS) (hf : f_X1_pays j1 j2 xx xn xm xk = some out) : uI l D cI yX1_pays wsX1_pays ({ frames := 2, cells := 0, slots := 0, locals := 43 } : Room) [.ref ((A 0) 0), .int j1, .int j2] (wX A cI xx xn xm xk) (wX A cI out.2.1 out.2.2 xm xk) out.1 := by
  intro sz
  refine Met.ofW (cc := cX1_pays) (maxL := 5) (ret := (some .int)) (by decide) rfl ?_
  intro p e s m args below meth c s₁ Bd hml hv
  obtain ⟨rfl, hsz, hP, hK, hD0, hN⟩ := hv
  have hx := Bd.exec
  have hb := Bd.bytes
  have hr := Bd.returns
  have hts := atoms_spec (ws := wsX1_pays) Bd.pre
  have hown : s.vm.findClass RX1 = some m.cls := findClass_of_methodNamed Bd.named
  have hlocks := Bd.notSynchronized
  subst hsz
  have hD := hD0.self (sz := s.heap.size)
  generalize hAe : va_A (wX A cI xx xn xm xk) s.heap.size = G at hD ⊢
  have hA : ∀ q : Nat, s.heap.size ≤ q → G q := fun q h => by rw [← hAe]; exact Or.inr h
  have hS : va_S G s.heap s.heap [] := va_S.rf
  have hP : va_P D vwCl (wX A cI xx xn xm xk) s.heap := hP
  have hl := lv_entry ([.ref ((A 0) 0), .int j1, .int j2]) (n := 5) (Nat.le_of_ble_eq_true rfl)
  rw [lg_entry_eq]
  generalize (lg_sl ([.ref ((A 0) 0), .int j1, .int j2]) ++ List.replicate (5 - (lg_sl ([.ref ((A 0) 0), .int j1, .int j2])).length) Slot.unset).toArray = ls at hl ⊢
  have hl : lv_has ls 5 [(0, .ref ((A 0) 0)), (1, .int j1), (2, .int j2)] := hl
  have hinH : ∀ w ∈ wsX00, w ∈ wsX1_pays := by decide +kernel
  have hinX : ∀ w ∈ wsX10, w ∈ wsX1_pays := by decide +kernel
  have lk0 := hts (.fieldLink RX1 10 "LiesBoughtBack" "now" "LLiesBoughtBack$Hall;") (by decide +kernel)
  have lk1 := hts (.initialized RX0) (by decide +kernel)
  have lk2 := hts (.instanceMethod yX0_hasBidder) (by decide +kernel)
  have lk3 := hts (.selects RX0 yX0_hasBidder yX0_hasBidder) (by decide +kernel)
  refine W_in ?_
  intro WW hWW
  refine (hWW _ _ _).mpr ?_
  unfold f_X1_pays at hf
  refine lv_aload_n hx hb dX1_pays_0 rfl (lv_at hl 0 rfl) ?_
  refine va_get (D := D) (ci := 1) (v := .ref ((A 1) 0)) (C := RX1) (T := TX1) (N := 9) hx hb hts hinX hown hK hP 0 rfl rfl 0 (by decide) lk0 (fun _ h9 => h9) rfl dX1_pays_1 ?_
  refine lv_iload_n hx hb dX1_pays_4 rfl (lv_at hl 1 rfl) ?_
  refine qVN_i (As := [.int j1]) (rest := []) ⟨hx, hb, hml, hown, hts⟩ hK hN hA hP hD hS (c_X0_hasBidder l D cI (A 1) j1 xn (f_X0_hasBidder j1 xn) rfl) ⟨va_cnB 1 hts gX1_pays_X0_hasBidder_n59 rfl rfl rfl (nW.m hN 13 rfl) lk1 hd_X0_hasBidder.2 ⟨Nat.le_of_ble_eq_true rfl, Nat.le_of_ble_eq_true rfl⟩, lk2, lk3⟩ (va_recv hK hP (ci := 0) (q0 := 1) rfl rfl) (bq_X1_X0_n A cI xx xn xm xk) rfl hl.1 rfl (Nat.le_of_ble_eq_true rfl) dX1_pays_5 ⟨Nat.le_of_ble_eq_true rfl, Nat.le_of_ble_eq_true rfl⟩ (fun H locs hP hD hS => ?_)
  refine lv_if_ne (tgt := 17) hx hb dX1_pays_8 (by decide) (fun c1 => ?_) (fun c1 => ?_)
  · have hf := hF hf c1
    refine lv_iload_n hx hb dX1_pays_17 rfl (lv_at hl 2 rfl) ?_
    refine lv_iconst (v := (0 : Int32)) hx hb dX1_pays_18 (by decide) ?_
    refine lv_sipush (v := (999 : Int32)) hx hb dX1_pays_19 (by decide) ?_
    refine qS_i (As := [.int j2, .int (0 : Int32), .int (999 : Int32)]) (rest := []) ⟨hx, hb, hml, hown, hts⟩ hK hN hA hP hD hS (c_X1_beyond l D cI j2 (0 : Int32) (999 : Int32) (f_X1_beyond j2 (0 : Int32) (999 : Int32)) rfl) (va_cwS 3 hts gX1_pays_X1_beyond rfl rfl rfl hd_X1_beyond.2 ⟨Nat.le_of_ble_eq_true rfl, Nat.le_of_ble_eq_true rfl⟩) Bp_e rfl hl.1 rfl (Nat.le_of_ble_eq_true rfl) dX1_pays_22 ⟨Nat.le_of_ble_eq_true rfl, Nat.le_of_ble_eq_true rfl⟩ (fun H locs hP hD hS => ?_)
    refine lv_istore_n (lv' := [(3, .int (f_X1_beyond j2 (0 : Int32) (999 : Int32))), (0, .ref ((A 0) 0)), (1, .int j1), (2, .int j2)]) hx hb dX1_pays_25 rfl hl (by decide) rfl (fun ls hl => ?_)
    refine lv_iload_n hx hb dX1_pays_26 rfl (lv_at hl 0 rfl) ?_
    refine lv_if_eq (tgt := 36) hx hb dX1_pays_27 (by decide) (fun c2 => ?_) (fun c2 => ?_)
    · have hf := hT hf c2
      refine lv_aload_n hx hb dX1_pays_36 rfl (lv_at hl 1 rfl) ?_
      refine va_get (D := D) (ci := 1) (v := .ref ((A 1) 0)) (C := RX1) (T := TX1) (N := 9) hx hb hts hinX hown hK hP 0 rfl rfl 0 (by decide) lk0 (fun _ h9 => h9) rfl dX1_pays_37 ?_
      refine va_getN (D := D) (ci := 0) (v := .ref ((A 1) 9)) (C := RX0) (T := TX0) (N := 13) hx hb hts hinH hown hK hP 1 rfl rfl 11 (by decide) (nW.f hN 10 rfl) (fun _ h9 => h9) rfl dX1_pays_40 ?_
      refine lv_iload_n hx hb dX1_pays_43 rfl (lv_at hl 2 rfl) ?_
      refine qS_i (As := [.ref ((A 1) 9), .int j1]) (rest := []) ⟨hx, hb, hml, hown, hts⟩ hK hN hA hP hD hS (c_X1_at l D cI 6 (by decide) ((A 1) 9) (xn 8) j1) (va_cwS 2 hts gX1_pays_X1_at rfl rfl rfl hd_X1_at.2 ⟨Nat.le_of_ble_eq_true rfl, Nat.le_of_ble_eq_true rfl⟩) (bA_X1_n_8 A cI xx xn xm xk) rfl hl.1 rfl (Nat.le_of_ble_eq_true rfl) dX1_pays_44 ⟨Nat.le_of_ble_eq_true rfl, Nat.le_of_ble_eq_true rfl⟩ (fun H locs hP hD hS => ?_)
      refine lv_istore (lv' := [(4, .int (atv 6 (xn 8) j1)), (3, .int (f_X1_beyond j2 (0 : Int32) (999 : Int32))), (0, .ref ((A 0) 0)), (1, .int j1), (2, .int j2)]) hx hb dX1_pays_47 hl (by decide) rfl (fun ls hl => ?_)
      refine lv_aload_n hx hb dX1_pays_49 rfl (lv_at hl 2 rfl) ?_
      refine va_get (D := D) (ci := 1) (v := .ref ((A 1) 0)) (C := RX1) (T := TX1) (N := 9) hx hb hts hinX hown hK hP 0 rfl rfl 0 (by decide) lk0 (fun _ h9 => h9) rfl dX1_pays_50 ?_
      refine va_getN (D := D) (ci := 0) (v := .ref ((A 1) 9)) (C := RX0) (T := TX0) (N := 13) hx hb hts hinH hown hK hP 1 rfl rfl 11 (by decide) (nW.f hN 10 rfl) (fun _ h9 => h9) rfl dX1_pays_53 ?_
      refine lv_iload_n hx hb dX1_pays_56 rfl (lv_at hl 3 rfl) ?_
      refine lv_iload_n hx hb dX1_pays_57 rfl (lv_at hl 4 rfl) ?_
      obtain ⟨xn_v3, exn_v3, hf⟩ := jnS hf
      refine qS_v (ws' := (wX A cI xx xn_v3 xm xk)) (As := [.ref ((A 1) 9), .int j1, .int j2]) (rest := []) ⟨hx, hb, hml, hown, hts⟩ hK hN hA hP hD hS (c_X1_put l D cI 6 (by decide) ((A 1) 9) (xn 8) j1 j2) (va_cwS 3 hts gX1_pays_X1_put rfl rfl rfl hd_X1_put.2 ⟨Nat.le_of_ble_eq_true rfl, Nat.le_of_ble_eq_true rfl⟩) ((bP_X1_n_8 A cI xx xn xm xk (ptv 6 (xn 8) j1 j2) _ exn_v3)) rfl hl.1 rfl (Nat.le_of_ble_eq_true rfl) dX1_pays_58 ⟨Nat.le_of_ble_eq_true rfl, Nat.le_of_ble_eq_true rfl⟩ (fun H locs hP hD hS => ?_)
      refine lv_iload hx hb dX1_pays_61 (lv_at hl 0 rfl) ?_
      obtain rfl := Option.some.inj hf
      exact W.iret (v := (atv 6 (xn 8) j1)) hx hb hr (fun t ht hW => ⟨⟨(atv 6 (xn 8) j1), (), rfl, rfl, hPt ht hP⟩, hS.F ht⟩) hS.2.2 dX1_pays_63
    · have hf := hF hf c2
      refine lv_aload_n hx hb dX1_pays_30 rfl (lv_at hl 1 rfl) ?_
      refine lv_iload_n hx hb dX1_pays_31 rfl (lv_at hl 0 rfl) ?_
      obtain ⟨v4, hev4, hf⟩ := bS hf
      refine qV_i (ws' := (wX A cI v4.2 xn xm xk)) (As := [.int (f_X1_beyond j2 (0 : Int32) (999 : Int32))]) (rest := []) ⟨hx, hb, hml, hown, hts⟩ hK hN hA hP hD hS (c_X1_refuse l D cI A (f_X1_beyond j2 (0 : Int32) (999 : Int32)) xx xn xm xk v4 hev4) (cwV 1 hts gX1_pays_X1_refuse rfl rfl rfl hd_X1_refuse ⟨Nat.le_of_ble_eq_true rfl, Nat.le_of_ble_eq_true rfl⟩) (va_recv hK hP (ci := 1) (q0 := 0) rfl rfl) (bp_X1_X1_xnmk_x A cI xx xn xm xk v4.2) rfl hl.1 rfl (Nat.le_of_ble_eq_true rfl) dX1_pays_32 ⟨Nat.le_of_ble_eq_true rfl, Nat.le_of_ble_eq_true rfl⟩ (fun H locs hP hD hS => ?_)
      have hP : va_P D vwCl (wX A cI v4.2 xn xm xk) H := hP
      obtain rfl := Option.some.inj hf
      exact W.iret (v := v4.1) hx hb hr (fun t ht hW => ⟨⟨v4.1, (), rfl, rfl, hPt ht hP⟩, hS.F ht⟩) hS.2.2 dX1_pays_35
  · have hf := hT hf c1
    refine lv_aload_n hx hb dX1_pays_11 rfl (lv_at hl 0 rfl) ?_
    refine lv_iconst (v := (-1 : Int32)) hx hb dX1_pays_12 (by decide) ?_
    obtain ⟨v5, hev5, hf⟩ := bS hf
    refine qV_i (ws' := (wX A cI v5.2 xn xm xk)) (As := [.int (-1 : Int32)]) (rest := []) ⟨hx, hb, hml, hown, hts⟩ hK hN hA hP hD hS (c_X1_refuse l D cI A (-1 : Int32) xx xn xm xk v5 hev5) (cwV 1 hts gX1_pays_X1_refuse rfl rfl rfl hd_X1_refuse ⟨Nat.le_of_ble_eq_true rfl, Nat.le_of_ble_eq_true rfl⟩) (va_recv hK hP (ci := 1) (q0 := 0) rfl rfl) (bp_X1_X1_xnmk_x A cI xx xn xm xk v5.2) rfl hl.1 rfl (Nat.le_of_ble_eq_true rfl) dX1_pays_13 ⟨Nat.le_of_ble_eq_true rfl, Nat.le_of_ble_eq_true rfl⟩ (fun H locs hP hD hS => ?_)
    have hP : va_P D vwCl (wX A cI v5.2 xn xm xk) H := hP
    obtain rfl := Option.some.inj hf
    exact W.iret (v := v5.1) hx hb hr (fun t ht hW => ⟨⟨v5.1, (), rfl, rfl, hPt ht hP⟩, hS.F ht⟩) hS.2.2 dX1_pays_16
set_option maxHeartbeats 4000000 in
set_option maxRecDepth 100000 in
theorem c_X1_returns (l : Launch) (D : va_G) (cI : ClassId) (A : Nat → Nat → Nat) (j1 : Int32) (xx : HS) (xn : HS) (xm : HS) (xk : HS) (out : Int32 × HS × HS) (hf : f_X1_returns j1 xx xn xm xk = some out) : uI l D cI yX1_returns wsX1_returns ({ frames := 2, cells := 0, slots := 0, locals := 43 } : Room) [.ref ((A 0) 0), .int j1] (wX A cI xx xn xm xk) (wX A cI out.2.1 out.2.2 xm xk) out.1 := by
  intro sz
  refine Met.ofW (cc := cX1_returns) (maxL := 3) (ret := (some .int)) (by decide) rfl ?_
  intro p e s m args below meth c s₁ Bd hml hv
  obtain ⟨rfl, hsz, hP, hK, hD0, hN⟩ := hv
  have hx := Bd.exec
  have hb := Bd.bytes
  have hr := Bd.returns
  have hts := atoms_spec (ws := wsX1_returns) Bd.pre
  have hown : s.vm.findClass RX1 = some m.cls := findClass_of_methodNamed Bd.named
  have hlocks := Bd.notSynchronized
  subst hsz
  have hD := hD0.self (sz := s.heap.size)
  generalize hAe : va_A (wX A cI xx xn xm xk) s.heap.size = G at hD ⊢
  have hA : ∀ q : Nat, s.heap.size ≤ q → G q := fun q h => by rw [← hAe]; exact Or.inr h
  have hS : va_S G s.heap s.heap [] := va_S.rf
  have hP : va_P D vwCl (wX A cI xx xn xm xk) s.heap := hP
  have hl := lv_entry ([.ref ((A 0) 0), .int j1]) (n := 3) (Nat.le_of_ble_eq_true rfl)
  rw [lg_entry_eq]
  generalize (lg_sl ([.ref ((A 0) 0), .int j1]) ++ List.replicate (3 - (lg_sl ([.ref ((A 0) 0), .int j1])).length) Slot.unset).toArray = ls at hl ⊢
  have hl : lv_has ls 3 [(0, .ref ((A 0) 0)), (1, .int j1)] := hl
  have hinH : ∀ w ∈ wsX00, w ∈ wsX1_returns := by decide +kernel
  have hinX : ∀ w ∈ wsX10, w ∈ wsX1_returns := by decide +kernel
  have lk0 := hts (.fieldLink RX1 10 "LiesBoughtBack" "now" "LLiesBoughtBack$Hall;") (by decide +kernel)
  have lk1 := hts (.initialized RX0) (by decide +kernel)
  have lk2 := hts (.instanceMethod yX0_hasCard) (by decide +kernel)
  have lk3 := hts (.selects RX0 yX0_hasCard yX0_hasCard) (by decide +kernel)
  have lk4 := hts (.instanceMethod yX0_inPile) (by decide +kernel)
  have lk5 := hts (.selects RX0 yX0_inPile yX0_inPile) (by decide +kernel)
  refine W_in ?_
  intro WW hWW
  refine (hWW _ _ _).mpr ?_
  unfold f_X1_returns at hf
  refine lv_aload_n hx hb dX1_returns_0 rfl (lv_at hl 0 rfl) ?_
  refine va_get (D := D) (ci := 1) (v := .ref ((A 1) 0)) (C := RX1) (T := TX1) (N := 9) hx hb hts hinX hown hK hP 0 rfl rfl 0 (by decide) lk0 (fun _ h9 => h9) rfl dX1_returns_1 ?_
  refine lv_iload_n hx hb dX1_returns_4 rfl (lv_at hl 1 rfl) ?_
  refine qVN_i (As := [.int j1]) (rest := []) ⟨hx, hb, hml, hown, hts⟩ hK hN hA hP hD hS (c_X0_hasCard l D cI (A 1) j1 xn (f_X0_hasCard j1 xn) rfl) ⟨va_cnB 1 hts gX1_returns_X0_hasCard_n69 rfl rfl rfl (nW.m hN 14 rfl) lk1 hd_X0_hasCard.2 ⟨Nat.le_of_ble_eq_true rfl, Nat.le_of_ble_eq_true rfl⟩, lk2, lk3⟩ (va_recv hK hP (ci := 0) (q0 := 1) rfl rfl) (bq_X1_X0_n A cI xx xn xm xk) rfl hl.1 rfl (Nat.le_of_ble_eq_true rfl) dX1_returns_5 ⟨Nat.le_of_ble_eq_true rfl, Nat.le_of_ble_eq_true rfl⟩ (fun H locs hP hD hS => ?_)
  refine lv_if_ne (tgt := 17) hx hb dX1_returns_8 (by decide) (fun c1 => ?_) (fun c1 => ?_)
  · have hf := hF hf c1
    refine lv_aload_n hx hb dX1_returns_17 rfl (lv_at hl 0 rfl) ?_
    refine va_get (D := D) (ci := 1) (v := .ref ((A 1) 0)) (C := RX1) (T := TX1) (N := 9) hx hb hts hinX hown hK hP 0 rfl rfl 0 (by decide) lk0 (fun _ h9 => h9) rfl dX1_returns_18 ?_
    refine lv_iload_n hx hb dX1_returns_21 rfl (lv_at hl 1 rfl) ?_
    refine qVN_i (As := [.int j1]) (rest := []) ⟨hx, hb, hml, hown, hts⟩ hK hN hA hP hD hS (c_X0_inPile l D cI (A 1) j1 xn (f_X0_inPile j1 xn) rfl) ⟨va_cnB 1 hts gX1_returns_X0_inPile_n72 rfl rfl rfl (nW.m hN 15 rfl) lk1 hd_X0_inPile.2 ⟨Nat.le_of_ble_eq_true rfl, Nat.le_of_ble_eq_true rfl⟩, lk4, lk5⟩ (va_recv hK hP (ci := 0) (q0 := 1) rfl rfl) (bq_X1_X0_n A cI xx xn xm xk) rfl hl.1 rfl (Nat.le_of_ble_eq_true rfl) dX1_returns_22 ⟨Nat.le_of_ble_eq_true rfl, Nat.le_of_ble_eq_true rfl⟩ (fun H locs hP hD hS => ?_)
    refine lv_if_eq (tgt := 35) hx hb dX1_returns_25 (by decide) (fun c2 => ?_) (fun c2 => ?_)
    · have hf := hT hf c2
      refine lv_aload_n hx hb dX1_returns_35 rfl (lv_at hl 0 rfl) ?_
      refine va_get (D := D) (ci := 1) (v := .ref ((A 1) 0)) (C := RX1) (T := TX1) (N := 9) hx hb hts hinX hown hK hP 0 rfl rfl 0 (by decide) lk0 (fun _ h9 => h9) rfl dX1_returns_36 ?_
      refine va_getN (D := D) (ci := 0) (v := .ref ((A 1) 5)) (C := RX0) (T := TX0) (N := 13) hx hb hts hinH hown hK hP 1 rfl rfl 7 (by decide) (nW.f hN 7 rfl) (fun _ h9 => h9) rfl dX1_returns_39 ?_
      refine lv_iload_n hx hb dX1_returns_42 rfl (lv_at hl 1 rfl) ?_
      refine qS_i (As := [.ref ((A 1) 5), .int j1]) (rest := []) ⟨hx, hb, hml, hown, hts⟩ hK hN hA hP hD hS (c_X1_at l D cI 8 (by decide) ((A 1) 5) (xn 4) j1) (va_cwS 2 hts gX1_returns_X1_at rfl rfl rfl hd_X1_at.2 ⟨Nat.le_of_ble_eq_true rfl, Nat.le_of_ble_eq_true rfl⟩) (bA_X1_n_4 A cI xx xn xm xk) rfl hl.1 rfl (Nat.le_of_ble_eq_true rfl) dX1_returns_43 ⟨Nat.le_of_ble_eq_true rfl, Nat.le_of_ble_eq_true rfl⟩ (fun H locs hP hD hS => ?_)
      refine lv_istore_n (lv' := [(2, .int (atv 8 (xn 4) j1)), (0, .ref ((A 0) 0)), (1, .int j1)]) hx hb dX1_returns_46 rfl hl (by decide) rfl (fun ls hl => ?_)
      refine lv_aload_n hx hb dX1_returns_47 rfl (lv_at hl 1 rfl) ?_
      refine va_get (D := D) (ci := 1) (v := .ref ((A 1) 0)) (C := RX1) (T := TX1) (N := 9) hx hb hts hinX hown hK hP 0 rfl rfl 0 (by decide) lk0 (fun _ h9 => h9) rfl dX1_returns_48 ?_
      refine va_getN (D := D) (ci := 0) (v := .ref ((A 1) 5)) (C := RX0) (T := TX0) (N := 13) hx hb hts hinH hown hK hP 1 rfl rfl 7 (by decide) (nW.f hN 7 rfl) (fun _ h9 => h9) rfl dX1_returns_51 ?_
      refine lv_iload_n hx hb dX1_returns_54 rfl (lv_at hl 2 rfl) ?_
      refine lv_bipush (v := (-9 : Int32)) hx hb dX1_returns_55 (by decide) ?_
      obtain ⟨xn_v3, exn_v3, hf⟩ := jnS hf
      refine qS_v (ws' := (wX A cI xx xn_v3 xm xk)) (As := [.ref ((A 1) 5), .int j1, .int (-9 : Int32)]) (rest := []) ⟨hx, hb, hml, hown, hts⟩ hK hN hA hP hD hS (c_X1_put l D cI 8 (by decide) ((A 1) 5) (xn 4) j1 (-9 : Int32)) (va_cwS 3 hts gX1_returns_X1_put rfl rfl rfl hd_X1_put.2 ⟨Nat.le_of_ble_eq_true rfl, Nat.le_of_ble_eq_true rfl⟩) ((bP_X1_n_4 A cI xx xn xm xk (ptv 8 (xn 4) j1 (-9 : Int32)) _ exn_v3)) rfl hl.1 rfl (Nat.le_of_ble_eq_true rfl) dX1_returns_57 ⟨Nat.le_of_ble_eq_true rfl, Nat.le_of_ble_eq_true rfl⟩ (fun H locs hP hD hS => ?_)
      refine lv_iload_n hx hb dX1_returns_60 rfl (lv_at hl 0 rfl) ?_
      obtain rfl := Option.some.inj hf
      exact W.iret (v := (atv 8 (xn 4) j1)) hx hb hr (fun t ht hW => ⟨⟨(atv 8 (xn 4) j1), (), rfl, rfl, hPt ht hP⟩, hS.F ht⟩) hS.2.2 dX1_returns_61
    · have hf := hF hf c2
      refine lv_aload_n hx hb dX1_returns_28 rfl (lv_at hl 0 rfl) ?_
      refine lv_bipush (v := (-3 : Int32)) hx hb dX1_returns_29 (by decide) ?_
      obtain ⟨v4, hev4, hf⟩ := bS hf
      refine qV_i (ws' := (wX A cI v4.2 xn xm xk)) (As := [.int (-3 : Int32)]) (rest := []) ⟨hx, hb, hml, hown, hts⟩ hK hN hA hP hD hS (c_X1_refuse l D cI A (-3 : Int32) xx xn xm xk v4 hev4) (cwV 1 hts gX1_returns_X1_refuse rfl rfl rfl hd_X1_refuse ⟨Nat.le_of_ble_eq_true rfl, Nat.le_of_ble_eq_true rfl⟩) (va_recv hK hP (ci := 1) (q0 := 0) rfl rfl) (bp_X1_X1_xnmk_x A cI xx xn xm xk v4.2) rfl hl.1 rfl (Nat.le_of_ble_eq_true rfl) dX1_returns_31 ⟨Nat.le_of_ble_eq_true rfl, Nat.le_of_ble_eq_true rfl⟩ (fun H locs hP hD hS => ?_)
      have hP : va_P D vwCl (wX A cI v4.2 xn xm xk) H := hP
      obtain rfl := Option.some.inj hf
      exact W.iret (v := v4.1) hx hb hr (fun t ht hW => ⟨⟨v4.1, (), rfl, rfl, hPt ht hP⟩, hS.F ht⟩) hS.2.2 dX1_returns_34
  · have hf := hT hf c1
    refine lv_aload_n hx hb dX1_returns_11 rfl (lv_at hl 0 rfl) ?_
    refine lv_iconst (v := (-1 : Int32)) hx hb dX1_returns_12 (by decide) ?_
    obtain ⟨v5, hev5, hf⟩ := bS hf
    refine qV_i (ws' := (wX A cI v5.2 xn xm xk)) (As := [.int (-1 : Int32)]) (rest := []) ⟨hx, hb, hml, hown, hts⟩ hK hN hA hP hD hS (c_X1_refuse l D cI A (-1 : Int32) xx xn xm xk v5 hev5) (cwV 1 hts gX1_returns_X1_refuse rfl rfl rfl hd_X1_refuse ⟨Nat.le_of_ble_eq_true rfl, Nat.le_of_ble_eq_true rfl⟩) (va_recv hK hP (ci := 1) (q0 := 0) rfl rfl) (bp_X1_X1_xnmk_x A cI xx xn xm xk v5.2) rfl hl.1 rfl (Nat.le_of_ble_eq_true rfl) dX1_returns_13 ⟨Nat.le_of_ble_eq_true rfl, Nat.le_of_ble_eq_true rfl⟩ (fun H locs hP hD hS => ?_)
    have hP : va_P D vwCl (wX A cI v5.2 xn xm xk) H := hP
    obtain rfl := Option.some.inj hf
    exact W.iret (v := v5.1) hx hb hr (fun t ht hW => ⟨⟨v5.1, (), rfl, rfl, hPt ht hP⟩, hS.F ht⟩) hS.2.2 dX1_returns_16
set_option maxHeartbeats 4000000 in
set_option maxRecDepth 100000 in
theorem c_X1_gives (l : Launch) (D : va_G) (cI : ClassId) (A : Nat → Nat → Nat) (j1 : Int32) (j2 : Int32) (xx : HS) (xn : HS) (xm : HS) (xk : HS) (out : Int32 × HS × HS) (hf : f_X1_gives j1 j2 xx xn xm xk = some out) : uI l D cI yX1_gives wsX1_gives ({ frames := 2, cells := 0, slots := 0, locals := 43 } : Room) [.ref ((A 0) 0), .int j1, .int j2] (wX A cI xx xn xm xk) (wX A cI out.2.1 out.2.2 xm xk) out.1 := by
  intro sz
  refine Met.ofW (cc := cX1_gives) (maxL := 4) (ret := (some .int)) (by decide) rfl ?_
  intro p e s m args below meth c s₁ Bd hml hv
  obtain ⟨rfl, hsz, hP, hK, hD0, hN⟩ := hv
  have hx := Bd.exec
  have hb := Bd.bytes
  have hr := Bd.returns
  have hts := atoms_spec (ws := wsX1_gives) Bd.pre
  have hown : s.vm.findClass RX1 = some m.cls := findClass_of_methodNamed Bd.named
  have hlocks := Bd.notSynchronized
  subst hsz
  have hD := hD0.self (sz := s.heap.size)
  generalize hAe : va_A (wX A cI xx xn xm xk) s.heap.size = G at hD ⊢
  have hA : ∀ q : Nat, s.heap.size ≤ q → G q := fun q h => by rw [← hAe]; exact Or.inr h
  have hS : va_S G s.heap s.heap [] := va_S.rf
  have hP : va_P D vwCl (wX A cI xx xn xm xk) s.heap := hP
  have hl := lv_entry ([.ref ((A 0) 0), .int j1, .int j2]) (n := 4) (Nat.le_of_ble_eq_true rfl)
  rw [lg_entry_eq]
  generalize (lg_sl ([.ref ((A 0) 0), .int j1, .int j2]) ++ List.replicate (4 - (lg_sl ([.ref ((A 0) 0), .int j1, .int j2])).length) Slot.unset).toArray = ls at hl ⊢
  have hl : lv_has ls 4 [(0, .ref ((A 0) 0)), (1, .int j1), (2, .int j2)] := hl
  have hinH : ∀ w ∈ wsX00, w ∈ wsX1_gives := by decide +kernel
  have hinX : ∀ w ∈ wsX10, w ∈ wsX1_gives := by decide +kernel
  have lk0 := hts (.fieldLink RX1 10 "LiesBoughtBack" "now" "LLiesBoughtBack$Hall;") (by decide +kernel)
  have lk1 := hts (.initialized RX0) (by decide +kernel)
  have lk2 := hts (.instanceMethod yX0_hasCard) (by decide +kernel)
  have lk3 := hts (.selects RX0 yX0_hasCard yX0_hasCard) (by decide +kernel)
  have lk4 := hts (.instanceMethod yX0_hasBidder) (by decide +kernel)
  have lk5 := hts (.selects RX0 yX0_hasBidder yX0_hasBidder) (by decide +kernel)
  refine W_in ?_
  intro WW hWW
  refine (hWW _ _ _).mpr ?_
  unfold f_X1_gives at hf
  refine lv_aload_n hx hb dX1_gives_0 rfl (lv_at hl 0 rfl) ?_
  refine va_get (D := D) (ci := 1) (v := .ref ((A 1) 0)) (C := RX1) (T := TX1) (N := 9) hx hb hts hinX hown hK hP 0 rfl rfl 0 (by decide) lk0 (fun _ h9 => h9) rfl dX1_gives_1 ?_
  refine lv_iload_n hx hb dX1_gives_4 rfl (lv_at hl 1 rfl) ?_
  refine qVN_i (As := [.int j1]) (rest := []) ⟨hx, hb, hml, hown, hts⟩ hK hN hA hP hD hS (c_X0_hasCard l D cI (A 1) j1 xn (f_X0_hasCard j1 xn) rfl) ⟨va_cnB 1 hts gX1_gives_X0_hasCard_n69 rfl rfl rfl (nW.m hN 14 rfl) lk1 hd_X0_hasCard.2 ⟨Nat.le_of_ble_eq_true rfl, Nat.le_of_ble_eq_true rfl⟩, lk2, lk3⟩ (va_recv hK hP (ci := 0) (q0 := 1) rfl rfl) (bq_X1_X0_n A cI xx xn xm xk) rfl hl.1 rfl (Nat.le_of_ble_eq_true rfl) dX1_gives_5 ⟨Nat.le_of_ble_eq_true rfl, Nat.le_of_ble_eq_true rfl⟩ (fun H locs hP hD hS => ?_)
  refine lv_if_eq (tgt := 22) hx hb dX1_gives_8 (by decide) (fun c1 => ?_) (fun c1 => ?_)
  · have hf := hT hf c1
    refine lv_aload_n hx hb dX1_gives_22 rfl (lv_at hl 0 rfl) ?_
    refine lv_iconst (v := (-1 : Int32)) hx hb dX1_gives_23 (by decide) ?_
    obtain ⟨v2, hev2, hf⟩ := bS hf
    refine qV_i (ws' := (wX A cI v2.2 xn xm xk)) (As := [.int (-1 : Int32)]) (rest := []) ⟨hx, hb, hml, hown, hts⟩ hK hN hA hP hD hS (c_X1_refuse l D cI A (-1 : Int32) xx xn xm xk v2 hev2) (cwV 1 hts gX1_gives_X1_refuse rfl rfl rfl hd_X1_refuse ⟨Nat.le_of_ble_eq_true rfl, Nat.le_of_ble_eq_true rfl⟩) (va_recv hK hP (ci := 1) (q0 := 0) rfl rfl) (bp_X1_X1_xnmk_x A cI xx xn xm xk v2.2) rfl hl.1 rfl (Nat.le_of_ble_eq_true rfl) dX1_gives_24 ⟨Nat.le_of_ble_eq_true rfl, Nat.le_of_ble_eq_true rfl⟩ (fun H locs hP hD hS => ?_)
    have hP : va_P D vwCl (wX A cI v2.2 xn xm xk) H := hP
    obtain rfl := Option.some.inj hf
    exact W.iret (v := v2.1) hx hb hr (fun t ht hW => ⟨⟨v2.1, (), rfl, rfl, hPt ht hP⟩, hS.F ht⟩) hS.2.2 dX1_gives_27
  · have hf := hF hf c1
    refine lv_aload_n hx hb dX1_gives_11 rfl (lv_at hl 0 rfl) ?_
    refine va_get (D := D) (ci := 1) (v := .ref ((A 1) 0)) (C := RX1) (T := TX1) (N := 9) hx hb hts hinX hown hK hP 0 rfl rfl 0 (by decide) lk0 (fun _ h9 => h9) rfl dX1_gives_12 ?_
    refine lv_iload_n hx hb dX1_gives_15 rfl (lv_at hl 2 rfl) ?_
    refine qVN_i (As := [.int j2]) (rest := []) ⟨hx, hb, hml, hown, hts⟩ hK hN hA hP hD hS (c_X0_hasBidder l D cI (A 1) j2 xn (f_X0_hasBidder j2 xn) rfl) ⟨va_cnB 1 hts gX1_gives_X0_hasBidder_n59 rfl rfl rfl (nW.m hN 13 rfl) lk1 hd_X0_hasBidder.2 ⟨Nat.le_of_ble_eq_true rfl, Nat.le_of_ble_eq_true rfl⟩, lk4, lk5⟩ (va_recv hK hP (ci := 0) (q0 := 1) rfl rfl) (bq_X1_X0_n A cI xx xn xm xk) rfl hl.1 rfl (Nat.le_of_ble_eq_true rfl) dX1_gives_16 ⟨Nat.le_of_ble_eq_true rfl, Nat.le_of_ble_eq_true rfl⟩ (fun H locs hP hD hS => ?_)
    refine lv_if_ne (tgt := 28) hx hb dX1_gives_19 (by decide) (fun c3 => ?_) (fun c3 => ?_)
    · have hf := hF hf c3
      refine lv_aload_n hx hb dX1_gives_28 rfl (lv_at hl 0 rfl) ?_
      refine va_get (D := D) (ci := 1) (v := .ref ((A 1) 0)) (C := RX1) (T := TX1) (N := 9) hx hb hts hinX hown hK hP 0 rfl rfl 0 (by decide) lk0 (fun _ h9 => h9) rfl dX1_gives_29 ?_
      refine va_getN (D := D) (ci := 0) (v := .ref ((A 1) 5)) (C := RX0) (T := TX0) (N := 13) hx hb hts hinH hown hK hP 1 rfl rfl 7 (by decide) (nW.f hN 7 rfl) (fun _ h9 => h9) rfl dX1_gives_32 ?_
      refine lv_iload_n hx hb dX1_gives_35 rfl (lv_at hl 1 rfl) ?_
      refine qS_i (As := [.ref ((A 1) 5), .int j1]) (rest := []) ⟨hx, hb, hml, hown, hts⟩ hK hN hA hP hD hS (c_X1_at l D cI 8 (by decide) ((A 1) 5) (xn 4) j1) (va_cwS 2 hts gX1_gives_X1_at rfl rfl rfl hd_X1_at.2 ⟨Nat.le_of_ble_eq_true rfl, Nat.le_of_ble_eq_true rfl⟩) (bA_X1_n_4 A cI xx xn xm xk) rfl hl.1 rfl (Nat.le_of_ble_eq_true rfl) dX1_gives_36 ⟨Nat.le_of_ble_eq_true rfl, Nat.le_of_ble_eq_true rfl⟩ (fun H locs hP hD hS => ?_)
      refine lv_istore_n (lv' := [(3, .int (atv 8 (xn 4) j1)), (0, .ref ((A 0) 0)), (1, .int j1), (2, .int j2)]) hx hb dX1_gives_39 rfl hl (by decide) rfl (fun ls hl => ?_)
      refine lv_aload_n hx hb dX1_gives_40 rfl (lv_at hl 1 rfl) ?_
      refine va_get (D := D) (ci := 1) (v := .ref ((A 1) 0)) (C := RX1) (T := TX1) (N := 9) hx hb hts hinX hown hK hP 0 rfl rfl 0 (by decide) lk0 (fun _ h9 => h9) rfl dX1_gives_41 ?_
      refine va_getN (D := D) (ci := 0) (v := .ref ((A 1) 5)) (C := RX0) (T := TX0) (N := 13) hx hb hts hinH hown hK hP 1 rfl rfl 7 (by decide) (nW.f hN 7 rfl) (fun _ h9 => h9) rfl dX1_gives_44 ?_
      refine lv_iload_n hx hb dX1_gives_47 rfl (lv_at hl 2 rfl) ?_
      refine lv_iload_n hx hb dX1_gives_48 rfl (lv_at hl 3 rfl) ?_
      obtain ⟨xn_v4, exn_v4, hf⟩ := jnS hf
      refine qS_v (ws' := (wX A cI xx xn_v4 xm xk)) (As := [.ref ((A 1) 5), .int j1, .int j2]) (rest := []) ⟨hx, hb, hml, hown, hts⟩ hK hN hA hP hD hS (c_X1_put l D cI 8 (by decide) ((A 1) 5) (xn 4) j1 j2) (va_cwS 3 hts gX1_gives_X1_put rfl rfl rfl hd_X1_put.2 ⟨Nat.le_of_ble_eq_true rfl, Nat.le_of_ble_eq_true rfl⟩) ((bP_X1_n_4 A cI xx xn xm xk (ptv 8 (xn 4) j1 j2) _ exn_v4)) rfl hl.1 rfl (Nat.le_of_ble_eq_true rfl) dX1_gives_49 ⟨Nat.le_of_ble_eq_true rfl, Nat.le_of_ble_eq_true rfl⟩ (fun H locs hP hD hS => ?_)
      refine lv_iload_n hx hb dX1_gives_52 rfl (lv_at hl 0 rfl) ?_
      obtain rfl := Option.some.inj hf
      exact W.iret (v := (atv 8 (xn 4) j1)) hx hb hr (fun t ht hW => ⟨⟨(atv 8 (xn 4) j1), (), rfl, rfl, hPt ht hP⟩, hS.F ht⟩) hS.2.2 dX1_gives_53
    · have hf := hT hf c3
      refine lv_aload_n hx hb dX1_gives_22 rfl (lv_at hl 0 rfl) ?_
      refine lv_iconst (v := (-1 : Int32)) hx hb dX1_gives_23 (by decide) ?_
      obtain ⟨v5, hev5, hf⟩ := bS hf
      refine qV_i (ws' := (wX A cI v5.2 xn xm xk)) (As := [.int (-1 : Int32)]) (rest := []) ⟨hx, hb, hml, hown, hts⟩ hK hN hA hP hD hS (c_X1_refuse l D cI A (-1 : Int32) xx xn xm xk v5 hev5) (cwV 1 hts gX1_gives_X1_refuse rfl rfl rfl hd_X1_refuse ⟨Nat.le_of_ble_eq_true rfl, Nat.le_of_ble_eq_true rfl⟩) (va_recv hK hP (ci := 1) (q0 := 0) rfl rfl) (bp_X1_X1_xnmk_x A cI xx xn xm xk v5.2) rfl hl.1 rfl (Nat.le_of_ble_eq_true rfl) dX1_gives_24 ⟨Nat.le_of_ble_eq_true rfl, Nat.le_of_ble_eq_true rfl⟩ (fun H locs hP hD hS => ?_)
      have hP : va_P D vwCl (wX A cI v5.2 xn xm xk) H := hP
      obtain rfl := Option.some.inj hf
      exact W.iret (v := v5.1) hx hb hr (fun t ht hW => ⟨⟨v5.1, (), rfl, rfl, hPt ht hP⟩, hS.F ht⟩) hS.2.2 dX1_gives_27
set_option maxHeartbeats 4000000 in
set_option maxRecDepth 100000 in
theorem c_X1_swaps (l : Launch) (D : va_G) (cI : ClassId) (A : Nat → Nat → Nat) (j1 : Int32) (j2 : Int32) (xx : HS) (xn : HS) (xm : HS) (xk : HS) (out : Int32 × HS × HS) (hf : f_X1_swaps j1 j2 xx xn xm xk = some out) : uI l D cI yX1_swaps wsX1_swaps ({ frames := 3, cells := 0, slots := 0, locals := 66 } : Room) [.ref ((A 0) 0), .int j1, .int j2] (wX A cI xx xn xm xk) (wX A cI out.2.1 out.2.2 xm xk) out.1 := by
  intro sz
  refine Met.ofW (cc := cX1_swaps) (maxL := 3) (ret := (some .int)) (by decide) rfl ?_
  intro p e s m args below meth c s₁ Bd hml hv
  obtain ⟨rfl, hsz, hP, hK, hD0, hN⟩ := hv
  have hx := Bd.exec
  have hb := Bd.bytes
  have hr := Bd.returns
  have hts := atoms_spec (ws := wsX1_swaps) Bd.pre
  have hown : s.vm.findClass RX1 = some m.cls := findClass_of_methodNamed Bd.named
  have hlocks := Bd.notSynchronized
  subst hsz
  have hD := hD0.self (sz := s.heap.size)
  generalize hAe : va_A (wX A cI xx xn xm xk) s.heap.size = G at hD ⊢
  have hA : ∀ q : Nat, s.heap.size ≤ q → G q := fun q h => by rw [← hAe]; exact Or.inr h
  have hS : va_S G s.heap s.heap [] := va_S.rf
  have hP : va_P D vwCl (wX A cI xx xn xm xk) s.heap := hP
  have hl := lv_entry ([.ref ((A 0) 0), .int j1, .int j2]) (n := 3) (Nat.le_of_ble_eq_true rfl)
  rw [lg_entry_eq]
  generalize (lg_sl ([.ref ((A 0) 0), .int j1, .int j2]) ++ List.replicate (3 - (lg_sl ([.ref ((A 0) 0), .int j1, .int j2])).length) Slot.unset).toArray = ls at hl ⊢
  have hl : lv_has ls 3 [(0, .ref ((A 0) 0)), (1, .int j1), (2, .int j2)] := hl
  have hinX : ∀ w ∈ wsX10, w ∈ wsX1_swaps := by decide +kernel
  have lk0 := hts (.fieldLink RX1 10 "LiesBoughtBack" "now" "LLiesBoughtBack$Hall;") (by decide +kernel)
  have lk1 := hts (.initialized RX0) (by decide +kernel)
  have lk2 := hts (.instanceMethod yX0_changePlaces) (by decide +kernel)
  have lk3 := hts (.selects RX0 yX0_changePlaces yX0_changePlaces) (by decide +kernel)
  have lk4 := hts (.instanceMethod yX0_placeOf) (by decide +kernel)
  have lk5 := hts (.selects RX0 yX0_placeOf yX0_placeOf) (by decide +kernel)
  refine W_in ?_
  intro WW hWW
  refine (hWW _ _ _).mpr ?_
  unfold f_X1_swaps at hf
  refine lv_aload_n hx hb dX1_swaps_0 rfl (lv_at hl 0 rfl) ?_
  refine va_get (D := D) (ci := 1) (v := .ref ((A 1) 0)) (C := RX1) (T := TX1) (N := 9) hx hb hts hinX hown hK hP 0 rfl rfl 0 (by decide) lk0 (fun _ h9 => h9) rfl dX1_swaps_1 ?_
  refine lv_iload_n hx hb dX1_swaps_4 rfl (lv_at hl 1 rfl) ?_
  refine lv_iload_n hx hb dX1_swaps_5 rfl (lv_at hl 2 rfl) ?_
  obtain ⟨v1, hev1, hf⟩ := bS hf
  refine qVN_i (ws' := (wX A cI xx v1.2 xm xk)) (As := [.int j1, .int j2]) (rest := []) ⟨hx, hb, hml, hown, hts⟩ hK hN hA hP hD hS (c_X0_changePlaces l D cI (A 1) j1 j2 xn v1 hev1) ⟨va_cnB 2 hts gX1_swaps_X0_changePlaces_n78 rfl rfl rfl (nW.m hN 7 rfl) lk1 hd_X0_changePlaces.2 ⟨Nat.le_of_ble_eq_true rfl, Nat.le_of_ble_eq_true rfl⟩, lk2, lk3⟩ (va_recv hK hP (ci := 0) (q0 := 1) rfl rfl) (bp_X1_X0_n_h A cI xx xn xm xk v1.2) rfl hl.1 rfl (Nat.le_of_ble_eq_true rfl) dX1_swaps_6 ⟨Nat.le_of_ble_eq_true rfl, Nat.le_of_ble_eq_true rfl⟩ (fun H locs hP hD hS => ?_)
  have hP : va_P D vwCl (wX A cI xx v1.2 xm xk) H := hP
  refine lv_if_ne (tgt := 18) hx hb dX1_swaps_9 (by decide) (fun c2 => ?_) (fun c2 => ?_)
  · have hf := hF hf c2
    refine lv_aload_n hx hb dX1_swaps_18 rfl (lv_at hl 0 rfl) ?_
    refine va_get (D := D) (ci := 1) (v := .ref ((A 1) 0)) (C := RX1) (T := TX1) (N := 9) hx hb hts hinX hown hK hP 0 rfl rfl 0 (by decide) lk0 (fun _ h9 => h9) rfl dX1_swaps_19 ?_
    refine lv_iload_n hx hb dX1_swaps_22 rfl (lv_at hl 1 rfl) ?_
    obtain ⟨v3, hev3, hf⟩ := bS hf
    refine qVN_i (As := [.int j1]) (rest := []) ⟨hx, hb, hml, hown, hts⟩ hK hN hA hP hD hS (c_X0_placeOf l D cI (A 1) j1 v1.2 v3 hev3) ⟨va_cnB 1 hts gX1_swaps_X0_placeOf_n82 rfl rfl rfl (nW.m hN 16 rfl) lk1 hd_X0_placeOf.2 ⟨Nat.le_of_ble_eq_true rfl, Nat.le_of_ble_eq_true rfl⟩, lk4, lk5⟩ (va_recv hK hP (ci := 0) (q0 := 1) rfl rfl) (bq_X1_X0_n A cI xx v1.2 xm xk) rfl hl.1 rfl (Nat.le_of_ble_eq_true rfl) dX1_swaps_23 ⟨Nat.le_of_ble_eq_true rfl, Nat.le_of_ble_eq_true rfl⟩ (fun H locs hP hD hS => ?_)
    obtain rfl := Option.some.inj hf
    exact W.iret (v := v3) hx hb hr (fun t ht hW => ⟨⟨v3, (), rfl, rfl, hPt ht hP⟩, hS.F ht⟩) hS.2.2 dX1_swaps_26
  · have hf := hT hf c2
    refine lv_aload_n hx hb dX1_swaps_12 rfl (lv_at hl 0 rfl) ?_
    refine lv_iconst (v := (-1 : Int32)) hx hb dX1_swaps_13 (by decide) ?_
    obtain ⟨v4, hev4, hf⟩ := bS hf
    refine qV_i (ws' := (wX A cI v4.2 v1.2 xm xk)) (As := [.int (-1 : Int32)]) (rest := []) ⟨hx, hb, hml, hown, hts⟩ hK hN hA hP hD hS (c_X1_refuse l D cI A (-1 : Int32) xx v1.2 xm xk v4 hev4) (cwV 1 hts gX1_swaps_X1_refuse rfl rfl rfl hd_X1_refuse ⟨Nat.le_of_ble_eq_true rfl, Nat.le_of_ble_eq_true rfl⟩) (va_recv hK hP (ci := 1) (q0 := 0) rfl rfl) (bp_X1_X1_xnmk_x A cI xx v1.2 xm xk v4.2) rfl hl.1 rfl (Nat.le_of_ble_eq_true rfl) dX1_swaps_14 ⟨Nat.le_of_ble_eq_true rfl, Nat.le_of_ble_eq_true rfl⟩ (fun H locs hP hD hS => ?_)
    have hP : va_P D vwCl (wX A cI v4.2 v1.2 xm xk) H := hP
    obtain rfl := Option.some.inj hf
    exact W.iret (v := v4.1) hx hb hr (fun t ht hW => ⟨⟨v4.1, (), rfl, rfl, hPt ht hP⟩, hS.F ht⟩) hS.2.2 dX1_swaps_17
set_option maxHeartbeats 4000000 in
set_option maxRecDepth 100000 in
theorem c_X1_sells (l : Launch) (D : va_G) (cI : ClassId) (A : Nat → Nat → Nat) (j1 : Int32) (xx : HS) (xn : HS) (xm : HS) (xk : HS) (out : Int32 × HS × HS) (hf : f_X1_sells j1 xx xn xm xk = some out) : uI l D cI yX1_sells wsX1_sells ({ frames := 4, cells := 0, slots := 0, locals := 102 } : Room) [.ref ((A 0) 0), .int j1] (wX A cI xx xn xm xk) (wX A cI out.2.1 out.2.2 xm xk) out.1 := by
  intro sz
  refine Met.ofW (cc := cX1_sells) (maxL := 2) (ret := (some .int)) (by decide) rfl ?_
  intro p e s m args below meth c s₁ Bd hml hv
  obtain ⟨rfl, hsz, hP, hK, hD0, hN⟩ := hv
  have hx := Bd.exec
  have hb := Bd.bytes
  have hr := Bd.returns
  have hts := atoms_spec (ws := wsX1_sells) Bd.pre
  have hown : s.vm.findClass RX1 = some m.cls := findClass_of_methodNamed Bd.named
  have hlocks := Bd.notSynchronized
  subst hsz
  have hD := hD0.self (sz := s.heap.size)
  generalize hAe : va_A (wX A cI xx xn xm xk) s.heap.size = G at hD ⊢
  have hA : ∀ q : Nat, s.heap.size ≤ q → G q := fun q h => by rw [← hAe]; exact Or.inr h
  have hS : va_S G s.heap s.heap [] := va_S.rf
  have hP : va_P D vwCl (wX A cI xx xn xm xk) s.heap := hP
  have hl := lv_entry ([.ref ((A 0) 0), .int j1]) (n := 2) (Nat.le_of_ble_eq_true rfl)
  rw [lg_entry_eq]
  generalize (lg_sl ([.ref ((A 0) 0), .int j1]) ++ List.replicate (2 - (lg_sl ([.ref ((A 0) 0), .int j1])).length) Slot.unset).toArray = ls at hl ⊢
  have hl : lv_has ls 2 [(0, .ref ((A 0) 0)), (1, .int j1)] := hl
  have hinH : ∀ w ∈ wsX00, w ∈ wsX1_sells := by decide +kernel
  have hinX : ∀ w ∈ wsX10, w ∈ wsX1_sells := by decide +kernel
  have lk0 := hts (.fieldLink RX1 10 "LiesBoughtBack" "now" "LLiesBoughtBack$Hall;") (by decide +kernel)
  have lk1 := hts (.initialized RX0) (by decide +kernel)
  have lk2 := hts (.instanceMethod yX0_hasCard) (by decide +kernel)
  have lk3 := hts (.selects RX0 yX0_hasCard yX0_hasCard) (by decide +kernel)
  have lk4 := hts (.instanceMethod yX0_inPile) (by decide +kernel)
  have lk5 := hts (.selects RX0 yX0_inPile yX0_inPile) (by decide +kernel)
  have lk6 := hts (.instanceMethod yX0_auction) (by decide +kernel)
  have lk7 := hts (.selects RX0 yX0_auction yX0_auction) (by decide +kernel)
  refine W_in ?_
  intro WW hWW
  refine (hWW _ _ _).mpr ?_
  unfold f_X1_sells at hf
  refine lv_aload_n hx hb dX1_sells_0 rfl (lv_at hl 0 rfl) ?_
  refine va_get (D := D) (ci := 1) (v := .ref ((A 1) 0)) (C := RX1) (T := TX1) (N := 9) hx hb hts hinX hown hK hP 0 rfl rfl 0 (by decide) lk0 (fun _ h9 => h9) rfl dX1_sells_1 ?_
  refine lv_iload_n hx hb dX1_sells_4 rfl (lv_at hl 1 rfl) ?_
  refine qVN_i (As := [.int j1]) (rest := []) ⟨hx, hb, hml, hown, hts⟩ hK hN hA hP hD hS (c_X0_hasCard l D cI (A 1) j1 xn (f_X0_hasCard j1 xn) rfl) ⟨va_cnB 1 hts gX1_sells_X0_hasCard_n69 rfl rfl rfl (nW.m hN 14 rfl) lk1 hd_X0_hasCard.2 ⟨Nat.le_of_ble_eq_true rfl, Nat.le_of_ble_eq_true rfl⟩, lk2, lk3⟩ (va_recv hK hP (ci := 0) (q0 := 1) rfl rfl) (bq_X1_X0_n A cI xx xn xm xk) rfl hl.1 rfl (Nat.le_of_ble_eq_true rfl) dX1_sells_5 ⟨Nat.le_of_ble_eq_true rfl, Nat.le_of_ble_eq_true rfl⟩ (fun H locs hP hD hS => ?_)
  refine lv_if_ne (tgt := 17) hx hb dX1_sells_8 (by decide) (fun c1 => ?_) (fun c1 => ?_)
  · have hf := hF hf c1
    refine lv_aload_n hx hb dX1_sells_17 rfl (lv_at hl 0 rfl) ?_
    refine va_get (D := D) (ci := 1) (v := .ref ((A 1) 0)) (C := RX1) (T := TX1) (N := 9) hx hb hts hinX hown hK hP 0 rfl rfl 0 (by decide) lk0 (fun _ h9 => h9) rfl dX1_sells_18 ?_
    refine lv_iload_n hx hb dX1_sells_21 rfl (lv_at hl 1 rfl) ?_
    refine qVN_i (As := [.int j1]) (rest := []) ⟨hx, hb, hml, hown, hts⟩ hK hN hA hP hD hS (c_X0_inPile l D cI (A 1) j1 xn (f_X0_inPile j1 xn) rfl) ⟨va_cnB 1 hts gX1_sells_X0_inPile_n72 rfl rfl rfl (nW.m hN 15 rfl) lk1 hd_X0_inPile.2 ⟨Nat.le_of_ble_eq_true rfl, Nat.le_of_ble_eq_true rfl⟩, lk4, lk5⟩ (va_recv hK hP (ci := 0) (q0 := 1) rfl rfl) (bq_X1_X0_n A cI xx xn xm xk) rfl hl.1 rfl (Nat.le_of_ble_eq_true rfl) dX1_sells_22 ⟨Nat.le_of_ble_eq_true rfl, Nat.le_of_ble_eq_true rfl⟩ (fun H locs hP hD hS => ?_)
    refine lv_if_ne (tgt := 35) hx hb dX1_sells_25 (by decide) (fun c2 => ?_) (fun c2 => ?_)
    · have hf := hF hf c2
      refine lv_aload_n hx hb dX1_sells_35 rfl (lv_at hl 0 rfl) ?_
      refine va_get (D := D) (ci := 1) (v := .ref ((A 1) 0)) (C := RX1) (T := TX1) (N := 9) hx hb hts hinX hown hK hP 0 rfl rfl 0 (by decide) lk0 (fun _ h9 => h9) rfl dX1_sells_36 ?_
      refine lv_iload_n hx hb dX1_sells_39 rfl (lv_at hl 1 rfl) ?_
      obtain ⟨v3, hev3, hf⟩ := bS hf
      refine qVN_i (ws' := (wX A cI xx v3.2 xm xk)) (As := [.int j1]) (rest := []) ⟨hx, hb, hml, hown, hts⟩ hK hN hA hP hD hS (c_X0_auction l D cI (A 1) j1 xn v3 hev3) ⟨va_cnB 1 hts gX1_sells_X0_auction_n85 rfl rfl rfl (nW.m hN 17 rfl) lk1 hd_X0_auction.2 ⟨Nat.le_of_ble_eq_true rfl, Nat.le_of_ble_eq_true rfl⟩, lk6, lk7⟩ (va_recv hK hP (ci := 0) (q0 := 1) rfl rfl) (bp_X1_X0_n_h A cI xx xn xm xk v3.2) rfl hl.1 rfl (Nat.le_of_ble_eq_true rfl) dX1_sells_40 ⟨Nat.le_of_ble_eq_true rfl, Nat.le_of_ble_eq_true rfl⟩ (fun H locs hP hD hS => ?_)
      have hP : va_P D vwCl (wX A cI xx v3.2 xm xk) H := hP
      refine lv_pop hx hb dX1_sells_43 rfl ?_
      refine lv_aload_n hx hb dX1_sells_44 rfl (lv_at hl 0 rfl) ?_
      refine va_get (D := D) (ci := 1) (v := .ref ((A 1) 0)) (C := RX1) (T := TX1) (N := 9) hx hb hts hinX hown hK hP 0 rfl rfl 0 (by decide) lk0 (fun _ h9 => h9) rfl dX1_sells_45 ?_
      refine va_getN (D := D) (ci := 0) (v := .ref ((A 1) 5)) (C := RX0) (T := TX0) (N := 13) hx hb hts hinH hown hK hP 1 rfl rfl 7 (by decide) (nW.f hN 7 rfl) (fun _ h9 => h9) rfl dX1_sells_48 ?_
      refine lv_iload_n hx hb dX1_sells_51 rfl (lv_at hl 1 rfl) ?_
      refine qS_i (As := [.ref ((A 1) 5), .int j1]) (rest := []) ⟨hx, hb, hml, hown, hts⟩ hK hN hA hP hD hS (c_X1_at l D cI 8 (by decide) ((A 1) 5) (v3.2 4) j1) (va_cwS 2 hts gX1_sells_X1_at rfl rfl rfl hd_X1_at.2 ⟨Nat.le_of_ble_eq_true rfl, Nat.le_of_ble_eq_true rfl⟩) (bA_X1_n_4 A cI xx v3.2 xm xk) rfl hl.1 rfl (Nat.le_of_ble_eq_true rfl) dX1_sells_52 ⟨Nat.le_of_ble_eq_true rfl, Nat.le_of_ble_eq_true rfl⟩ (fun H locs hP hD hS => ?_)
      obtain rfl := Option.some.inj hf
      exact W.iret (v := (atv 8 (v3.2 4) j1)) hx hb hr (fun t ht hW => ⟨⟨(atv 8 (v3.2 4) j1), (), rfl, rfl, hPt ht hP⟩, hS.F ht⟩) hS.2.2 dX1_sells_55
    · have hf := hT hf c2
      refine lv_aload_n hx hb dX1_sells_28 rfl (lv_at hl 0 rfl) ?_
      refine lv_bipush (v := (-3 : Int32)) hx hb dX1_sells_29 (by decide) ?_
      obtain ⟨v4, hev4, hf⟩ := bS hf
      refine qV_i (ws' := (wX A cI v4.2 xn xm xk)) (As := [.int (-3 : Int32)]) (rest := []) ⟨hx, hb, hml, hown, hts⟩ hK hN hA hP hD hS (c_X1_refuse l D cI A (-3 : Int32) xx xn xm xk v4 hev4) (cwV 1 hts gX1_sells_X1_refuse rfl rfl rfl hd_X1_refuse ⟨Nat.le_of_ble_eq_true rfl, Nat.le_of_ble_eq_true rfl⟩) (va_recv hK hP (ci := 1) (q0 := 0) rfl rfl) (bp_X1_X1_xnmk_x A cI xx xn xm xk v4.2) rfl hl.1 rfl (Nat.le_of_ble_eq_true rfl) dX1_sells_31 ⟨Nat.le_of_ble_eq_true rfl, Nat.le_of_ble_eq_true rfl⟩ (fun H locs hP hD hS => ?_)
      have hP : va_P D vwCl (wX A cI v4.2 xn xm xk) H := hP
      obtain rfl := Option.some.inj hf
      exact W.iret (v := v4.1) hx hb hr (fun t ht hW => ⟨⟨v4.1, (), rfl, rfl, hPt ht hP⟩, hS.F ht⟩) hS.2.2 dX1_sells_34
  · have hf := hT hf c1
    refine lv_aload_n hx hb dX1_sells_11 rfl (lv_at hl 0 rfl) ?_
    refine lv_iconst (v := (-1 : Int32)) hx hb dX1_sells_12 (by decide) ?_
    obtain ⟨v5, hev5, hf⟩ := bS hf
    refine qV_i (ws' := (wX A cI v5.2 xn xm xk)) (As := [.int (-1 : Int32)]) (rest := []) ⟨hx, hb, hml, hown, hts⟩ hK hN hA hP hD hS (c_X1_refuse l D cI A (-1 : Int32) xx xn xm xk v5 hev5) (cwV 1 hts gX1_sells_X1_refuse rfl rfl rfl hd_X1_refuse ⟨Nat.le_of_ble_eq_true rfl, Nat.le_of_ble_eq_true rfl⟩) (va_recv hK hP (ci := 1) (q0 := 0) rfl rfl) (bp_X1_X1_xnmk_x A cI xx xn xm xk v5.2) rfl hl.1 rfl (Nat.le_of_ble_eq_true rfl) dX1_sells_13 ⟨Nat.le_of_ble_eq_true rfl, Nat.le_of_ble_eq_true rfl⟩ (fun H locs hP hD hS => ?_)
    have hP : va_P D vwCl (wX A cI v5.2 xn xm xk) H := hP
    obtain rfl := Option.some.inj hf
    exact W.iret (v := v5.1) hx hb hr (fun t ht hW => ⟨⟨v5.1, (), rfl, rfl, hPt ht hP⟩, hS.F ht⟩) hS.2.2 dX1_sells_16
set_option maxHeartbeats 4000000 in
set_option maxRecDepth 100000 in
theorem c_X1_turn (l : Launch) (D : va_G) (cI : ClassId) (A : Nat → Nat → Nat) (j1 : Int32) (j2 : Int32) (j3 : Int32) (xx : HS) (xn : HS) (xm : HS) (xk : HS) (out : Int32 × HS × HS) (hf : f_X1_turn j1 j2 j3 xx xn xm xk = some out) : uI l D cI yX1_turn wsX1_turn ({ frames := 2, cells := 0, slots := 0, locals := 43 } : Room) [.ref ((A 0) 0), .int j1, .int j2, .int j3] (wX A cI xx xn xm xk) (wX A cI out.2.1 out.2.2 xm xk) out.1 := by
  intro sz
  refine Met.ofW (cc := cX1_turn) (maxL := 6) (ret := (some .int)) (by decide) rfl ?_
  intro p e s m args below meth c s₁ Bd hml hv
  obtain ⟨rfl, hsz, hP, hK, hD0, hN⟩ := hv
  have hx := Bd.exec
  have hb := Bd.bytes
  have hr := Bd.returns
  have hts := atoms_spec (ws := wsX1_turn) Bd.pre
  have hown : s.vm.findClass RX1 = some m.cls := findClass_of_methodNamed Bd.named
  have hlocks := Bd.notSynchronized
  subst hsz
  have hD := hD0.self (sz := s.heap.size)
  generalize hAe : va_A (wX A cI xx xn xm xk) s.heap.size = G at hD ⊢
  have hA : ∀ q : Nat, s.heap.size ≤ q → G q := fun q h => by rw [← hAe]; exact Or.inr h
  have hS : va_S G s.heap s.heap [] := va_S.rf
  have hP : va_P D vwCl (wX A cI xx xn xm xk) s.heap := hP
  have hl := lv_entry ([.ref ((A 0) 0), .int j1, .int j2, .int j3]) (n := 6) (Nat.le_of_ble_eq_true rfl)
  rw [lg_entry_eq]
  generalize (lg_sl ([.ref ((A 0) 0), .int j1, .int j2, .int j3]) ++ List.replicate (6 - (lg_sl ([.ref ((A 0) 0), .int j1, .int j2, .int j3])).length) Slot.unset).toArray = ls at hl ⊢
  have hl : lv_has ls 6 [(0, .ref ((A 0) 0)), (1, .int j1), (2, .int j2), (3, .int j3)] := hl
  have hinH : ∀ w ∈ wsX00, w ∈ wsX1_turn := by decide +kernel
  have hinX : ∀ w ∈ wsX10, w ∈ wsX1_turn := by decide +kernel
  have lk0 := hts (.fieldLink RX1 10 "LiesBoughtBack" "now" "LLiesBoughtBack$Hall;") (by decide +kernel)
  have lk1 := hts (.initialized RX0) (by decide +kernel)
  have lk2 := hts (.instanceMethod yX0_hasBidder) (by decide +kernel)
  have lk3 := hts (.selects RX0 yX0_hasBidder yX0_hasBidder) (by decide +kernel)
  refine W_in ?_
  intro WW hWW
  refine (hWW _ _ _).mpr ?_
  unfold f_X1_turn at hf
  refine lv_aload_n hx hb dX1_turn_0 rfl (lv_at hl 0 rfl) ?_
  refine va_get (D := D) (ci := 1) (v := .ref ((A 1) 0)) (C := RX1) (T := TX1) (N := 9) hx hb hts hinX hown hK hP 0 rfl rfl 0 (by decide) lk0 (fun _ h9 => h9) rfl dX1_turn_1 ?_
  refine lv_iload_n hx hb dX1_turn_4 rfl (lv_at hl 1 rfl) ?_
  refine qVN_i (As := [.int j1]) (rest := []) ⟨hx, hb, hml, hown, hts⟩ hK hN hA hP hD hS (c_X0_hasBidder l D cI (A 1) j1 xn (f_X0_hasBidder j1 xn) rfl) ⟨va_cnB 1 hts gX1_turn_X0_hasBidder_n59 rfl rfl rfl (nW.m hN 13 rfl) lk1 hd_X0_hasBidder.2 ⟨Nat.le_of_ble_eq_true rfl, Nat.le_of_ble_eq_true rfl⟩, lk2, lk3⟩ (va_recv hK hP (ci := 0) (q0 := 1) rfl rfl) (bq_X1_X0_n A cI xx xn xm xk) rfl hl.1 rfl (Nat.le_of_ble_eq_true rfl) dX1_turn_5 ⟨Nat.le_of_ble_eq_true rfl, Nat.le_of_ble_eq_true rfl⟩ (fun H locs hP hD hS => ?_)
  refine lv_if_ne (tgt := 17) hx hb dX1_turn_8 (by decide) (fun c1 => ?_) (fun c1 => ?_)
  · have hf := hF hf c1
    refine lv_iload_n hx hb dX1_turn_17 rfl (lv_at hl 2 rfl) ?_
    refine lv_if_lt (tgt := 27) hx hb dX1_turn_18 (by decide) (fun c2 => ?_) (fun c2 => ?_)
    · have hf := hT hf c2
      refine lv_aload_n hx hb dX1_turn_27 rfl (lv_at hl 0 rfl) ?_
      refine lv_bipush (v := (-2 : Int32)) hx hb dX1_turn_28 (by decide) ?_
      obtain ⟨v3, hev3, hf⟩ := bS hf
      refine qV_i (ws' := (wX A cI v3.2 xn xm xk)) (As := [.int (-2 : Int32)]) (rest := []) ⟨hx, hb, hml, hown, hts⟩ hK hN hA hP hD hS (c_X1_refuse l D cI A (-2 : Int32) xx xn xm xk v3 hev3) (cwV 1 hts gX1_turn_X1_refuse rfl rfl rfl hd_X1_refuse ⟨Nat.le_of_ble_eq_true rfl, Nat.le_of_ble_eq_true rfl⟩) (va_recv hK hP (ci := 1) (q0 := 0) rfl rfl) (bp_X1_X1_xnmk_x A cI xx xn xm xk v3.2) rfl hl.1 rfl (Nat.le_of_ble_eq_true rfl) dX1_turn_30 ⟨Nat.le_of_ble_eq_true rfl, Nat.le_of_ble_eq_true rfl⟩ (fun H locs hP hD hS => ?_)
      have hP : va_P D vwCl (wX A cI v3.2 xn xm xk) H := hP
      obtain rfl := Option.some.inj hf
      exact W.iret (v := v3.1) hx hb hr (fun t ht hW => ⟨⟨v3.1, (), rfl, rfl, hPt ht hP⟩, hS.F ht⟩) hS.2.2 dX1_turn_33
    · have hf := hF hf c2
      refine lv_iload_n hx hb dX1_turn_21 rfl (lv_at hl 2 rfl) ?_
      refine lv_bipush (v := (6 : Int32)) hx hb dX1_turn_22 (by decide) ?_
      refine lv_icmp_lt (tgt := 34) hx hb dX1_turn_24 (by decide) (fun c4 => ?_) (fun c4 => ?_)
      · have hf := hT hf c4
        refine lv_iload_n hx hb dX1_turn_34 rfl (lv_at hl 3 rfl) ?_
        refine lv_iconst (v := (0 : Int32)) hx hb dX1_turn_35 (by decide) ?_
        refine lv_bipush (v := (9 : Int32)) hx hb dX1_turn_36 (by decide) ?_
        refine qS_i (As := [.int j3, .int (0 : Int32), .int (9 : Int32)]) (rest := []) ⟨hx, hb, hml, hown, hts⟩ hK hN hA hP hD hS (c_X1_beyond l D cI j3 (0 : Int32) (9 : Int32) (f_X1_beyond j3 (0 : Int32) (9 : Int32)) rfl) (va_cwS 3 hts gX1_turn_X1_beyond rfl rfl rfl hd_X1_beyond.2 ⟨Nat.le_of_ble_eq_true rfl, Nat.le_of_ble_eq_true rfl⟩) Bp_e rfl hl.1 rfl (Nat.le_of_ble_eq_true rfl) dX1_turn_38 ⟨Nat.le_of_ble_eq_true rfl, Nat.le_of_ble_eq_true rfl⟩ (fun H locs hP hD hS => ?_)
        refine lv_istore (lv' := [(4, .int (f_X1_beyond j3 (0 : Int32) (9 : Int32))), (0, .ref ((A 0) 0)), (1, .int j1), (2, .int j2), (3, .int j3)]) hx hb dX1_turn_41 hl (by decide) rfl (fun ls hl => ?_)
        refine lv_iload hx hb dX1_turn_43 (lv_at hl 0 rfl) ?_
        refine lv_if_eq (tgt := 55) hx hb dX1_turn_45 (by decide) (fun c5 => ?_) (fun c5 => ?_)
        · have hf := hT hf c5
          refine lv_bipush (v := (10 : Int32)) hx hb dX1_turn_55 (by decide) ?_
          refine lv_aload_n hx hb dX1_turn_57 rfl (lv_at hl 1 rfl) ?_
          refine va_get (D := D) (ci := 1) (v := .ref ((A 1) 0)) (C := RX1) (T := TX1) (N := 9) hx hb hts hinX hown hK hP 0 rfl rfl 0 (by decide) lk0 (fun _ h9 => h9) rfl dX1_turn_58 ?_
          refine va_getN (D := D) (ci := 0) (v := .ref ((A 1) 7)) (C := RX0) (T := TX0) (N := 13) hx hb hts hinH hown hK hP 1 rfl rfl 9 (by decide) (nW.f hN 8 rfl) (fun _ h9 => h9) rfl dX1_turn_61 ?_
          refine lv_iload_n hx hb dX1_turn_64 rfl (lv_at hl 2 rfl) ?_
          refine qS_i (As := [.ref ((A 1) 7), .int j1]) (rest := [.int (10 : Int32)]) ⟨hx, hb, hml, hown, hts⟩ hK hN hA hP hD hS (c_X1_at l D cI 6 (by decide) ((A 1) 7) (xn 6) j1) (va_cwS 2 hts gX1_turn_X1_at rfl rfl rfl hd_X1_at.2 ⟨Nat.le_of_ble_eq_true rfl, Nat.le_of_ble_eq_true rfl⟩) (bA_X1_n_6 A cI xx xn xm xk) rfl hl.1 rfl (Nat.le_of_ble_eq_true rfl) dX1_turn_65 ⟨Nat.le_of_ble_eq_true rfl, Nat.le_of_ble_eq_true rfl⟩ (fun H locs hP hD hS => ?_)
          refine lv_imul hx hb dX1_turn_68 ?_
          refine lv_aload_n hx hb dX1_turn_69 rfl (lv_at hl 1 rfl) ?_
          refine va_get (D := D) (ci := 1) (v := .ref ((A 1) 0)) (C := RX1) (T := TX1) (N := 9) hx hb hts hinX hown hK hP 0 rfl rfl 0 (by decide) lk0 (fun _ h9 => h9) rfl dX1_turn_70 ?_
          refine va_getN (D := D) (ci := 0) (v := .ref ((A 1) 8)) (C := RX0) (T := TX0) (N := 13) hx hb hts hinH hown hK hP 1 rfl rfl 10 (by decide) (nW.f hN 9 rfl) (fun _ h9 => h9) rfl dX1_turn_73 ?_
          refine lv_iload_n hx hb dX1_turn_76 rfl (lv_at hl 2 rfl) ?_
          refine qS_i (As := [.ref ((A 1) 8), .int j1]) (rest := [.int ((10 : Int32) * (atv 6 (xn 6) j1))]) ⟨hx, hb, hml, hown, hts⟩ hK hN hA hP hD hS (c_X1_at l D cI 6 (by decide) ((A 1) 8) (xn 7) j1) (va_cwS 2 hts gX1_turn_X1_at rfl rfl rfl hd_X1_at.2 ⟨Nat.le_of_ble_eq_true rfl, Nat.le_of_ble_eq_true rfl⟩) (bA_X1_n_7 A cI xx xn xm xk) rfl hl.1 rfl (Nat.le_of_ble_eq_true rfl) dX1_turn_77 ⟨Nat.le_of_ble_eq_true rfl, Nat.le_of_ble_eq_true rfl⟩ (fun H locs hP hD hS => ?_)
          refine lv_iadd hx hb dX1_turn_80 ?_
          refine lv_istore (lv' := [(5, .int (((10 : Int32) * (atv 6 (xn 6) j1)) + (atv 6 (xn 7) j1))), (4, .int (f_X1_beyond j3 (0 : Int32) (9 : Int32))), (0, .ref ((A 0) 0)), (1, .int j1), (2, .int j2), (3, .int j3)]) hx hb dX1_turn_81 hl (by decide) rfl (fun ls hl => ?_)
          refine lv_aload_n hx hb dX1_turn_83 rfl (lv_at hl 2 rfl) ?_
          refine va_get (D := D) (ci := 1) (v := .ref ((A 1) 0)) (C := RX1) (T := TX1) (N := 9) hx hb hts hinX hown hK hP 0 rfl rfl 0 (by decide) lk0 (fun _ h9 => h9) rfl dX1_turn_84 ?_
          refine va_getN (D := D) (ci := 0) (v := .ref ((A 1) 7)) (C := RX0) (T := TX0) (N := 13) hx hb hts hinH hown hK hP 1 rfl rfl 9 (by decide) (nW.f hN 8 rfl) (fun _ h9 => h9) rfl dX1_turn_87 ?_
          refine lv_iload_n hx hb dX1_turn_90 rfl (lv_at hl 3 rfl) ?_
          refine lv_iload_n hx hb dX1_turn_91 rfl (lv_at hl 4 rfl) ?_
          obtain ⟨xn_v6, exn_v6, hf⟩ := jnS hf
          refine qS_v (ws' := (wX A cI xx xn_v6 xm xk)) (As := [.ref ((A 1) 7), .int j1, .int j2]) (rest := []) ⟨hx, hb, hml, hown, hts⟩ hK hN hA hP hD hS (c_X1_put l D cI 6 (by decide) ((A 1) 7) (xn 6) j1 j2) (va_cwS 3 hts gX1_turn_X1_put rfl rfl rfl hd_X1_put.2 ⟨Nat.le_of_ble_eq_true rfl, Nat.le_of_ble_eq_true rfl⟩) ((bP_X1_n_6 A cI xx xn xm xk (ptv 6 (xn 6) j1 j2) _ exn_v6)) rfl hl.1 rfl (Nat.le_of_ble_eq_true rfl) dX1_turn_92 ⟨Nat.le_of_ble_eq_true rfl, Nat.le_of_ble_eq_true rfl⟩ (fun H locs hP hD hS => ?_)
          refine lv_aload_n hx hb dX1_turn_95 rfl (lv_at hl 2 rfl) ?_
          refine va_get (D := D) (ci := 1) (v := .ref ((A 1) 0)) (C := RX1) (T := TX1) (N := 9) hx hb hts hinX hown hK hP 0 rfl rfl 0 (by decide) lk0 (fun _ h9 => h9) rfl dX1_turn_96 ?_
          refine va_getN (D := D) (ci := 0) (v := .ref ((A 1) 8)) (C := RX0) (T := TX0) (N := 13) hx hb hts hinH hown hK hP 1 rfl rfl 10 (by decide) (nW.f hN 9 rfl) (fun _ h9 => h9) rfl dX1_turn_99 ?_
          refine lv_iload_n hx hb dX1_turn_102 rfl (lv_at hl 3 rfl) ?_
          refine lv_iload_n hx hb dX1_turn_103 rfl (lv_at hl 5 rfl) ?_
          obtain ⟨xn_v7, exn_v7, hf⟩ := jnS hf
          refine qS_v (ws' := (wX A cI xx xn_v7 xm xk)) (As := [.ref ((A 1) 8), .int j1, .int j3]) (rest := []) ⟨hx, hb, hml, hown, hts⟩ hK hN hA hP hD hS (c_X1_put l D cI 6 (by decide) ((A 1) 8) (xn_v6 7) j1 j3) (va_cwS 3 hts gX1_turn_X1_put rfl rfl rfl hd_X1_put.2 ⟨Nat.le_of_ble_eq_true rfl, Nat.le_of_ble_eq_true rfl⟩) ((bP_X1_n_7 A cI xx xn_v6 xm xk (ptv 6 (xn_v6 7) j1 j3) _ exn_v7)) rfl hl.1 rfl (Nat.le_of_ble_eq_true rfl) dX1_turn_104 ⟨Nat.le_of_ble_eq_true rfl, Nat.le_of_ble_eq_true rfl⟩ (fun H locs hP hD hS => ?_)
          refine lv_iload hx hb dX1_turn_107 (lv_at hl 0 rfl) ?_
          obtain rfl := Option.some.inj hf
          exact W.iret (v := (((10 : Int32) * (atv 6 (xn 6) j1)) + (atv 6 (xn 7) j1))) hx hb hr (fun t ht hW => ⟨⟨(((10 : Int32) * (atv 6 (xn 6) j1)) + (atv 6 (xn 7) j1)), (), rfl, rfl, hPt ht hP⟩, hS.F ht⟩) hS.2.2 dX1_turn_109
        · have hf := hF hf c5
          refine lv_aload_n hx hb dX1_turn_48 rfl (lv_at hl 1 rfl) ?_
          refine lv_iload hx hb dX1_turn_49 (lv_at hl 0 rfl) ?_
          obtain ⟨v8, hev8, hf⟩ := bS hf
          refine qV_i (ws' := (wX A cI v8.2 xn xm xk)) (As := [.int (f_X1_beyond j3 (0 : Int32) (9 : Int32))]) (rest := []) ⟨hx, hb, hml, hown, hts⟩ hK hN hA hP hD hS (c_X1_refuse l D cI A (f_X1_beyond j3 (0 : Int32) (9 : Int32)) xx xn xm xk v8 hev8) (cwV 1 hts gX1_turn_X1_refuse rfl rfl rfl hd_X1_refuse ⟨Nat.le_of_ble_eq_true rfl, Nat.le_of_ble_eq_true rfl⟩) (va_recv hK hP (ci := 1) (q0 := 0) rfl rfl) (bp_X1_X1_xnmk_x A cI xx xn xm xk v8.2) rfl hl.1 rfl (Nat.le_of_ble_eq_true rfl) dX1_turn_51 ⟨Nat.le_of_ble_eq_true rfl, Nat.le_of_ble_eq_true rfl⟩ (fun H locs hP hD hS => ?_)
          have hP : va_P D vwCl (wX A cI v8.2 xn xm xk) H := hP
          obtain rfl := Option.some.inj hf
          exact W.iret (v := v8.1) hx hb hr (fun t ht hW => ⟨⟨v8.1, (), rfl, rfl, hPt ht hP⟩, hS.F ht⟩) hS.2.2 dX1_turn_54
      · have hf := hF hf c4
        refine lv_aload_n hx hb dX1_turn_27 rfl (lv_at hl 0 rfl) ?_
        refine lv_bipush (v := (-2 : Int32)) hx hb dX1_turn_28 (by decide) ?_
        obtain ⟨v9, hev9, hf⟩ := bS hf
        refine qV_i (ws' := (wX A cI v9.2 xn xm xk)) (As := [.int (-2 : Int32)]) (rest := []) ⟨hx, hb, hml, hown, hts⟩ hK hN hA hP hD hS (c_X1_refuse l D cI A (-2 : Int32) xx xn xm xk v9 hev9) (cwV 1 hts gX1_turn_X1_refuse rfl rfl rfl hd_X1_refuse ⟨Nat.le_of_ble_eq_true rfl, Nat.le_of_ble_eq_true rfl⟩) (va_recv hK hP (ci := 1) (q0 := 0) rfl rfl) (bp_X1_X1_xnmk_x A cI xx xn xm xk v9.2) rfl hl.1 rfl (Nat.le_of_ble_eq_true rfl) dX1_turn_30 ⟨Nat.le_of_ble_eq_true rfl, Nat.le_of_ble_eq_true rfl⟩ (fun H locs hP hD hS => ?_)
        have hP : va_P D vwCl (wX A cI v9.2 xn xm xk) H := hP
        obtain rfl := Option.some.inj hf
        exact W.iret (v := v9.1) hx hb hr (fun t ht hW => ⟨⟨v9.1, (), rfl, rfl, hPt ht hP⟩, hS.F ht⟩) hS.2.2 dX1_turn_33
  · have hf := hT hf c1
    refine lv_aload_n hx hb dX1_turn_11 rfl (lv_at hl 0 rfl) ?_
    refine lv_iconst (v := (-1 : Int32)) hx hb dX1_turn_12 (by decide) ?_
    obtain ⟨v10, hev10, hf⟩ := bS hf
    refine qV_i (ws' := (wX A cI v10.2 xn xm xk)) (As := [.int (-1 : Int32)]) (rest := []) ⟨hx, hb, hml, hown, hts⟩ hK hN hA hP hD hS (c_X1_refuse l D cI A (-1 : Int32) xx xn xm xk v10 hev10) (cwV 1 hts gX1_turn_X1_refuse rfl rfl rfl hd_X1_refuse ⟨Nat.le_of_ble_eq_true rfl, Nat.le_of_ble_eq_true rfl⟩) (va_recv hK hP (ci := 1) (q0 := 0) rfl rfl) (bp_X1_X1_xnmk_x A cI xx xn xm xk v10.2) rfl hl.1 rfl (Nat.le_of_ble_eq_true rfl) dX1_turn_13 ⟨Nat.le_of_ble_eq_true rfl, Nat.le_of_ble_eq_true rfl⟩ (fun H locs hP hD hS => ?_)
    have hP : va_P D vwCl (wX A cI v10.2 xn xm xk) H := hP
    obtain rfl := Option.some.inj hf
    exact W.iret (v := v10.1) hx hb hr (fun t ht hW => ⟨⟨v10.1, (), rfl, rfl, hPt ht hP⟩, hS.F ht⟩) hS.2.2 dX1_turn_16
set_option maxHeartbeats 4000000 in
set_option maxRecDepth 100000 in
theorem c_X1_months (l : Launch) (D : va_G) (cI : ClassId) (A : Nat → Nat → Nat) (j1 : Int32) (xx : HS) (xn : HS) (xm : HS) (xk : HS) (out : Int32 × HS × HS) (hf : f_X1_months j1 xx xn xm xk = some out) : uI l D cI yX1_months wsX1_months ({ frames := 5, cells := 0, slots := 0, locals := 128 } : Room) [.ref ((A 0) 0), .int j1] (wX A cI xx xn xm xk) (wX A cI out.2.1 out.2.2 xm xk) out.1 := by
  intro sz
  refine Met.ofW (cc := cX1_months) (maxL := 2) (ret := (some .int)) (by decide) rfl ?_
  intro p e s m args below meth c s₁ Bd hml hv
  obtain ⟨rfl, hsz, hP, hK, hD0, hN⟩ := hv
  have hx := Bd.exec
  have hb := Bd.bytes
  have hr := Bd.returns
  have hts := atoms_spec (ws := wsX1_months) Bd.pre
  have hown : s.vm.findClass RX1 = some m.cls := findClass_of_methodNamed Bd.named
  have hlocks := Bd.notSynchronized
  subst hsz
  have hD := hD0.self (sz := s.heap.size)
  generalize hAe : va_A (wX A cI xx xn xm xk) s.heap.size = G at hD ⊢
  have hA : ∀ q : Nat, s.heap.size ≤ q → G q := fun q h => by rw [← hAe]; exact Or.inr h
  have hS : va_S G s.heap s.heap [] := va_S.rf
  have hP : va_P D vwCl (wX A cI xx xn xm xk) s.heap := hP
  have hl := lv_entry ([.ref ((A 0) 0), .int j1]) (n := 2) (Nat.le_of_ble_eq_true rfl)
  rw [lg_entry_eq]
  generalize (lg_sl ([.ref ((A 0) 0), .int j1]) ++ List.replicate (2 - (lg_sl ([.ref ((A 0) 0), .int j1])).length) Slot.unset).toArray = ls at hl ⊢
  have hl : lv_has ls 2 [(0, .ref ((A 0) 0)), (1, .int j1)] := hl
  have hinX : ∀ w ∈ wsX10, w ∈ wsX1_months := by decide +kernel
  have lk0 := hts (.fieldLink RX1 10 "LiesBoughtBack" "now" "LLiesBoughtBack$Hall;") (by decide +kernel)
  have lk1 := hts (.initialized RX0) (by decide +kernel)
  have lk2 := hts (.instanceMethod yX0_hasTimeFor) (by decide +kernel)
  have lk3 := hts (.selects RX0 yX0_hasTimeFor yX0_hasTimeFor) (by decide +kernel)
  have lk4 := hts (.instanceMethod yX0_goOn) (by decide +kernel)
  have lk5 := hts (.selects RX0 yX0_goOn yX0_goOn) (by decide +kernel)
  have lk6 := hts (.instanceMethod yX0_heldCount) (by decide +kernel)
  have lk7 := hts (.selects RX0 yX0_heldCount yX0_heldCount) (by decide +kernel)
  refine W_in ?_
  intro WW hWW
  refine (hWW _ _ _).mpr ?_
  unfold f_X1_months at hf
  refine lv_iload_n hx hb dX1_months_0 rfl (lv_at hl 1 rfl) ?_
  refine lv_iconst (v := (1 : Int32)) hx hb dX1_months_1 (by decide) ?_
  refine lv_icmp_ge (tgt := 12) hx hb dX1_months_2 (by decide) (fun c1 => ?_) (fun c1 => ?_)
  · have hf := hT hf c1
    refine lv_aload_n hx hb dX1_months_12 rfl (lv_at hl 0 rfl) ?_
    refine va_get (D := D) (ci := 1) (v := .ref ((A 1) 0)) (C := RX1) (T := TX1) (N := 9) hx hb hts hinX hown hK hP 0 rfl rfl 0 (by decide) lk0 (fun _ h9 => h9) rfl dX1_months_13 ?_
    refine lv_iload_n hx hb dX1_months_16 rfl (lv_at hl 1 rfl) ?_
    refine qVN_i (As := [.int j1]) (rest := []) ⟨hx, hb, hml, hown, hts⟩ hK hN hA hP hD hS (c_X0_hasTimeFor l D cI (A 1) j1 xn (f_X0_hasTimeFor j1 xn) rfl) ⟨va_cnB 1 hts gX1_months_X0_hasTimeFor_n94 rfl rfl rfl (nW.m hN 11 rfl) lk1 hd_X0_hasTimeFor.2 ⟨Nat.le_of_ble_eq_true rfl, Nat.le_of_ble_eq_true rfl⟩, lk2, lk3⟩ (va_recv hK hP (ci := 0) (q0 := 1) rfl rfl) (bq_X1_X0_n A cI xx xn xm xk) rfl hl.1 rfl (Nat.le_of_ble_eq_true rfl) dX1_months_17 ⟨Nat.le_of_ble_eq_true rfl, Nat.le_of_ble_eq_true rfl⟩ (fun H locs hP hD hS => ?_)
    refine lv_if_ne (tgt := 30) hx hb dX1_months_20 (by decide) (fun c2 => ?_) (fun c2 => ?_)
    · have hf := hF hf c2
      refine lv_aload_n hx hb dX1_months_30 rfl (lv_at hl 0 rfl) ?_
      refine va_get (D := D) (ci := 1) (v := .ref ((A 1) 0)) (C := RX1) (T := TX1) (N := 9) hx hb hts hinX hown hK hP 0 rfl rfl 0 (by decide) lk0 (fun _ h9 => h9) rfl dX1_months_31 ?_
      refine lv_iload_n hx hb dX1_months_34 rfl (lv_at hl 1 rfl) ?_
      refine lv_iconst (v := (1 : Int32)) hx hb dX1_months_35 (by decide) ?_
      obtain ⟨v3, hev3, hf⟩ := bS hf
      refine qVN_i (ws' := (wX A cI xx v3.2 xm xk)) (As := [.int j1, .int (1 : Int32)]) (rest := []) ⟨hx, hb, hml, hown, hts⟩ hK hN hA hP hD hS (c_X0_goOn l D cI (A 1) j1 (1 : Int32) xn v3 hev3) ⟨va_cnB 2 hts gX1_months_X0_goOn_n97 rfl rfl rfl (nW.m hN 12 rfl) lk1 hd_X0_goOn.2 ⟨Nat.le_of_ble_eq_true rfl, Nat.le_of_ble_eq_true rfl⟩, lk4, lk5⟩ (va_recv hK hP (ci := 0) (q0 := 1) rfl rfl) (bp_X1_X0_n_h A cI xx xn xm xk v3.2) rfl hl.1 rfl (Nat.le_of_ble_eq_true rfl) dX1_months_36 ⟨Nat.le_of_ble_eq_true rfl, Nat.le_of_ble_eq_true rfl⟩ (fun H locs hP hD hS => ?_)
      have hP : va_P D vwCl (wX A cI xx v3.2 xm xk) H := hP
      refine lv_pop hx hb dX1_months_39 rfl ?_
      refine lv_aload_n hx hb dX1_months_40 rfl (lv_at hl 0 rfl) ?_
      refine va_get (D := D) (ci := 1) (v := .ref ((A 1) 0)) (C := RX1) (T := TX1) (N := 9) hx hb hts hinX hown hK hP 0 rfl rfl 0 (by decide) lk0 (fun _ h9 => h9) rfl dX1_months_41 ?_
      obtain ⟨v4, hev4, hf⟩ := bS hf
      refine qVN_i (As := []) (rest := []) ⟨hx, hb, hml, hown, hts⟩ hK hN hA hP hD hS (c_X0_heldCount l D cI (A 1) v3.2 v4 hev4) ⟨va_cnB 0 hts gX1_months_X0_heldCount_n101 rfl rfl rfl (nW.m hN 18 rfl) lk1 hd_X0_heldCount.2 ⟨Nat.le_of_ble_eq_true rfl, Nat.le_of_ble_eq_true rfl⟩, lk6, lk7⟩ (va_recv hK hP (ci := 0) (q0 := 1) rfl rfl) (bq_X1_X0_n A cI xx v3.2 xm xk) rfl hl.1 rfl (Nat.le_of_ble_eq_true rfl) dX1_months_44 ⟨Nat.le_of_ble_eq_true rfl, Nat.le_of_ble_eq_true rfl⟩ (fun H locs hP hD hS => ?_)
      obtain rfl := Option.some.inj hf
      exact W.iret (v := v4) hx hb hr (fun t ht hW => ⟨⟨v4, (), rfl, rfl, hPt ht hP⟩, hS.F ht⟩) hS.2.2 dX1_months_47
    · have hf := hT hf c2
      refine lv_aload_n hx hb dX1_months_23 rfl (lv_at hl 0 rfl) ?_
      refine lv_bipush (v := (-6 : Int32)) hx hb dX1_months_24 (by decide) ?_
      obtain ⟨v5, hev5, hf⟩ := bS hf
      refine qV_i (ws' := (wX A cI v5.2 xn xm xk)) (As := [.int (-6 : Int32)]) (rest := []) ⟨hx, hb, hml, hown, hts⟩ hK hN hA hP hD hS (c_X1_refuse l D cI A (-6 : Int32) xx xn xm xk v5 hev5) (cwV 1 hts gX1_months_X1_refuse rfl rfl rfl hd_X1_refuse ⟨Nat.le_of_ble_eq_true rfl, Nat.le_of_ble_eq_true rfl⟩) (va_recv hK hP (ci := 1) (q0 := 0) rfl rfl) (bp_X1_X1_xnmk_x A cI xx xn xm xk v5.2) rfl hl.1 rfl (Nat.le_of_ble_eq_true rfl) dX1_months_26 ⟨Nat.le_of_ble_eq_true rfl, Nat.le_of_ble_eq_true rfl⟩ (fun H locs hP hD hS => ?_)
      have hP : va_P D vwCl (wX A cI v5.2 xn xm xk) H := hP
      obtain rfl := Option.some.inj hf
      exact W.iret (v := v5.1) hx hb hr (fun t ht hW => ⟨⟨v5.1, (), rfl, rfl, hPt ht hP⟩, hS.F ht⟩) hS.2.2 dX1_months_29
  · have hf := hF hf c1
    refine lv_aload_n hx hb dX1_months_5 rfl (lv_at hl 0 rfl) ?_
    refine lv_bipush (v := (-4 : Int32)) hx hb dX1_months_6 (by decide) ?_
    obtain ⟨v6, hev6, hf⟩ := bS hf
    refine qV_i (ws' := (wX A cI v6.2 xn xm xk)) (As := [.int (-4 : Int32)]) (rest := []) ⟨hx, hb, hml, hown, hts⟩ hK hN hA hP hD hS (c_X1_refuse l D cI A (-4 : Int32) xx xn xm xk v6 hev6) (cwV 1 hts gX1_months_X1_refuse rfl rfl rfl hd_X1_refuse ⟨Nat.le_of_ble_eq_true rfl, Nat.le_of_ble_eq_true rfl⟩) (va_recv hK hP (ci := 1) (q0 := 0) rfl rfl) (bp_X1_X1_xnmk_x A cI xx xn xm xk v6.2) rfl hl.1 rfl (Nat.le_of_ble_eq_true rfl) dX1_months_8 ⟨Nat.le_of_ble_eq_true rfl, Nat.le_of_ble_eq_true rfl⟩ (fun H locs hP hD hS => ?_)
    have hP : va_P D vwCl (wX A cI v6.2 xn xm xk) H := hP
    obtain rfl := Option.some.inj hf
    exact W.iret (v := v6.1) hx hb hr (fun t ht hW => ⟨⟨v6.1, (), rfl, rfl, hPt ht hP⟩, hS.F ht⟩) hS.2.2 dX1_months_11
set_option maxHeartbeats 4000000 in
set_option maxRecDepth 100000 in
theorem c_X1_card (l : Launch) (D : va_G) (cI : ClassId) (A : Nat → Nat → Nat) (j1 : Int32) (j2 : Int32) (xx : HS) (xn : HS) (xm : HS) (xk : HS) (out : Int32 × HS) (hf : f_X1_card j1 j2 xx xn xm xk = some out) : uI l D cI yX1_card wsX1_card ({ frames := 3, cells := 0, slots := 0, locals := 73 } : Room) [.ref ((A 0) 0), .int j1, .int j2] (wX A cI xx xn xm xk) (wX A cI out.2 xn xm xk) out.1 := by
  intro sz
  refine Met.ofW (cc := cX1_card) (maxL := 3) (ret := (some .int)) (by decide) rfl ?_
  intro p e s m args below meth c s₁ Bd hml hv
  obtain ⟨rfl, hsz, hP, hK, hD0, hN⟩ := hv
  have hx := Bd.exec
  have hb := Bd.bytes
  have hr := Bd.returns
  have hts := atoms_spec (ws := wsX1_card) Bd.pre
  have hown : s.vm.findClass RX1 = some m.cls := findClass_of_methodNamed Bd.named
  have hlocks := Bd.notSynchronized
  subst hsz
  have hD := hD0.self (sz := s.heap.size)
  generalize hAe : va_A (wX A cI xx xn xm xk) s.heap.size = G at hD ⊢
  have hA : ∀ q : Nat, s.heap.size ≤ q → G q := fun q h => by rw [← hAe]; exact Or.inr h
  have hS : va_S G s.heap s.heap [] := va_S.rf
  have hP : va_P D vwCl (wX A cI xx xn xm xk) s.heap := hP
  have hl := lv_entry ([.ref ((A 0) 0), .int j1, .int j2]) (n := 3) (Nat.le_of_ble_eq_true rfl)
  rw [lg_entry_eq]
  generalize (lg_sl ([.ref ((A 0) 0), .int j1, .int j2]) ++ List.replicate (3 - (lg_sl ([.ref ((A 0) 0), .int j1, .int j2])).length) Slot.unset).toArray = ls at hl ⊢
  have hl : lv_has ls 3 [(0, .ref ((A 0) 0)), (1, .int j1), (2, .int j2)] := hl
  have hinH : ∀ w ∈ wsX00, w ∈ wsX1_card := by decide +kernel
  have hinX : ∀ w ∈ wsX10, w ∈ wsX1_card := by decide +kernel
  have lk0 := hts (.fieldLink RX1 10 "LiesBoughtBack" "now" "LLiesBoughtBack$Hall;") (by decide +kernel)
  have lk1 := hts (.initialized RX0) (by decide +kernel)
  have lk2 := hts (.instanceMethod yX0_hasCard) (by decide +kernel)
  have lk3 := hts (.selects RX0 yX0_hasCard yX0_hasCard) (by decide +kernel)
  have lk4 := hts (.instanceMethod yX0_worth) (by decide +kernel)
  have lk5 := hts (.selects RX0 yX0_worth yX0_worth) (by decide +kernel)
  have lk6 := hts (.instanceMethod yX0_placeOf) (by decide +kernel)
  have lk7 := hts (.selects RX0 yX0_placeOf yX0_placeOf) (by decide +kernel)
  have lk8 := hts (.instanceMethod yX0_rivals) (by decide +kernel)
  have lk9 := hts (.selects RX0 yX0_rivals yX0_rivals) (by decide +kernel)
  refine W_in ?_
  intro WW hWW
  refine (hWW _ _ _).mpr ?_
  unfold f_X1_card at hf
  refine lv_aload_n hx hb dX1_card_0 rfl (lv_at hl 0 rfl) ?_
  refine va_get (D := D) (ci := 1) (v := .ref ((A 1) 0)) (C := RX1) (T := TX1) (N := 9) hx hb hts hinX hown hK hP 0 rfl rfl 0 (by decide) lk0 (fun _ h9 => h9) rfl dX1_card_1 ?_
  refine lv_iload_n hx hb dX1_card_4 rfl (lv_at hl 1 rfl) ?_
  refine qVN_i (As := [.int j1]) (rest := []) ⟨hx, hb, hml, hown, hts⟩ hK hN hA hP hD hS (c_X0_hasCard l D cI (A 1) j1 xn (f_X0_hasCard j1 xn) rfl) ⟨va_cnB 1 hts gX1_card_X0_hasCard_n69 rfl rfl rfl (nW.m hN 14 rfl) lk1 hd_X0_hasCard.2 ⟨Nat.le_of_ble_eq_true rfl, Nat.le_of_ble_eq_true rfl⟩, lk2, lk3⟩ (va_recv hK hP (ci := 0) (q0 := 1) rfl rfl) (bq_X1_X0_n A cI xx xn xm xk) rfl hl.1 rfl (Nat.le_of_ble_eq_true rfl) dX1_card_5 ⟨Nat.le_of_ble_eq_true rfl, Nat.le_of_ble_eq_true rfl⟩ (fun H locs hP hD hS => ?_)
  refine lv_if_ne (tgt := 17) hx hb dX1_card_8 (by decide) (fun c1 => ?_) (fun c1 => ?_)
  · have hf := hF hf c1
    refine lv_iload_n hx hb dX1_card_17 rfl (lv_at hl 2 rfl) ?_
    by_cases c2 : j2 = (0 : Int32)
    · have hf := hT hf c2
      refine sw_in (v := 0) (off := 46) (tgt := 64) hx hb dX1_card_18 ((congrArg Int32.toInt c2).trans (by decide)) (by decide) (by decide) (by decide) (by decide) ?_
      refine lv_aload_n hx hb dX1_card_64 rfl (lv_at hl 0 rfl) ?_
      refine va_get (D := D) (ci := 1) (v := .ref ((A 1) 0)) (C := RX1) (T := TX1) (N := 9) hx hb hts hinX hown hK hP 0 rfl rfl 0 (by decide) lk0 (fun _ h9 => h9) rfl dX1_card_65 ?_
      refine va_getN (D := D) (ci := 0) (v := .ref ((A 1) 1)) (C := RX0) (T := TX0) (N := 13) hx hb hts hinH hown hK hP 1 rfl rfl 3 (by decide) (nW.f hN 3 rfl) (fun _ h9 => h9) rfl dX1_card_68 ?_
      refine lv_iload_n hx hb dX1_card_71 rfl (lv_at hl 1 rfl) ?_
      refine qS_i (As := [.ref ((A 1) 1), .int j1]) (rest := []) ⟨hx, hb, hml, hown, hts⟩ hK hN hA hP hD hS (c_X1_at l D cI 8 (by decide) ((A 1) 1) (xn 0) j1) (va_cwS 2 hts gX1_card_X1_at rfl rfl rfl hd_X1_at.2 ⟨Nat.le_of_ble_eq_true rfl, Nat.le_of_ble_eq_true rfl⟩) (bA_X1_n_0 A cI xx xn xm xk) rfl hl.1 rfl (Nat.le_of_ble_eq_true rfl) dX1_card_72 ⟨Nat.le_of_ble_eq_true rfl, Nat.le_of_ble_eq_true rfl⟩ (fun H locs hP hD hS => ?_)
      obtain rfl := Option.some.inj hf
      exact W.iret (v := (atv 8 (xn 0) j1)) hx hb hr (fun t ht hW => ⟨⟨(atv 8 (xn 0) j1), (), rfl, rfl, hPt ht hP⟩, hS.F ht⟩) hS.2.2 dX1_card_75
    have hf := hF hf c2
    by_cases c3 : j2 = (1 : Int32)
    · have hf := hT hf c3
      refine sw_in (v := 1) (off := 58) (tgt := 76) hx hb dX1_card_18 ((congrArg Int32.toInt c3).trans (by decide)) (by decide) (by decide) (by decide) (by decide) ?_
      refine lv_aload_n hx hb dX1_card_76 rfl (lv_at hl 0 rfl) ?_
      refine va_get (D := D) (ci := 1) (v := .ref ((A 1) 0)) (C := RX1) (T := TX1) (N := 9) hx hb hts hinX hown hK hP 0 rfl rfl 0 (by decide) lk0 (fun _ h9 => h9) rfl dX1_card_77 ?_
      refine va_getN (D := D) (ci := 0) (v := .ref ((A 1) 2)) (C := RX0) (T := TX0) (N := 13) hx hb hts hinH hown hK hP 1 rfl rfl 4 (by decide) (nW.f hN 4 rfl) (fun _ h9 => h9) rfl dX1_card_80 ?_
      refine lv_iload_n hx hb dX1_card_83 rfl (lv_at hl 1 rfl) ?_
      refine qS_i (As := [.ref ((A 1) 2), .int j1]) (rest := []) ⟨hx, hb, hml, hown, hts⟩ hK hN hA hP hD hS (c_X1_at l D cI 8 (by decide) ((A 1) 2) (xn 1) j1) (va_cwS 2 hts gX1_card_X1_at rfl rfl rfl hd_X1_at.2 ⟨Nat.le_of_ble_eq_true rfl, Nat.le_of_ble_eq_true rfl⟩) (bA_X1_n_1 A cI xx xn xm xk) rfl hl.1 rfl (Nat.le_of_ble_eq_true rfl) dX1_card_84 ⟨Nat.le_of_ble_eq_true rfl, Nat.le_of_ble_eq_true rfl⟩ (fun H locs hP hD hS => ?_)
      obtain rfl := Option.some.inj hf
      exact W.iret (v := (atv 8 (xn 1) j1)) hx hb hr (fun t ht hW => ⟨⟨(atv 8 (xn 1) j1), (), rfl, rfl, hPt ht hP⟩, hS.F ht⟩) hS.2.2 dX1_card_87
    have hf := hF hf c3
    by_cases c4 : j2 = (2 : Int32)
    · have hf := hT hf c4
      refine sw_in (v := 2) (off := 70) (tgt := 88) hx hb dX1_card_18 ((congrArg Int32.toInt c4).trans (by decide)) (by decide) (by decide) (by decide) (by decide) ?_
      refine lv_aload_n hx hb dX1_card_88 rfl (lv_at hl 0 rfl) ?_
      refine va_get (D := D) (ci := 1) (v := .ref ((A 1) 0)) (C := RX1) (T := TX1) (N := 9) hx hb hts hinX hown hK hP 0 rfl rfl 0 (by decide) lk0 (fun _ h9 => h9) rfl dX1_card_89 ?_
      refine va_getN (D := D) (ci := 0) (v := .ref ((A 1) 3)) (C := RX0) (T := TX0) (N := 13) hx hb hts hinH hown hK hP 1 rfl rfl 5 (by decide) (nW.f hN 5 rfl) (fun _ h9 => h9) rfl dX1_card_92 ?_
      refine lv_iload_n hx hb dX1_card_95 rfl (lv_at hl 1 rfl) ?_
      refine qS_i (As := [.ref ((A 1) 3), .int j1]) (rest := []) ⟨hx, hb, hml, hown, hts⟩ hK hN hA hP hD hS (c_X1_at l D cI 8 (by decide) ((A 1) 3) (xn 2) j1) (va_cwS 2 hts gX1_card_X1_at rfl rfl rfl hd_X1_at.2 ⟨Nat.le_of_ble_eq_true rfl, Nat.le_of_ble_eq_true rfl⟩) (bA_X1_n_2 A cI xx xn xm xk) rfl hl.1 rfl (Nat.le_of_ble_eq_true rfl) dX1_card_96 ⟨Nat.le_of_ble_eq_true rfl, Nat.le_of_ble_eq_true rfl⟩ (fun H locs hP hD hS => ?_)
      obtain rfl := Option.some.inj hf
      exact W.iret (v := (atv 8 (xn 2) j1)) hx hb hr (fun t ht hW => ⟨⟨(atv 8 (xn 2) j1), (), rfl, rfl, hPt ht hP⟩, hS.F ht⟩) hS.2.2 dX1_card_99
    have hf := hF hf c4
    by_cases c5 : j2 = (3 : Int32)
    · have hf := hT hf c5
      refine sw_in (v := 3) (off := 82) (tgt := 100) hx hb dX1_card_18 ((congrArg Int32.toInt c5).trans (by decide)) (by decide) (by decide) (by decide) (by decide) ?_
      refine lv_aload_n hx hb dX1_card_100 rfl (lv_at hl 0 rfl) ?_
      refine va_get (D := D) (ci := 1) (v := .ref ((A 1) 0)) (C := RX1) (T := TX1) (N := 9) hx hb hts hinX hown hK hP 0 rfl rfl 0 (by decide) lk0 (fun _ h9 => h9) rfl dX1_card_101 ?_
      refine va_getN (D := D) (ci := 0) (v := .ref ((A 1) 4)) (C := RX0) (T := TX0) (N := 13) hx hb hts hinH hown hK hP 1 rfl rfl 6 (by decide) (nW.f hN 6 rfl) (fun _ h9 => h9) rfl dX1_card_104 ?_
      refine lv_iload_n hx hb dX1_card_107 rfl (lv_at hl 1 rfl) ?_
      refine qS_i (As := [.ref ((A 1) 4), .int j1]) (rest := []) ⟨hx, hb, hml, hown, hts⟩ hK hN hA hP hD hS (c_X1_at l D cI 8 (by decide) ((A 1) 4) (xn 3) j1) (va_cwS 2 hts gX1_card_X1_at rfl rfl rfl hd_X1_at.2 ⟨Nat.le_of_ble_eq_true rfl, Nat.le_of_ble_eq_true rfl⟩) (bA_X1_n_3 A cI xx xn xm xk) rfl hl.1 rfl (Nat.le_of_ble_eq_true rfl) dX1_card_108 ⟨Nat.le_of_ble_eq_true rfl, Nat.le_of_ble_eq_true rfl⟩ (fun H locs hP hD hS => ?_)
      obtain rfl := Option.some.inj hf
      exact W.iret (v := (atv 8 (xn 3) j1)) hx hb hr (fun t ht hW => ⟨⟨(atv 8 (xn 3) j1), (), rfl, rfl, hPt ht hP⟩, hS.F ht⟩) hS.2.2 dX1_card_111
    have hf := hF hf c5
    by_cases c6 : j2 = (4 : Int32)
    · have hf := hT hf c6
      refine sw_in (v := 4) (off := 94) (tgt := 112) hx hb dX1_card_18 ((congrArg Int32.toInt c6).trans (by decide)) (by decide) (by decide) (by decide) (by decide) ?_
      refine lv_aload_n hx hb dX1_card_112 rfl (lv_at hl 0 rfl) ?_
      refine va_get (D := D) (ci := 1) (v := .ref ((A 1) 0)) (C := RX1) (T := TX1) (N := 9) hx hb hts hinX hown hK hP 0 rfl rfl 0 (by decide) lk0 (fun _ h9 => h9) rfl dX1_card_113 ?_
      refine va_getN (D := D) (ci := 0) (v := .ref ((A 1) 5)) (C := RX0) (T := TX0) (N := 13) hx hb hts hinH hown hK hP 1 rfl rfl 7 (by decide) (nW.f hN 7 rfl) (fun _ h9 => h9) rfl dX1_card_116 ?_
      refine lv_iload_n hx hb dX1_card_119 rfl (lv_at hl 1 rfl) ?_
      refine qS_i (As := [.ref ((A 1) 5), .int j1]) (rest := []) ⟨hx, hb, hml, hown, hts⟩ hK hN hA hP hD hS (c_X1_at l D cI 8 (by decide) ((A 1) 5) (xn 4) j1) (va_cwS 2 hts gX1_card_X1_at rfl rfl rfl hd_X1_at.2 ⟨Nat.le_of_ble_eq_true rfl, Nat.le_of_ble_eq_true rfl⟩) (bA_X1_n_4 A cI xx xn xm xk) rfl hl.1 rfl (Nat.le_of_ble_eq_true rfl) dX1_card_120 ⟨Nat.le_of_ble_eq_true rfl, Nat.le_of_ble_eq_true rfl⟩ (fun H locs hP hD hS => ?_)
      obtain rfl := Option.some.inj hf
      exact W.iret (v := (atv 8 (xn 4) j1)) hx hb hr (fun t ht hW => ⟨⟨(atv 8 (xn 4) j1), (), rfl, rfl, hPt ht hP⟩, hS.F ht⟩) hS.2.2 dX1_card_123
    have hf := hF hf c6
    by_cases c7 : j2 = (5 : Int32)
    · have hf := hT hf c7
      refine sw_in (v := 5) (off := 106) (tgt := 124) hx hb dX1_card_18 ((congrArg Int32.toInt c7).trans (by decide)) (by decide) (by decide) (by decide) (by decide) ?_
      refine lv_aload_n hx hb dX1_card_124 rfl (lv_at hl 0 rfl) ?_
      refine va_get (D := D) (ci := 1) (v := .ref ((A 1) 0)) (C := RX1) (T := TX1) (N := 9) hx hb hts hinX hown hK hP 0 rfl rfl 0 (by decide) lk0 (fun _ h9 => h9) rfl dX1_card_125 ?_
      refine lv_iload_n hx hb dX1_card_128 rfl (lv_at hl 1 rfl) ?_
      refine qVN_i (As := [.int j1]) (rest := []) ⟨hx, hb, hml, hown, hts⟩ hK hN hA hP hD hS (c_X0_worth l D cI (A 1) j1 xn (f_X0_worth j1 xn) rfl) ⟨va_cnB 1 hts gX1_card_X0_worth_n117 rfl rfl rfl (nW.m hN 19 rfl) lk1 hd_X0_worth.2 ⟨Nat.le_of_ble_eq_true rfl, Nat.le_of_ble_eq_true rfl⟩, lk4, lk5⟩ (va_recv hK hP (ci := 0) (q0 := 1) rfl rfl) (bq_X1_X0_n A cI xx xn xm xk) rfl hl.1 rfl (Nat.le_of_ble_eq_true rfl) dX1_card_129 ⟨Nat.le_of_ble_eq_true rfl, Nat.le_of_ble_eq_true rfl⟩ (fun H locs hP hD hS => ?_)
      obtain rfl := Option.some.inj hf
      exact W.iret (v := (f_X0_worth j1 xn)) hx hb hr (fun t ht hW => ⟨⟨(f_X0_worth j1 xn), (), rfl, rfl, hPt ht hP⟩, hS.F ht⟩) hS.2.2 dX1_card_132
    have hf := hF hf c7
    by_cases c8 : j2 = (6 : Int32)
    · have hf := hT hf c8
      refine sw_in (v := 6) (off := 115) (tgt := 133) hx hb dX1_card_18 ((congrArg Int32.toInt c8).trans (by decide)) (by decide) (by decide) (by decide) (by decide) ?_
      refine lv_aload_n hx hb dX1_card_133 rfl (lv_at hl 0 rfl) ?_
      refine va_get (D := D) (ci := 1) (v := .ref ((A 1) 0)) (C := RX1) (T := TX1) (N := 9) hx hb hts hinX hown hK hP 0 rfl rfl 0 (by decide) lk0 (fun _ h9 => h9) rfl dX1_card_134 ?_
      refine lv_iload_n hx hb dX1_card_137 rfl (lv_at hl 1 rfl) ?_
      obtain ⟨v9, hev9, hf⟩ := bS hf
      refine qVN_i (As := [.int j1]) (rest := []) ⟨hx, hb, hml, hown, hts⟩ hK hN hA hP hD hS (c_X0_placeOf l D cI (A 1) j1 xn v9 hev9) ⟨va_cnB 1 hts gX1_card_X0_placeOf_n82 rfl rfl rfl (nW.m hN 16 rfl) lk1 hd_X0_placeOf.2 ⟨Nat.le_of_ble_eq_true rfl, Nat.le_of_ble_eq_true rfl⟩, lk6, lk7⟩ (va_recv hK hP (ci := 0) (q0 := 1) rfl rfl) (bq_X1_X0_n A cI xx xn xm xk) rfl hl.1 rfl (Nat.le_of_ble_eq_true rfl) dX1_card_138 ⟨Nat.le_of_ble_eq_true rfl, Nat.le_of_ble_eq_true rfl⟩ (fun H locs hP hD hS => ?_)
      obtain rfl := Option.some.inj hf
      exact W.iret (v := v9) hx hb hr (fun t ht hW => ⟨⟨v9, (), rfl, rfl, hPt ht hP⟩, hS.F ht⟩) hS.2.2 dX1_card_141
    have hf := hF hf c8
    by_cases c10 : j2 = (7 : Int32)
    · have hf := hT hf c10
      refine sw_in (v := 7) (off := 124) (tgt := 142) hx hb dX1_card_18 ((congrArg Int32.toInt c10).trans (by decide)) (by decide) (by decide) (by decide) (by decide) ?_
      refine lv_aload_n hx hb dX1_card_142 rfl (lv_at hl 0 rfl) ?_
      refine va_get (D := D) (ci := 1) (v := .ref ((A 1) 0)) (C := RX1) (T := TX1) (N := 9) hx hb hts hinX hown hK hP 0 rfl rfl 0 (by decide) lk0 (fun _ h9 => h9) rfl dX1_card_143 ?_
      refine lv_iload_n hx hb dX1_card_146 rfl (lv_at hl 1 rfl) ?_
      obtain ⟨v11, hev11, hf⟩ := bS hf
      refine qVN_i (As := [.int j1]) (rest := []) ⟨hx, hb, hml, hown, hts⟩ hK hN hA hP hD hS (c_X0_rivals l D cI (A 1) j1 xn v11 hev11) ⟨va_cnB 1 hts gX1_card_X0_rivals_n120 rfl rfl rfl (nW.m hN 20 rfl) lk1 hd_X0_rivals.2 ⟨Nat.le_of_ble_eq_true rfl, Nat.le_of_ble_eq_true rfl⟩, lk8, lk9⟩ (va_recv hK hP (ci := 0) (q0 := 1) rfl rfl) (bq_X1_X0_n A cI xx xn xm xk) rfl hl.1 rfl (Nat.le_of_ble_eq_true rfl) dX1_card_147 ⟨Nat.le_of_ble_eq_true rfl, Nat.le_of_ble_eq_true rfl⟩ (fun H locs hP hD hS => ?_)
      obtain rfl := Option.some.inj hf
      exact W.iret (v := v11) hx hb hr (fun t ht hW => ⟨⟨v11, (), rfl, rfl, hPt ht hP⟩, hS.F ht⟩) hS.2.2 dX1_card_150
    have hf := hF hf c10
    refine lv_tableOut (tgt := 151) hx hb dX1_card_18 (by have z0 := lv_neT (a := 0) c2 (by decide); have z1 := lv_neT (a := 1) c3 (by decide); have z2 := lv_neT (a := 2) c4 (by decide); have z3 := lv_neT (a := 3) c5 (by decide); have z4 := lv_neT (a := 4) c6 (by decide); have z5 := lv_neT (a := 5) c7 (by decide); have z6 := lv_neT (a := 6) c8 (by decide); have z7 := lv_neT (a := 7) c10 (by decide); omega) (by decide) ?_
    refine lv_aload_n hx hb dX1_card_151 rfl (lv_at hl 0 rfl) ?_
    refine lv_bipush (v := (-2 : Int32)) hx hb dX1_card_152 (by decide) ?_
    obtain ⟨v12, hev12, hf⟩ := bS hf
    refine qV_i (ws' := (wX A cI v12.2 xn xm xk)) (As := [.int (-2 : Int32)]) (rest := []) ⟨hx, hb, hml, hown, hts⟩ hK hN hA hP hD hS (c_X1_refuse l D cI A (-2 : Int32) xx xn xm xk v12 hev12) (cwV 1 hts gX1_card_X1_refuse rfl rfl rfl hd_X1_refuse ⟨Nat.le_of_ble_eq_true rfl, Nat.le_of_ble_eq_true rfl⟩) (va_recv hK hP (ci := 1) (q0 := 0) rfl rfl) (bp_X1_X1_xnmk_x A cI xx xn xm xk v12.2) rfl hl.1 rfl (Nat.le_of_ble_eq_true rfl) dX1_card_154 ⟨Nat.le_of_ble_eq_true rfl, Nat.le_of_ble_eq_true rfl⟩ (fun H locs hP hD hS => ?_)
    have hP : va_P D vwCl (wX A cI v12.2 xn xm xk) H := hP
    obtain rfl := Option.some.inj hf
    exact W.iret (v := v12.1) hx hb hr (fun t ht hW => ⟨⟨v12.1, (), rfl, rfl, hPt ht hP⟩, hS.F ht⟩) hS.2.2 dX1_card_157
  · have hf := hT hf c1
    refine lv_aload_n hx hb dX1_card_11 rfl (lv_at hl 0 rfl) ?_
    refine lv_iconst (v := (-1 : Int32)) hx hb dX1_card_12 (by decide) ?_
    obtain ⟨v13, hev13, hf⟩ := bS hf
    refine qV_i (ws' := (wX A cI v13.2 xn xm xk)) (As := [.int (-1 : Int32)]) (rest := []) ⟨hx, hb, hml, hown, hts⟩ hK hN hA hP hD hS (c_X1_refuse l D cI A (-1 : Int32) xx xn xm xk v13 hev13) (cwV 1 hts gX1_card_X1_refuse rfl rfl rfl hd_X1_refuse ⟨Nat.le_of_ble_eq_true rfl, Nat.le_of_ble_eq_true rfl⟩) (va_recv hK hP (ci := 1) (q0 := 0) rfl rfl) (bp_X1_X1_xnmk_x A cI xx xn xm xk v13.2) rfl hl.1 rfl (Nat.le_of_ble_eq_true rfl) dX1_card_13 ⟨Nat.le_of_ble_eq_true rfl, Nat.le_of_ble_eq_true rfl⟩ (fun H locs hP hD hS => ?_)
    have hP : va_P D vwCl (wX A cI v13.2 xn xm xk) H := hP
    obtain rfl := Option.some.inj hf
    exact W.iret (v := v13.1) hx hb hr (fun t ht hW => ⟨⟨v13.1, (), rfl, rfl, hPt ht hP⟩, hS.F ht⟩) hS.2.2 dX1_card_16
set_option maxHeartbeats 4000000 in
set_option maxRecDepth 100000 in
theorem c_X1_bidder (l : Launch) (D : va_G) (cI : ClassId) (A : Nat → Nat → Nat) (j1 : Int32) (j2 : Int32) (xx : HS) (xn : HS) (xm : HS) (xk : HS) (out : Int32 × HS) (hf : f_X1_bidder j1 j2 xx xn xm xk = some out) : uI l D cI yX1_bidder wsX1_bidder ({ frames := 2, cells := 0, slots := 0, locals := 44 } : Room) [.ref ((A 0) 0), .int j1, .int j2] (wX A cI xx xn xm xk) (wX A cI out.2 xn xm xk) out.1 := by
  intro sz
  refine Met.ofW (cc := cX1_bidder) (maxL := 3) (ret := (some .int)) (by decide) rfl ?_
  intro p e s m args below meth c s₁ Bd hml hv
  obtain ⟨rfl, hsz, hP, hK, hD0, hN⟩ := hv
  have hx := Bd.exec
  have hb := Bd.bytes
  have hr := Bd.returns
  have hts := atoms_spec (ws := wsX1_bidder) Bd.pre
  have hown : s.vm.findClass RX1 = some m.cls := findClass_of_methodNamed Bd.named
  have hlocks := Bd.notSynchronized
  subst hsz
  have hD := hD0.self (sz := s.heap.size)
  generalize hAe : va_A (wX A cI xx xn xm xk) s.heap.size = G at hD ⊢
  have hA : ∀ q : Nat, s.heap.size ≤ q → G q := fun q h => by rw [← hAe]; exact Or.inr h
  have hS : va_S G s.heap s.heap [] := va_S.rf
  have hP : va_P D vwCl (wX A cI xx xn xm xk) s.heap := hP
  have hl := lv_entry ([.ref ((A 0) 0), .int j1, .int j2]) (n := 3) (Nat.le_of_ble_eq_true rfl)
  rw [lg_entry_eq]
  generalize (lg_sl ([.ref ((A 0) 0), .int j1, .int j2]) ++ List.replicate (3 - (lg_sl ([.ref ((A 0) 0), .int j1, .int j2])).length) Slot.unset).toArray = ls at hl ⊢
  have hl : lv_has ls 3 [(0, .ref ((A 0) 0)), (1, .int j1), (2, .int j2)] := hl
  have hinH : ∀ w ∈ wsX00, w ∈ wsX1_bidder := by decide +kernel
  have hinX : ∀ w ∈ wsX10, w ∈ wsX1_bidder := by decide +kernel
  have lk0 := hts (.fieldLink RX1 10 "LiesBoughtBack" "now" "LLiesBoughtBack$Hall;") (by decide +kernel)
  have lk1 := hts (.initialized RX0) (by decide +kernel)
  have lk2 := hts (.instanceMethod yX0_hasBidder) (by decide +kernel)
  have lk3 := hts (.selects RX0 yX0_hasBidder yX0_hasBidder) (by decide +kernel)
  have lk4 := hts (.instanceMethod yX0_heldBits) (by decide +kernel)
  have lk5 := hts (.selects RX0 yX0_heldBits yX0_heldBits) (by decide +kernel)
  refine W_in ?_
  intro WW hWW
  refine (hWW _ _ _).mpr ?_
  unfold f_X1_bidder at hf
  refine lv_aload_n hx hb dX1_bidder_0 rfl (lv_at hl 0 rfl) ?_
  refine va_get (D := D) (ci := 1) (v := .ref ((A 1) 0)) (C := RX1) (T := TX1) (N := 9) hx hb hts hinX hown hK hP 0 rfl rfl 0 (by decide) lk0 (fun _ h9 => h9) rfl dX1_bidder_1 ?_
  refine lv_iload_n hx hb dX1_bidder_4 rfl (lv_at hl 1 rfl) ?_
  refine qVN_i (As := [.int j1]) (rest := []) ⟨hx, hb, hml, hown, hts⟩ hK hN hA hP hD hS (c_X0_hasBidder l D cI (A 1) j1 xn (f_X0_hasBidder j1 xn) rfl) ⟨va_cnB 1 hts gX1_bidder_X0_hasBidder_n59 rfl rfl rfl (nW.m hN 13 rfl) lk1 hd_X0_hasBidder.2 ⟨Nat.le_of_ble_eq_true rfl, Nat.le_of_ble_eq_true rfl⟩, lk2, lk3⟩ (va_recv hK hP (ci := 0) (q0 := 1) rfl rfl) (bq_X1_X0_n A cI xx xn xm xk) rfl hl.1 rfl (Nat.le_of_ble_eq_true rfl) dX1_bidder_5 ⟨Nat.le_of_ble_eq_true rfl, Nat.le_of_ble_eq_true rfl⟩ (fun H locs hP hD hS => ?_)
  refine lv_if_ne (tgt := 17) hx hb dX1_bidder_8 (by decide) (fun c1 => ?_) (fun c1 => ?_)
  · have hf := hF hf c1
    refine lv_iload_n hx hb dX1_bidder_17 rfl (lv_at hl 2 rfl) ?_
    by_cases c2 : j2 = (0 : Int32)
    · have hf := hT hf c2
      refine sw_in (v := 0) (off := 34) (tgt := 52) hx hb dX1_bidder_18 ((congrArg Int32.toInt c2).trans (by decide)) (by decide) (by decide) (by decide) (by decide) ?_
      refine lv_aload_n hx hb dX1_bidder_52 rfl (lv_at hl 0 rfl) ?_
      refine va_get (D := D) (ci := 1) (v := .ref ((A 1) 0)) (C := RX1) (T := TX1) (N := 9) hx hb hts hinX hown hK hP 0 rfl rfl 0 (by decide) lk0 (fun _ h9 => h9) rfl dX1_bidder_53 ?_
      refine va_getN (D := D) (ci := 0) (v := .ref ((A 1) 7)) (C := RX0) (T := TX0) (N := 13) hx hb hts hinH hown hK hP 1 rfl rfl 9 (by decide) (nW.f hN 8 rfl) (fun _ h9 => h9) rfl dX1_bidder_56 ?_
      refine lv_iload_n hx hb dX1_bidder_59 rfl (lv_at hl 1 rfl) ?_
      refine qS_i (As := [.ref ((A 1) 7), .int j1]) (rest := []) ⟨hx, hb, hml, hown, hts⟩ hK hN hA hP hD hS (c_X1_at l D cI 6 (by decide) ((A 1) 7) (xn 6) j1) (va_cwS 2 hts gX1_bidder_X1_at rfl rfl rfl hd_X1_at.2 ⟨Nat.le_of_ble_eq_true rfl, Nat.le_of_ble_eq_true rfl⟩) (bA_X1_n_6 A cI xx xn xm xk) rfl hl.1 rfl (Nat.le_of_ble_eq_true rfl) dX1_bidder_60 ⟨Nat.le_of_ble_eq_true rfl, Nat.le_of_ble_eq_true rfl⟩ (fun H locs hP hD hS => ?_)
      obtain rfl := Option.some.inj hf
      exact W.iret (v := (atv 6 (xn 6) j1)) hx hb hr (fun t ht hW => ⟨⟨(atv 6 (xn 6) j1), (), rfl, rfl, hPt ht hP⟩, hS.F ht⟩) hS.2.2 dX1_bidder_63
    have hf := hF hf c2
    by_cases c3 : j2 = (1 : Int32)
    · have hf := hT hf c3
      refine sw_in (v := 1) (off := 46) (tgt := 64) hx hb dX1_bidder_18 ((congrArg Int32.toInt c3).trans (by decide)) (by decide) (by decide) (by decide) (by decide) ?_
      refine lv_aload_n hx hb dX1_bidder_64 rfl (lv_at hl 0 rfl) ?_
      refine va_get (D := D) (ci := 1) (v := .ref ((A 1) 0)) (C := RX1) (T := TX1) (N := 9) hx hb hts hinX hown hK hP 0 rfl rfl 0 (by decide) lk0 (fun _ h9 => h9) rfl dX1_bidder_65 ?_
      refine va_getN (D := D) (ci := 0) (v := .ref ((A 1) 8)) (C := RX0) (T := TX0) (N := 13) hx hb hts hinH hown hK hP 1 rfl rfl 10 (by decide) (nW.f hN 9 rfl) (fun _ h9 => h9) rfl dX1_bidder_68 ?_
      refine lv_iload_n hx hb dX1_bidder_71 rfl (lv_at hl 1 rfl) ?_
      refine qS_i (As := [.ref ((A 1) 8), .int j1]) (rest := []) ⟨hx, hb, hml, hown, hts⟩ hK hN hA hP hD hS (c_X1_at l D cI 6 (by decide) ((A 1) 8) (xn 7) j1) (va_cwS 2 hts gX1_bidder_X1_at rfl rfl rfl hd_X1_at.2 ⟨Nat.le_of_ble_eq_true rfl, Nat.le_of_ble_eq_true rfl⟩) (bA_X1_n_7 A cI xx xn xm xk) rfl hl.1 rfl (Nat.le_of_ble_eq_true rfl) dX1_bidder_72 ⟨Nat.le_of_ble_eq_true rfl, Nat.le_of_ble_eq_true rfl⟩ (fun H locs hP hD hS => ?_)
      obtain rfl := Option.some.inj hf
      exact W.iret (v := (atv 6 (xn 7) j1)) hx hb hr (fun t ht hW => ⟨⟨(atv 6 (xn 7) j1), (), rfl, rfl, hPt ht hP⟩, hS.F ht⟩) hS.2.2 dX1_bidder_75
    have hf := hF hf c3
    by_cases c4 : j2 = (2 : Int32)
    · have hf := hT hf c4
      refine sw_in (v := 2) (off := 58) (tgt := 76) hx hb dX1_bidder_18 ((congrArg Int32.toInt c4).trans (by decide)) (by decide) (by decide) (by decide) (by decide) ?_
      refine lv_aload_n hx hb dX1_bidder_76 rfl (lv_at hl 0 rfl) ?_
      refine va_get (D := D) (ci := 1) (v := .ref ((A 1) 0)) (C := RX1) (T := TX1) (N := 9) hx hb hts hinX hown hK hP 0 rfl rfl 0 (by decide) lk0 (fun _ h9 => h9) rfl dX1_bidder_77 ?_
      refine va_getN (D := D) (ci := 0) (v := .ref ((A 1) 9)) (C := RX0) (T := TX0) (N := 13) hx hb hts hinH hown hK hP 1 rfl rfl 11 (by decide) (nW.f hN 10 rfl) (fun _ h9 => h9) rfl dX1_bidder_80 ?_
      refine lv_iload_n hx hb dX1_bidder_83 rfl (lv_at hl 1 rfl) ?_
      refine qS_i (As := [.ref ((A 1) 9), .int j1]) (rest := []) ⟨hx, hb, hml, hown, hts⟩ hK hN hA hP hD hS (c_X1_at l D cI 6 (by decide) ((A 1) 9) (xn 8) j1) (va_cwS 2 hts gX1_bidder_X1_at rfl rfl rfl hd_X1_at.2 ⟨Nat.le_of_ble_eq_true rfl, Nat.le_of_ble_eq_true rfl⟩) (bA_X1_n_8 A cI xx xn xm xk) rfl hl.1 rfl (Nat.le_of_ble_eq_true rfl) dX1_bidder_84 ⟨Nat.le_of_ble_eq_true rfl, Nat.le_of_ble_eq_true rfl⟩ (fun H locs hP hD hS => ?_)
      obtain rfl := Option.some.inj hf
      exact W.iret (v := (atv 6 (xn 8) j1)) hx hb hr (fun t ht hW => ⟨⟨(atv 6 (xn 8) j1), (), rfl, rfl, hPt ht hP⟩, hS.F ht⟩) hS.2.2 dX1_bidder_87
    have hf := hF hf c4
    by_cases c5 : j2 = (3 : Int32)
    · have hf := hT hf c5
      refine sw_in (v := 3) (off := 70) (tgt := 88) hx hb dX1_bidder_18 ((congrArg Int32.toInt c5).trans (by decide)) (by decide) (by decide) (by decide) (by decide) ?_
      refine lv_aload_n hx hb dX1_bidder_88 rfl (lv_at hl 0 rfl) ?_
      refine va_get (D := D) (ci := 1) (v := .ref ((A 1) 0)) (C := RX1) (T := TX1) (N := 9) hx hb hts hinX hown hK hP 0 rfl rfl 0 (by decide) lk0 (fun _ h9 => h9) rfl dX1_bidder_89 ?_
      refine va_getN (D := D) (ci := 0) (v := .ref ((A 1) 10)) (C := RX0) (T := TX0) (N := 13) hx hb hts hinH hown hK hP 1 rfl rfl 12 (by decide) (nW.f hN 11 rfl) (fun _ h9 => h9) rfl dX1_bidder_92 ?_
      refine lv_iload_n hx hb dX1_bidder_95 rfl (lv_at hl 1 rfl) ?_
      refine qS_i (As := [.ref ((A 1) 10), .int j1]) (rest := []) ⟨hx, hb, hml, hown, hts⟩ hK hN hA hP hD hS (c_X1_at l D cI 6 (by decide) ((A 1) 10) (xn 9) j1) (va_cwS 2 hts gX1_bidder_X1_at rfl rfl rfl hd_X1_at.2 ⟨Nat.le_of_ble_eq_true rfl, Nat.le_of_ble_eq_true rfl⟩) (bA_X1_n_9 A cI xx xn xm xk) rfl hl.1 rfl (Nat.le_of_ble_eq_true rfl) dX1_bidder_96 ⟨Nat.le_of_ble_eq_true rfl, Nat.le_of_ble_eq_true rfl⟩ (fun H locs hP hD hS => ?_)
      obtain rfl := Option.some.inj hf
      exact W.iret (v := (atv 6 (xn 9) j1)) hx hb hr (fun t ht hW => ⟨⟨(atv 6 (xn 9) j1), (), rfl, rfl, hPt ht hP⟩, hS.F ht⟩) hS.2.2 dX1_bidder_99
    have hf := hF hf c5
    by_cases c6 : j2 = (4 : Int32)
    · have hf := hT hf c6
      refine sw_in (v := 4) (off := 82) (tgt := 100) hx hb dX1_bidder_18 ((congrArg Int32.toInt c6).trans (by decide)) (by decide) (by decide) (by decide) (by decide) ?_
      refine lv_aload_n hx hb dX1_bidder_100 rfl (lv_at hl 0 rfl) ?_
      refine va_get (D := D) (ci := 1) (v := .ref ((A 1) 0)) (C := RX1) (T := TX1) (N := 9) hx hb hts hinX hown hK hP 0 rfl rfl 0 (by decide) lk0 (fun _ h9 => h9) rfl dX1_bidder_101 ?_
      refine lv_iload_n hx hb dX1_bidder_104 rfl (lv_at hl 1 rfl) ?_
      obtain ⟨v7, hev7, hf⟩ := bS hf
      refine qVN_i (As := [.int j1]) (rest := []) ⟨hx, hb, hml, hown, hts⟩ hK hN hA hP hD hS (c_X0_heldBits l D cI (A 1) j1 xn v7 hev7) ⟨va_cnB 1 hts gX1_bidder_X0_heldBits_n126 rfl rfl rfl (nW.m hN 21 rfl) lk1 hd_X0_heldBits.2 ⟨Nat.le_of_ble_eq_true rfl, Nat.le_of_ble_eq_true rfl⟩, lk4, lk5⟩ (va_recv hK hP (ci := 0) (q0 := 1) rfl rfl) (bq_X1_X0_n A cI xx xn xm xk) rfl hl.1 rfl (Nat.le_of_ble_eq_true rfl) dX1_bidder_105 ⟨Nat.le_of_ble_eq_true rfl, Nat.le_of_ble_eq_true rfl⟩ (fun H locs hP hD hS => ?_)
      obtain rfl := Option.some.inj hf
      exact W.iret (v := v7) hx hb hr (fun t ht hW => ⟨⟨v7, (), rfl, rfl, hPt ht hP⟩, hS.F ht⟩) hS.2.2 dX1_bidder_108
    have hf := hF hf c6
    refine lv_tableOut (tgt := 109) hx hb dX1_bidder_18 (by have z0 := lv_neT (a := 0) c2 (by decide); have z1 := lv_neT (a := 1) c3 (by decide); have z2 := lv_neT (a := 2) c4 (by decide); have z3 := lv_neT (a := 3) c5 (by decide); have z4 := lv_neT (a := 4) c6 (by decide); omega) (by decide) ?_
    refine lv_aload_n hx hb dX1_bidder_109 rfl (lv_at hl 0 rfl) ?_
    refine lv_bipush (v := (-2 : Int32)) hx hb dX1_bidder_110 (by decide) ?_
    obtain ⟨v8, hev8, hf⟩ := bS hf
    refine qV_i (ws' := (wX A cI v8.2 xn xm xk)) (As := [.int (-2 : Int32)]) (rest := []) ⟨hx, hb, hml, hown, hts⟩ hK hN hA hP hD hS (c_X1_refuse l D cI A (-2 : Int32) xx xn xm xk v8 hev8) (cwV 1 hts gX1_bidder_X1_refuse rfl rfl rfl hd_X1_refuse ⟨Nat.le_of_ble_eq_true rfl, Nat.le_of_ble_eq_true rfl⟩) (va_recv hK hP (ci := 1) (q0 := 0) rfl rfl) (bp_X1_X1_xnmk_x A cI xx xn xm xk v8.2) rfl hl.1 rfl (Nat.le_of_ble_eq_true rfl) dX1_bidder_112 ⟨Nat.le_of_ble_eq_true rfl, Nat.le_of_ble_eq_true rfl⟩ (fun H locs hP hD hS => ?_)
    have hP : va_P D vwCl (wX A cI v8.2 xn xm xk) H := hP
    obtain rfl := Option.some.inj hf
    exact W.iret (v := v8.1) hx hb hr (fun t ht hW => ⟨⟨v8.1, (), rfl, rfl, hPt ht hP⟩, hS.F ht⟩) hS.2.2 dX1_bidder_115
  · have hf := hT hf c1
    refine lv_aload_n hx hb dX1_bidder_11 rfl (lv_at hl 0 rfl) ?_
    refine lv_iconst (v := (-1 : Int32)) hx hb dX1_bidder_12 (by decide) ?_
    obtain ⟨v9, hev9, hf⟩ := bS hf
    refine qV_i (ws' := (wX A cI v9.2 xn xm xk)) (As := [.int (-1 : Int32)]) (rest := []) ⟨hx, hb, hml, hown, hts⟩ hK hN hA hP hD hS (c_X1_refuse l D cI A (-1 : Int32) xx xn xm xk v9 hev9) (cwV 1 hts gX1_bidder_X1_refuse rfl rfl rfl hd_X1_refuse ⟨Nat.le_of_ble_eq_true rfl, Nat.le_of_ble_eq_true rfl⟩) (va_recv hK hP (ci := 1) (q0 := 0) rfl rfl) (bp_X1_X1_xnmk_x A cI xx xn xm xk v9.2) rfl hl.1 rfl (Nat.le_of_ble_eq_true rfl) dX1_bidder_13 ⟨Nat.le_of_ble_eq_true rfl, Nat.le_of_ble_eq_true rfl⟩ (fun H locs hP hD hS => ?_)
    have hP : va_P D vwCl (wX A cI v9.2 xn xm xk) H := hP
    obtain rfl := Option.some.inj hf
    exact W.iret (v := v9.1) hx hb hr (fun t ht hW => ⟨⟨v9.1, (), rfl, rfl, hPt ht hP⟩, hS.F ht⟩) hS.2.2 dX1_bidder_16
set_option maxHeartbeats 4000000 in
set_option maxRecDepth 100000 in
theorem c_X1_bids (l : Launch) (D : va_G) (cI : ClassId) (A : Nat → Nat → Nat) (j1 : Int32) (j2 : Int32) (xx : HS) (xn : HS) (xm : HS) (xk : HS) (out : Int32 × HS) (hf : f_X1_bids j1 j2 xx xn xm xk = some out) : uI l D cI yX1_bids wsX1_bids ({ frames := 2, cells := 0, slots := 0, locals := 49 } : Room) [.ref ((A 0) 0), .int j1, .int j2] (wX A cI xx xn xm xk) (wX A cI out.2 xn xm xk) out.1 := by
  intro sz
  refine Met.ofW (cc := cX1_bids) (maxL := 3) (ret := (some .int)) (by decide) rfl ?_
  intro p e s m args below meth c s₁ Bd hml hv
  obtain ⟨rfl, hsz, hP, hK, hD0, hN⟩ := hv
  have hx := Bd.exec
  have hb := Bd.bytes
  have hr := Bd.returns
  have hts := atoms_spec (ws := wsX1_bids) Bd.pre
  have hown : s.vm.findClass RX1 = some m.cls := findClass_of_methodNamed Bd.named
  have hlocks := Bd.notSynchronized
  subst hsz
  have hD := hD0.self (sz := s.heap.size)
  generalize hAe : va_A (wX A cI xx xn xm xk) s.heap.size = G at hD ⊢
  have hA : ∀ q : Nat, s.heap.size ≤ q → G q := fun q h => by rw [← hAe]; exact Or.inr h
  have hS : va_S G s.heap s.heap [] := va_S.rf
  have hP : va_P D vwCl (wX A cI xx xn xm xk) s.heap := hP
  have hl := lv_entry ([.ref ((A 0) 0), .int j1, .int j2]) (n := 3) (Nat.le_of_ble_eq_true rfl)
  rw [lg_entry_eq]
  generalize (lg_sl ([.ref ((A 0) 0), .int j1, .int j2]) ++ List.replicate (3 - (lg_sl ([.ref ((A 0) 0), .int j1, .int j2])).length) Slot.unset).toArray = ls at hl ⊢
  have hl : lv_has ls 3 [(0, .ref ((A 0) 0)), (1, .int j1), (2, .int j2)] := hl
  have hinX : ∀ w ∈ wsX10, w ∈ wsX1_bids := by decide +kernel
  have lk0 := hts (.fieldLink RX1 10 "LiesBoughtBack" "now" "LLiesBoughtBack$Hall;") (by decide +kernel)
  have lk1 := hts (.initialized RX0) (by decide +kernel)
  have lk2 := hts (.instanceMethod yX0_hasBidder) (by decide +kernel)
  have lk3 := hts (.selects RX0 yX0_hasBidder yX0_hasBidder) (by decide +kernel)
  have lk4 := hts (.instanceMethod yX0_hasCard) (by decide +kernel)
  have lk5 := hts (.selects RX0 yX0_hasCard yX0_hasCard) (by decide +kernel)
  have lk6 := hts (.instanceMethod yX0_worth) (by decide +kernel)
  have lk7 := hts (.selects RX0 yX0_worth yX0_worth) (by decide +kernel)
  have lk8 := hts (.instanceMethod yX0_most) (by decide +kernel)
  have lk9 := hts (.selects RX0 yX0_most yX0_most) (by decide +kernel)
  refine W_in ?_
  intro WW hWW
  refine (hWW _ _ _).mpr ?_
  unfold f_X1_bids at hf
  refine lv_aload_n hx hb dX1_bids_0 rfl (lv_at hl 0 rfl) ?_
  refine va_get (D := D) (ci := 1) (v := .ref ((A 1) 0)) (C := RX1) (T := TX1) (N := 9) hx hb hts hinX hown hK hP 0 rfl rfl 0 (by decide) lk0 (fun _ h9 => h9) rfl dX1_bids_1 ?_
  refine lv_iload_n hx hb dX1_bids_4 rfl (lv_at hl 1 rfl) ?_
  refine qVN_i (As := [.int j1]) (rest := []) ⟨hx, hb, hml, hown, hts⟩ hK hN hA hP hD hS (c_X0_hasBidder l D cI (A 1) j1 xn (f_X0_hasBidder j1 xn) rfl) ⟨va_cnB 1 hts gX1_bids_X0_hasBidder_n59 rfl rfl rfl (nW.m hN 13 rfl) lk1 hd_X0_hasBidder.2 ⟨Nat.le_of_ble_eq_true rfl, Nat.le_of_ble_eq_true rfl⟩, lk2, lk3⟩ (va_recv hK hP (ci := 0) (q0 := 1) rfl rfl) (bq_X1_X0_n A cI xx xn xm xk) rfl hl.1 rfl (Nat.le_of_ble_eq_true rfl) dX1_bids_5 ⟨Nat.le_of_ble_eq_true rfl, Nat.le_of_ble_eq_true rfl⟩ (fun H locs hP hD hS => ?_)
  refine lv_if_eq (tgt := 22) hx hb dX1_bids_8 (by decide) (fun c1 => ?_) (fun c1 => ?_)
  · have hf := hT hf c1
    refine lv_aload_n hx hb dX1_bids_22 rfl (lv_at hl 0 rfl) ?_
    refine lv_iconst (v := (-1 : Int32)) hx hb dX1_bids_23 (by decide) ?_
    obtain ⟨v2, hev2, hf⟩ := bS hf
    refine qV_i (ws' := (wX A cI v2.2 xn xm xk)) (As := [.int (-1 : Int32)]) (rest := []) ⟨hx, hb, hml, hown, hts⟩ hK hN hA hP hD hS (c_X1_refuse l D cI A (-1 : Int32) xx xn xm xk v2 hev2) (cwV 1 hts gX1_bids_X1_refuse rfl rfl rfl hd_X1_refuse ⟨Nat.le_of_ble_eq_true rfl, Nat.le_of_ble_eq_true rfl⟩) (va_recv hK hP (ci := 1) (q0 := 0) rfl rfl) (bp_X1_X1_xnmk_x A cI xx xn xm xk v2.2) rfl hl.1 rfl (Nat.le_of_ble_eq_true rfl) dX1_bids_24 ⟨Nat.le_of_ble_eq_true rfl, Nat.le_of_ble_eq_true rfl⟩ (fun H locs hP hD hS => ?_)
    have hP : va_P D vwCl (wX A cI v2.2 xn xm xk) H := hP
    obtain rfl := Option.some.inj hf
    exact W.iret (v := v2.1) hx hb hr (fun t ht hW => ⟨⟨v2.1, (), rfl, rfl, hPt ht hP⟩, hS.F ht⟩) hS.2.2 dX1_bids_27
  · have hf := hF hf c1
    refine lv_aload_n hx hb dX1_bids_11 rfl (lv_at hl 0 rfl) ?_
    refine va_get (D := D) (ci := 1) (v := .ref ((A 1) 0)) (C := RX1) (T := TX1) (N := 9) hx hb hts hinX hown hK hP 0 rfl rfl 0 (by decide) lk0 (fun _ h9 => h9) rfl dX1_bids_12 ?_
    refine lv_iload_n hx hb dX1_bids_15 rfl (lv_at hl 2 rfl) ?_
    refine qVN_i (As := [.int j2]) (rest := []) ⟨hx, hb, hml, hown, hts⟩ hK hN hA hP hD hS (c_X0_hasCard l D cI (A 1) j2 xn (f_X0_hasCard j2 xn) rfl) ⟨va_cnB 1 hts gX1_bids_X0_hasCard_n69 rfl rfl rfl (nW.m hN 14 rfl) lk1 hd_X0_hasCard.2 ⟨Nat.le_of_ble_eq_true rfl, Nat.le_of_ble_eq_true rfl⟩, lk4, lk5⟩ (va_recv hK hP (ci := 0) (q0 := 1) rfl rfl) (bq_X1_X0_n A cI xx xn xm xk) rfl hl.1 rfl (Nat.le_of_ble_eq_true rfl) dX1_bids_16 ⟨Nat.le_of_ble_eq_true rfl, Nat.le_of_ble_eq_true rfl⟩ (fun H locs hP hD hS => ?_)
    refine lv_if_ne (tgt := 28) hx hb dX1_bids_19 (by decide) (fun c3 => ?_) (fun c3 => ?_)
    · have hf := hF hf c3
      refine lv_aload_n hx hb dX1_bids_28 rfl (lv_at hl 0 rfl) ?_
      refine va_get (D := D) (ci := 1) (v := .ref ((A 1) 0)) (C := RX1) (T := TX1) (N := 9) hx hb hts hinX hown hK hP 0 rfl rfl 0 (by decide) lk0 (fun _ h9 => h9) rfl dX1_bids_29 ?_
      refine lv_iload_n hx hb dX1_bids_32 rfl (lv_at hl 1 rfl) ?_
      refine lv_iload_n hx hb dX1_bids_33 rfl (lv_at hl 2 rfl) ?_
      refine lv_aload_n hx hb dX1_bids_34 rfl (lv_at hl 0 rfl) ?_
      refine va_get (D := D) (ci := 1) (v := .ref ((A 1) 0)) (C := RX1) (T := TX1) (N := 9) hx hb hts hinX hown hK hP 0 rfl rfl 0 (by decide) lk0 (fun _ h9 => h9) rfl dX1_bids_35 ?_
      refine lv_iload_n hx hb dX1_bids_38 rfl (lv_at hl 2 rfl) ?_
      refine qVN_i (As := [.int j2]) (rest := [.int j2, .int j1, .ref ((A 1) 0)]) ⟨hx, hb, hml, hown, hts⟩ hK hN hA hP hD hS (c_X0_worth l D cI (A 1) j2 xn (f_X0_worth j2 xn) rfl) ⟨va_cnB 1 hts gX1_bids_X0_worth_n117 rfl rfl rfl (nW.m hN 19 rfl) lk1 hd_X0_worth.2 ⟨Nat.le_of_ble_eq_true rfl, Nat.le_of_ble_eq_true rfl⟩, lk6, lk7⟩ (va_recv hK hP (ci := 0) (q0 := 1) rfl rfl) (bq_X1_X0_n A cI xx xn xm xk) rfl hl.1 rfl (Nat.le_of_ble_eq_true rfl) dX1_bids_39 ⟨Nat.le_of_ble_eq_true rfl, Nat.le_of_ble_eq_true rfl⟩ (fun H locs hP hD hS => ?_)
      refine qVN_i (As := [.int j1, .int j2, .int (f_X0_worth j2 xn)]) (rest := []) ⟨hx, hb, hml, hown, hts⟩ hK hN hA hP hD hS (c_X0_most l D cI (A 1) j1 j2 (f_X0_worth j2 xn) xn (f_X0_most j1 j2 (f_X0_worth j2 xn) xn) rfl) ⟨va_cnB 3 hts gX1_bids_X0_most_n129 rfl rfl rfl (nW.m hN 22 rfl) lk1 hd_X0_most.2 ⟨Nat.le_of_ble_eq_true rfl, Nat.le_of_ble_eq_true rfl⟩, lk8, lk9⟩ (va_recv hK hP (ci := 0) (q0 := 1) rfl rfl) (bq_X1_X0_n A cI xx xn xm xk) rfl hl.1 rfl (Nat.le_of_ble_eq_true rfl) dX1_bids_42 ⟨Nat.le_of_ble_eq_true rfl, Nat.le_of_ble_eq_true rfl⟩ (fun H locs hP hD hS => ?_)
      obtain rfl := Option.some.inj hf
      exact W.iret (v := (f_X0_most j1 j2 (f_X0_worth j2 xn) xn)) hx hb hr (fun t ht hW => ⟨⟨(f_X0_most j1 j2 (f_X0_worth j2 xn) xn), (), rfl, rfl, hPt ht hP⟩, hS.F ht⟩) hS.2.2 dX1_bids_45
    · have hf := hT hf c3
      refine lv_aload_n hx hb dX1_bids_22 rfl (lv_at hl 0 rfl) ?_
      refine lv_iconst (v := (-1 : Int32)) hx hb dX1_bids_23 (by decide) ?_
      obtain ⟨v4, hev4, hf⟩ := bS hf
      refine qV_i (ws' := (wX A cI v4.2 xn xm xk)) (As := [.int (-1 : Int32)]) (rest := []) ⟨hx, hb, hml, hown, hts⟩ hK hN hA hP hD hS (c_X1_refuse l D cI A (-1 : Int32) xx xn xm xk v4 hev4) (cwV 1 hts gX1_bids_X1_refuse rfl rfl rfl hd_X1_refuse ⟨Nat.le_of_ble_eq_true rfl, Nat.le_of_ble_eq_true rfl⟩) (va_recv hK hP (ci := 1) (q0 := 0) rfl rfl) (bp_X1_X1_xnmk_x A cI xx xn xm xk v4.2) rfl hl.1 rfl (Nat.le_of_ble_eq_true rfl) dX1_bids_24 ⟨Nat.le_of_ble_eq_true rfl, Nat.le_of_ble_eq_true rfl⟩ (fun H locs hP hD hS => ?_)
      have hP : va_P D vwCl (wX A cI v4.2 xn xm xk) H := hP
      obtain rfl := Option.some.inj hf
      exact W.iret (v := v4.1) hx hb hr (fun t ht hW => ⟨⟨v4.1, (), rfl, rfl, hPt ht hP⟩, hS.F ht⟩) hS.2.2 dX1_bids_27
set_option maxHeartbeats 4000000 in
set_option maxRecDepth 100000 in
theorem c_X1_gets (l : Launch) (D : va_G) (cI : ClassId) (A : Nat → Nat → Nat) (j1 : Int32) (j2 : Int32) (xx : HS) (xn : HS) (xm : HS) (xk : HS) (out : Int32 × HS) (hf : f_X1_gets j1 j2 xx xn xm xk = some out) : uI l D cI yX1_gets wsX1_gets ({ frames := 3, cells := 0, slots := 0, locals := 77 } : Room) [.ref ((A 0) 0), .int j1, .int j2] (wX A cI xx xn xm xk) (wX A cI out.2 xn xm xk) out.1 := by
  intro sz
  refine Met.ofW (cc := cX1_gets) (maxL := 4) (ret := (some .int)) (by decide) rfl ?_
  intro p e s m args below meth c s₁ Bd hml hv
  obtain ⟨rfl, hsz, hP, hK, hD0, hN⟩ := hv
  have hx := Bd.exec
  have hb := Bd.bytes
  have hr := Bd.returns
  have hts := atoms_spec (ws := wsX1_gets) Bd.pre
  have hown : s.vm.findClass RX1 = some m.cls := findClass_of_methodNamed Bd.named
  have hlocks := Bd.notSynchronized
  subst hsz
  have hD := hD0.self (sz := s.heap.size)
  generalize hAe : va_A (wX A cI xx xn xm xk) s.heap.size = G at hD ⊢
  have hA : ∀ q : Nat, s.heap.size ≤ q → G q := fun q h => by rw [← hAe]; exact Or.inr h
  have hS : va_S G s.heap s.heap [] := va_S.rf
  have hP : va_P D vwCl (wX A cI xx xn xm xk) s.heap := hP
  have hl := lv_entry ([.ref ((A 0) 0), .int j1, .int j2]) (n := 4) (Nat.le_of_ble_eq_true rfl)
  rw [lg_entry_eq]
  generalize (lg_sl ([.ref ((A 0) 0), .int j1, .int j2]) ++ List.replicate (4 - (lg_sl ([.ref ((A 0) 0), .int j1, .int j2])).length) Slot.unset).toArray = ls at hl ⊢
  have hl : lv_has ls 4 [(0, .ref ((A 0) 0)), (1, .int j1), (2, .int j2)] := hl
  have hinX : ∀ w ∈ wsX10, w ∈ wsX1_gets := by decide +kernel
  have lk0 := hts (.fieldLink RX1 10 "LiesBoughtBack" "now" "LLiesBoughtBack$Hall;") (by decide +kernel)
  have lk1 := hts (.initialized RX0) (by decide +kernel)
  have lk2 := hts (.instanceMethod yX0_hasCard) (by decide +kernel)
  have lk3 := hts (.selects RX0 yX0_hasCard yX0_hasCard) (by decide +kernel)
  have lk4 := hts (.instanceMethod yX0_deal) (by decide +kernel)
  have lk5 := hts (.selects RX0 yX0_deal yX0_deal) (by decide +kernel)
  refine W_in ?_
  intro WW hWW
  refine (hWW _ _ _).mpr ?_
  unfold f_X1_gets at hf
  refine lv_aload_n hx hb dX1_gets_0 rfl (lv_at hl 0 rfl) ?_
  refine va_get (D := D) (ci := 1) (v := .ref ((A 1) 0)) (C := RX1) (T := TX1) (N := 9) hx hb hts hinX hown hK hP 0 rfl rfl 0 (by decide) lk0 (fun _ h9 => h9) rfl dX1_gets_1 ?_
  refine lv_iload_n hx hb dX1_gets_4 rfl (lv_at hl 1 rfl) ?_
  refine qVN_i (As := [.int j1]) (rest := []) ⟨hx, hb, hml, hown, hts⟩ hK hN hA hP hD hS (c_X0_hasCard l D cI (A 1) j1 xn (f_X0_hasCard j1 xn) rfl) ⟨va_cnB 1 hts gX1_gets_X0_hasCard_n69 rfl rfl rfl (nW.m hN 14 rfl) lk1 hd_X0_hasCard.2 ⟨Nat.le_of_ble_eq_true rfl, Nat.le_of_ble_eq_true rfl⟩, lk2, lk3⟩ (va_recv hK hP (ci := 0) (q0 := 1) rfl rfl) (bq_X1_X0_n A cI xx xn xm xk) rfl hl.1 rfl (Nat.le_of_ble_eq_true rfl) dX1_gets_5 ⟨Nat.le_of_ble_eq_true rfl, Nat.le_of_ble_eq_true rfl⟩ (fun H locs hP hD hS => ?_)
  refine lv_if_ne (tgt := 17) hx hb dX1_gets_8 (by decide) (fun c1 => ?_) (fun c1 => ?_)
  · have hf := hF hf c1
    refine lv_iload_n hx hb dX1_gets_17 rfl (lv_at hl 2 rfl) ?_
    refine lv_if_lt (tgt := 26) hx hb dX1_gets_18 (by decide) (fun c2 => ?_) (fun c2 => ?_)
    · have hf := hT hf c2
      refine lv_aload_n hx hb dX1_gets_26 rfl (lv_at hl 0 rfl) ?_
      refine lv_bipush (v := (-2 : Int32)) hx hb dX1_gets_27 (by decide) ?_
      obtain ⟨v3, hev3, hf⟩ := bS hf
      refine qV_i (ws' := (wX A cI v3.2 xn xm xk)) (As := [.int (-2 : Int32)]) (rest := []) ⟨hx, hb, hml, hown, hts⟩ hK hN hA hP hD hS (c_X1_refuse l D cI A (-2 : Int32) xx xn xm xk v3 hev3) (cwV 1 hts gX1_gets_X1_refuse rfl rfl rfl hd_X1_refuse ⟨Nat.le_of_ble_eq_true rfl, Nat.le_of_ble_eq_true rfl⟩) (va_recv hK hP (ci := 1) (q0 := 0) rfl rfl) (bp_X1_X1_xnmk_x A cI xx xn xm xk v3.2) rfl hl.1 rfl (Nat.le_of_ble_eq_true rfl) dX1_gets_29 ⟨Nat.le_of_ble_eq_true rfl, Nat.le_of_ble_eq_true rfl⟩ (fun H locs hP hD hS => ?_)
      have hP : va_P D vwCl (wX A cI v3.2 xn xm xk) H := hP
      obtain rfl := Option.some.inj hf
      exact W.iret (v := v3.1) hx hb hr (fun t ht hW => ⟨⟨v3.1, (), rfl, rfl, hPt ht hP⟩, hS.F ht⟩) hS.2.2 dX1_gets_32
    · have hf := hF hf c2
      refine lv_iload_n hx hb dX1_gets_21 rfl (lv_at hl 2 rfl) ?_
      refine lv_iconst (v := (1 : Int32)) hx hb dX1_gets_22 (by decide) ?_
      refine lv_icmp_le (tgt := 33) hx hb dX1_gets_23 (by decide) (fun c4 => ?_) (fun c4 => ?_)
      · have hf := hT hf c4
        refine lv_aload_n hx hb dX1_gets_33 rfl (lv_at hl 0 rfl) ?_
        refine va_get (D := D) (ci := 1) (v := .ref ((A 1) 0)) (C := RX1) (T := TX1) (N := 9) hx hb hts hinX hown hK hP 0 rfl rfl 0 (by decide) lk0 (fun _ h9 => h9) rfl dX1_gets_34 ?_
        refine lv_iload_n hx hb dX1_gets_37 rfl (lv_at hl 1 rfl) ?_
        refine lv_iconst (v := (0 : Int32)) hx hb dX1_gets_38 (by decide) ?_
        obtain ⟨v5, hev5, hf⟩ := bS hf
        refine qVN_i (As := [.int j1, .int (0 : Int32)]) (rest := []) ⟨hx, hb, hml, hown, hts⟩ hK hN hA hP hD hS (c_X0_deal l D cI (A 1) j1 (0 : Int32) xn v5 hev5) ⟨va_cnB 2 hts gX1_gets_X0_deal_n132 rfl rfl rfl (nW.m hN 23 rfl) lk1 hd_X0_deal.2 ⟨Nat.le_of_ble_eq_true rfl, Nat.le_of_ble_eq_true rfl⟩, lk4, lk5⟩ (va_recv hK hP (ci := 0) (q0 := 1) rfl rfl) (bq_X1_X0_n A cI xx xn xm xk) rfl hl.1 rfl (Nat.le_of_ble_eq_true rfl) dX1_gets_39 ⟨Nat.le_of_ble_eq_true rfl, Nat.le_of_ble_eq_true rfl⟩ (fun H locs hP hD hS => ?_)
        refine lv_istore_n (lv' := [(3, .int v5), (0, .ref ((A 0) 0)), (1, .int j1), (2, .int j2)]) hx hb dX1_gets_42 rfl hl (by decide) rfl (fun ls hl => ?_)
        refine lv_iload_n hx hb dX1_gets_43 rfl (lv_at hl 0 rfl) ?_
        refine lv_if_ge (tgt := 50) hx hb dX1_gets_44 (by decide) (fun c6 => ?_) (fun c6 => ?_)
        · have hf := hT hf c6
          refine lv_iload_n hx hb dX1_gets_50 rfl (lv_at hl 3 rfl) ?_
          refine lv_if_ne (tgt := 62) hx hb dX1_gets_51 (by decide) (fun c7 => ?_) (fun c7 => ?_)
          · have hf := hF hf c7
            refine lv_iload_n hx hb dX1_gets_62 rfl (lv_at hl 0 rfl) ?_
            refine lv_sipush (v := (1000 : Int32)) hx hb dX1_gets_63 (by decide) ?_
            refine lv_irem hx hb dX1_gets_66 (by decide) ?_
            obtain rfl := Option.some.inj hf
            exact W.iret (v := (v5 - v5 / (1000 : Int32) * (1000 : Int32))) hx hb hr (fun t ht hW => ⟨⟨(v5 - v5 / (1000 : Int32) * (1000 : Int32)), (), rfl, rfl, hPt ht hP⟩, hS.F ht⟩) hS.2.2 dX1_gets_67
          · have hf := hT hf c7
            refine lv_iload_n hx hb dX1_gets_54 rfl (lv_at hl 0 rfl) ?_
            refine lv_sipush (v := (1000 : Int32)) hx hb dX1_gets_55 (by decide) ?_
            refine lv_idiv hx hb dX1_gets_58 (by decide) ?_
            refine lv_goto (tgt := 67) hx hb dX1_gets_59 (by decide) ?_
            obtain rfl := Option.some.inj hf
            exact W.iret (v := (v5 / (1000 : Int32))) hx hb hr (fun t ht hW => ⟨⟨(v5 / (1000 : Int32)), (), rfl, rfl, hPt ht hP⟩, hS.F ht⟩) hS.2.2 dX1_gets_67
        · have hf := hF hf c6
          refine lv_bipush (v := (-9 : Int32)) hx hb dX1_gets_47 (by decide) ?_
          obtain rfl := Option.some.inj hf
          exact W.iret (v := (-9 : Int32)) hx hb hr (fun t ht hW => ⟨⟨(-9 : Int32), (), rfl, rfl, hPt ht hP⟩, hS.F ht⟩) hS.2.2 dX1_gets_49
      · have hf := hF hf c4
        refine lv_aload_n hx hb dX1_gets_26 rfl (lv_at hl 0 rfl) ?_
        refine lv_bipush (v := (-2 : Int32)) hx hb dX1_gets_27 (by decide) ?_
        obtain ⟨v8, hev8, hf⟩ := bS hf
        refine qV_i (ws' := (wX A cI v8.2 xn xm xk)) (As := [.int (-2 : Int32)]) (rest := []) ⟨hx, hb, hml, hown, hts⟩ hK hN hA hP hD hS (c_X1_refuse l D cI A (-2 : Int32) xx xn xm xk v8 hev8) (cwV 1 hts gX1_gets_X1_refuse rfl rfl rfl hd_X1_refuse ⟨Nat.le_of_ble_eq_true rfl, Nat.le_of_ble_eq_true rfl⟩) (va_recv hK hP (ci := 1) (q0 := 0) rfl rfl) (bp_X1_X1_xnmk_x A cI xx xn xm xk v8.2) rfl hl.1 rfl (Nat.le_of_ble_eq_true rfl) dX1_gets_29 ⟨Nat.le_of_ble_eq_true rfl, Nat.le_of_ble_eq_true rfl⟩ (fun H locs hP hD hS => ?_)
        have hP : va_P D vwCl (wX A cI v8.2 xn xm xk) H := hP
        obtain rfl := Option.some.inj hf
        exact W.iret (v := v8.1) hx hb hr (fun t ht hW => ⟨⟨v8.1, (), rfl, rfl, hPt ht hP⟩, hS.F ht⟩) hS.2.2 dX1_gets_32
  · have hf := hT hf c1
    refine lv_aload_n hx hb dX1_gets_11 rfl (lv_at hl 0 rfl) ?_
    refine lv_iconst (v := (-1 : Int32)) hx hb dX1_gets_12 (by decide) ?_
    obtain ⟨v9, hev9, hf⟩ := bS hf
    refine qV_i (ws' := (wX A cI v9.2 xn xm xk)) (As := [.int (-1 : Int32)]) (rest := []) ⟨hx, hb, hml, hown, hts⟩ hK hN hA hP hD hS (c_X1_refuse l D cI A (-1 : Int32) xx xn xm xk v9 hev9) (cwV 1 hts gX1_gets_X1_refuse rfl rfl rfl hd_X1_refuse ⟨Nat.le_of_ble_eq_true rfl, Nat.le_of_ble_eq_true rfl⟩) (va_recv hK hP (ci := 1) (q0 := 0) rfl rfl) (bp_X1_X1_xnmk_x A cI xx xn xm xk v9.2) rfl hl.1 rfl (Nat.le_of_ble_eq_true rfl) dX1_gets_13 ⟨Nat.le_of_ble_eq_true rfl, Nat.le_of_ble_eq_true rfl⟩ (fun H locs hP hD hS => ?_)
    have hP : va_P D vwCl (wX A cI v9.2 xn xm xk) H := hP
    obtain rfl := Option.some.inj hf
    exact W.iret (v := v9.1) hx hb hr (fun t ht hW => ⟨⟨v9.1, (), rfl, rfl, hPt ht hP⟩, hS.F ht⟩) hS.2.2 dX1_gets_16
set_option maxHeartbeats 4000000 in
set_option maxRecDepth 100000 in
theorem c_X1_riches (l : Launch) (D : va_G) (cI : ClassId) (A : Nat → Nat → Nat) (j1 : Int32) (j2 : Int32) (xx : HS) (xn : HS) (xm : HS) (xk : HS) (out : Int32) (hf : f_X1_riches j1 j2 xx xn xm xk = out) : uI l D cI yX1_riches wsX1_riches ({ frames := 2, cells := 0, slots := 0, locals := 44 } : Room) [.ref ((A 0) 0), .int j1, .int j2] (wX A cI xx xn xm xk) (wX A cI xx xn xm xk) out := by
  intro sz
  refine Met.ofW (cc := cX1_riches) (maxL := 3) (ret := (some .int)) (by decide) rfl ?_
  intro p e s m args below meth c s₁ Bd hml hv
  obtain ⟨rfl, hsz, hP, hK, hD0, hN⟩ := hv
  have hx := Bd.exec
  have hb := Bd.bytes
  have hr := Bd.returns
  have hts := atoms_spec (ws := wsX1_riches) Bd.pre
  have hown : s.vm.findClass RX1 = some m.cls := findClass_of_methodNamed Bd.named
  have hlocks := Bd.notSynchronized
  subst hsz
  have hD := hD0.self (sz := s.heap.size)
  generalize hAe : va_A (wX A cI xx xn xm xk) s.heap.size = G at hD ⊢
  have hA : ∀ q : Nat, s.heap.size ≤ q → G q := fun q h => by rw [← hAe]; exact Or.inr h
  have hS : va_S G s.heap s.heap [] := va_S.rf
  have hP : va_P D vwCl (wX A cI xx xn xm xk) s.heap := hP
  have hl := lv_entry ([.ref ((A 0) 0), .int j1, .int j2]) (n := 3) (Nat.le_of_ble_eq_true rfl)
  rw [lg_entry_eq]
  generalize (lg_sl ([.ref ((A 0) 0), .int j1, .int j2]) ++ List.replicate (3 - (lg_sl ([.ref ((A 0) 0), .int j1, .int j2])).length) Slot.unset).toArray = ls at hl ⊢
  have hl : lv_has ls 3 [(0, .ref ((A 0) 0)), (1, .int j1), (2, .int j2)] := hl
  have hinH : ∀ w ∈ wsX00, w ∈ wsX1_riches := by decide +kernel
  have hinX : ∀ w ∈ wsX10, w ∈ wsX1_riches := by decide +kernel
  have lk0 := hts (.fieldLink RX1 10 "LiesBoughtBack" "now" "LLiesBoughtBack$Hall;") (by decide +kernel)
  have lk1 := hts (.initialized RX0) (by decide +kernel)
  have lk2 := hts (.instanceMethod yX0_worth) (by decide +kernel)
  have lk3 := hts (.selects RX0 yX0_worth yX0_worth) (by decide +kernel)
  refine W_in ?_
  intro WW hWW
  refine (hWW _ _ _).mpr ?_
  unfold f_X1_riches at hf
  refine lv_iload_n hx hb dX1_riches_0 rfl (lv_at hl 2 rfl) ?_
  by_cases c1 : j2 = (0 : Int32)
  · have hf := hT hf c1
    refine lv_lookup (off := 27) (tgt := 28) hx hb dX1_riches_1 (by decide) (by rw [show (j2 : Int32).toInt = 0 from ((congrArg Int32.toInt c1).trans (by decide))]; decide) (by decide) ?_
    refine lv_aload_n hx hb dX1_riches_28 rfl (lv_at hl 0 rfl) ?_
    refine va_get (D := D) (ci := 1) (v := .ref ((A 1) 0)) (C := RX1) (T := TX1) (N := 9) hx hb hts hinX hown hK hP 0 rfl rfl 0 (by decide) lk0 (fun _ h9 => h9) rfl dX1_riches_29 ?_
    refine va_getN (D := D) (ci := 0) (v := .ref ((A 1) 9)) (C := RX0) (T := TX0) (N := 13) hx hb hts hinH hown hK hP 1 rfl rfl 11 (by decide) (nW.f hN 10 rfl) (fun _ h9 => h9) rfl dX1_riches_32 ?_
    refine lv_iload_n hx hb dX1_riches_35 rfl (lv_at hl 1 rfl) ?_
    refine qS_i (As := [.ref ((A 1) 9), .int j1]) (rest := []) ⟨hx, hb, hml, hown, hts⟩ hK hN hA hP hD hS (c_X1_at l D cI 6 (by decide) ((A 1) 9) (xn 8) j1) (va_cwS 2 hts gX1_riches_X1_at rfl rfl rfl hd_X1_at.2 ⟨Nat.le_of_ble_eq_true rfl, Nat.le_of_ble_eq_true rfl⟩) (bA_X1_n_8 A cI xx xn xm xk) rfl hl.1 rfl (Nat.le_of_ble_eq_true rfl) dX1_riches_36 ⟨Nat.le_of_ble_eq_true rfl, Nat.le_of_ble_eq_true rfl⟩ (fun H locs hP hD hS => ?_)
    subst hf
    exact W.iret (v := (atv 6 (xn 8) j1)) hx hb hr (fun t ht hW => ⟨⟨(atv 6 (xn 8) j1), (), rfl, rfl, hPt ht hP⟩, hS.F ht⟩) hS.2.2 dX1_riches_39
  have hf := hF hf c1
  by_cases c2 : j2 = (1 : Int32)
  · have hf := hT hf c2
    refine lv_lookup (off := 39) (tgt := 40) hx hb dX1_riches_1 (by decide) (by rw [show (j2 : Int32).toInt = 1 from ((congrArg Int32.toInt c2).trans (by decide))]; decide) (by decide) ?_
    refine lv_aload_n hx hb dX1_riches_40 rfl (lv_at hl 0 rfl) ?_
    refine va_get (D := D) (ci := 1) (v := .ref ((A 1) 0)) (C := RX1) (T := TX1) (N := 9) hx hb hts hinX hown hK hP 0 rfl rfl 0 (by decide) lk0 (fun _ h9 => h9) rfl dX1_riches_41 ?_
    refine va_getN (D := D) (ci := 0) (v := .ref ((A 1) 10)) (C := RX0) (T := TX0) (N := 13) hx hb hts hinH hown hK hP 1 rfl rfl 12 (by decide) (nW.f hN 11 rfl) (fun _ h9 => h9) rfl dX1_riches_44 ?_
    refine lv_iload_n hx hb dX1_riches_47 rfl (lv_at hl 1 rfl) ?_
    refine qS_i (As := [.ref ((A 1) 10), .int j1]) (rest := []) ⟨hx, hb, hml, hown, hts⟩ hK hN hA hP hD hS (c_X1_at l D cI 6 (by decide) ((A 1) 10) (xn 9) j1) (va_cwS 2 hts gX1_riches_X1_at rfl rfl rfl hd_X1_at.2 ⟨Nat.le_of_ble_eq_true rfl, Nat.le_of_ble_eq_true rfl⟩) (bA_X1_n_9 A cI xx xn xm xk) rfl hl.1 rfl (Nat.le_of_ble_eq_true rfl) dX1_riches_48 ⟨Nat.le_of_ble_eq_true rfl, Nat.le_of_ble_eq_true rfl⟩ (fun H locs hP hD hS => ?_)
    subst hf
    exact W.iret (v := (atv 6 (xn 9) j1)) hx hb hr (fun t ht hW => ⟨⟨(atv 6 (xn 9) j1), (), rfl, rfl, hPt ht hP⟩, hS.F ht⟩) hS.2.2 dX1_riches_51
  have hf := hF hf c2
  refine lv_lookup (off := 51) (tgt := 52) hx hb dX1_riches_1 (by decide) ((lv_osw c1 (by decide)).trans ((lv_osw c2 (by decide)).trans rfl)) (by decide) ?_
  refine lv_aload_n hx hb dX1_riches_52 rfl (lv_at hl 0 rfl) ?_
  refine va_get (D := D) (ci := 1) (v := .ref ((A 1) 0)) (C := RX1) (T := TX1) (N := 9) hx hb hts hinX hown hK hP 0 rfl rfl 0 (by decide) lk0 (fun _ h9 => h9) rfl dX1_riches_53 ?_
  refine lv_iload_n hx hb dX1_riches_56 rfl (lv_at hl 1 rfl) ?_
  refine qVN_i (As := [.int j1]) (rest := []) ⟨hx, hb, hml, hown, hts⟩ hK hN hA hP hD hS (c_X0_worth l D cI (A 1) j1 xn (f_X0_worth j1 xn) rfl) ⟨va_cnB 1 hts gX1_riches_X0_worth_n117 rfl rfl rfl (nW.m hN 19 rfl) lk1 hd_X0_worth.2 ⟨Nat.le_of_ble_eq_true rfl, Nat.le_of_ble_eq_true rfl⟩, lk2, lk3⟩ (va_recv hK hP (ci := 0) (q0 := 1) rfl rfl) (bq_X1_X0_n A cI xx xn xm xk) rfl hl.1 rfl (Nat.le_of_ble_eq_true rfl) dX1_riches_57 ⟨Nat.le_of_ble_eq_true rfl, Nat.le_of_ble_eq_true rfl⟩ (fun H locs hP hD hS => ?_)
  subst hf
  exact W.iret (v := (f_X0_worth j1 xn)) hx hb hr (fun t ht hW => ⟨⟨(f_X0_worth j1 xn), (), rfl, rfl, hPt ht hP⟩, hS.F ht⟩) hS.2.2 dX1_riches_60
set_option maxHeartbeats 4000000 in
set_option maxRecDepth 100000 in
theorem c_X1_richest (l : Launch) (D : va_G) (cI : ClassId) (A : Nat → Nat → Nat) (j1 : Int32) (xx : HS) (xn : HS) (xm : HS) (xk : HS) (out : Int32 × HS) (hf : f_X1_richest j1 xx xn xm xk = some out) : uI l D cI yX1_richest wsX1_richest ({ frames := 3, cells := 0, slots := 0, locals := 66 } : Room) [.ref ((A 0) 0), .int j1] (wX A cI xx xn xm xk) (wX A cI out.2 xn xm xk) out.1 := by
  intro sz
  refine Met.ofW (cc := cX1_richest) (maxL := 7) (ret := (some .int)) (by decide) rfl ?_
  intro p e s m args below meth c s₁ Bd hml hv
  obtain ⟨rfl, hsz, hP, hK, hD0, hN⟩ := hv
  have hx := Bd.exec
  have hb := Bd.bytes
  have hr := Bd.returns
  have hts := atoms_spec (ws := wsX1_richest) Bd.pre
  have hown : s.vm.findClass RX1 = some m.cls := findClass_of_methodNamed Bd.named
  have hlocks := Bd.notSynchronized
  subst hsz
  have hD := hD0.self (sz := s.heap.size)
  generalize hAe : va_A (wX A cI xx xn xm xk) s.heap.size = G at hD ⊢
  have hA : ∀ q : Nat, s.heap.size ≤ q → G q := fun q h => by rw [← hAe]; exact Or.inr h
  have hS : va_S G s.heap s.heap [] := va_S.rf
  have hP : va_P D vwCl (wX A cI xx xn xm xk) s.heap := hP
  have hl := lv_entry ([.ref ((A 0) 0), .int j1]) (n := 7) (Nat.le_of_ble_eq_true rfl)
  rw [lg_entry_eq]
  generalize (lg_sl ([.ref ((A 0) 0), .int j1]) ++ List.replicate (7 - (lg_sl ([.ref ((A 0) 0), .int j1])).length) Slot.unset).toArray = ls at hl ⊢
  have hl : lv_has ls 7 [(0, .ref ((A 0) 0)), (1, .int j1)] := hl
  have hinH : ∀ w ∈ wsX00, w ∈ wsX1_richest := by decide +kernel
  have hinX : ∀ w ∈ wsX10, w ∈ wsX1_richest := by decide +kernel
  have lk0 := hts (.fieldLink RX1 10 "LiesBoughtBack" "now" "LLiesBoughtBack$Hall;") (by decide +kernel)
  refine W_in ?_
  intro WW hWW
  refine (hWW _ _ _).mpr ?_
  unfold f_X1_richest at hf
  refine lv_iload_n hx hb dX1_richest_0 rfl (lv_at hl 1 rfl) ?_
  refine lv_if_lt (tgt := 9) hx hb dX1_richest_1 (by decide) (fun c1 => ?_) (fun c1 => ?_)
  · have hf := hT hf c1
    refine lv_aload_n hx hb dX1_richest_9 rfl (lv_at hl 0 rfl) ?_
    refine lv_bipush (v := (-2 : Int32)) hx hb dX1_richest_10 (by decide) ?_
    obtain ⟨v2, hev2, hf⟩ := bS hf
    refine qV_i (ws' := (wX A cI v2.2 xn xm xk)) (As := [.int (-2 : Int32)]) (rest := []) ⟨hx, hb, hml, hown, hts⟩ hK hN hA hP hD hS (c_X1_refuse l D cI A (-2 : Int32) xx xn xm xk v2 hev2) (cwV 1 hts gX1_richest_X1_refuse rfl rfl rfl hd_X1_refuse ⟨Nat.le_of_ble_eq_true rfl, Nat.le_of_ble_eq_true rfl⟩) (va_recv hK hP (ci := 1) (q0 := 0) rfl rfl) (bp_X1_X1_xnmk_x A cI xx xn xm xk v2.2) rfl hl.1 rfl (Nat.le_of_ble_eq_true rfl) dX1_richest_12 ⟨Nat.le_of_ble_eq_true rfl, Nat.le_of_ble_eq_true rfl⟩ (fun H locs hP hD hS => ?_)
    have hP : va_P D vwCl (wX A cI v2.2 xn xm xk) H := hP
    obtain rfl := Option.some.inj hf
    exact W.iret (v := v2.1) hx hb hr (fun t ht hW => ⟨⟨v2.1, (), rfl, rfl, hPt ht hP⟩, hS.F ht⟩) hS.2.2 dX1_richest_15
  · have hf := hF hf c1
    refine lv_iload_n hx hb dX1_richest_4 rfl (lv_at hl 1 rfl) ?_
    refine lv_iconst (v := (2 : Int32)) hx hb dX1_richest_5 (by decide) ?_
    refine lv_icmp_le (tgt := 16) hx hb dX1_richest_6 (by decide) (fun c3 => ?_) (fun c3 => ?_)
    · have hf := hT hf c3
      refine lv_iload_n hx hb dX1_richest_16 rfl (lv_at hl 1 rfl) ?_
      refine lv_iconst (v := (2 : Int32)) hx hb dX1_richest_17 (by decide) ?_
      refine lv_icmp_ne (tgt := 31) hx hb dX1_richest_18 (by decide) (fun c4 => ?_) (fun c4 => ?_)
      · have hf := hF hf c4
        refine lv_aload_n hx hb dX1_richest_31 rfl (lv_at hl 0 rfl) ?_
        refine va_get (D := D) (ci := 1) (v := .ref ((A 1) 0)) (C := RX1) (T := TX1) (N := 9) hx hb hts hinX hown hK hP 0 rfl rfl 0 (by decide) lk0 (fun _ h9 => h9) rfl dX1_richest_32 ?_
        refine va_getN (D := D) (ci := 0) (v := .int (xn 11 0)) (C := RX0) (T := TX0) (N := 13) hx hb hts hinH hown hK hP 1 rfl rfl 1 (by decide) (nW.f hN 1 rfl) (fun _ h9 => h9) rfl dX1_richest_35 ?_
        refine lv_istore_n (lv' := [(2, .int (xn 11 0)), (0, .ref ((A 0) 0)), (1, .int j1)]) hx hb dX1_richest_38 rfl hl (by decide) rfl (fun ls hl => ?_)
        refine lv_bipush (v := (-9 : Int32)) hx hb dX1_richest_39 (by decide) ?_
        refine lv_istore_n (lv' := [(3, .int (-9 : Int32)), (2, .int (xn 11 0)), (0, .ref ((A 0) 0)), (1, .int j1)]) hx hb dX1_richest_41 rfl hl (by decide) rfl (fun ls hl => ?_)
        refine lv_iconst (v := (-1 : Int32)) hx hb dX1_richest_42 (by decide) ?_
        refine lv_istore (lv' := [(4, .int (-1 : Int32)), (3, .int (-9 : Int32)), (2, .int (xn 11 0)), (0, .ref ((A 0) 0)), (1, .int j1)]) hx hb dX1_richest_43 hl (by decide) rfl (fun ls hl => ?_)
        refine lv_iconst (v := (0 : Int32)) hx hb dX1_richest_45 (by decide) ?_
        refine lv_istore (lv' := [(5, .int (0 : Int32)), (4, .int (-1 : Int32)), (3, .int (-9 : Int32)), (2, .int (xn 11 0)), (0, .ref ((A 0) 0)), (1, .int j1)]) hx hb dX1_richest_46 hl (by decide) rfl (fun ls hl => ?_)
        obtain ⟨K83, hK83, hf⟩ := jnS hf
        have J83 : ∀ (j3_83 : Int32) (xx_83 : HS) (H : Heap) (locs : List Loc) (ls : Array Slot), K83 j3_83 xx_83 = some out → va_P D vwCl (wX A cI xx_83 xn xm xk) H → va_D G (wX A cI xx_83 xn xm xk) → va_S G s.heap H locs → lv_has ls 7 [(3, .int j3_83)] → WW H locs (F0 m 83 ls []) := by
          intro j3_83 xx_83 H locs ls hf hP hD hS hl
          subst hK83
          refine (hWW _ _ _).mpr ?_
          refine lv_iload_n hx hb dX1_richest_83 rfl (lv_at hl 0 rfl) ?_
          obtain rfl := Option.some.inj hf
          exact W.iret (v := j3_83) hx hb hr (fun t ht hW => ⟨⟨j3_83, (), rfl, rfl, hPt ht hP⟩, hS.F ht⟩) hS.2.2 dX1_richest_84
        have P48 : ∀ (n' : Nat) (j2_48 : Int32) (j3_48 : Int32) (j4_48 : Int32) (j5_48 : Int32) (xx_48 : HS) (H : Heap) (locs : List Loc) (ls : Array Slot), L_X1_richest_48 j1 xn xm xk K83 n' j2_48 j3_48 j4_48 j5_48 xx_48 = some out → va_P D vwCl (wX A cI xx_48 xn xm xk) H → va_D G (wX A cI xx_48 xn xm xk) → va_S G s.heap H locs → lv_has ls 7 [(0, .ref ((A 0) 0)), (1, .int j1), (2, .int j2_48), (3, .int j3_48), (4, .int j4_48), (5, .int j5_48)] → WW H locs (F0 m 48 ls []) := by
          intro n'
          induction n' with
          | zero => intro j2_48 j3_48 j4_48 j5_48 xx_48 H locs ls hf; exact absurd (show (none : Option (Int32 × HS)) = some out from hf) (fun q => by cases q)
          | succ n' ih =>
            intro j2_48 j3_48 j4_48 j5_48 xx_48 H locs ls hf hP hD hS hl
            rw [L_X1_richest_48] at hf
            refine (hWW _ _ _).mpr ?_
            refine lv_iload hx hb dX1_richest_48 (lv_at hl 5 rfl) ?_
            refine lv_iload_n hx hb dX1_richest_50 rfl (lv_at hl 2 rfl) ?_
            refine lv_icmp_ge (tgt := 83) hx hb dX1_richest_51 (by decide) (fun c5 => ?_) (fun c5 => ?_)
            · have hf := hT hf c5
              exact (hWW _ _ _).mp (J83 _ _ _ _ _ hf hP hD hS (lv_sub hl [3] rfl))
            · have hf := hF hf c5
              refine lv_aload_n hx hb dX1_richest_54 rfl (lv_at hl 0 rfl) ?_
              refine lv_iload hx hb dX1_richest_55 (lv_at hl 5 rfl) ?_
              refine lv_iload_n hx hb dX1_richest_57 rfl (lv_at hl 1 rfl) ?_
              refine qV_i (As := [.int j5_48, .int j1]) (rest := []) ⟨hx, hb, hml, hown, hts⟩ hK hN hA hP hD hS (c_X1_riches l D cI A j5_48 j1 xx_48 xn xm xk (f_X1_riches j5_48 j1 xx_48 xn xm xk) rfl) (cwV 2 hts gX1_richest_X1_riches rfl rfl rfl hd_X1_riches ⟨Nat.le_of_ble_eq_true rfl, Nat.le_of_ble_eq_true rfl⟩) (va_recv hK hP (ci := 1) (q0 := 0) rfl rfl) (bq_X1_X1_xnmk A cI xx_48 xn xm xk) rfl hl.1 rfl (Nat.le_of_ble_eq_true rfl) dX1_richest_58 ⟨Nat.le_of_ble_eq_true rfl, Nat.le_of_ble_eq_true rfl⟩ (fun H locs hP hD hS => ?_)
              refine lv_istore (lv' := [(6, .int (f_X1_riches j5_48 j1 xx_48 xn xm xk)), (0, .ref ((A 0) 0)), (1, .int j1), (2, .int j2_48), (3, .int j3_48), (4, .int j4_48), (5, .int j5_48)]) hx hb dX1_richest_61 hl (by decide) rfl (fun ls hl => ?_)
              refine lv_iload hx hb dX1_richest_63 (lv_at hl 0 rfl) ?_
              refine lv_iload hx hb dX1_richest_65 (lv_at hl 5 rfl) ?_
              refine lv_icmp_le (tgt := 77) hx hb dX1_richest_67 (by decide) (fun c6 => ?_) (fun c6 => ?_)
              · have hf := hT hf c6
                refine lv_iinc (v := (j5_48 + (1 : Int32))) (lv' := [(5, .int (j5_48 + (1 : Int32))), (6, .int (f_X1_riches j5_48 j1 xx_48 xn xm xk)), (0, .ref ((A 0) 0)), (1, .int j1), (2, .int j2_48), (3, .int j3_48), (4, .int j4_48)]) hx hb dX1_richest_77 hl (k := 6) rfl rfl (by decide) rfl (fun ls hl => ?_)
                refine lv_goto (tgt := 48) hx hb dX1_richest_80 (by decide) ?_
                exact (hWW _ _ _).mp (ih _ _ _ _ _ _ _ _ hf hP hD hS (lv_sub hl [2, 3, 4, 5, 6, 0] rfl))
              · have hf := hF hf c6
                refine lv_iload hx hb dX1_richest_70 (lv_at hl 0 rfl) ?_
                refine lv_istore (lv' := [(4, .int (f_X1_riches j5_48 j1 xx_48 xn xm xk)), (6, .int (f_X1_riches j5_48 j1 xx_48 xn xm xk)), (0, .ref ((A 0) 0)), (1, .int j1), (2, .int j2_48), (3, .int j3_48), (5, .int j5_48)]) hx hb dX1_richest_72 hl (by decide) rfl (fun ls hl => ?_)
                refine lv_iload hx hb dX1_richest_74 (lv_at hl 6 rfl) ?_
                refine lv_istore_n (lv' := [(3, .int j5_48), (4, .int (f_X1_riches j5_48 j1 xx_48 xn xm xk)), (6, .int (f_X1_riches j5_48 j1 xx_48 xn xm xk)), (0, .ref ((A 0) 0)), (1, .int j1), (2, .int j2_48), (5, .int j5_48)]) hx hb dX1_richest_76 rfl hl (by decide) rfl (fun ls hl => ?_)
                refine lv_iinc (v := (j5_48 + (1 : Int32))) (lv' := [(5, .int (j5_48 + (1 : Int32))), (3, .int j5_48), (4, .int (f_X1_riches j5_48 j1 xx_48 xn xm xk)), (6, .int (f_X1_riches j5_48 j1 xx_48 xn xm xk)), (0, .ref ((A 0) 0)), (1, .int j1), (2, .int j2_48)]) hx hb dX1_richest_77 hl (k := 6) rfl rfl (by decide) rfl (fun ls hl => ?_)
                refine lv_goto (tgt := 48) hx hb dX1_richest_80 (by decide) ?_
                exact (hWW _ _ _).mp (ih _ _ _ _ _ _ _ _ hf hP hD hS (lv_sub hl [4, 5, 6, 1, 2, 0] rfl))
        exact (hWW _ _ _).mp (P48 _ _ _ _ _ _ _ _ _ hf hP hD hS (lv_sub hl [4, 5, 3, 2, 1, 0] rfl))
      · have hf := hT hf c4
        refine lv_aload_n hx hb dX1_richest_21 rfl (lv_at hl 0 rfl) ?_
        refine va_get (D := D) (ci := 1) (v := .ref ((A 1) 0)) (C := RX1) (T := TX1) (N := 9) hx hb hts hinX hown hK hP 0 rfl rfl 0 (by decide) lk0 (fun _ h9 => h9) rfl dX1_richest_22 ?_
        refine va_getN (D := D) (ci := 0) (v := .int (xn 10 0)) (C := RX0) (T := TX0) (N := 13) hx hb hts hinH hown hK hP 1 rfl rfl 0 (by decide) (nW.f hN 0 rfl) (fun _ h9 => h9) rfl dX1_richest_25 ?_
        refine lv_goto (tgt := 38) hx hb dX1_richest_28 (by decide) ?_
        refine lv_istore_n (lv' := [(2, .int (xn 10 0)), (0, .ref ((A 0) 0)), (1, .int j1)]) hx hb dX1_richest_38 rfl hl (by decide) rfl (fun ls hl => ?_)
        refine lv_bipush (v := (-9 : Int32)) hx hb dX1_richest_39 (by decide) ?_
        refine lv_istore_n (lv' := [(3, .int (-9 : Int32)), (2, .int (xn 10 0)), (0, .ref ((A 0) 0)), (1, .int j1)]) hx hb dX1_richest_41 rfl hl (by decide) rfl (fun ls hl => ?_)
        refine lv_iconst (v := (-1 : Int32)) hx hb dX1_richest_42 (by decide) ?_
        refine lv_istore (lv' := [(4, .int (-1 : Int32)), (3, .int (-9 : Int32)), (2, .int (xn 10 0)), (0, .ref ((A 0) 0)), (1, .int j1)]) hx hb dX1_richest_43 hl (by decide) rfl (fun ls hl => ?_)
        refine lv_iconst (v := (0 : Int32)) hx hb dX1_richest_45 (by decide) ?_
        refine lv_istore (lv' := [(5, .int (0 : Int32)), (4, .int (-1 : Int32)), (3, .int (-9 : Int32)), (2, .int (xn 10 0)), (0, .ref ((A 0) 0)), (1, .int j1)]) hx hb dX1_richest_46 hl (by decide) rfl (fun ls hl => ?_)
        obtain ⟨K83, hK83, hf⟩ := jnS hf
        have J83 : ∀ (j3_83 : Int32) (xx_83 : HS) (H : Heap) (locs : List Loc) (ls : Array Slot), K83 j3_83 xx_83 = some out → va_P D vwCl (wX A cI xx_83 xn xm xk) H → va_D G (wX A cI xx_83 xn xm xk) → va_S G s.heap H locs → lv_has ls 7 [(3, .int j3_83)] → WW H locs (F0 m 83 ls []) := by
          intro j3_83 xx_83 H locs ls hf hP hD hS hl
          subst hK83
          refine (hWW _ _ _).mpr ?_
          refine lv_iload_n hx hb dX1_richest_83 rfl (lv_at hl 0 rfl) ?_
          obtain rfl := Option.some.inj hf
          exact W.iret (v := j3_83) hx hb hr (fun t ht hW => ⟨⟨j3_83, (), rfl, rfl, hPt ht hP⟩, hS.F ht⟩) hS.2.2 dX1_richest_84
        have P48 : ∀ (n' : Nat) (j2_48 : Int32) (j3_48 : Int32) (j4_48 : Int32) (j5_48 : Int32) (xx_48 : HS) (H : Heap) (locs : List Loc) (ls : Array Slot), L_X1_richest_48 j1 xn xm xk K83 n' j2_48 j3_48 j4_48 j5_48 xx_48 = some out → va_P D vwCl (wX A cI xx_48 xn xm xk) H → va_D G (wX A cI xx_48 xn xm xk) → va_S G s.heap H locs → lv_has ls 7 [(0, .ref ((A 0) 0)), (1, .int j1), (2, .int j2_48), (3, .int j3_48), (4, .int j4_48), (5, .int j5_48)] → WW H locs (F0 m 48 ls []) := by
          intro n'
          induction n' with
          | zero => intro j2_48 j3_48 j4_48 j5_48 xx_48 H locs ls hf; exact absurd (show (none : Option (Int32 × HS)) = some out from hf) (fun q => by cases q)
          | succ n' ih =>
            intro j2_48 j3_48 j4_48 j5_48 xx_48 H locs ls hf hP hD hS hl
            rw [L_X1_richest_48] at hf
            refine (hWW _ _ _).mpr ?_
            refine lv_iload hx hb dX1_richest_48 (lv_at hl 5 rfl) ?_
            refine lv_iload_n hx hb dX1_richest_50 rfl (lv_at hl 2 rfl) ?_
            refine lv_icmp_ge (tgt := 83) hx hb dX1_richest_51 (by decide) (fun c7 => ?_) (fun c7 => ?_)
            · have hf := hT hf c7
              exact (hWW _ _ _).mp (J83 _ _ _ _ _ hf hP hD hS (lv_sub hl [3] rfl))
            · have hf := hF hf c7
              refine lv_aload_n hx hb dX1_richest_54 rfl (lv_at hl 0 rfl) ?_
              refine lv_iload hx hb dX1_richest_55 (lv_at hl 5 rfl) ?_
              refine lv_iload_n hx hb dX1_richest_57 rfl (lv_at hl 1 rfl) ?_
              refine qV_i (As := [.int j5_48, .int j1]) (rest := []) ⟨hx, hb, hml, hown, hts⟩ hK hN hA hP hD hS (c_X1_riches l D cI A j5_48 j1 xx_48 xn xm xk (f_X1_riches j5_48 j1 xx_48 xn xm xk) rfl) (cwV 2 hts gX1_richest_X1_riches rfl rfl rfl hd_X1_riches ⟨Nat.le_of_ble_eq_true rfl, Nat.le_of_ble_eq_true rfl⟩) (va_recv hK hP (ci := 1) (q0 := 0) rfl rfl) (bq_X1_X1_xnmk A cI xx_48 xn xm xk) rfl hl.1 rfl (Nat.le_of_ble_eq_true rfl) dX1_richest_58 ⟨Nat.le_of_ble_eq_true rfl, Nat.le_of_ble_eq_true rfl⟩ (fun H locs hP hD hS => ?_)
              refine lv_istore (lv' := [(6, .int (f_X1_riches j5_48 j1 xx_48 xn xm xk)), (0, .ref ((A 0) 0)), (1, .int j1), (2, .int j2_48), (3, .int j3_48), (4, .int j4_48), (5, .int j5_48)]) hx hb dX1_richest_61 hl (by decide) rfl (fun ls hl => ?_)
              refine lv_iload hx hb dX1_richest_63 (lv_at hl 0 rfl) ?_
              refine lv_iload hx hb dX1_richest_65 (lv_at hl 5 rfl) ?_
              refine lv_icmp_le (tgt := 77) hx hb dX1_richest_67 (by decide) (fun c8 => ?_) (fun c8 => ?_)
              · have hf := hT hf c8
                refine lv_iinc (v := (j5_48 + (1 : Int32))) (lv' := [(5, .int (j5_48 + (1 : Int32))), (6, .int (f_X1_riches j5_48 j1 xx_48 xn xm xk)), (0, .ref ((A 0) 0)), (1, .int j1), (2, .int j2_48), (3, .int j3_48), (4, .int j4_48)]) hx hb dX1_richest_77 hl (k := 6) rfl rfl (by decide) rfl (fun ls hl => ?_)
                refine lv_goto (tgt := 48) hx hb dX1_richest_80 (by decide) ?_
                exact (hWW _ _ _).mp (ih _ _ _ _ _ _ _ _ hf hP hD hS (lv_sub hl [2, 3, 4, 5, 6, 0] rfl))
              · have hf := hF hf c8
                refine lv_iload hx hb dX1_richest_70 (lv_at hl 0 rfl) ?_
                refine lv_istore (lv' := [(4, .int (f_X1_riches j5_48 j1 xx_48 xn xm xk)), (6, .int (f_X1_riches j5_48 j1 xx_48 xn xm xk)), (0, .ref ((A 0) 0)), (1, .int j1), (2, .int j2_48), (3, .int j3_48), (5, .int j5_48)]) hx hb dX1_richest_72 hl (by decide) rfl (fun ls hl => ?_)
                refine lv_iload hx hb dX1_richest_74 (lv_at hl 6 rfl) ?_
                refine lv_istore_n (lv' := [(3, .int j5_48), (4, .int (f_X1_riches j5_48 j1 xx_48 xn xm xk)), (6, .int (f_X1_riches j5_48 j1 xx_48 xn xm xk)), (0, .ref ((A 0) 0)), (1, .int j1), (2, .int j2_48), (5, .int j5_48)]) hx hb dX1_richest_76 rfl hl (by decide) rfl (fun ls hl => ?_)
                refine lv_iinc (v := (j5_48 + (1 : Int32))) (lv' := [(5, .int (j5_48 + (1 : Int32))), (3, .int j5_48), (4, .int (f_X1_riches j5_48 j1 xx_48 xn xm xk)), (6, .int (f_X1_riches j5_48 j1 xx_48 xn xm xk)), (0, .ref ((A 0) 0)), (1, .int j1), (2, .int j2_48)]) hx hb dX1_richest_77 hl (k := 6) rfl rfl (by decide) rfl (fun ls hl => ?_)
                refine lv_goto (tgt := 48) hx hb dX1_richest_80 (by decide) ?_
                exact (hWW _ _ _).mp (ih _ _ _ _ _ _ _ _ hf hP hD hS (lv_sub hl [4, 5, 6, 1, 2, 0] rfl))
        exact (hWW _ _ _).mp (P48 _ _ _ _ _ _ _ _ _ hf hP hD hS (lv_sub hl [4, 5, 3, 2, 1, 0] rfl))
    · have hf := hF hf c3
      refine lv_aload_n hx hb dX1_richest_9 rfl (lv_at hl 0 rfl) ?_
      refine lv_bipush (v := (-2 : Int32)) hx hb dX1_richest_10 (by decide) ?_
      obtain ⟨v9, hev9, hf⟩ := bS hf
      refine qV_i (ws' := (wX A cI v9.2 xn xm xk)) (As := [.int (-2 : Int32)]) (rest := []) ⟨hx, hb, hml, hown, hts⟩ hK hN hA hP hD hS (c_X1_refuse l D cI A (-2 : Int32) xx xn xm xk v9 hev9) (cwV 1 hts gX1_richest_X1_refuse rfl rfl rfl hd_X1_refuse ⟨Nat.le_of_ble_eq_true rfl, Nat.le_of_ble_eq_true rfl⟩) (va_recv hK hP (ci := 1) (q0 := 0) rfl rfl) (bp_X1_X1_xnmk_x A cI xx xn xm xk v9.2) rfl hl.1 rfl (Nat.le_of_ble_eq_true rfl) dX1_richest_12 ⟨Nat.le_of_ble_eq_true rfl, Nat.le_of_ble_eq_true rfl⟩ (fun H locs hP hD hS => ?_)
      have hP : va_P D vwCl (wX A cI v9.2 xn xm xk) H := hP
      obtain rfl := Option.some.inj hf
      exact W.iret (v := v9.1) hx hb hr (fun t ht hW => ⟨⟨v9.1, (), rfl, rfl, hPt ht hP⟩, hS.F ht⟩) hS.2.2 dX1_richest_15
set_option maxHeartbeats 4000000 in
set_option maxRecDepth 100000 in
theorem c_X1_owned (l : Launch) (D : va_G) (cI : ClassId) (A : Nat → Nat → Nat) (j1 : Int32) (xx : HS) (xn : HS) (xm : HS) (xk : HS) (out : Int32 × HS) (hf : f_X1_owned j1 xx xn xm xk = some out) : uI l D cI yX1_owned wsX1_owned ({ frames := 3, cells := 0, slots := 0, locals := 64 } : Room) [.ref ((A 0) 0), .int j1] (wX A cI xx xn xm xk) (wX A cI out.2 xn xm xk) out.1 := by
  intro sz
  refine Met.ofW (cc := cX1_owned) (maxL := 2) (ret := (some .int)) (by decide) rfl ?_
  intro p e s m args below meth c s₁ Bd hml hv
  obtain ⟨rfl, hsz, hP, hK, hD0, hN⟩ := hv
  have hx := Bd.exec
  have hb := Bd.bytes
  have hr := Bd.returns
  have hts := atoms_spec (ws := wsX1_owned) Bd.pre
  have hown : s.vm.findClass RX1 = some m.cls := findClass_of_methodNamed Bd.named
  have hlocks := Bd.notSynchronized
  subst hsz
  have hD := hD0.self (sz := s.heap.size)
  generalize hAe : va_A (wX A cI xx xn xm xk) s.heap.size = G at hD ⊢
  have hA : ∀ q : Nat, s.heap.size ≤ q → G q := fun q h => by rw [← hAe]; exact Or.inr h
  have hS : va_S G s.heap s.heap [] := va_S.rf
  have hP : va_P D vwCl (wX A cI xx xn xm xk) s.heap := hP
  have hl := lv_entry ([.ref ((A 0) 0), .int j1]) (n := 2) (Nat.le_of_ble_eq_true rfl)
  rw [lg_entry_eq]
  generalize (lg_sl ([.ref ((A 0) 0), .int j1]) ++ List.replicate (2 - (lg_sl ([.ref ((A 0) 0), .int j1])).length) Slot.unset).toArray = ls at hl ⊢
  have hl : lv_has ls 2 [(0, .ref ((A 0) 0)), (1, .int j1)] := hl
  have hinX : ∀ w ∈ wsX10, w ∈ wsX1_owned := by decide +kernel
  have lk0 := hts (.fieldLink RX1 10 "LiesBoughtBack" "now" "LLiesBoughtBack$Hall;") (by decide +kernel)
  have lk1 := hts (.initialized RX0) (by decide +kernel)
  have lk2 := hts (.instanceMethod yX0_ownBits) (by decide +kernel)
  have lk3 := hts (.selects RX0 yX0_ownBits yX0_ownBits) (by decide +kernel)
  have lk4 := hts (.instanceMethod yX0_allCardBits) (by decide +kernel)
  have lk5 := hts (.selects RX0 yX0_allCardBits yX0_allCardBits) (by decide +kernel)
  have lk6 := hts (.instanceMethod yX0_pileBits) (by decide +kernel)
  have lk7 := hts (.selects RX0 yX0_pileBits yX0_pileBits) (by decide +kernel)
  have lk8 := hts (.instanceMethod yX0_cleanBits) (by decide +kernel)
  have lk9 := hts (.selects RX0 yX0_cleanBits yX0_cleanBits) (by decide +kernel)
  have lk10 := hts (.instanceMethod yX0_allPurses) (by decide +kernel)
  have lk11 := hts (.selects RX0 yX0_allPurses yX0_allPurses) (by decide +kernel)
  refine W_in ?_
  intro WW hWW
  refine (hWW _ _ _).mpr ?_
  unfold f_X1_owned at hf
  refine lv_iload_n hx hb dX1_owned_0 rfl (lv_at hl 1 rfl) ?_
  by_cases c1 : j1 = (0 : Int32)
  · have hf := hT hf c1
    refine sw_in (v := 0) (off := 31) (tgt := 32) hx hb dX1_owned_1 ((congrArg Int32.toInt c1).trans (by decide)) (by decide) (by decide) (by decide) (by decide) ?_
    refine lv_aload_n hx hb dX1_owned_32 rfl (lv_at hl 0 rfl) ?_
    refine va_get (D := D) (ci := 1) (v := .ref ((A 1) 0)) (C := RX1) (T := TX1) (N := 9) hx hb hts hinX hown hK hP 0 rfl rfl 0 (by decide) lk0 (fun _ h9 => h9) rfl dX1_owned_33 ?_
    obtain ⟨v2, hev2, hf⟩ := bS hf
    refine qVN_i (As := []) (rest := []) ⟨hx, hb, hml, hown, hts⟩ hK hN hA hP hD hS (c_X0_ownBits l D cI (A 1) xn v2 hev2) ⟨va_cnB 0 hts gX1_owned_X0_ownBits_n145 rfl rfl rfl (nW.m hN 24 rfl) lk1 hd_X0_ownBits.2 ⟨Nat.le_of_ble_eq_true rfl, Nat.le_of_ble_eq_true rfl⟩, lk2, lk3⟩ (va_recv hK hP (ci := 0) (q0 := 1) rfl rfl) (bq_X1_X0_n A cI xx xn xm xk) rfl hl.1 rfl (Nat.le_of_ble_eq_true rfl) dX1_owned_36 ⟨Nat.le_of_ble_eq_true rfl, Nat.le_of_ble_eq_true rfl⟩ (fun H locs hP hD hS => ?_)
    obtain rfl := Option.some.inj hf
    exact W.iret (v := v2) hx hb hr (fun t ht hW => ⟨⟨v2, (), rfl, rfl, hPt ht hP⟩, hS.F ht⟩) hS.2.2 dX1_owned_39
  have hf := hF hf c1
  by_cases c3 : j1 = (1 : Int32)
  · have hf := hT hf c3
    refine sw_in (v := 1) (off := 39) (tgt := 40) hx hb dX1_owned_1 ((congrArg Int32.toInt c3).trans (by decide)) (by decide) (by decide) (by decide) (by decide) ?_
    refine lv_aload_n hx hb dX1_owned_40 rfl (lv_at hl 0 rfl) ?_
    refine va_get (D := D) (ci := 1) (v := .ref ((A 1) 0)) (C := RX1) (T := TX1) (N := 9) hx hb hts hinX hown hK hP 0 rfl rfl 0 (by decide) lk0 (fun _ h9 => h9) rfl dX1_owned_41 ?_
    refine qVN_i (As := []) (rest := []) ⟨hx, hb, hml, hown, hts⟩ hK hN hA hP hD hS (c_X0_allCardBits l D cI (A 1) xn (f_X0_allCardBits xn) rfl) ⟨va_cnB 0 hts gX1_owned_X0_allCardBits_n148 rfl rfl rfl (nW.m hN 25 rfl) lk1 hd_X0_allCardBits.2 ⟨Nat.le_of_ble_eq_true rfl, Nat.le_of_ble_eq_true rfl⟩, lk4, lk5⟩ (va_recv hK hP (ci := 0) (q0 := 1) rfl rfl) (bq_X1_X0_n A cI xx xn xm xk) rfl hl.1 rfl (Nat.le_of_ble_eq_true rfl) dX1_owned_44 ⟨Nat.le_of_ble_eq_true rfl, Nat.le_of_ble_eq_true rfl⟩ (fun H locs hP hD hS => ?_)
    refine lv_aload_n hx hb dX1_owned_47 rfl (lv_at hl 0 rfl) ?_
    refine va_get (D := D) (ci := 1) (v := .ref ((A 1) 0)) (C := RX1) (T := TX1) (N := 9) hx hb hts hinX hown hK hP 0 rfl rfl 0 (by decide) lk0 (fun _ h9 => h9) rfl dX1_owned_48 ?_
    obtain ⟨v4, hev4, hf⟩ := bS hf
    refine qVN_i (As := []) (rest := [.int (f_X0_allCardBits xn)]) ⟨hx, hb, hml, hown, hts⟩ hK hN hA hP hD hS (c_X0_pileBits l D cI (A 1) xn v4 hev4) ⟨va_cnB 0 hts gX1_owned_X0_pileBits_n151 rfl rfl rfl (nW.m hN 26 rfl) lk1 hd_X0_pileBits.2 ⟨Nat.le_of_ble_eq_true rfl, Nat.le_of_ble_eq_true rfl⟩, lk6, lk7⟩ (va_recv hK hP (ci := 0) (q0 := 1) rfl rfl) (bq_X1_X0_n A cI xx xn xm xk) rfl hl.1 rfl (Nat.le_of_ble_eq_true rfl) dX1_owned_51 ⟨Nat.le_of_ble_eq_true rfl, Nat.le_of_ble_eq_true rfl⟩ (fun H locs hP hD hS => ?_)
    refine lv_iconst (v := (-1 : Int32)) hx hb dX1_owned_54 (by decide) ?_
    refine lv_ixor hx hb dX1_owned_55 ?_
    refine lv_iand hx hb dX1_owned_56 ?_
    refine lv_aload_n hx hb dX1_owned_57 rfl (lv_at hl 0 rfl) ?_
    refine va_get (D := D) (ci := 1) (v := .ref ((A 1) 0)) (C := RX1) (T := TX1) (N := 9) hx hb hts hinX hown hK hP 0 rfl rfl 0 (by decide) lk0 (fun _ h9 => h9) rfl dX1_owned_58 ?_
    obtain ⟨v5, hev5, hf⟩ := bS hf
    refine qVN_i (As := []) (rest := [.int ((f_X0_allCardBits xn) &&& (v4 ^^^ (-1 : Int32)))]) ⟨hx, hb, hml, hown, hts⟩ hK hN hA hP hD hS (c_X0_ownBits l D cI (A 1) xn v5 hev5) ⟨va_cnB 0 hts gX1_owned_X0_ownBits_n145 rfl rfl rfl (nW.m hN 24 rfl) lk1 hd_X0_ownBits.2 ⟨Nat.le_of_ble_eq_true rfl, Nat.le_of_ble_eq_true rfl⟩, lk2, lk3⟩ (va_recv hK hP (ci := 0) (q0 := 1) rfl rfl) (bq_X1_X0_n A cI xx xn xm xk) rfl hl.1 rfl (Nat.le_of_ble_eq_true rfl) dX1_owned_61 ⟨Nat.le_of_ble_eq_true rfl, Nat.le_of_ble_eq_true rfl⟩ (fun H locs hP hD hS => ?_)
    refine lv_iconst (v := (-1 : Int32)) hx hb dX1_owned_64 (by decide) ?_
    refine lv_ixor hx hb dX1_owned_65 ?_
    refine lv_iand hx hb dX1_owned_66 ?_
    obtain rfl := Option.some.inj hf
    exact W.iret (v := (((f_X0_allCardBits xn) &&& (v4 ^^^ (-1 : Int32))) &&& (v5 ^^^ (-1 : Int32)))) hx hb hr (fun t ht hW => ⟨⟨(((f_X0_allCardBits xn) &&& (v4 ^^^ (-1 : Int32))) &&& (v5 ^^^ (-1 : Int32))), (), rfl, rfl, hPt ht hP⟩, hS.F ht⟩) hS.2.2 dX1_owned_67
  have hf := hF hf c3
  by_cases c6 : j1 = (2 : Int32)
  · have hf := hT hf c6
    refine sw_in (v := 2) (off := 67) (tgt := 68) hx hb dX1_owned_1 ((congrArg Int32.toInt c6).trans (by decide)) (by decide) (by decide) (by decide) (by decide) ?_
    refine lv_aload_n hx hb dX1_owned_68 rfl (lv_at hl 0 rfl) ?_
    refine va_get (D := D) (ci := 1) (v := .ref ((A 1) 0)) (C := RX1) (T := TX1) (N := 9) hx hb hts hinX hown hK hP 0 rfl rfl 0 (by decide) lk0 (fun _ h9 => h9) rfl dX1_owned_69 ?_
    obtain ⟨v7, hev7, hf⟩ := bS hf
    refine qVN_i (As := []) (rest := []) ⟨hx, hb, hml, hown, hts⟩ hK hN hA hP hD hS (c_X0_cleanBits l D cI (A 1) xn v7 hev7) ⟨va_cnB 0 hts gX1_owned_X0_cleanBits_n154 rfl rfl rfl (nW.m hN 27 rfl) lk1 hd_X0_cleanBits.2 ⟨Nat.le_of_ble_eq_true rfl, Nat.le_of_ble_eq_true rfl⟩, lk8, lk9⟩ (va_recv hK hP (ci := 0) (q0 := 1) rfl rfl) (bq_X1_X0_n A cI xx xn xm xk) rfl hl.1 rfl (Nat.le_of_ble_eq_true rfl) dX1_owned_72 ⟨Nat.le_of_ble_eq_true rfl, Nat.le_of_ble_eq_true rfl⟩ (fun H locs hP hD hS => ?_)
    obtain rfl := Option.some.inj hf
    exact W.iret (v := v7) hx hb hr (fun t ht hW => ⟨⟨v7, (), rfl, rfl, hPt ht hP⟩, hS.F ht⟩) hS.2.2 dX1_owned_75
  have hf := hF hf c6
  by_cases c8 : j1 = (3 : Int32)
  · have hf := hT hf c8
    refine sw_in (v := 3) (off := 75) (tgt := 76) hx hb dX1_owned_1 ((congrArg Int32.toInt c8).trans (by decide)) (by decide) (by decide) (by decide) (by decide) ?_
    refine lv_aload_n hx hb dX1_owned_76 rfl (lv_at hl 0 rfl) ?_
    refine va_get (D := D) (ci := 1) (v := .ref ((A 1) 0)) (C := RX1) (T := TX1) (N := 9) hx hb hts hinX hown hK hP 0 rfl rfl 0 (by decide) lk0 (fun _ h9 => h9) rfl dX1_owned_77 ?_
    obtain ⟨v9, hev9, hf⟩ := bS hf
    refine qVN_i (As := []) (rest := []) ⟨hx, hb, hml, hown, hts⟩ hK hN hA hP hD hS (c_X0_allPurses l D cI (A 1) xn v9 hev9) ⟨va_cnB 0 hts gX1_owned_X0_allPurses_n157 rfl rfl rfl (nW.m hN 28 rfl) lk1 hd_X0_allPurses.2 ⟨Nat.le_of_ble_eq_true rfl, Nat.le_of_ble_eq_true rfl⟩, lk10, lk11⟩ (va_recv hK hP (ci := 0) (q0 := 1) rfl rfl) (bq_X1_X0_n A cI xx xn xm xk) rfl hl.1 rfl (Nat.le_of_ble_eq_true rfl) dX1_owned_80 ⟨Nat.le_of_ble_eq_true rfl, Nat.le_of_ble_eq_true rfl⟩ (fun H locs hP hD hS => ?_)
    obtain rfl := Option.some.inj hf
    exact W.iret (v := v9) hx hb hr (fun t ht hW => ⟨⟨v9, (), rfl, rfl, hPt ht hP⟩, hS.F ht⟩) hS.2.2 dX1_owned_83
  have hf := hF hf c8
  refine lv_tableOut (tgt := 84) hx hb dX1_owned_1 (by have z0 := lv_neT (a := 0) c1 (by decide); have z1 := lv_neT (a := 1) c3 (by decide); have z2 := lv_neT (a := 2) c6 (by decide); have z3 := lv_neT (a := 3) c8 (by decide); omega) (by decide) ?_
  refine lv_aload_n hx hb dX1_owned_84 rfl (lv_at hl 0 rfl) ?_
  refine lv_bipush (v := (-2 : Int32)) hx hb dX1_owned_85 (by decide) ?_
  obtain ⟨v10, hev10, hf⟩ := bS hf
  refine qV_i (ws' := (wX A cI v10.2 xn xm xk)) (As := [.int (-2 : Int32)]) (rest := []) ⟨hx, hb, hml, hown, hts⟩ hK hN hA hP hD hS (c_X1_refuse l D cI A (-2 : Int32) xx xn xm xk v10 hev10) (cwV 1 hts gX1_owned_X1_refuse rfl rfl rfl hd_X1_refuse ⟨Nat.le_of_ble_eq_true rfl, Nat.le_of_ble_eq_true rfl⟩) (va_recv hK hP (ci := 1) (q0 := 0) rfl rfl) (bp_X1_X1_xnmk_x A cI xx xn xm xk v10.2) rfl hl.1 rfl (Nat.le_of_ble_eq_true rfl) dX1_owned_87 ⟨Nat.le_of_ble_eq_true rfl, Nat.le_of_ble_eq_true rfl⟩ (fun H locs hP hD hS => ?_)
  have hP : va_P D vwCl (wX A cI v10.2 xn xm xk) H := hP
  obtain rfl := Option.some.inj hf
  exact W.iret (v := v10.1) hx hb hr (fun t ht hW => ⟨⟨v10.1, (), rfl, rfl, hPt ht hP⟩, hS.F ht⟩) hS.2.2 dX1_owned_90
set_option maxHeartbeats 4000000 in
set_option maxRecDepth 100000 in
theorem c_X1_refuseFar (l : Launch) (D : va_G) (cI : ClassId) (A : Nat → Nat → Nat) (j1 : Int32) (xx : HS) (xn : HS) (xm : HS) (xk : HS) (out : Int64 × HS) (hf : f_X1_refuseFar j1 xx xn xm xk = some out) : uL l D cI yX1_refuseFar wsX1_refuseFar ({ frames := 2, cells := 0, slots := 0, locals := 43 } : Room) [.ref ((A 0) 0), .int j1] (wX A cI xx xn xm xk) (wX A cI out.2 xn xm xk) out.1 := by
  intro sz
  refine Met.ofW (cc := cX1_refuseFar) (maxL := 2) (ret := (some .long)) (by decide) rfl ?_
  intro p e s m args below meth c s₁ Bd hml hv
  obtain ⟨rfl, hsz, hP, hK, hD0, hN⟩ := hv
  have hx := Bd.exec
  have hb := Bd.bytes
  have hr := Bd.returns
  have hts := atoms_spec (ws := wsX1_refuseFar) Bd.pre
  have hown : s.vm.findClass RX1 = some m.cls := findClass_of_methodNamed Bd.named
  have hlocks := Bd.notSynchronized
  subst hsz
  have hD := hD0.self (sz := s.heap.size)
  generalize hAe : va_A (wX A cI xx xn xm xk) s.heap.size = G at hD ⊢
  have hA : ∀ q : Nat, s.heap.size ≤ q → G q := fun q h => by rw [← hAe]; exact Or.inr h
  have hS : va_S G s.heap s.heap [] := va_S.rf
  have hP : va_P D vwCl (wX A cI xx xn xm xk) s.heap := hP
  have hl := lv_entry ([.ref ((A 0) 0), .int j1]) (n := 2) (Nat.le_of_ble_eq_true rfl)
  rw [lg_entry_eq]
  generalize (lg_sl ([.ref ((A 0) 0), .int j1]) ++ List.replicate (2 - (lg_sl ([.ref ((A 0) 0), .int j1])).length) Slot.unset).toArray = ls at hl ⊢
  have hl : lv_has ls 2 [(0, .ref ((A 0) 0)), (1, .int j1)] := hl
  have lk0 := hts (.constantLong RX1 215 (4000000000000000000)) (by decide +kernel)
  refine W_in ?_
  intro WW hWW
  refine (hWW _ _ _).mpr ?_
  unfold f_X1_refuseFar at hf
  refine lv_ldc2 (v := (4000000000000000000 : Int64)) hx hb hown lk0 dX1_refuseFar_0 ?_
  refine lv_aload_n hx hb dX1_refuseFar_3 rfl (lv_at hl 0 rfl) ?_
  refine lv_iload_n hx hb dX1_refuseFar_4 rfl (lv_at hl 1 rfl) ?_
  obtain ⟨v1, hev1, hf⟩ := bS hf
  refine qV_i (ws' := (wX A cI v1.2 xn xm xk)) (As := [.int j1]) (rest := [.long (4000000000000000000 : Int64)]) ⟨hx, hb, hml, hown, hts⟩ hK hN hA hP hD hS (c_X1_refuse l D cI A j1 xx xn xm xk v1 hev1) (cwV 1 hts gX1_refuseFar_X1_refuse rfl rfl rfl hd_X1_refuse ⟨Nat.le_of_ble_eq_true rfl, Nat.le_of_ble_eq_true rfl⟩) (va_recv hK hP (ci := 1) (q0 := 0) rfl rfl) (bp_X1_X1_xnmk_x A cI xx xn xm xk v1.2) rfl hl.1 rfl (Nat.le_of_ble_eq_true rfl) dX1_refuseFar_5 ⟨Nat.le_of_ble_eq_true rfl, Nat.le_of_ble_eq_true rfl⟩ (fun H locs hP hD hS => ?_)
  have hP : va_P D vwCl (wX A cI v1.2 xn xm xk) H := hP
  refine lv_i2l hx hb dX1_refuseFar_8 rfl ?_
  refine lv_lsub hx hb dX1_refuseFar_9 ?_
  obtain rfl := Option.some.inj hf
  exact W.lret (v := ((4000000000000000000 : Int64) - (v1.1).toInt64)) hx hb hr (fun t ht hW => ⟨⟨((4000000000000000000 : Int64) - (v1.1).toInt64), (), rfl, rfl, hPt ht hP⟩, hS.F ht⟩) hS.2.2 dX1_refuseFar_10
set_option maxHeartbeats 4000000 in
set_option maxRecDepth 100000 in
theorem c_X1_inLeastTerms (l : Launch) (D : va_G) (cI : ClassId) (j0 : Int64) (j2 : Int64) (j4 : Int32) (out : Int64) (hf : f_X1_inLeastTerms j0 j2 j4 = some out) : uL l D cI yX1_inLeastTerms wsX1_inLeastTerms ({ frames := 0, cells := 0, slots := 0, locals := 0 } : Room) [.long j0, .long j2, .int j4] [] [] out := by
  intro sz
  refine Met.ofW (cc := cX1_inLeastTerms) (maxL := 12) (ret := (some .long)) (by decide) rfl ?_
  intro p e s m args below meth c s₁ Bd hml hv
  obtain ⟨rfl, hsz, hP, hK, hD0, hN⟩ := hv
  have hx := Bd.exec
  have hb := Bd.bytes
  have hr := Bd.returns
  have hts := atoms_spec (ws := wsX1_inLeastTerms) Bd.pre
  have hown : s.vm.findClass RX1 = some m.cls := findClass_of_methodNamed Bd.named
  have hlocks := Bd.notSynchronized
  subst hsz
  have hD := hD0.self (sz := s.heap.size)
  generalize hAe : va_A [] s.heap.size = G at hD ⊢
  have hA : ∀ q : Nat, s.heap.size ≤ q → G q := fun q h => by rw [← hAe]; exact Or.inr h
  have hS : va_S G s.heap s.heap [] := va_S.rf
  have hP : va_P D vwCl [] s.heap := hP
  have hl := lv_entry ([.long j0, .long j2, .int j4]) (n := 12) (Nat.le_of_ble_eq_true rfl)
  rw [lg_entry_eq]
  generalize (lg_sl ([.long j0, .long j2, .int j4]) ++ List.replicate (12 - (lg_sl ([.long j0, .long j2, .int j4])).length) Slot.unset).toArray = ls at hl ⊢
  have hl : lv_has ls 12 [(0, .long j0), (2, .long j2), (4, .int j4)] := hl
  refine W_in ?_
  intro WW hWW
  refine (hWW _ _ _).mpr ?_
  unfold f_X1_inLeastTerms at hf
  refine lv_lload_n hx hb dX1_inLeastTerms_0 rfl (lv_at hl 0 rfl) ?_
  refine lv_lconst (v := (0 : Int64)) hx hb dX1_inLeastTerms_1 (by decide) ?_
  refine W.lcmp hx hb dX1_inLeastTerms_2 ?_
  refine lv_if_le (tgt := 12) hx hb dX1_inLeastTerms_3 (by decide) (fun c1 => ?_) (fun c1 => ?_)
  · have hf := hT hf c1
    refine lv_iload hx hb dX1_inLeastTerms_12 (lv_at hl 2 rfl) ?_
    refine lv_i2l hx hb dX1_inLeastTerms_14 rfl ?_
    obtain rfl := Option.some.inj hf
    exact W.lret (v := (j4).toInt64) hx hb hr (fun t ht hW => ⟨⟨(j4).toInt64, (), rfl, rfl, hPt ht hP⟩, hS.F ht⟩) hS.2.2 dX1_inLeastTerms_15
  · have hf := hF hf c1
    refine lv_lload_n hx hb dX1_inLeastTerms_6 rfl (lv_at hl 1 rfl) ?_
    refine lv_lconst (v := (0 : Int64)) hx hb dX1_inLeastTerms_7 (by decide) ?_
    refine W.lcmp hx hb dX1_inLeastTerms_8 ?_
    refine lv_if_gt (tgt := 16) hx hb dX1_inLeastTerms_9 (by decide) (fun c2 => ?_) (fun c2 => ?_)
    · have hf := hT hf c2
      refine lv_lload_n hx hb dX1_inLeastTerms_16 rfl (lv_at hl 0 rfl) ?_
      refine lv_lstore (lv' := [(5, .long j0), (0, .long j0), (2, .long j2), (4, .int j4)]) hx hb dX1_inLeastTerms_17 hl (by decide) rfl (fun ls hl => ?_)
      refine lv_lload_n hx hb dX1_inLeastTerms_19 rfl (lv_at hl 2 rfl) ?_
      refine lv_lstore (lv' := [(7, .long j2), (5, .long j0), (0, .long j0), (2, .long j2), (4, .int j4)]) hx hb dX1_inLeastTerms_20 hl (by decide) rfl (fun ls hl => ?_)
      refine lv_iconst (v := (0 : Int32)) hx hb dX1_inLeastTerms_22 (by decide) ?_
      refine lv_istore (lv' := [(9, .int (0 : Int32)), (7, .long j2), (5, .long j0), (0, .long j0), (2, .long j2), (4, .int j4)]) hx hb dX1_inLeastTerms_23 hl (by decide) rfl (fun ls hl => ?_)
      obtain ⟨K61, hK61, hf⟩ := jnS hf
      have J61 : ∀ (j5_61 : Int64) (H : Heap) (locs : List Loc) (ls : Array Slot), K61 j5_61 = some out → va_P D vwCl [] H → va_D G [] → va_S G s.heap H locs → lv_has ls 12 [(0, .long j0), (2, .long j2), (4, .int j4), (5, .long j5_61)] → WW H locs (F0 m 61 ls []) := by
        intro j5_61 H locs ls hf hP hD hS hl
        subst hK61
        refine (hWW _ _ _).mpr ?_
        refine lv_lload hx hb dX1_inLeastTerms_61 (lv_at hl 3 rfl) ?_
        refine lv_lconst (v := (0 : Int64)) hx hb dX1_inLeastTerms_63 (by decide) ?_
        refine W.lcmp hx hb dX1_inLeastTerms_64 ?_
        refine lv_if_gt (tgt := 72) hx hb dX1_inLeastTerms_65 (by decide) (fun c3 => ?_) (fun c3 => ?_)
        · have hf := hT hf c3
          refine lv_iload hx hb dX1_inLeastTerms_72 (lv_at hl 2 rfl) ?_
          refine lv_if_ne (tgt := 84) hx hb dX1_inLeastTerms_74 (by decide) (fun c4 => ?_) (fun c4 => ?_)
          · have hf := hF hf c4
            refine lv_lload_n hx hb dX1_inLeastTerms_84 rfl (lv_at hl 1 rfl) ?_
            refine lv_lload hx hb dX1_inLeastTerms_85 (lv_at hl 3 rfl) ?_
            obtain ⟨c5, hf⟩ := nzS hf
            refine lv_ldiv hx hb dX1_inLeastTerms_87 c5 ?_
            obtain rfl := Option.some.inj hf
            exact W.lret (v := (j2 / j5_61)) hx hb hr (fun t ht hW => ⟨⟨(j2 / j5_61), (), rfl, rfl, hPt ht hP⟩, hS.F ht⟩) hS.2.2 dX1_inLeastTerms_88
          · have hf := hT hf c4
            refine lv_lload_n hx hb dX1_inLeastTerms_77 rfl (lv_at hl 0 rfl) ?_
            refine lv_lload hx hb dX1_inLeastTerms_78 (lv_at hl 3 rfl) ?_
            obtain ⟨c6, hf⟩ := nzS hf
            refine lv_ldiv hx hb dX1_inLeastTerms_80 c6 ?_
            refine lv_goto (tgt := 88) hx hb dX1_inLeastTerms_81 (by decide) ?_
            obtain rfl := Option.some.inj hf
            exact W.lret (v := (j0 / j5_61)) hx hb hr (fun t ht hW => ⟨⟨(j0 / j5_61), (), rfl, rfl, hPt ht hP⟩, hS.F ht⟩) hS.2.2 dX1_inLeastTerms_88
        · have hf := hF hf c3
          refine lv_iload hx hb dX1_inLeastTerms_68 (lv_at hl 2 rfl) ?_
          refine lv_i2l hx hb dX1_inLeastTerms_70 rfl ?_
          obtain rfl := Option.some.inj hf
          exact W.lret (v := (j4).toInt64) hx hb hr (fun t ht hW => ⟨⟨(j4).toInt64, (), rfl, rfl, hPt ht hP⟩, hS.F ht⟩) hS.2.2 dX1_inLeastTerms_71
      have P25 : ∀ (n' : Nat) (j5_25 : Int64) (j7_25 : Int64) (j9_25 : Int32) (H : Heap) (locs : List Loc) (ls : Array Slot), L_X1_inLeastTerms_25 j0 j2 j4 K61 n' j5_25 j7_25 j9_25 = some out → va_P D vwCl [] H → va_D G [] → va_S G s.heap H locs → lv_has ls 12 [(0, .long j0), (2, .long j2), (4, .int j4), (5, .long j5_25), (7, .long j7_25), (9, .int j9_25)] → WW H locs (F0 m 25 ls []) := by
        intro n'
        induction n' with
        | zero => intro j5_25 j7_25 j9_25 H locs ls hf; exact absurd (show (none : Option (Int64)) = some out from hf) (fun q => by cases q)
        | succ n' ih =>
          intro j5_25 j7_25 j9_25 H locs ls hf hP hD hS hl
          rw [L_X1_inLeastTerms_25] at hf
          refine (hWW _ _ _).mpr ?_
          refine lv_iload hx hb dX1_inLeastTerms_25 (lv_at hl 5 rfl) ?_
          refine lv_sipush (v := (128 : Int32)) hx hb dX1_inLeastTerms_27 (by decide) ?_
          refine lv_icmp_ge (tgt := 61) hx hb dX1_inLeastTerms_30 (by decide) (fun c7 => ?_) (fun c7 => ?_)
          · have hf := hT hf c7
            exact (hWW _ _ _).mp (J61 _ _ _ _ hf hP hD hS (lv_sub hl [0, 1, 2, 3] rfl))
          · have hf := hF hf c7
            refine lv_lload hx hb dX1_inLeastTerms_33 (lv_at hl 4 rfl) ?_
            refine lv_lconst (v := (0 : Int64)) hx hb dX1_inLeastTerms_35 (by decide) ?_
            refine W.lcmp hx hb dX1_inLeastTerms_36 ?_
            refine lv_if_eq (tgt := 61) hx hb dX1_inLeastTerms_37 (by decide) (fun c8 => ?_) (fun c8 => ?_)
            · have hf := hT hf c8
              exact (hWW _ _ _).mp (J61 _ _ _ _ hf hP hD hS (lv_sub hl [0, 1, 2, 3] rfl))
            · have hf := hF hf c8
              refine lv_lload hx hb dX1_inLeastTerms_40 (lv_at hl 3 rfl) ?_
              refine lv_lload hx hb dX1_inLeastTerms_42 (lv_at hl 4 rfl) ?_
              obtain ⟨c9, hf⟩ := nzS hf
              refine lv_lrem hx hb dX1_inLeastTerms_44 c9 ?_
              refine lv_lstore (lv' := [(10, .long (j5_25 - j5_25 / j7_25 * j7_25)), (0, .long j0), (2, .long j2), (4, .int j4), (5, .long j5_25), (7, .long j7_25), (9, .int j9_25)]) hx hb dX1_inLeastTerms_45 hl (by decide) rfl (fun ls hl => ?_)
              refine lv_lload hx hb dX1_inLeastTerms_47 (lv_at hl 5 rfl) ?_
              refine lv_lstore (lv' := [(5, .long j7_25), (10, .long (j5_25 - j5_25 / j7_25 * j7_25)), (0, .long j0), (2, .long j2), (4, .int j4), (7, .long j7_25), (9, .int j9_25)]) hx hb dX1_inLeastTerms_49 hl (by decide) rfl (fun ls hl => ?_)
              refine lv_lload hx hb dX1_inLeastTerms_51 (lv_at hl 1 rfl) ?_
              refine lv_lstore (lv' := [(7, .long (j5_25 - j5_25 / j7_25 * j7_25)), (5, .long j7_25), (10, .long (j5_25 - j5_25 / j7_25 * j7_25)), (0, .long j0), (2, .long j2), (4, .int j4), (9, .int j9_25)]) hx hb dX1_inLeastTerms_53 hl (by decide) rfl (fun ls hl => ?_)
              refine lv_iinc (v := (j9_25 + (1 : Int32))) (lv' := [(9, .int (j9_25 + (1 : Int32))), (7, .long (j5_25 - j5_25 / j7_25 * j7_25)), (5, .long j7_25), (10, .long (j5_25 - j5_25 / j7_25 * j7_25)), (0, .long j0), (2, .long j2), (4, .int j4)]) hx hb dX1_inLeastTerms_55 hl (k := 6) rfl rfl (by decide) rfl (fun ls hl => ?_)
              refine lv_goto (tgt := 25) hx hb dX1_inLeastTerms_58 (by decide) ?_
              exact (hWW _ _ _).mp (ih _ _ _ _ _ _ hf hP hD hS (lv_sub hl [4, 5, 6, 2, 1, 0] rfl))
      exact (hWW _ _ _).mp (P25 _ _ _ _ _ _ _ hf hP hD hS (lv_sub hl [3, 4, 5, 2, 1, 0] rfl))
    · have hf := hF hf c2
      refine lv_iload hx hb dX1_inLeastTerms_12 (lv_at hl 2 rfl) ?_
      refine lv_i2l hx hb dX1_inLeastTerms_14 rfl ?_
      obtain rfl := Option.some.inj hf
      exact W.lret (v := (j4).toInt64) hx hb hr (fun t ht hW => ⟨⟨(j4).toInt64, (), rfl, rfl, hPt ht hP⟩, hS.F ht⟩) hS.2.2 dX1_inLeastTerms_15
