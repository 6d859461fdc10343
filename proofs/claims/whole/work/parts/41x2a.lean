theorem hd_X2_allBeliefIn : yX2_allBeliefIn.cls = RX2 ∧ yX2_allBeliefIn.cls ≠ "java/lang/invoke/MethodHandle" ∧ yX2_allBeliefIn.cls ≠ "java/lang/invoke/VarHandle" ∧ (parseMethodDescriptor yX2_allBeliefIn.desc).map (fun d => d.parameters.length) = some 1 := by decide +kernel
theorem hd_X2_allOf : yX2_allOf.cls = RX2 ∧ yX2_allOf.cls ≠ "java/lang/invoke/MethodHandle" ∧ yX2_allOf.cls ≠ "java/lang/invoke/VarHandle" ∧ (parseMethodDescriptor yX2_allOf.desc).map (fun d => d.parameters.length) = some 2 := by decide +kernel
theorem hd_X2_areTold : yX2_areTold.cls = RX2 ∧ yX2_areTold.cls ≠ "java/lang/invoke/MethodHandle" ∧ yX2_areTold.cls ≠ "java/lang/invoke/VarHandle" ∧ (parseMethodDescriptor yX2_areTold.desc).map (fun d => d.parameters.length) = some 2 := by decide +kernel
theorem hd_X2_bidNow : yX2_bidNow.cls = RX2 ∧ yX2_bidNow.cls ≠ "java/lang/invoke/MethodHandle" ∧ yX2_bidNow.cls ≠ "java/lang/invoke/VarHandle" ∧ (parseMethodDescriptor yX2_bidNow.desc).map (fun d => d.parameters.length) = some 2 := by decide +kernel
theorem hd_X2_bidOf : yX2_bidOf.cls = RX2 ∧ yX2_bidOf.cls ≠ "java/lang/invoke/MethodHandle" ∧ yX2_bidOf.cls ≠ "java/lang/invoke/VarHandle" ∧ (parseMethodDescriptor yX2_bidOf.desc).map (fun d => d.parameters.length) = some 2 := by decide +kernel
theorem hd_X2_bidderKind : yX2_bidderKind.cls = RX2 ∧ yX2_bidderKind.cls ≠ "java/lang/invoke/MethodHandle" ∧ yX2_bidderKind.cls ≠ "java/lang/invoke/VarHandle" ∧ (parseMethodDescriptor yX2_bidderKind.desc).map (fun d => d.parameters.length) = some 1 := by decide +kernel
theorem hd_X2_bits : yX2_bits.cls = RX2 ∧ yX2_bits.cls ≠ "java/lang/invoke/MethodHandle" ∧ yX2_bits.cls ≠ "java/lang/invoke/VarHandle" ∧ (parseMethodDescriptor yX2_bits.desc).map (fun d => d.parameters.length) = some 1 := by decide +kernel
theorem hd_X2_bitsFor : yX2_bitsFor.cls = RX2 ∧ yX2_bitsFor.cls ≠ "java/lang/invoke/MethodHandle" ∧ yX2_bitsFor.cls ≠ "java/lang/invoke/VarHandle" ∧ (parseMethodDescriptor yX2_bitsFor.desc).map (fun d => d.parameters.length) = some 2 := by decide +kernel
theorem hd_X2_bound : yX2_bound.cls = RX2 ∧ yX2_bound.cls ≠ "java/lang/invoke/MethodHandle" ∧ yX2_bound.cls ≠ "java/lang/invoke/VarHandle" ∧ (parseMethodDescriptor yX2_bound.desc).map (fun d => d.parameters.length) = some 3 := by decide +kernel
theorem hd_X2_cardKind : yX2_cardKind.cls = RX2 ∧ yX2_cardKind.cls ≠ "java/lang/invoke/MethodHandle" ∧ yX2_cardKind.cls ≠ "java/lang/invoke/VarHandle" ∧ (parseMethodDescriptor yX2_cardKind.desc).map (fun d => d.parameters.length) = some 1 := by decide +kernel
theorem hd_X2_changes : yX2_changes.cls = RX2 ∧ yX2_changes.cls ≠ "java/lang/invoke/MethodHandle" ∧ yX2_changes.cls ≠ "java/lang/invoke/VarHandle" ∧ (parseMethodDescriptor yX2_changes.desc).map (fun d => d.parameters.length) = some 0 := by decide +kernel
theorem hd_X2_changesBack : yX2_changesBack.cls = RX2 ∧ yX2_changesBack.cls ≠ "java/lang/invoke/MethodHandle" ∧ yX2_changesBack.cls ≠ "java/lang/invoke/VarHandle" ∧ (parseMethodDescriptor yX2_changesBack.desc).map (fun d => d.parameters.length) = some 0 := by decide +kernel
theorem hd_X2_changesPlaces : yX2_changesPlaces.cls = RX2 ∧ yX2_changesPlaces.cls ≠ "java/lang/invoke/MethodHandle" ∧ yX2_changesPlaces.cls ≠ "java/lang/invoke/VarHandle" ∧ (parseMethodDescriptor yX2_changesPlaces.desc).map (fun d => d.parameters.length) = some 2 := by decide +kernel
theorem hd_X2_cleanOnes : yX2_cleanOnes.cls = RX2 ∧ yX2_cleanOnes.cls ≠ "java/lang/invoke/MethodHandle" ∧ yX2_cleanOnes.cls ≠ "java/lang/invoke/VarHandle" ∧ (parseMethodDescriptor yX2_cleanOnes.desc).map (fun d => d.parameters.length) = some 0 := by decide +kernel
theorem hd_X2_comes : yX2_comes.cls = RX2 ∧ yX2_comes.cls ≠ "java/lang/invoke/MethodHandle" ∧ yX2_comes.cls ≠ "java/lang/invoke/VarHandle" ∧ (parseMethodDescriptor yX2_comes.desc).map (fun d => d.parameters.length) = some 1 := by decide +kernel
theorem hd_X2_comesBidder : yX2_comesBidder.cls = RX2 ∧ yX2_comesBidder.cls ≠ "java/lang/invoke/MethodHandle" ∧ yX2_comesBidder.cls ≠ "java/lang/invoke/VarHandle" ∧ (parseMethodDescriptor yX2_comesBidder.desc).map (fun d => d.parameters.length) = some 1 := by decide +kernel
theorem hd_X2_comesCard : yX2_comesCard.cls = RX2 ∧ yX2_comesCard.cls ≠ "java/lang/invoke/MethodHandle" ∧ yX2_comesCard.cls ≠ "java/lang/invoke/VarHandle" ∧ (parseMethodDescriptor yX2_comesCard.desc).map (fun d => d.parameters.length) = some 1 := by decide +kernel
theorem hd_X2_comesMonths : yX2_comesMonths.cls = RX2 ∧ yX2_comesMonths.cls ≠ "java/lang/invoke/MethodHandle" ∧ yX2_comesMonths.cls ≠ "java/lang/invoke/VarHandle" ∧ (parseMethodDescriptor yX2_comesMonths.desc).map (fun d => d.parameters.length) = some 1 := by decide +kernel
theorem hd_X2_comesOf : yX2_comesOf.cls = RX2 ∧ yX2_comesOf.cls ≠ "java/lang/invoke/MethodHandle" ∧ yX2_comesOf.cls ≠ "java/lang/invoke/VarHandle" ∧ (parseMethodDescriptor yX2_comesOf.desc).map (fun d => d.parameters.length) = some 3 := by decide +kernel
theorem hd_X2_dearest : yX2_dearest.cls = RX2 ∧ yX2_dearest.cls ≠ "java/lang/invoke/MethodHandle" ∧ yX2_dearest.cls ≠ "java/lang/invoke/VarHandle" ∧ (parseMethodDescriptor yX2_dearest.desc).map (fun d => d.parameters.length) = some 0 := by decide +kernel
theorem hd_X2_divisor : yX2_divisor.cls = RX2 ∧ yX2_divisor.cls ≠ "java/lang/invoke/MethodHandle" ∧ yX2_divisor.cls ≠ "java/lang/invoke/VarHandle" ∧ (parseMethodDescriptor yX2_divisor.desc).map (fun d => d.parameters.length) = some 2 := by decide +kernel
theorem hd_X2_draw : yX2_draw.cls = RX2 ∧ yX2_draw.cls ≠ "java/lang/invoke/MethodHandle" ∧ yX2_draw.cls ≠ "java/lang/invoke/VarHandle" ∧ (parseMethodDescriptor yX2_draw.desc).map (fun d => d.parameters.length) = some 1 := by decide +kernel
theorem hd_X2_endFor : yX2_endFor.cls = RX2 ∧ yX2_endFor.cls ≠ "java/lang/invoke/MethodHandle" ∧ yX2_endFor.cls ≠ "java/lang/invoke/VarHandle" ∧ (parseMethodDescriptor yX2_endFor.desc).map (fun d => d.parameters.length) = some 3 := by decide +kernel
theorem hd_X2_findEnds : yX2_findEnds.cls = RX2 ∧ yX2_findEnds.cls ≠ "java/lang/invoke/MethodHandle" ∧ yX2_findEnds.cls ≠ "java/lang/invoke/VarHandle" ∧ (parseMethodDescriptor yX2_findEnds.desc).map (fun d => d.parameters.length) = some 3 := by decide +kernel
theorem hd_X2_forgets : yX2_forgets.cls = RX2 ∧ yX2_forgets.cls ≠ "java/lang/invoke/MethodHandle" ∧ yX2_forgets.cls ≠ "java/lang/invoke/VarHandle" ∧ (parseMethodDescriptor yX2_forgets.desc).map (fun d => d.parameters.length) = some 0 := by decide +kernel
theorem hd_X2_getter : yX2_getter.cls = RX2 ∧ yX2_getter.cls ≠ "java/lang/invoke/MethodHandle" ∧ yX2_getter.cls ≠ "java/lang/invoke/VarHandle" ∧ (parseMethodDescriptor yX2_getter.desc).map (fun d => d.parameters.length) = some 1 := by decide +kernel
theorem hd_X2_goes : yX2_goes.cls = RX2 ∧ yX2_goes.cls ≠ "java/lang/invoke/MethodHandle" ∧ yX2_goes.cls ≠ "java/lang/invoke/VarHandle" ∧ (parseMethodDescriptor yX2_goes.desc).map (fun d => d.parameters.length) = some 1 := by decide +kernel
theorem hd_X2_goesMonth : yX2_goesMonth.cls = RX2 ∧ yX2_goesMonth.cls ≠ "java/lang/invoke/MethodHandle" ∧ yX2_goesMonth.cls ≠ "java/lang/invoke/VarHandle" ∧ (parseMethodDescriptor yX2_goesMonth.desc).map (fun d => d.parameters.length) = some 1 := by decide +kernel
theorem hd_X2_has : yX2_has.cls = RX2 ∧ yX2_has.cls ≠ "java/lang/invoke/MethodHandle" ∧ yX2_has.cls ≠ "java/lang/invoke/VarHandle" ∧ (parseMethodDescriptor yX2_has.desc).map (fun d => d.parameters.length) = some 2 := by decide +kernel
theorem hd_X2_held : yX2_held.cls = RX2 ∧ yX2_held.cls ≠ "java/lang/invoke/MethodHandle" ∧ yX2_held.cls ≠ "java/lang/invoke/VarHandle" ∧ (parseMethodDescriptor yX2_held.desc).map (fun d => d.parameters.length) = some 2 := by decide +kernel
theorem hd_X2_heldBy : yX2_heldBy.cls = RX2 ∧ yX2_heldBy.cls ≠ "java/lang/invoke/MethodHandle" ∧ yX2_heldBy.cls ≠ "java/lang/invoke/VarHandle" ∧ (parseMethodDescriptor yX2_heldBy.desc).map (fun d => d.parameters.length) = some 1 := by decide +kernel
theorem hd_X2_holderOf : yX2_holderOf.cls = RX2 ∧ yX2_holderOf.cls ≠ "java/lang/invoke/MethodHandle" ∧ yX2_holderOf.cls ≠ "java/lang/invoke/VarHandle" ∧ (parseMethodDescriptor yX2_holderOf.desc).map (fun d => d.parameters.length) = some 1 := by decide +kernel
theorem hd_X2_isAgainst : yX2_isAgainst.cls = RX2 ∧ yX2_isAgainst.cls ≠ "java/lang/invoke/MethodHandle" ∧ yX2_isAgainst.cls ≠ "java/lang/invoke/VarHandle" ∧ (parseMethodDescriptor yX2_isAgainst.desc).map (fun d => d.parameters.length) = some 2 := by decide +kernel
theorem hd_X2_isBidder : yX2_isBidder.cls = RX2 ∧ yX2_isBidder.cls ≠ "java/lang/invoke/MethodHandle" ∧ yX2_isBidder.cls ≠ "java/lang/invoke/VarHandle" ∧ (parseMethodDescriptor yX2_isBidder.desc).map (fun d => d.parameters.length) = some 1 := by decide +kernel
theorem hd_X2_isCard : yX2_isCard.cls = RX2 ∧ yX2_isCard.cls ≠ "java/lang/invoke/MethodHandle" ∧ yX2_isCard.cls ≠ "java/lang/invoke/VarHandle" ∧ (parseMethodDescriptor yX2_isCard.desc).map (fun d => d.parameters.length) = some 1 := by decide +kernel
theorem hd_X2_isHisBy : yX2_isHisBy.cls = RX2 ∧ yX2_isHisBy.cls ≠ "java/lang/invoke/MethodHandle" ∧ yX2_isHisBy.cls ≠ "java/lang/invoke/VarHandle" ∧ (parseMethodDescriptor yX2_isHisBy.desc).map (fun d => d.parameters.length) = some 3 := by decide +kernel
theorem hd_X2_isIn : yX2_isIn.cls = RX2 ∧ yX2_isIn.cls ≠ "java/lang/invoke/MethodHandle" ∧ yX2_isIn.cls ≠ "java/lang/invoke/VarHandle" ∧ (parseMethodDescriptor yX2_isIn.desc).map (fun d => d.parameters.length) = some 3 := by decide +kernel
theorem hd_X2_isSo : yX2_isSo.cls = RX2 ∧ yX2_isSo.cls ≠ "java/lang/invoke/MethodHandle" ∧ yX2_isSo.cls ≠ "java/lang/invoke/VarHandle" ∧ (parseMethodDescriptor yX2_isSo.desc).map (fun d => d.parameters.length) = some 0 := by decide +kernel
theorem hd_X2_letterNow : yX2_letterNow.cls = RX2 ∧ yX2_letterNow.cls ≠ "java/lang/invoke/MethodHandle" ∧ yX2_letterNow.cls ≠ "java/lang/invoke/VarHandle" ∧ (parseMethodDescriptor yX2_letterNow.desc).map (fun d => d.parameters.length) = some 0 := by decide +kernel
theorem hd_X2_likes : yX2_likes.cls = RX2 ∧ yX2_likes.cls ≠ "java/lang/invoke/MethodHandle" ∧ yX2_likes.cls ≠ "java/lang/invoke/VarHandle" ∧ (parseMethodDescriptor yX2_likes.desc).map (fun d => d.parameters.length) = some 2 := by decide +kernel
theorem hd_X2_lowestOf : yX2_lowestOf.cls = RX2 ∧ yX2_lowestOf.cls ≠ "java/lang/invoke/MethodHandle" ∧ yX2_lowestOf.cls ≠ "java/lang/invoke/VarHandle" ∧ (parseMethodDescriptor yX2_lowestOf.desc).map (fun d => d.parameters.length) = some 1 := by decide +kernel
theorem hd_X2_manyIn : yX2_manyIn.cls = RX2 ∧ yX2_manyIn.cls ≠ "java/lang/invoke/MethodHandle" ∧ yX2_manyIn.cls ≠ "java/lang/invoke/VarHandle" ∧ (parseMethodDescriptor yX2_manyIn.desc).map (fun d => d.parameters.length) = some 2 := by decide +kernel
theorem hd_X2_mostOf : yX2_mostOf.cls = RX2 ∧ yX2_mostOf.cls ≠ "java/lang/invoke/MethodHandle" ∧ yX2_mostOf.cls ≠ "java/lang/invoke/VarHandle" ∧ (parseMethodDescriptor yX2_mostOf.desc).map (fun d => d.parameters.length) = some 1 := by decide +kernel
theorem hd_X2_no : yX2_no.cls = RX2 ∧ yX2_no.cls ≠ "java/lang/invoke/MethodHandle" ∧ yX2_no.cls ≠ "java/lang/invoke/VarHandle" ∧ (parseMethodDescriptor yX2_no.desc).map (fun d => d.parameters.length) = some 1 := by decide +kernel
theorem hd_X2_ownCards : yX2_ownCards.cls = RX2 ∧ yX2_ownCards.cls ≠ "java/lang/invoke/MethodHandle" ∧ yX2_ownCards.cls ≠ "java/lang/invoke/VarHandle" ∧ (parseMethodDescriptor yX2_ownCards.desc).map (fun d => d.parameters.length) = some 1 := by decide +kernel
theorem hd_X2_paidWithout : yX2_paidWithout.cls = RX2 ∧ yX2_paidWithout.cls ≠ "java/lang/invoke/MethodHandle" ∧ yX2_paidWithout.cls ≠ "java/lang/invoke/VarHandle" ∧ (parseMethodDescriptor yX2_paidWithout.desc).map (fun d => d.parameters.length) = some 1 := by decide +kernel
theorem hd_X2_partOf : yX2_partOf.cls = RX2 ∧ yX2_partOf.cls ≠ "java/lang/invoke/MethodHandle" ∧ yX2_partOf.cls ≠ "java/lang/invoke/VarHandle" ∧ (parseMethodDescriptor yX2_partOf.desc).map (fun d => d.parameters.length) = some 3 := by decide +kernel
theorem hd_X2_passOne : yX2_passOne.cls = RX2 ∧ yX2_passOne.cls ≠ "java/lang/invoke/MethodHandle" ∧ yX2_passOne.cls ≠ "java/lang/invoke/VarHandle" ∧ (parseMethodDescriptor yX2_passOne.desc).map (fun d => d.parameters.length) = some 1 := by decide +kernel
theorem hd_X2_passes : yX2_passes.cls = RX2 ∧ yX2_passes.cls ≠ "java/lang/invoke/MethodHandle" ∧ yX2_passes.cls ≠ "java/lang/invoke/VarHandle" ∧ (parseMethodDescriptor yX2_passes.desc).map (fun d => d.parameters.length) = some 1 := by decide +kernel
theorem hd_X2_passesAll : yX2_passesAll.cls = RX2 ∧ yX2_passesAll.cls ≠ "java/lang/invoke/MethodHandle" ∧ yX2_passesAll.cls ≠ "java/lang/invoke/VarHandle" ∧ (parseMethodDescriptor yX2_passesAll.desc).map (fun d => d.parameters.length) = some 2 := by decide +kernel
theorem hd_X2_pile : yX2_pile.cls = RX2 ∧ yX2_pile.cls ≠ "java/lang/invoke/MethodHandle" ∧ yX2_pile.cls ≠ "java/lang/invoke/VarHandle" ∧ (parseMethodDescriptor yX2_pile.desc).map (fun d => d.parameters.length) = some 0 := by decide +kernel
theorem hd_X2_placeOf : yX2_placeOf.cls = RX2 ∧ yX2_placeOf.cls ≠ "java/lang/invoke/MethodHandle" ∧ yX2_placeOf.cls ≠ "java/lang/invoke/VarHandle" ∧ (parseMethodDescriptor yX2_placeOf.desc).map (fun d => d.parameters.length) = some 1 := by decide +kernel
theorem hd_X2_priceFor : yX2_priceFor.cls = RX2 ∧ yX2_priceFor.cls ≠ "java/lang/invoke/MethodHandle" ∧ yX2_priceFor.cls ≠ "java/lang/invoke/VarHandle" ∧ (parseMethodDescriptor yX2_priceFor.desc).map (fun d => d.parameters.length) = some 2 := by decide +kernel
theorem hd_X2_putsFirst : yX2_putsFirst.cls = RX2 ∧ yX2_putsFirst.cls ≠ "java/lang/invoke/MethodHandle" ∧ yX2_putsFirst.cls ≠ "java/lang/invoke/VarHandle" ∧ (parseMethodDescriptor yX2_putsFirst.desc).map (fun d => d.parameters.length) = some 1 := by decide +kernel
theorem hd_X2_readsAll : yX2_readsAll.cls = RX2 ∧ yX2_readsAll.cls ≠ "java/lang/invoke/MethodHandle" ∧ yX2_readsAll.cls ≠ "java/lang/invoke/VarHandle" ∧ (parseMethodDescriptor yX2_readsAll.desc).map (fun d => d.parameters.length) = some 2 := by decide +kernel
theorem hd_X2_readsDigits : yX2_readsDigits.cls = RX2 ∧ yX2_readsDigits.cls ≠ "java/lang/invoke/MethodHandle" ∧ yX2_readsDigits.cls ≠ "java/lang/invoke/VarHandle" ∧ (parseMethodDescriptor yX2_readsDigits.desc).map (fun d => d.parameters.length) = some 2 := by decide +kernel
theorem hd_X2_readsThing : yX2_readsThing.cls = RX2 ∧ yX2_readsThing.cls ≠ "java/lang/invoke/MethodHandle" ∧ yX2_readsThing.cls ≠ "java/lang/invoke/VarHandle" ∧ (parseMethodDescriptor yX2_readsThing.desc).map (fun d => d.parameters.length) = some 2 := by decide +kernel
theorem hd_X2_rivals : yX2_rivals.cls = RX2 ∧ yX2_rivals.cls ≠ "java/lang/invoke/MethodHandle" ∧ yX2_rivals.cls ≠ "java/lang/invoke/VarHandle" ∧ (parseMethodDescriptor yX2_rivals.desc).map (fun d => d.parameters.length) = some 1 := by decide +kernel
theorem hd_X2_sellsOne : yX2_sellsOne.cls = RX2 ∧ yX2_sellsOne.cls ≠ "java/lang/invoke/MethodHandle" ∧ yX2_sellsOne.cls ≠ "java/lang/invoke/VarHandle" ∧ (parseMethodDescriptor yX2_sellsOne.desc).map (fun d => d.parameters.length) = some 1 := by decide +kernel
theorem hd_X2_statement : yX2_statement.cls = RX2 ∧ yX2_statement.cls ≠ "java/lang/invoke/MethodHandle" ∧ yX2_statement.cls ≠ "java/lang/invoke/VarHandle" ∧ (parseMethodDescriptor yX2_statement.desc).map (fun d => d.parameters.length) = some 0 := by decide +kernel
theorem hd_X2_thinks : yX2_thinks.cls = RX2 ∧ yX2_thinks.cls ≠ "java/lang/invoke/MethodHandle" ∧ yX2_thinks.cls ≠ "java/lang/invoke/VarHandle" ∧ (parseMethodDescriptor yX2_thinks.desc).map (fun d => d.parameters.length) = some 0 := by decide +kernel
theorem hd_X2_worth : yX2_worth.cls = RX2 ∧ yX2_worth.cls ≠ "java/lang/invoke/MethodHandle" ∧ yX2_worth.cls ≠ "java/lang/invoke/VarHandle" ∧ (parseMethodDescriptor yX2_worth.desc).map (fun d => d.parameters.length) = some 1 := by decide +kernel
set_option maxHeartbeats 4000000 in
set_option maxRecDepth 100000 in
theorem c_X2_no (l : Launch) (D : va_G) (cI : ClassId) (A : Nat → Nat) (j1 : Int32) (tt : HS) (out : Int32 × HS) (hf : f_X2_no j1 tt = some out) : uI l D cI yX2_no wsX2_no ({ frames := 0, cells := 0, slots := 0, locals := 0 } : Room) [.ref (A 0), .int j1] (wM A cI tt) (wM A cI out.2) out.1 := by
  intro sz
  refine Met.ofW (cc := cX2_no) (maxL := 2) (ret := (some .int)) (by decide) rfl ?_
  intro p e s m args below meth c s₁ Bd hml hv
  obtain ⟨rfl, hsz, hP, hK, hD0, hN⟩ := hv
  have hx := Bd.exec
  have hb := Bd.bytes
  have hr := Bd.returns
  have hts := atoms_spec (ws := wsX2_no) Bd.pre
  have hown : s.vm.findClass RX2 = some m.cls := findClass_of_methodNamed Bd.named
  have hlocks := Bd.notSynchronized
  subst hsz
  have hD := hD0.self (sz := s.heap.size)
  generalize hAe : va_A (wM A cI tt) s.heap.size = G at hD ⊢
  have hA : ∀ q : Nat, s.heap.size ≤ q → G q := fun q h => by rw [← hAe]; exact Or.inr h
  have hS : va_S G s.heap s.heap [] := va_S.rf
  have hP : va_P D vwCl (wM A cI tt) s.heap := hP
  have hl := lv_entry ([.ref (A 0), .int j1]) (n := 2) (Nat.le_of_ble_eq_true rfl)
  rw [lg_entry_eq]
  generalize (lg_sl ([.ref (A 0), .int j1]) ++ List.replicate (2 - (lg_sl ([.ref (A 0), .int j1])).length) Slot.unset).toArray = ls at hl ⊢
  have hl : lv_has ls 2 [(0, .ref (A 0)), (1, .int j1)] := hl
  have hinM : ∀ w ∈ wsX20, w ∈ wsX2_no := by decide +kernel
  have lk0 := hts (.fieldLink RX2 7 "LiesBoughtBackModel" "refused" "[I") (by decide +kernel)
  refine W_in ?_
  intro WW hWW
  refine (hWW _ _ _).mpr ?_
  unfold f_X2_no at hf
  refine lv_aload_n hx hb dX2_no_0 rfl (lv_at hl 0 rfl) ?_
  refine va_get (D := D) (ci := 2) (v := .ref (A 1)) (C := RX2) (T := TX2) (N := 31) hx hb hts hinM hown hK hP 0 rfl rfl 0 (by decide) lk0 (fun _ h9 => h9) rfl dX2_no_1 ?_
  refine lv_iload_n hx hb dX2_no_4 rfl (lv_at hl 1 rfl) ?_
  refine lv_ineg hx hb dX2_no_5 ?_
  refine lv_dup2_11 hx hb dX2_no_6 rfl rfl ?_
  obtain ⟨v1, he, hf⟩ := bS hf
  refine x_iald hx hb hK hP 1 (n := 7) rfl he dX2_no_7 ?_
  refine lv_iconst (v := (1 : Int32)) hx hb dX2_no_8 (by decide) ?_
  refine lv_iadd hx hb dX2_no_9 ?_
  obtain ⟨v2, he, hf⟩ := bS hf
  obtain ⟨tt_v3, ett_v3, hf⟩ := jnS hf
  refine x_iast (ws' := (wM A cI tt_v3)) hx hb hK hP hD hS 1 (n := 7) rfl he ((sa_X2_t_0 A cI tt v2).trans (congrArg (fun z => wM A cI z) ett_v3.symm)) dX2_no_10 (fun H locs hP hD hS => ?_)
  refine lv_iload_n hx hb dX2_no_11 rfl (lv_at hl 1 rfl) ?_
  obtain rfl := Option.some.inj hf
  exact W.iret (v := j1) hx hb hr (fun t ht hW => ⟨⟨j1, (), rfl, rfl, hPt ht hP⟩, hS.F ht⟩) hS.2.2 dX2_no_12
set_option maxHeartbeats 4000000 in
set_option maxRecDepth 100000 in
theorem c_X2_lowestOf (l : Launch) (D : va_G) (cI : ClassId) (A : Nat → Nat) (j1 : Int32) (tt : HS) (out : Int64 × HS) (hf : f_X2_lowestOf j1 tt = some out) : uL l D cI yX2_lowestOf wsX2_lowestOf ({ frames := 0, cells := 0, slots := 0, locals := 0 } : Room) [.ref (A 0), .int j1] (wM A cI tt) (wM A cI out.2) out.1 := by
  intro sz
  refine Met.ofW (cc := cX2_lowestOf) (maxL := 2) (ret := (some .long)) (by decide) rfl ?_
  intro p e s m args below meth c s₁ Bd hml hv
  obtain ⟨rfl, hsz, hP, hK, hD0, hN⟩ := hv
  have hx := Bd.exec
  have hb := Bd.bytes
  have hr := Bd.returns
  have hts := atoms_spec (ws := wsX2_lowestOf) Bd.pre
  have hown : s.vm.findClass RX2 = some m.cls := findClass_of_methodNamed Bd.named
  have hlocks := Bd.notSynchronized
  subst hsz
  have hD := hD0.self (sz := s.heap.size)
  generalize hAe : va_A (wM A cI tt) s.heap.size = G at hD ⊢
  have hA : ∀ q : Nat, s.heap.size ≤ q → G q := fun q h => by rw [← hAe]; exact Or.inr h
  have hS : va_S G s.heap s.heap [] := va_S.rf
  have hP : va_P D vwCl (wM A cI tt) s.heap := hP
  have hl := lv_entry ([.ref (A 0), .int j1]) (n := 2) (Nat.le_of_ble_eq_true rfl)
  rw [lg_entry_eq]
  generalize (lg_sl ([.ref (A 0), .int j1]) ++ List.replicate (2 - (lg_sl ([.ref (A 0), .int j1])).length) Slot.unset).toArray = ls at hl ⊢
  have hl : lv_has ls 2 [(0, .ref (A 0)), (1, .int j1)] := hl
  have hinM : ∀ w ∈ wsX20, w ∈ wsX2_lowestOf := by decide +kernel
  have lk0 := hts (.fieldLink RX2 7 "LiesBoughtBackModel" "refused" "[I") (by decide +kernel)
  have lk1 := hts (.constantLong RX2 71 (4000000000000000000)) (by decide +kernel)
  refine W_in ?_
  intro WW hWW
  refine (hWW _ _ _).mpr ?_
  unfold f_X2_lowestOf at hf
  refine lv_aload_n hx hb dX2_lowestOf_0 rfl (lv_at hl 0 rfl) ?_
  refine va_get (D := D) (ci := 2) (v := .ref (A 1)) (C := RX2) (T := TX2) (N := 31) hx hb hts hinM hown hK hP 0 rfl rfl 0 (by decide) lk0 (fun _ h9 => h9) rfl dX2_lowestOf_1 ?_
  refine lv_iload_n hx hb dX2_lowestOf_4 rfl (lv_at hl 1 rfl) ?_
  refine lv_ineg hx hb dX2_lowestOf_5 ?_
  refine lv_dup2_11 hx hb dX2_lowestOf_6 rfl rfl ?_
  obtain ⟨v1, he, hf⟩ := bS hf
  refine x_iald hx hb hK hP 1 (n := 7) rfl he dX2_lowestOf_7 ?_
  refine lv_iconst (v := (1 : Int32)) hx hb dX2_lowestOf_8 (by decide) ?_
  refine lv_iadd hx hb dX2_lowestOf_9 ?_
  obtain ⟨v2, he, hf⟩ := bS hf
  obtain ⟨tt_v3, ett_v3, hf⟩ := jnS hf
  refine x_iast (ws' := (wM A cI tt_v3)) hx hb hK hP hD hS 1 (n := 7) rfl he ((sa_X2_t_0 A cI tt v2).trans (congrArg (fun z => wM A cI z) ett_v3.symm)) dX2_lowestOf_10 (fun H locs hP hD hS => ?_)
  refine lv_ldc2 (v := (4000000000000000000 : Int64)) hx hb hown lk1 dX2_lowestOf_11 ?_
  refine lv_iload_n hx hb dX2_lowestOf_14 rfl (lv_at hl 1 rfl) ?_
  refine lv_i2l hx hb dX2_lowestOf_15 rfl ?_
  refine lv_lsub hx hb dX2_lowestOf_16 ?_
  obtain rfl := Option.some.inj hf
  exact W.lret (v := ((4000000000000000000 : Int64) - (j1).toInt64)) hx hb hr (fun t ht hW => ⟨⟨((4000000000000000000 : Int64) - (j1).toInt64), (), rfl, rfl, hPt ht hP⟩, hS.F ht⟩) hS.2.2 dX2_lowestOf_17
set_option maxHeartbeats 4000000 in
set_option maxRecDepth 100000 in
theorem c_X2_isIn (l : Launch) (D : va_G) (cI : ClassId) (j0 : Int32) (j1 : Int32) (j2 : Int32) (out : Int32) (hf : f_X2_isIn j0 j1 j2 = out) : uI l D cI yX2_isIn wsX2_isIn ({ frames := 0, cells := 0, slots := 0, locals := 0 } : Room) [.int j0, .int j1, .int j2] [] [] out := by
  intro sz
  refine Met.ofW (cc := cX2_isIn) (maxL := 3) (ret := (some .boolean)) (by decide) rfl ?_
  intro p e s m args below meth c s₁ Bd hml hv
  obtain ⟨rfl, hsz, hP, hK, hD0, hN⟩ := hv
  have hx := Bd.exec
  have hb := Bd.bytes
  have hr := Bd.returns
  have hts := atoms_spec (ws := wsX2_isIn) Bd.pre
  have hown : s.vm.findClass RX2 = some m.cls := findClass_of_methodNamed Bd.named
  have hlocks := Bd.notSynchronized
  subst hsz
  have hD := hD0.self (sz := s.heap.size)
  generalize hAe : va_A [] s.heap.size = G at hD ⊢
  have hA : ∀ q : Nat, s.heap.size ≤ q → G q := fun q h => by rw [← hAe]; exact Or.inr h
  have hS : va_S G s.heap s.heap [] := va_S.rf
  have hP : va_P D vwCl [] s.heap := hP
  have hl := lv_entry ([.int j0, .int j1, .int j2]) (n := 3) (Nat.le_of_ble_eq_true rfl)
  rw [lg_entry_eq]
  generalize (lg_sl ([.int j0, .int j1, .int j2]) ++ List.replicate (3 - (lg_sl ([.int j0, .int j1, .int j2])).length) Slot.unset).toArray = ls at hl ⊢
  have hl : lv_has ls 3 [(0, .int j0), (1, .int j1), (2, .int j2)] := hl
  refine W_in ?_
  intro WW hWW
  refine (hWW _ _ _).mpr ?_
  unfold f_X2_isIn at hf
  refine lv_iload_n hx hb dX2_isIn_0 rfl (lv_at hl 0 rfl) ?_
  refine lv_iload_n hx hb dX2_isIn_1 rfl (lv_at hl 1 rfl) ?_
  refine lv_icmp_lt (tgt := 14) hx hb dX2_isIn_2 (by decide) (fun c1 => ?_) (fun c1 => ?_)
  · have hf := hT hf c1
    refine lv_iconst (v := (0 : Int32)) hx hb dX2_isIn_14 (by decide) ?_
    subst hf
    exact W.zret (ty := .boolean) (v := (0 : Int32)) hx hb hr rfl (fun t ht hW => ⟨⟨(0 : Int32), (), rfl, rfl, hPt ht hP⟩, hS.F ht⟩) hS.2.2 dX2_isIn_15
  · have hf := hF hf c1
    refine lv_iload_n hx hb dX2_isIn_5 rfl (lv_at hl 0 rfl) ?_
    refine lv_iload_n hx hb dX2_isIn_6 rfl (lv_at hl 2 rfl) ?_
    refine lv_icmp_gt (tgt := 14) hx hb dX2_isIn_7 (by decide) (fun c2 => ?_) (fun c2 => ?_)
    · have hf := hT hf c2
      refine lv_iconst (v := (0 : Int32)) hx hb dX2_isIn_14 (by decide) ?_
      subst hf
      exact W.zret (ty := .boolean) (v := (0 : Int32)) hx hb hr rfl (fun t ht hW => ⟨⟨(0 : Int32), (), rfl, rfl, hPt ht hP⟩, hS.F ht⟩) hS.2.2 dX2_isIn_15
    · have hf := hF hf c2
      refine lv_iconst (v := (1 : Int32)) hx hb dX2_isIn_10 (by decide) ?_
      refine lv_goto (tgt := 15) hx hb dX2_isIn_11 (by decide) ?_
      subst hf
      exact W.zret (ty := .boolean) (v := (1 : Int32)) hx hb hr rfl (fun t ht hW => ⟨⟨(1 : Int32), (), rfl, rfl, hPt ht hP⟩, hS.F ht⟩) hS.2.2 dX2_isIn_15
set_option maxHeartbeats 4000000 in
set_option maxRecDepth 100000 in
theorem c_X2_bound (l : Launch) (D : va_G) (cI : ClassId) (j0 : Int32) (j1 : Int32) (j2 : Int32) (out : Int32) (hf : f_X2_bound j0 j1 j2 = out) : uI l D cI yX2_bound wsX2_bound ({ frames := 0, cells := 0, slots := 0, locals := 0 } : Room) [.int j0, .int j1, .int j2] [] [] out := by
  intro sz
  refine Met.ofW (cc := cX2_bound) (maxL := 3) (ret := (some .int)) (by decide) rfl ?_
  intro p e s m args below meth c s₁ Bd hml hv
  obtain ⟨rfl, hsz, hP, hK, hD0, hN⟩ := hv
  have hx := Bd.exec
  have hb := Bd.bytes
  have hr := Bd.returns
  have hts := atoms_spec (ws := wsX2_bound) Bd.pre
  have hown : s.vm.findClass RX2 = some m.cls := findClass_of_methodNamed Bd.named
  have hlocks := Bd.notSynchronized
  subst hsz
  have hD := hD0.self (sz := s.heap.size)
  generalize hAe : va_A [] s.heap.size = G at hD ⊢
  have hA : ∀ q : Nat, s.heap.size ≤ q → G q := fun q h => by rw [← hAe]; exact Or.inr h
  have hS : va_S G s.heap s.heap [] := va_S.rf
  have hP : va_P D vwCl [] s.heap := hP
  have hl := lv_entry ([.int j0, .int j1, .int j2]) (n := 3) (Nat.le_of_ble_eq_true rfl)
  rw [lg_entry_eq]
  generalize (lg_sl ([.int j0, .int j1, .int j2]) ++ List.replicate (3 - (lg_sl ([.int j0, .int j1, .int j2])).length) Slot.unset).toArray = ls at hl ⊢
  have hl : lv_has ls 3 [(0, .int j0), (1, .int j1), (2, .int j2)] := hl
  refine W_in ?_
  intro WW hWW
  refine (hWW _ _ _).mpr ?_
  unfold f_X2_bound at hf
  refine lv_iload_n hx hb dX2_bound_0 rfl (lv_at hl 0 rfl) ?_
  refine lv_iload_n hx hb dX2_bound_1 rfl (lv_at hl 1 rfl) ?_
  refine lv_icmp_ge (tgt := 10) hx hb dX2_bound_2 (by decide) (fun c1 => ?_) (fun c1 => ?_)
  · have hf := hT hf c1
    refine lv_iload_n hx hb dX2_bound_10 rfl (lv_at hl 0 rfl) ?_
    refine lv_iload_n hx hb dX2_bound_11 rfl (lv_at hl 2 rfl) ?_
    refine lv_icmp_le (tgt := 20) hx hb dX2_bound_12 (by decide) (fun c2 => ?_) (fun c2 => ?_)
    · have hf := hT hf c2
      refine lv_iconst (v := (0 : Int32)) hx hb dX2_bound_20 (by decide) ?_
      subst hf
      exact W.iret (v := (0 : Int32)) hx hb hr (fun t ht hW => ⟨⟨(0 : Int32), (), rfl, rfl, hPt ht hP⟩, hS.F ht⟩) hS.2.2 dX2_bound_21
    · have hf := hF hf c2
      refine lv_bipush (v := (-6 : Int32)) hx hb dX2_bound_15 (by decide) ?_
      refine lv_goto (tgt := 21) hx hb dX2_bound_17 (by decide) ?_
      subst hf
      exact W.iret (v := (-6 : Int32)) hx hb hr (fun t ht hW => ⟨⟨(-6 : Int32), (), rfl, rfl, hPt ht hP⟩, hS.F ht⟩) hS.2.2 dX2_bound_21
  · have hf := hF hf c1
    refine lv_bipush (v := (-4 : Int32)) hx hb dX2_bound_5 (by decide) ?_
    refine lv_goto (tgt := 21) hx hb dX2_bound_7 (by decide) ?_
    subst hf
    exact W.iret (v := (-4 : Int32)) hx hb hr (fun t ht hW => ⟨⟨(-4 : Int32), (), rfl, rfl, hPt ht hP⟩, hS.F ht⟩) hS.2.2 dX2_bound_21
set_option maxHeartbeats 4000000 in
set_option maxRecDepth 100000 in
theorem c_X2_held (l : Launch) (D : va_G) (cI : ClassId) (j0 : Int32) (j1 : Int32) (out : Int32) (hf : f_X2_held j0 j1 = out) : uI l D cI yX2_held wsX2_held ({ frames := 0, cells := 0, slots := 0, locals := 0 } : Room) [.int j0, .int j1] [] [] out := by
  intro sz
  refine Met.ofW (cc := cX2_held) (maxL := 2) (ret := (some .int)) (by decide) rfl ?_
  intro p e s m args below meth c s₁ Bd hml hv
  obtain ⟨rfl, hsz, hP, hK, hD0, hN⟩ := hv
  have hx := Bd.exec
  have hb := Bd.bytes
  have hr := Bd.returns
  have hts := atoms_spec (ws := wsX2_held) Bd.pre
  have hown : s.vm.findClass RX2 = some m.cls := findClass_of_methodNamed Bd.named
  have hlocks := Bd.notSynchronized
  subst hsz
  have hD := hD0.self (sz := s.heap.size)
  generalize hAe : va_A [] s.heap.size = G at hD ⊢
  have hA : ∀ q : Nat, s.heap.size ≤ q → G q := fun q h => by rw [← hAe]; exact Or.inr h
  have hS : va_S G s.heap s.heap [] := va_S.rf
  have hP : va_P D vwCl [] s.heap := hP
  have hl := lv_entry ([.int j0, .int j1]) (n := 2) (Nat.le_of_ble_eq_true rfl)
  rw [lg_entry_eq]
  generalize (lg_sl ([.int j0, .int j1]) ++ List.replicate (2 - (lg_sl ([.int j0, .int j1])).length) Slot.unset).toArray = ls at hl ⊢
  have hl : lv_has ls 2 [(0, .int j0), (1, .int j1)] := hl
  refine W_in ?_
  intro WW hWW
  refine (hWW _ _ _).mpr ?_
  unfold f_X2_held at hf
  refine lv_iload_n hx hb dX2_held_0 rfl (lv_at hl 0 rfl) ?_
  refine lv_if_ge (tgt := 8) hx hb dX2_held_1 (by decide) (fun c1 => ?_) (fun c1 => ?_)
  · have hf := hT hf c1
    refine lv_iload_n hx hb dX2_held_8 rfl (lv_at hl 0 rfl) ?_
    refine lv_iload_n hx hb dX2_held_9 rfl (lv_at hl 1 rfl) ?_
    refine lv_icmp_le (tgt := 17) hx hb dX2_held_10 (by decide) (fun c2 => ?_) (fun c2 => ?_)
    · have hf := hT hf c2
      refine lv_iload_n hx hb dX2_held_17 rfl (lv_at hl 0 rfl) ?_
      subst hf
      exact W.iret (v := j0) hx hb hr (fun t ht hW => ⟨⟨j0, (), rfl, rfl, hPt ht hP⟩, hS.F ht⟩) hS.2.2 dX2_held_18
    · have hf := hF hf c2
      refine lv_iload_n hx hb dX2_held_13 rfl (lv_at hl 1 rfl) ?_
      refine lv_goto (tgt := 18) hx hb dX2_held_14 (by decide) ?_
      subst hf
      exact W.iret (v := j1) hx hb hr (fun t ht hW => ⟨⟨j1, (), rfl, rfl, hPt ht hP⟩, hS.F ht⟩) hS.2.2 dX2_held_18
  · have hf := hF hf c1
    refine lv_iconst (v := (0 : Int32)) hx hb dX2_held_4 (by decide) ?_
    refine lv_goto (tgt := 18) hx hb dX2_held_5 (by decide) ?_
    subst hf
    exact W.iret (v := (0 : Int32)) hx hb hr (fun t ht hW => ⟨⟨(0 : Int32), (), rfl, rfl, hPt ht hP⟩, hS.F ht⟩) hS.2.2 dX2_held_18
set_option maxHeartbeats 4000000 in
set_option maxRecDepth 100000 in
theorem c_X2_has (l : Launch) (D : va_G) (cI : ClassId) (j0 : Int32) (j1 : Int32) (out : Int32) (hf : f_X2_has j0 j1 = out) : uI l D cI yX2_has wsX2_has ({ frames := 0, cells := 0, slots := 0, locals := 0 } : Room) [.int j0, .int j1] [] [] out := by
  intro sz
  refine Met.ofW (cc := cX2_has) (maxL := 2) (ret := (some .boolean)) (by decide) rfl ?_
  intro p e s m args below meth c s₁ Bd hml hv
  obtain ⟨rfl, hsz, hP, hK, hD0, hN⟩ := hv
  have hx := Bd.exec
  have hb := Bd.bytes
  have hr := Bd.returns
  have hts := atoms_spec (ws := wsX2_has) Bd.pre
  have hown : s.vm.findClass RX2 = some m.cls := findClass_of_methodNamed Bd.named
  have hlocks := Bd.notSynchronized
  subst hsz
  have hD := hD0.self (sz := s.heap.size)
  generalize hAe : va_A [] s.heap.size = G at hD ⊢
  have hA : ∀ q : Nat, s.heap.size ≤ q → G q := fun q h => by rw [← hAe]; exact Or.inr h
  have hS : va_S G s.heap s.heap [] := va_S.rf
  have hP : va_P D vwCl [] s.heap := hP
  have hl := lv_entry ([.int j0, .int j1]) (n := 2) (Nat.le_of_ble_eq_true rfl)
  rw [lg_entry_eq]
  generalize (lg_sl ([.int j0, .int j1]) ++ List.replicate (2 - (lg_sl ([.int j0, .int j1])).length) Slot.unset).toArray = ls at hl ⊢
  have hl : lv_has ls 2 [(0, .int j0), (1, .int j1)] := hl
  refine W_in ?_
  intro WW hWW
  refine (hWW _ _ _).mpr ?_
  unfold f_X2_has at hf
  refine lv_iload_n hx hb dX2_has_0 rfl (lv_at hl 0 rfl) ?_
  refine lv_iload_n hx hb dX2_has_1 rfl (lv_at hl 1 rfl) ?_
  refine lv_ishr hx hb dX2_has_2 ?_
  refine lv_iconst (v := (1 : Int32)) hx hb dX2_has_3 (by decide) ?_
  refine lv_iand hx hb dX2_has_4 ?_
  refine lv_iconst (v := (1 : Int32)) hx hb dX2_has_5 (by decide) ?_
  refine lv_icmp_ne (tgt := 13) hx hb dX2_has_6 (by decide) (fun c1 => ?_) (fun c1 => ?_)
  · have hf := hF hf c1
    refine lv_iconst (v := (0 : Int32)) hx hb dX2_has_13 (by decide) ?_
    subst hf
    exact W.zret (ty := .boolean) (v := (0 : Int32)) hx hb hr rfl (fun t ht hW => ⟨⟨(0 : Int32), (), rfl, rfl, hPt ht hP⟩, hS.F ht⟩) hS.2.2 dX2_has_14
  · have hf := hT hf c1
    refine lv_iconst (v := (1 : Int32)) hx hb dX2_has_9 (by decide) ?_
    refine lv_goto (tgt := 14) hx hb dX2_has_10 (by decide) ?_
    subst hf
    exact W.zret (ty := .boolean) (v := (1 : Int32)) hx hb hr rfl (fun t ht hW => ⟨⟨(1 : Int32), (), rfl, rfl, hPt ht hP⟩, hS.F ht⟩) hS.2.2 dX2_has_14
set_option maxHeartbeats 4000000 in
set_option maxRecDepth 100000 in
theorem c_X2_bits (l : Launch) (D : va_G) (cI : ClassId) (j0 : Int32) (out : Int32) (hf : f_X2_bits j0 = some out) : uI l D cI yX2_bits wsX2_bits ({ frames := 0, cells := 0, slots := 0, locals := 0 } : Room) [.int j0] [] [] out := by
  intro sz
  refine Met.ofW (cc := cX2_bits) (maxL := 3) (ret := (some .int)) (by decide) rfl ?_
  intro p e s m args below meth c s₁ Bd hml hv
  obtain ⟨rfl, hsz, hP, hK, hD0, hN⟩ := hv
  have hx := Bd.exec
  have hb := Bd.bytes
  have hr := Bd.returns
  have hts := atoms_spec (ws := wsX2_bits) Bd.pre
  have hown : s.vm.findClass RX2 = some m.cls := findClass_of_methodNamed Bd.named
  have hlocks := Bd.notSynchronized
  subst hsz
  have hD := hD0.self (sz := s.heap.size)
  generalize hAe : va_A [] s.heap.size = G at hD ⊢
  have hA : ∀ q : Nat, s.heap.size ≤ q → G q := fun q h => by rw [← hAe]; exact Or.inr h
  have hS : va_S G s.heap s.heap [] := va_S.rf
  have hP : va_P D vwCl [] s.heap := hP
  have hl := lv_entry ([.int j0]) (n := 3) (Nat.le_of_ble_eq_true rfl)
  rw [lg_entry_eq]
  generalize (lg_sl ([.int j0]) ++ List.replicate (3 - (lg_sl ([.int j0])).length) Slot.unset).toArray = ls at hl ⊢
  have hl : lv_has ls 3 [(0, .int j0)] := hl
  refine W_in ?_
  intro WW hWW
  refine (hWW _ _ _).mpr ?_
  unfold f_X2_bits at hf
  refine lv_iconst (v := (0 : Int32)) hx hb dX2_bits_0 (by decide) ?_
  refine lv_istore_n (lv' := [(1, .int (0 : Int32)), (0, .int j0)]) hx hb dX2_bits_1 rfl hl (by decide) rfl (fun ls hl => ?_)
  refine lv_iconst (v := (0 : Int32)) hx hb dX2_bits_2 (by decide) ?_
  refine lv_istore_n (lv' := [(2, .int (0 : Int32)), (1, .int (0 : Int32)), (0, .int j0)]) hx hb dX2_bits_3 rfl hl (by decide) rfl (fun ls hl => ?_)
  obtain ⟨K24, hK24, hf⟩ := jnS hf
  have J24 : ∀ (j1_24 : Int32) (H : Heap) (locs : List Loc) (ls : Array Slot), K24 j1_24 = some out → va_P D vwCl [] H → va_D G [] → va_S G s.heap H locs → lv_has ls 3 [(1, .int j1_24)] → WW H locs (F0 m 24 ls []) := by
    intro j1_24 H locs ls hf hP hD hS hl
    subst hK24
    refine (hWW _ _ _).mpr ?_
    refine lv_iload_n hx hb dX2_bits_24 rfl (lv_at hl 0 rfl) ?_
    obtain rfl := Option.some.inj hf
    exact W.iret (v := j1_24) hx hb hr (fun t ht hW => ⟨⟨j1_24, (), rfl, rfl, hPt ht hP⟩, hS.F ht⟩) hS.2.2 dX2_bits_25
  have P4 : ∀ (n' : Nat) (j1_4 : Int32) (j2_4 : Int32) (H : Heap) (locs : List Loc) (ls : Array Slot), L_X2_bits_4 j0 K24 n' j1_4 j2_4 = some out → va_P D vwCl [] H → va_D G [] → va_S G s.heap H locs → lv_has ls 3 [(0, .int j0), (1, .int j1_4), (2, .int j2_4)] → WW H locs (F0 m 4 ls []) := by
    intro n'
    induction n' with
    | zero => intro j1_4 j2_4 H locs ls hf; exact absurd (show (none : Option (Int32)) = some out from hf) (fun q => by cases q)
    | succ n' ih =>
      intro j1_4 j2_4 H locs ls hf hP hD hS hl
      rw [L_X2_bits_4] at hf
      refine (hWW _ _ _).mpr ?_
      refine lv_iload_n hx hb dX2_bits_4 rfl (lv_at hl 2 rfl) ?_
      refine lv_bipush (v := (31 : Int32)) hx hb dX2_bits_5 (by decide) ?_
      refine lv_icmp_ge (tgt := 24) hx hb dX2_bits_7 (by decide) (fun c1 => ?_) (fun c1 => ?_)
      · have hf := hT hf c1
        exact (hWW _ _ _).mp (J24 _ _ _ _ hf hP hD hS (lv_sub hl [1] rfl))
      · have hf := hF hf c1
        refine lv_iload_n hx hb dX2_bits_10 rfl (lv_at hl 1 rfl) ?_
        refine lv_iload_n hx hb dX2_bits_11 rfl (lv_at hl 0 rfl) ?_
        refine lv_iload_n hx hb dX2_bits_12 rfl (lv_at hl 2 rfl) ?_
        refine lv_ishr hx hb dX2_bits_13 ?_
        refine lv_iconst (v := (1 : Int32)) hx hb dX2_bits_14 (by decide) ?_
        refine lv_iand hx hb dX2_bits_15 ?_
        refine lv_iadd hx hb dX2_bits_16 ?_
        refine lv_istore_n (lv' := [(1, .int (j1_4 + ((j0 >>> (j2_4 &&& 31)) &&& (1 : Int32)))), (0, .int j0), (2, .int j2_4)]) hx hb dX2_bits_17 rfl hl (by decide) rfl (fun ls hl => ?_)
        refine lv_iinc (v := (j2_4 + (1 : Int32))) (lv' := [(2, .int (j2_4 + (1 : Int32))), (1, .int (j1_4 + ((j0 >>> (j2_4 &&& 31)) &&& (1 : Int32)))), (0, .int j0)]) hx hb dX2_bits_18 hl (k := 2) rfl rfl (by decide) rfl (fun ls hl => ?_)
        refine lv_goto (tgt := 4) hx hb dX2_bits_21 (by decide) ?_
        exact (hWW _ _ _).mp (ih _ _ _ _ _ hf hP hD hS (lv_sub hl [2, 1, 0] rfl))
  exact (hWW _ _ _).mp (P4 _ _ _ _ _ _ hf hP hD hS (lv_sub hl [2, 1, 0] rfl))
set_option maxHeartbeats 4000000 in
set_option maxRecDepth 100000 in
theorem c_X2_isCard (l : Launch) (D : va_G) (cI : ClassId) (A : Nat → Nat) (j1 : Int32) (tt : HS) (out : Int32) (hf : f_X2_isCard j1 tt = out) : uI l D cI yX2_isCard wsX2_isCard ({ frames := 0, cells := 0, slots := 0, locals := 0 } : Room) [.ref (A 0), .int j1] (wM A cI tt) (wM A cI tt) out := by
  intro sz
  refine Met.ofW (cc := cX2_isCard) (maxL := 2) (ret := (some .boolean)) (by decide) rfl ?_
  intro p e s m args below meth c s₁ Bd hml hv
  obtain ⟨rfl, hsz, hP, hK, hD0, hN⟩ := hv
  have hx := Bd.exec
  have hb := Bd.bytes
  have hr := Bd.returns
  have hts := atoms_spec (ws := wsX2_isCard) Bd.pre
  have hown : s.vm.findClass RX2 = some m.cls := findClass_of_methodNamed Bd.named
  have hlocks := Bd.notSynchronized
  subst hsz
  have hD := hD0.self (sz := s.heap.size)
  generalize hAe : va_A (wM A cI tt) s.heap.size = G at hD ⊢
  have hA : ∀ q : Nat, s.heap.size ≤ q → G q := fun q h => by rw [← hAe]; exact Or.inr h
  have hS : va_S G s.heap s.heap [] := va_S.rf
  have hP : va_P D vwCl (wM A cI tt) s.heap := hP
  have hl := lv_entry ([.ref (A 0), .int j1]) (n := 2) (Nat.le_of_ble_eq_true rfl)
  rw [lg_entry_eq]
  generalize (lg_sl ([.ref (A 0), .int j1]) ++ List.replicate (2 - (lg_sl ([.ref (A 0), .int j1])).length) Slot.unset).toArray = ls at hl ⊢
  have hl : lv_has ls 2 [(0, .ref (A 0)), (1, .int j1)] := hl
  have hinM : ∀ w ∈ wsX20, w ∈ wsX2_isCard := by decide +kernel
  have lk0 := hts (.fieldLink RX2 67 "LiesBoughtBackModel" "cards" "I") (by decide +kernel)
  refine W_in ?_
  intro WW hWW
  refine (hWW _ _ _).mpr ?_
  unfold f_X2_isCard at hf
  refine lv_iload_n hx hb dX2_isCard_0 rfl (lv_at hl 1 rfl) ?_
  refine lv_if_lt (tgt := 16) hx hb dX2_isCard_1 (by decide) (fun c1 => ?_) (fun c1 => ?_)
  · have hf := hT hf c1
    refine lv_iconst (v := (0 : Int32)) hx hb dX2_isCard_16 (by decide) ?_
    subst hf
    exact W.zret (ty := .boolean) (v := (0 : Int32)) hx hb hr rfl (fun t ht hW => ⟨⟨(0 : Int32), (), rfl, rfl, hPt ht hP⟩, hS.F ht⟩) hS.2.2 dX2_isCard_17
  · have hf := hF hf c1
    refine lv_iload_n hx hb dX2_isCard_4 rfl (lv_at hl 1 rfl) ?_
    refine lv_aload_n hx hb dX2_isCard_5 rfl (lv_at hl 0 rfl) ?_
    refine va_get (D := D) (ci := 2) (v := .int (tt 20 0)) (C := RX2) (T := TX2) (N := 31) hx hb hts hinM hown hK hP 0 rfl rfl 11 (by decide) lk0 (fun _ h9 => h9) rfl dX2_isCard_6 ?_
    refine lv_icmp_ge (tgt := 16) hx hb dX2_isCard_9 (by decide) (fun c2 => ?_) (fun c2 => ?_)
    · have hf := hT hf c2
      refine lv_iconst (v := (0 : Int32)) hx hb dX2_isCard_16 (by decide) ?_
      subst hf
      exact W.zret (ty := .boolean) (v := (0 : Int32)) hx hb hr rfl (fun t ht hW => ⟨⟨(0 : Int32), (), rfl, rfl, hPt ht hP⟩, hS.F ht⟩) hS.2.2 dX2_isCard_17
    · have hf := hF hf c2
      refine lv_iconst (v := (1 : Int32)) hx hb dX2_isCard_12 (by decide) ?_
      refine lv_goto (tgt := 17) hx hb dX2_isCard_13 (by decide) ?_
      subst hf
      exact W.zret (ty := .boolean) (v := (1 : Int32)) hx hb hr rfl (fun t ht hW => ⟨⟨(1 : Int32), (), rfl, rfl, hPt ht hP⟩, hS.F ht⟩) hS.2.2 dX2_isCard_17
set_option maxHeartbeats 4000000 in
set_option maxRecDepth 100000 in
theorem c_X2_isBidder (l : Launch) (D : va_G) (cI : ClassId) (A : Nat → Nat) (j1 : Int32) (tt : HS) (out : Int32) (hf : f_X2_isBidder j1 tt = out) : uI l D cI yX2_isBidder wsX2_isBidder ({ frames := 0, cells := 0, slots := 0, locals := 0 } : Room) [.ref (A 0), .int j1] (wM A cI tt) (wM A cI tt) out := by
  intro sz
  refine Met.ofW (cc := cX2_isBidder) (maxL := 2) (ret := (some .boolean)) (by decide) rfl ?_
  intro p e s m args below meth c s₁ Bd hml hv
  obtain ⟨rfl, hsz, hP, hK, hD0, hN⟩ := hv
  have hx := Bd.exec
  have hb := Bd.bytes
  have hr := Bd.returns
  have hts := atoms_spec (ws := wsX2_isBidder) Bd.pre
  have hown : s.vm.findClass RX2 = some m.cls := findClass_of_methodNamed Bd.named
  have hlocks := Bd.notSynchronized
  subst hsz
  have hD := hD0.self (sz := s.heap.size)
  generalize hAe : va_A (wM A cI tt) s.heap.size = G at hD ⊢
  have hA : ∀ q : Nat, s.heap.size ≤ q → G q := fun q h => by rw [← hAe]; exact Or.inr h
  have hS : va_S G s.heap s.heap [] := va_S.rf
  have hP : va_P D vwCl (wM A cI tt) s.heap := hP
  have hl := lv_entry ([.ref (A 0), .int j1]) (n := 2) (Nat.le_of_ble_eq_true rfl)
  rw [lg_entry_eq]
  generalize (lg_sl ([.ref (A 0), .int j1]) ++ List.replicate (2 - (lg_sl ([.ref (A 0), .int j1])).length) Slot.unset).toArray = ls at hl ⊢
  have hl : lv_has ls 2 [(0, .ref (A 0)), (1, .int j1)] := hl
  have hinM : ∀ w ∈ wsX20, w ∈ wsX2_isBidder := by decide +kernel
  have lk0 := hts (.fieldLink RX2 73 "LiesBoughtBackModel" "bidders" "I") (by decide +kernel)
  refine W_in ?_
  intro WW hWW
  refine (hWW _ _ _).mpr ?_
  unfold f_X2_isBidder at hf
  refine lv_iload_n hx hb dX2_isBidder_0 rfl (lv_at hl 1 rfl) ?_
  refine lv_if_lt (tgt := 16) hx hb dX2_isBidder_1 (by decide) (fun c1 => ?_) (fun c1 => ?_)
  · have hf := hT hf c1
    refine lv_iconst (v := (0 : Int32)) hx hb dX2_isBidder_16 (by decide) ?_
    subst hf
    exact W.zret (ty := .boolean) (v := (0 : Int32)) hx hb hr rfl (fun t ht hW => ⟨⟨(0 : Int32), (), rfl, rfl, hPt ht hP⟩, hS.F ht⟩) hS.2.2 dX2_isBidder_17
  · have hf := hF hf c1
    refine lv_iload_n hx hb dX2_isBidder_4 rfl (lv_at hl 1 rfl) ?_
    refine lv_aload_n hx hb dX2_isBidder_5 rfl (lv_at hl 0 rfl) ?_
    refine va_get (D := D) (ci := 2) (v := .int (tt 21 0)) (C := RX2) (T := TX2) (N := 31) hx hb hts hinM hown hK hP 0 rfl rfl 12 (by decide) lk0 (fun _ h9 => h9) rfl dX2_isBidder_6 ?_
    refine lv_icmp_ge (tgt := 16) hx hb dX2_isBidder_9 (by decide) (fun c2 => ?_) (fun c2 => ?_)
    · have hf := hT hf c2
      refine lv_iconst (v := (0 : Int32)) hx hb dX2_isBidder_16 (by decide) ?_
      subst hf
      exact W.zret (ty := .boolean) (v := (0 : Int32)) hx hb hr rfl (fun t ht hW => ⟨⟨(0 : Int32), (), rfl, rfl, hPt ht hP⟩, hS.F ht⟩) hS.2.2 dX2_isBidder_17
    · have hf := hF hf c2
      refine lv_iconst (v := (1 : Int32)) hx hb dX2_isBidder_12 (by decide) ?_
      refine lv_goto (tgt := 17) hx hb dX2_isBidder_13 (by decide) ?_
      subst hf
      exact W.zret (ty := .boolean) (v := (1 : Int32)) hx hb hr rfl (fun t ht hW => ⟨⟨(1 : Int32), (), rfl, rfl, hPt ht hP⟩, hS.F ht⟩) hS.2.2 dX2_isBidder_17
set_option maxHeartbeats 4000000 in
set_option maxRecDepth 100000 in
theorem c_X2_letter (l : Launch) (D : va_G) (cI : ClassId) (A : Nat → Nat) (j1 : Int32) (tt : HS) (out : Int32 × HS) (hf : f_X2_letter j1 tt = some out) : uI l D cI yX2_letter wsX2_letter ({ frames := 1, cells := 0, slots := 0, locals := 22 } : Room) [.ref (A 0), .int j1] (wM A cI tt) (wM A cI out.2) out.1 := by
  intro sz
  refine Met.ofW (cc := cX2_letter) (maxL := 3) (ret := (some .int)) (by decide) rfl ?_
  intro p e s m args below meth c s₁ Bd hml hv
  obtain ⟨rfl, hsz, hP, hK, hD0, hN⟩ := hv
  have hx := Bd.exec
  have hb := Bd.bytes
  have hr := Bd.returns
  have hts := atoms_spec (ws := wsX2_letter) Bd.pre
  have hown : s.vm.findClass RX2 = some m.cls := findClass_of_methodNamed Bd.named
  have hlocks := Bd.notSynchronized
  subst hsz
  have hD := hD0.self (sz := s.heap.size)
  generalize hAe : va_A (wM A cI tt) s.heap.size = G at hD ⊢
  have hA : ∀ q : Nat, s.heap.size ≤ q → G q := fun q h => by rw [← hAe]; exact Or.inr h
  have hS : va_S G s.heap s.heap [] := va_S.rf
  have hP : va_P D vwCl (wM A cI tt) s.heap := hP
  have hl := lv_entry ([.ref (A 0), .int j1]) (n := 3) (Nat.le_of_ble_eq_true rfl)
  rw [lg_entry_eq]
  generalize (lg_sl ([.ref (A 0), .int j1]) ++ List.replicate (3 - (lg_sl ([.ref (A 0), .int j1])).length) Slot.unset).toArray = ls at hl ⊢
  have hl : lv_has ls 3 [(0, .ref (A 0)), (1, .int j1)] := hl
  have hinM : ∀ w ∈ wsX20, w ∈ wsX2_letter := by decide +kernel
  have lk0 := hts (.fieldLink RX2 43 "LiesBoughtBackModel" "tape" "[I") (by decide +kernel)
  have lk1 := hts (.fieldLink RX2 80 "LiesBoughtBackModel" "taped" "I") (by decide +kernel)
  refine W_in ?_
  intro WW hWW
  refine (hWW _ _ _).mpr ?_
  unfold f_X2_letter at hf
  refine lv_iload_n hx hb dX2_letter_0 rfl (lv_at hl 1 rfl) ?_
  refine lv_iconst (v := (0 : Int32)) hx hb dX2_letter_1 (by decide) ?_
  refine lv_sipush (v := (255 : Int32)) hx hb dX2_letter_2 (by decide) ?_
  refine qS_i (As := [.int j1, .int (0 : Int32), .int (255 : Int32)]) (rest := []) ⟨hx, hb, hml, hown, hts⟩ hK hN hA hP hD hS (c_X2_bound l D cI j1 (0 : Int32) (255 : Int32) (f_X2_bound j1 (0 : Int32) (255 : Int32)) rfl) (va_cwS 3 hts gX2_letter_X2_bound rfl rfl rfl hd_X2_bound.2 ⟨Nat.le_of_ble_eq_true rfl, Nat.le_of_ble_eq_true rfl⟩) Bp_e rfl hl.1 rfl (Nat.le_of_ble_eq_true rfl) dX2_letter_5 ⟨Nat.le_of_ble_eq_true rfl, Nat.le_of_ble_eq_true rfl⟩ (fun H locs hP hD hS => ?_)
  refine lv_istore_n (lv' := [(2, .int (f_X2_bound j1 (0 : Int32) (255 : Int32))), (0, .ref (A 0)), (1, .int j1)]) hx hb dX2_letter_8 rfl hl (by decide) rfl (fun ls hl => ?_)
  refine lv_iload_n hx hb dX2_letter_9 rfl (lv_at hl 0 rfl) ?_
  obtain ⟨K25, hK25, hf⟩ := jnS hf
  have J25 : ∀ (j2_25 : Int32) (tt_25 : HS) (H : Heap) (locs : List Loc) (ls : Array Slot), K25 j2_25 tt_25 = some out → va_P D vwCl (wM A cI tt_25) H → va_D G (wM A cI tt_25) → va_S G s.heap H locs → lv_has ls 3 [(0, .ref (A 0)), (1, .int j1), (2, .int j2_25)] → WW H locs (F0 m 25 ls []) := by
    intro j2_25 tt_25 H locs ls hf hP hD hS hl
    subst hK25
    refine (hWW _ _ _).mpr ?_
    refine lv_iload_n hx hb dX2_letter_25 rfl (lv_at hl 2 rfl) ?_
    refine lv_if_eq (tgt := 35) hx hb dX2_letter_26 (by decide) (fun c1 => ?_) (fun c1 => ?_)
    · have hf := hT hf c1
      refine lv_aload_n hx hb dX2_letter_35 rfl (lv_at hl 0 rfl) ?_
      refine va_get (D := D) (ci := 2) (v := .ref (A 12)) (C := RX2) (T := TX2) (N := 31) hx hb hts hinM hown hK hP 0 rfl rfl 14 (by decide) lk0 (fun _ h9 => h9) rfl dX2_letter_36 ?_
      refine lv_aload_n hx hb dX2_letter_39 rfl (lv_at hl 0 rfl) ?_
      refine va_get (D := D) (ci := 2) (v := .int (tt_25 23 0)) (C := RX2) (T := TX2) (N := 31) hx hb hts hinM hown hK hP 0 rfl rfl 18 (by decide) lk1 (fun _ h9 => h9) rfl dX2_letter_40 ?_
      refine lv_iload_n hx hb dX2_letter_43 rfl (lv_at hl 1 rfl) ?_
      obtain ⟨v2, he, hf⟩ := bS hf
      obtain ⟨tt_v3, ett_v3, hf⟩ := jnS hf
      refine x_iast (ws' := (wM A cI tt_v3)) hx hb hK hP hD hS 12 (n := 96) rfl he ((sa_X2_t_11 A cI tt_25 v2).trans (congrArg (fun z => wM A cI z) ett_v3.symm)) dX2_letter_44 (fun H locs hP hD hS => ?_)
      refine lv_aload_n hx hb dX2_letter_45 rfl (lv_at hl 0 rfl) ?_
      refine lv_dup hx hb dX2_letter_46 rfl ?_
      refine va_get (D := D) (ci := 2) (v := .int (tt_v3 23 0)) (C := RX2) (T := TX2) (N := 31) hx hb hts hinM hown hK hP 0 rfl rfl 18 (by decide) lk1 (fun _ h9 => h9) rfl dX2_letter_47 ?_
      refine lv_iconst (v := (1 : Int32)) hx hb dX2_letter_50 (by decide) ?_
      refine lv_iadd hx hb dX2_letter_51 ?_
      obtain ⟨tt_v4, ett_v4, hf⟩ := jnS hf
      refine va_put (D := D) (ci := 2) (v := .int ((tt_v3 23 0) + (1 : Int32))) (ty := .int) (C := RX2) (T := TX2) (N := 31) hx hb hts hinM tyX2 tyX2_ok nmX2 hown hK hP hD hS 0 rfl rfl 18 (by decide) lk1 (fun _ h9 => h9) rfl (by decide +kernel) rfl rfl (Nat.le_of_ble_eq_true rfl) dX2_letter_52 (fun H locs hP hD hS => ?_)
      have hE : _ = (wM A cI tt_v4) := ((sf_X2_t_23 A cI tt_v3 ((tt_v3 23 0) + (1 : Int32))).trans (congrArg (fun z => wM A cI z) ett_v4.symm))
      have hP : va_P D vwCl (wM A cI tt_v4) H := hE ▸ hP
      have hD : va_D G (wM A cI tt_v4) := hE ▸ hD
      refine lv_aload_n hx hb dX2_letter_55 rfl (lv_at hl 0 rfl) ?_
      refine va_get (D := D) (ci := 2) (v := .int (tt_v4 23 0)) (C := RX2) (T := TX2) (N := 31) hx hb hts hinM hown hK hP 0 rfl rfl 18 (by decide) lk1 (fun _ h9 => h9) rfl dX2_letter_56 ?_
      obtain rfl := Option.some.inj hf
      exact W.iret (v := (tt_v4 23 0)) hx hb hr (fun t ht hW => ⟨⟨(tt_v4 23 0), (), rfl, rfl, hPt ht hP⟩, hS.F ht⟩) hS.2.2 dX2_letter_59
    · have hf := hF hf c1
      refine lv_aload_n hx hb dX2_letter_29 rfl (lv_at hl 0 rfl) ?_
      refine lv_iload_n hx hb dX2_letter_30 rfl (lv_at hl 2 rfl) ?_
      obtain ⟨v5, hev5, hf⟩ := bS hf
      refine qV_i (ws' := (wM A cI v5.2)) (As := [.int j2_25]) (rest := []) ⟨hx, hb, hml, hown, hts⟩ hK hN hA hP hD hS (c_X2_no l D cI A j2_25 tt_25 v5 hev5) (cwV 1 hts gX2_letter_X2_no rfl rfl rfl hd_X2_no ⟨Nat.le_of_ble_eq_true rfl, Nat.le_of_ble_eq_true rfl⟩) (va_recv hK hP (ci := 2) (q0 := 0) rfl rfl) (bp_X2_X2_t_t A cI tt_25 v5.2) rfl hl.1 rfl (Nat.le_of_ble_eq_true rfl) dX2_letter_31 ⟨Nat.le_of_ble_eq_true rfl, Nat.le_of_ble_eq_true rfl⟩ (fun H locs hP hD hS => ?_)
      have hP : va_P D vwCl (wM A cI v5.2) H := hP
      obtain rfl := Option.some.inj hf
      exact W.iret (v := v5.1) hx hb hr (fun t ht hW => ⟨⟨v5.1, (), rfl, rfl, hPt ht hP⟩, hS.F ht⟩) hS.2.2 dX2_letter_34
  refine lv_if_ne (tgt := 25) hx hb dX2_letter_10 (by decide) (fun c6 => ?_) (fun c6 => ?_)
  · have hf := hF hf c6
    exact (hWW _ _ _).mp (J25 _ _ _ _ _ hf hP hD hS (lv_sub hl [1, 2, 0] rfl))
  · have hf := hT hf c6
    refine lv_aload_n hx hb dX2_letter_13 rfl (lv_at hl 1 rfl) ?_
    refine va_get (D := D) (ci := 2) (v := .int (tt 23 0)) (C := RX2) (T := TX2) (N := 31) hx hb hts hinM hown hK hP 0 rfl rfl 18 (by decide) lk1 (fun _ h9 => h9) rfl dX2_letter_14 ?_
    refine lv_bipush (v := (96 : Int32)) hx hb dX2_letter_17 (by decide) ?_
    refine lv_icmp_ne (tgt := 25) hx hb dX2_letter_19 (by decide) (fun c7 => ?_) (fun c7 => ?_)
    · have hf := hF hf c7
      exact (hWW _ _ _).mp (J25 _ _ _ _ _ hf hP hD hS (lv_sub hl [1, 2, 0] rfl))
    · have hf := hT hf c7
      refine lv_bipush (v := (-6 : Int32)) hx hb dX2_letter_22 (by decide) ?_
      refine lv_istore_n (lv' := [(2, .int (-6 : Int32)), (0, .ref (A 0)), (1, .int j1)]) hx hb dX2_letter_24 rfl hl (by decide) rfl (fun ls hl => ?_)
      exact (hWW _ _ _).mp (J25 _ _ _ _ _ hf hP hD hS (lv_sub hl [1, 2, 0] rfl))
set_option maxHeartbeats 4000000 in
set_option maxRecDepth 100000 in
theorem c_X2_letterNow (l : Launch) (D : va_G) (cI : ClassId) (A : Nat → Nat) (tt : HS) (out : Int32) (hf : f_X2_letterNow tt = some out) : uI l D cI yX2_letterNow wsX2_letterNow ({ frames := 0, cells := 0, slots := 0, locals := 0 } : Room) [.ref (A 0)] (wM A cI tt) (wM A cI tt) out := by
  intro sz
  refine Met.ofW (cc := cX2_letterNow) (maxL := 1) (ret := (some .int)) (by decide) rfl ?_
  intro p e s m args below meth c s₁ Bd hml hv
  obtain ⟨rfl, hsz, hP, hK, hD0, hN⟩ := hv
  have hx := Bd.exec
  have hb := Bd.bytes
  have hr := Bd.returns
  have hts := atoms_spec (ws := wsX2_letterNow) Bd.pre
  have hown : s.vm.findClass RX2 = some m.cls := findClass_of_methodNamed Bd.named
  have hlocks := Bd.notSynchronized
  subst hsz
  have hD := hD0.self (sz := s.heap.size)
  generalize hAe : va_A (wM A cI tt) s.heap.size = G at hD ⊢
  have hA : ∀ q : Nat, s.heap.size ≤ q → G q := fun q h => by rw [← hAe]; exact Or.inr h
  have hS : va_S G s.heap s.heap [] := va_S.rf
  have hP : va_P D vwCl (wM A cI tt) s.heap := hP
  have hl := lv_entry ([.ref (A 0)]) (n := 1) (Nat.le_of_ble_eq_true rfl)
  rw [lg_entry_eq]
  generalize (lg_sl ([.ref (A 0)]) ++ List.replicate (1 - (lg_sl ([.ref (A 0)])).length) Slot.unset).toArray = ls at hl ⊢
  have hl : lv_has ls 1 [(0, .ref (A 0))] := hl
  have hinM : ∀ w ∈ wsX20, w ∈ wsX2_letterNow := by decide +kernel
  have lk0 := hts (.fieldLink RX2 87 "LiesBoughtBackModel" "at" "I") (by decide +kernel)
  have lk1 := hts (.fieldLink RX2 80 "LiesBoughtBackModel" "taped" "I") (by decide +kernel)
  have lk2 := hts (.fieldLink RX2 43 "LiesBoughtBackModel" "tape" "[I") (by decide +kernel)
  refine W_in ?_
  intro WW hWW
  refine (hWW _ _ _).mpr ?_
  unfold f_X2_letterNow at hf
  refine lv_aload_n hx hb dX2_letterNow_0 rfl (lv_at hl 0 rfl) ?_
  refine va_get (D := D) (ci := 2) (v := .int (tt 24 0)) (C := RX2) (T := TX2) (N := 31) hx hb hts hinM hown hK hP 0 rfl rfl 19 (by decide) lk0 (fun _ h9 => h9) rfl dX2_letterNow_1 ?_
  refine lv_aload_n hx hb dX2_letterNow_4 rfl (lv_at hl 0 rfl) ?_
  refine va_get (D := D) (ci := 2) (v := .int (tt 23 0)) (C := RX2) (T := TX2) (N := 31) hx hb hts hinM hown hK hP 0 rfl rfl 18 (by decide) lk1 (fun _ h9 => h9) rfl dX2_letterNow_5 ?_
  refine lv_icmp_ge (tgt := 23) hx hb dX2_letterNow_8 (by decide) (fun c1 => ?_) (fun c1 => ?_)
  · have hf := hT hf c1
    refine lv_iconst (v := (-1 : Int32)) hx hb dX2_letterNow_23 (by decide) ?_
    obtain rfl := Option.some.inj hf
    exact W.iret (v := (-1 : Int32)) hx hb hr (fun t ht hW => ⟨⟨(-1 : Int32), (), rfl, rfl, hPt ht hP⟩, hS.F ht⟩) hS.2.2 dX2_letterNow_24
  · have hf := hF hf c1
    refine lv_aload_n hx hb dX2_letterNow_11 rfl (lv_at hl 0 rfl) ?_
    refine va_get (D := D) (ci := 2) (v := .ref (A 12)) (C := RX2) (T := TX2) (N := 31) hx hb hts hinM hown hK hP 0 rfl rfl 14 (by decide) lk2 (fun _ h9 => h9) rfl dX2_letterNow_12 ?_
    refine lv_aload_n hx hb dX2_letterNow_15 rfl (lv_at hl 0 rfl) ?_
    refine va_get (D := D) (ci := 2) (v := .int (tt 24 0)) (C := RX2) (T := TX2) (N := 31) hx hb hts hinM hown hK hP 0 rfl rfl 19 (by decide) lk0 (fun _ h9 => h9) rfl dX2_letterNow_16 ?_
    obtain ⟨v2, he, hf⟩ := bS hf
    refine x_iald hx hb hK hP 12 (n := 96) rfl he dX2_letterNow_19 ?_
    refine lv_goto (tgt := 24) hx hb dX2_letterNow_20 (by decide) ?_
    obtain rfl := Option.some.inj hf
    exact W.iret (v := v2) hx hb hr (fun t ht hW => ⟨⟨v2, (), rfl, rfl, hPt ht hP⟩, hS.F ht⟩) hS.2.2 dX2_letterNow_24
set_option maxHeartbeats 4000000 in
set_option maxRecDepth 100000 in
theorem c_X2_readsDigits (l : Launch) (D : va_G) (cI : ClassId) (A : Nat → Nat) (j1 : Int32) (j2 : Int32) (tt : HS) (out : Int32 × HS) (hf : f_X2_readsDigits j1 j2 tt = some out) : uI l D cI yX2_readsDigits wsX2_readsDigits ({ frames := 1, cells := 0, slots := 0, locals := 22 } : Room) [.ref (A 0), .int j1, .int j2] (wM A cI tt) (wM A cI out.2) out.1 := by
  intro sz
  refine Met.ofW (cc := cX2_readsDigits) (maxL := 5) (ret := (some .boolean)) (by decide) rfl ?_
  intro p e s m args below meth c s₁ Bd hml hv
  obtain ⟨rfl, hsz, hP, hK, hD0, hN⟩ := hv
  have hx := Bd.exec
  have hb := Bd.bytes
  have hr := Bd.returns
  have hts := atoms_spec (ws := wsX2_readsDigits) Bd.pre
  have hown : s.vm.findClass RX2 = some m.cls := findClass_of_methodNamed Bd.named
  have hlocks := Bd.notSynchronized
  subst hsz
  have hD := hD0.self (sz := s.heap.size)
  generalize hAe : va_A (wM A cI tt) s.heap.size = G at hD ⊢
  have hA : ∀ q : Nat, s.heap.size ≤ q → G q := fun q h => by rw [← hAe]; exact Or.inr h
  have hS : va_S G s.heap s.heap [] := va_S.rf
  have hP : va_P D vwCl (wM A cI tt) s.heap := hP
  have hl := lv_entry ([.ref (A 0), .int j1, .int j2]) (n := 5) (Nat.le_of_ble_eq_true rfl)
  rw [lg_entry_eq]
  generalize (lg_sl ([.ref (A 0), .int j1, .int j2]) ++ List.replicate (5 - (lg_sl ([.ref (A 0), .int j1, .int j2])).length) Slot.unset).toArray = ls at hl ⊢
  have hl : lv_has ls 5 [(0, .ref (A 0)), (1, .int j1), (2, .int j2)] := hl
  have hinM : ∀ w ∈ wsX20, w ∈ wsX2_readsDigits := by decide +kernel
  have lk0 := hts (.fieldLink RX2 52 "LiesBoughtBackModel" "told" "[I") (by decide +kernel)
  have lk1 := hts (.fieldLink RX2 87 "LiesBoughtBackModel" "at" "I") (by decide +kernel)
  refine W_in ?_
  intro WW hWW
  refine (hWW _ _ _).mpr ?_
  unfold f_X2_readsDigits at hf
  refine lv_iconst (v := (0 : Int32)) hx hb dX2_readsDigits_0 (by decide) ?_
  refine lv_istore_n (lv' := [(3, .int (0 : Int32)), (0, .ref (A 0)), (1, .int j1), (2, .int j2)]) hx hb dX2_readsDigits_1 rfl hl (by decide) rfl (fun ls hl => ?_)
  refine lv_iconst (v := (0 : Int32)) hx hb dX2_readsDigits_2 (by decide) ?_
  refine lv_istore (lv' := [(4, .int (0 : Int32)), (3, .int (0 : Int32)), (0, .ref (A 0)), (1, .int j1), (2, .int j2)]) hx hb dX2_readsDigits_3 hl (by decide) rfl (fun ls hl => ?_)
  obtain ⟨K56, hK56, hf⟩ := jnS hf
  have J56 : ∀ (j3_56 : Int32) (tt_56 : HS) (H : Heap) (locs : List Loc) (ls : Array Slot), K56 j3_56 tt_56 = some out → va_P D vwCl (wM A cI tt_56) H → va_D G (wM A cI tt_56) → va_S G s.heap H locs → lv_has ls 5 [(0, .ref (A 0)), (1, .int j1), (3, .int j3_56)] → WW H locs (F0 m 56 ls []) := by
    intro j3_56 tt_56 H locs ls hf hP hD hS hl
    subst hK56
    refine (hWW _ _ _).mpr ?_
    refine lv_aload_n hx hb dX2_readsDigits_56 rfl (lv_at hl 0 rfl) ?_
    refine va_get (D := D) (ci := 2) (v := .ref (A 15)) (C := RX2) (T := TX2) (N := 31) hx hb hts hinM hown hK hP 0 rfl rfl 17 (by decide) lk0 (fun _ h9 => h9) rfl dX2_readsDigits_57 ?_
    refine lv_iload_n hx hb dX2_readsDigits_60 rfl (lv_at hl 1 rfl) ?_
    refine lv_iload_n hx hb dX2_readsDigits_61 rfl (lv_at hl 2 rfl) ?_
    obtain ⟨v1, he, hf⟩ := bS hf
    obtain ⟨tt_v2, ett_v2, hf⟩ := jnS hf
    refine x_iast (ws' := (wM A cI tt_v2)) hx hb hK hP hD hS 15 (n := 144) rfl he ((sa_X2_t_14 A cI tt_56 v1).trans (congrArg (fun z => wM A cI z) ett_v2.symm)) dX2_readsDigits_62 (fun H locs hP hD hS => ?_)
    refine lv_iconst (v := (1 : Int32)) hx hb dX2_readsDigits_63 (by decide) ?_
    obtain rfl := Option.some.inj hf
    exact W.zret (ty := .boolean) (v := (1 : Int32)) hx hb hr rfl (fun t ht hW => ⟨⟨(1 : Int32), (), rfl, rfl, hPt ht hP⟩, hS.F ht⟩) hS.2.2 dX2_readsDigits_64
  have P5 : ∀ (n' : Nat) (j3_5 : Int32) (j4_5 : Int32) (tt_5 : HS) (H : Heap) (locs : List Loc) (ls : Array Slot), L_X2_readsDigits_5 j1 j2 K56 n' j3_5 j4_5 tt_5 = some out → va_P D vwCl (wM A cI tt_5) H → va_D G (wM A cI tt_5) → va_S G s.heap H locs → lv_has ls 5 [(0, .ref (A 0)), (1, .int j1), (2, .int j2), (3, .int j3_5), (4, .int j4_5)] → WW H locs (F0 m 5 ls []) := by
    intro n'
    induction n' with
    | zero => intro j3_5 j4_5 tt_5 H locs ls hf; exact absurd (show (none : Option (Int32 × HS)) = some out from hf) (fun q => by cases q)
    | succ n' ih =>
      intro j3_5 j4_5 tt_5 H locs ls hf hP hD hS hl
      rw [L_X2_readsDigits_5] at hf
      refine (hWW _ _ _).mpr ?_
      refine lv_iload hx hb dX2_readsDigits_5 (lv_at hl 4 rfl) ?_
      refine lv_iload_n hx hb dX2_readsDigits_7 rfl (lv_at hl 2 rfl) ?_
      refine lv_icmp_ge (tgt := 56) hx hb dX2_readsDigits_8 (by decide) (fun c3 => ?_) (fun c3 => ?_)
      · have hf := hT hf c3
        exact (hWW _ _ _).mp (J56 _ _ _ _ _ hf hP hD hS (lv_sub hl [0, 1, 3] rfl))
      · have hf := hF hf c3
        refine lv_aload_n hx hb dX2_readsDigits_11 rfl (lv_at hl 0 rfl) ?_
        obtain ⟨v4, hev4, hf⟩ := bS hf
        refine qV_i (As := []) (rest := []) ⟨hx, hb, hml, hown, hts⟩ hK hN hA hP hD hS (c_X2_letterNow l D cI A tt_5 v4 hev4) (cwV 0 hts gX2_readsDigits_X2_letterNow rfl rfl rfl hd_X2_letterNow ⟨Nat.le_of_ble_eq_true rfl, Nat.le_of_ble_eq_true rfl⟩) (va_recv hK hP (ci := 2) (q0 := 0) rfl rfl) (bq_X2_X2_t A cI tt_5) rfl hl.1 rfl (Nat.le_of_ble_eq_true rfl) dX2_readsDigits_12 ⟨Nat.le_of_ble_eq_true rfl, Nat.le_of_ble_eq_true rfl⟩ (fun H locs hP hD hS => ?_)
        refine lv_bipush (v := (48 : Int32)) hx hb dX2_readsDigits_15 (by decide) ?_
        refine lv_bipush (v := (57 : Int32)) hx hb dX2_readsDigits_17 (by decide) ?_
        refine qS_i (As := [.int v4, .int (48 : Int32), .int (57 : Int32)]) (rest := []) ⟨hx, hb, hml, hown, hts⟩ hK hN hA hP hD hS (c_X2_isIn l D cI v4 (48 : Int32) (57 : Int32) (f_X2_isIn v4 (48 : Int32) (57 : Int32)) rfl) (va_cwS 3 hts gX2_readsDigits_X2_isIn rfl rfl rfl hd_X2_isIn.2 ⟨Nat.le_of_ble_eq_true rfl, Nat.le_of_ble_eq_true rfl⟩) Bp_e rfl hl.1 rfl (Nat.le_of_ble_eq_true rfl) dX2_readsDigits_19 ⟨Nat.le_of_ble_eq_true rfl, Nat.le_of_ble_eq_true rfl⟩ (fun H locs hP hD hS => ?_)
        refine lv_if_ne (tgt := 27) hx hb dX2_readsDigits_22 (by decide) (fun c5 => ?_) (fun c5 => ?_)
        · have hf := hF hf c5
          refine lv_bipush (v := (10 : Int32)) hx hb dX2_readsDigits_27 (by decide) ?_
          refine lv_iload_n hx hb dX2_readsDigits_29 rfl (lv_at hl 3 rfl) ?_
          refine lv_imul hx hb dX2_readsDigits_30 ?_
          refine lv_aload_n hx hb dX2_readsDigits_31 rfl (lv_at hl 0 rfl) ?_
          obtain ⟨v6, hev6, hf⟩ := bS hf
          refine qV_i (As := []) (rest := [.int ((10 : Int32) * j3_5)]) ⟨hx, hb, hml, hown, hts⟩ hK hN hA hP hD hS (c_X2_letterNow l D cI A tt_5 v6 hev6) (cwV 0 hts gX2_readsDigits_X2_letterNow rfl rfl rfl hd_X2_letterNow ⟨Nat.le_of_ble_eq_true rfl, Nat.le_of_ble_eq_true rfl⟩) (va_recv hK hP (ci := 2) (q0 := 0) rfl rfl) (bq_X2_X2_t A cI tt_5) rfl hl.1 rfl (Nat.le_of_ble_eq_true rfl) dX2_readsDigits_32 ⟨Nat.le_of_ble_eq_true rfl, Nat.le_of_ble_eq_true rfl⟩ (fun H locs hP hD hS => ?_)
          refine lv_iadd hx hb dX2_readsDigits_35 ?_
          refine lv_bipush (v := (48 : Int32)) hx hb dX2_readsDigits_36 (by decide) ?_
          refine lv_isub hx hb dX2_readsDigits_38 ?_
          refine lv_istore_n (lv' := [(3, .int ((((10 : Int32) * j3_5) + v6) - (48 : Int32))), (0, .ref (A 0)), (1, .int j1), (2, .int j2), (4, .int j4_5)]) hx hb dX2_readsDigits_39 rfl hl (by decide) rfl (fun ls hl => ?_)
          refine lv_aload_n hx hb dX2_readsDigits_40 rfl (lv_at hl 1 rfl) ?_
          refine lv_dup hx hb dX2_readsDigits_41 rfl ?_
          refine va_get (D := D) (ci := 2) (v := .int (tt_5 24 0)) (C := RX2) (T := TX2) (N := 31) hx hb hts hinM hown hK hP 0 rfl rfl 19 (by decide) lk1 (fun _ h9 => h9) rfl dX2_readsDigits_42 ?_
          refine lv_iconst (v := (1 : Int32)) hx hb dX2_readsDigits_45 (by decide) ?_
          refine lv_iadd hx hb dX2_readsDigits_46 ?_
          obtain ⟨tt_v7, ett_v7, hf⟩ := jnS hf
          refine va_put (D := D) (ci := 2) (v := .int ((tt_5 24 0) + (1 : Int32))) (ty := .int) (C := RX2) (T := TX2) (N := 31) hx hb hts hinM tyX2 tyX2_ok nmX2 hown hK hP hD hS 0 rfl rfl 19 (by decide) lk1 (fun _ h9 => h9) rfl (by decide +kernel) rfl rfl (Nat.le_of_ble_eq_true rfl) dX2_readsDigits_47 (fun H locs hP hD hS => ?_)
          have hE : _ = (wM A cI tt_v7) := ((sf_X2_t_24 A cI tt_5 ((tt_5 24 0) + (1 : Int32))).trans (congrArg (fun z => wM A cI z) ett_v7.symm))
          have hP : va_P D vwCl (wM A cI tt_v7) H := hE ▸ hP
          have hD : va_D G (wM A cI tt_v7) := hE ▸ hD
          refine lv_iinc (v := (j4_5 + (1 : Int32))) (lv' := [(4, .int (j4_5 + (1 : Int32))), (3, .int ((((10 : Int32) * j3_5) + v6) - (48 : Int32))), (0, .ref (A 0)), (1, .int j1), (2, .int j2)]) hx hb dX2_readsDigits_50 hl (k := 4) rfl rfl (by decide) rfl (fun ls hl => ?_)
          refine lv_goto (tgt := 5) hx hb dX2_readsDigits_53 (by decide) ?_
          exact (hWW _ _ _).mp (ih _ _ _ _ _ _ hf hP hD hS (lv_sub hl [2, 3, 4, 1, 0] rfl))
        · have hf := hT hf c5
          refine lv_iconst (v := (0 : Int32)) hx hb dX2_readsDigits_25 (by decide) ?_
          obtain rfl := Option.some.inj hf
          exact W.zret (ty := .boolean) (v := (0 : Int32)) hx hb hr rfl (fun t ht hW => ⟨⟨(0 : Int32), (), rfl, rfl, hPt ht hP⟩, hS.F ht⟩) hS.2.2 dX2_readsDigits_26
  exact (hWW _ _ _).mp (P5 _ _ _ _ _ _ _ hf hP hD hS (lv_sub hl [2, 3, 4, 1, 0] rfl))
set_option maxHeartbeats 4000000 in
set_option maxRecDepth 100000 in
theorem c_X2_cardKind (l : Launch) (D : va_G) (cI : ClassId) (j0 : Int32) (out : Int32) (hf : f_X2_cardKind j0 = out) : uI l D cI yX2_cardKind wsX2_cardKind ({ frames := 0, cells := 0, slots := 0, locals := 0 } : Room) [.int j0] [] [] out := by
  intro sz
  refine Met.ofW (cc := cX2_cardKind) (maxL := 1) (ret := (some .int)) (by decide) rfl ?_
  intro p e s m args below meth c s₁ Bd hml hv
  obtain ⟨rfl, hsz, hP, hK, hD0, hN⟩ := hv
  have hx := Bd.exec
  have hb := Bd.bytes
  have hr := Bd.returns
  have hts := atoms_spec (ws := wsX2_cardKind) Bd.pre
  have hown : s.vm.findClass RX2 = some m.cls := findClass_of_methodNamed Bd.named
  have hlocks := Bd.notSynchronized
  subst hsz
  have hD := hD0.self (sz := s.heap.size)
  generalize hAe : va_A [] s.heap.size = G at hD ⊢
  have hA : ∀ q : Nat, s.heap.size ≤ q → G q := fun q h => by rw [← hAe]; exact Or.inr h
  have hS : va_S G s.heap s.heap [] := va_S.rf
  have hP : va_P D vwCl [] s.heap := hP
  have hl := lv_entry ([.int j0]) (n := 1) (Nat.le_of_ble_eq_true rfl)
  rw [lg_entry_eq]
  generalize (lg_sl ([.int j0]) ++ List.replicate (1 - (lg_sl ([.int j0])).length) Slot.unset).toArray = ls at hl ⊢
  have hl : lv_has ls 1 [(0, .int j0)] := hl
  refine W_in ?_
  intro WW hWW
  refine (hWW _ _ _).mpr ?_
  unfold f_X2_cardKind at hf
  refine lv_iload_n hx hb dX2_cardKind_0 rfl (lv_at hl 0 rfl) ?_
  refine lv_bipush (v := (108 : Int32)) hx hb dX2_cardKind_1 (by decide) ?_
  refine lv_icmp_ne (tgt := 10) hx hb dX2_cardKind_3 (by decide) (fun c1 => ?_) (fun c1 => ?_)
  · have hf := hF hf c1
    refine lv_iload_n hx hb dX2_cardKind_10 rfl (lv_at hl 0 rfl) ?_
    refine lv_bipush (v := (107 : Int32)) hx hb dX2_cardKind_11 (by decide) ?_
    refine lv_icmp_ne (tgt := 20) hx hb dX2_cardKind_13 (by decide) (fun c2 => ?_) (fun c2 => ?_)
    · have hf := hF hf c2
      refine lv_iload_n hx hb dX2_cardKind_20 rfl (lv_at hl 0 rfl) ?_
      refine lv_bipush (v := (103 : Int32)) hx hb dX2_cardKind_21 (by decide) ?_
      refine lv_icmp_ne (tgt := 30) hx hb dX2_cardKind_23 (by decide) (fun c3 => ?_) (fun c3 => ?_)
      · have hf := hF hf c3
        refine lv_iload_n hx hb dX2_cardKind_30 rfl (lv_at hl 0 rfl) ?_
        refine lv_bipush (v := (111 : Int32)) hx hb dX2_cardKind_31 (by decide) ?_
        refine lv_icmp_ne (tgt := 40) hx hb dX2_cardKind_33 (by decide) (fun c4 => ?_) (fun c4 => ?_)
        · have hf := hF hf c4
          refine lv_iload_n hx hb dX2_cardKind_40 rfl (lv_at hl 0 rfl) ?_
          refine lv_bipush (v := (119 : Int32)) hx hb dX2_cardKind_41 (by decide) ?_
          refine lv_icmp_ne (tgt := 50) hx hb dX2_cardKind_43 (by decide) (fun c5 => ?_) (fun c5 => ?_)
          · have hf := hF hf c5
            refine lv_iload_n hx hb dX2_cardKind_50 rfl (lv_at hl 0 rfl) ?_
            refine lv_bipush (v := (116 : Int32)) hx hb dX2_cardKind_51 (by decide) ?_
            refine lv_icmp_ne (tgt := 60) hx hb dX2_cardKind_53 (by decide) (fun c6 => ?_) (fun c6 => ?_)
            · have hf := hF hf c6
              refine lv_iconst (v := (-1 : Int32)) hx hb dX2_cardKind_60 (by decide) ?_
              subst hf
              exact W.iret (v := (-1 : Int32)) hx hb hr (fun t ht hW => ⟨⟨(-1 : Int32), (), rfl, rfl, hPt ht hP⟩, hS.F ht⟩) hS.2.2 dX2_cardKind_61
            · have hf := hT hf c6
              refine lv_iconst (v := (5 : Int32)) hx hb dX2_cardKind_56 (by decide) ?_
              refine lv_goto (tgt := 61) hx hb dX2_cardKind_57 (by decide) ?_
              subst hf
              exact W.iret (v := (5 : Int32)) hx hb hr (fun t ht hW => ⟨⟨(5 : Int32), (), rfl, rfl, hPt ht hP⟩, hS.F ht⟩) hS.2.2 dX2_cardKind_61
          · have hf := hT hf c5
            refine lv_iconst (v := (4 : Int32)) hx hb dX2_cardKind_46 (by decide) ?_
            refine lv_goto (tgt := 61) hx hb dX2_cardKind_47 (by decide) ?_
            subst hf
            exact W.iret (v := (4 : Int32)) hx hb hr (fun t ht hW => ⟨⟨(4 : Int32), (), rfl, rfl, hPt ht hP⟩, hS.F ht⟩) hS.2.2 dX2_cardKind_61
        · have hf := hT hf c4
          refine lv_iconst (v := (3 : Int32)) hx hb dX2_cardKind_36 (by decide) ?_
          refine lv_goto (tgt := 61) hx hb dX2_cardKind_37 (by decide) ?_
          subst hf
          exact W.iret (v := (3 : Int32)) hx hb hr (fun t ht hW => ⟨⟨(3 : Int32), (), rfl, rfl, hPt ht hP⟩, hS.F ht⟩) hS.2.2 dX2_cardKind_61
      · have hf := hT hf c3
        refine lv_iconst (v := (2 : Int32)) hx hb dX2_cardKind_26 (by decide) ?_
        refine lv_goto (tgt := 61) hx hb dX2_cardKind_27 (by decide) ?_
        subst hf
        exact W.iret (v := (2 : Int32)) hx hb hr (fun t ht hW => ⟨⟨(2 : Int32), (), rfl, rfl, hPt ht hP⟩, hS.F ht⟩) hS.2.2 dX2_cardKind_61
    · have hf := hT hf c2
      refine lv_iconst (v := (1 : Int32)) hx hb dX2_cardKind_16 (by decide) ?_
      refine lv_goto (tgt := 61) hx hb dX2_cardKind_17 (by decide) ?_
      subst hf
      exact W.iret (v := (1 : Int32)) hx hb hr (fun t ht hW => ⟨⟨(1 : Int32), (), rfl, rfl, hPt ht hP⟩, hS.F ht⟩) hS.2.2 dX2_cardKind_61
  · have hf := hT hf c1
    refine lv_iconst (v := (0 : Int32)) hx hb dX2_cardKind_6 (by decide) ?_
    refine lv_goto (tgt := 61) hx hb dX2_cardKind_7 (by decide) ?_
    subst hf
    exact W.iret (v := (0 : Int32)) hx hb hr (fun t ht hW => ⟨⟨(0 : Int32), (), rfl, rfl, hPt ht hP⟩, hS.F ht⟩) hS.2.2 dX2_cardKind_61
set_option maxHeartbeats 4000000 in
set_option maxRecDepth 100000 in
theorem c_X2_bidderKind (l : Launch) (D : va_G) (cI : ClassId) (j0 : Int32) (out : Int32) (hf : f_X2_bidderKind j0 = out) : uI l D cI yX2_bidderKind wsX2_bidderKind ({ frames := 0, cells := 0, slots := 0, locals := 0 } : Room) [.int j0] [] [] out := by
  intro sz
  refine Met.ofW (cc := cX2_bidderKind) (maxL := 1) (ret := (some .int)) (by decide) rfl ?_
  intro p e s m args below meth c s₁ Bd hml hv
  obtain ⟨rfl, hsz, hP, hK, hD0, hN⟩ := hv
  have hx := Bd.exec
  have hb := Bd.bytes
  have hr := Bd.returns
  have hts := atoms_spec (ws := wsX2_bidderKind) Bd.pre
  have hown : s.vm.findClass RX2 = some m.cls := findClass_of_methodNamed Bd.named
  have hlocks := Bd.notSynchronized
  subst hsz
  have hD := hD0.self (sz := s.heap.size)
  generalize hAe : va_A [] s.heap.size = G at hD ⊢
  have hA : ∀ q : Nat, s.heap.size ≤ q → G q := fun q h => by rw [← hAe]; exact Or.inr h
  have hS : va_S G s.heap s.heap [] := va_S.rf
  have hP : va_P D vwCl [] s.heap := hP
  have hl := lv_entry ([.int j0]) (n := 1) (Nat.le_of_ble_eq_true rfl)
  rw [lg_entry_eq]
  generalize (lg_sl ([.int j0]) ++ List.replicate (1 - (lg_sl ([.int j0])).length) Slot.unset).toArray = ls at hl ⊢
  have hl : lv_has ls 1 [(0, .int j0)] := hl
  refine W_in ?_
  intro WW hWW
  refine (hWW _ _ _).mpr ?_
  unfold f_X2_bidderKind at hf
  refine lv_iload_n hx hb dX2_bidderKind_0 rfl (lv_at hl 0 rfl) ?_
  refine lv_bipush (v := (98 : Int32)) hx hb dX2_bidderKind_1 (by decide) ?_
  refine lv_icmp_ne (tgt := 10) hx hb dX2_bidderKind_3 (by decide) (fun c1 => ?_) (fun c1 => ?_)
  · have hf := hF hf c1
    refine lv_iload_n hx hb dX2_bidderKind_10 rfl (lv_at hl 0 rfl) ?_
    refine lv_bipush (v := (115 : Int32)) hx hb dX2_bidderKind_11 (by decide) ?_
    refine lv_icmp_ne (tgt := 20) hx hb dX2_bidderKind_13 (by decide) (fun c2 => ?_) (fun c2 => ?_)
    · have hf := hF hf c2
      refine lv_iload_n hx hb dX2_bidderKind_20 rfl (lv_at hl 0 rfl) ?_
      refine lv_bipush (v := (101 : Int32)) hx hb dX2_bidderKind_21 (by decide) ?_
      refine lv_icmp_ne (tgt := 30) hx hb dX2_bidderKind_23 (by decide) (fun c3 => ?_) (fun c3 => ?_)
      · have hf := hF hf c3
        refine lv_iload_n hx hb dX2_bidderKind_30 rfl (lv_at hl 0 rfl) ?_
        refine lv_bipush (v := (114 : Int32)) hx hb dX2_bidderKind_31 (by decide) ?_
        refine lv_icmp_ne (tgt := 40) hx hb dX2_bidderKind_33 (by decide) (fun c4 => ?_) (fun c4 => ?_)
        · have hf := hF hf c4
          refine lv_iload_n hx hb dX2_bidderKind_40 rfl (lv_at hl 0 rfl) ?_
          refine lv_bipush (v := (104 : Int32)) hx hb dX2_bidderKind_41 (by decide) ?_
          refine lv_icmp_ne (tgt := 50) hx hb dX2_bidderKind_43 (by decide) (fun c5 => ?_) (fun c5 => ?_)
          · have hf := hF hf c5
            refine lv_iload_n hx hb dX2_bidderKind_50 rfl (lv_at hl 0 rfl) ?_
            refine lv_bipush (v := (102 : Int32)) hx hb dX2_bidderKind_51 (by decide) ?_
            refine lv_icmp_ne (tgt := 60) hx hb dX2_bidderKind_53 (by decide) (fun c6 => ?_) (fun c6 => ?_)
            · have hf := hF hf c6
              refine lv_iconst (v := (-1 : Int32)) hx hb dX2_bidderKind_60 (by decide) ?_
              subst hf
              exact W.iret (v := (-1 : Int32)) hx hb hr (fun t ht hW => ⟨⟨(-1 : Int32), (), rfl, rfl, hPt ht hP⟩, hS.F ht⟩) hS.2.2 dX2_bidderKind_61
            · have hf := hT hf c6
              refine lv_iconst (v := (5 : Int32)) hx hb dX2_bidderKind_56 (by decide) ?_
              refine lv_goto (tgt := 61) hx hb dX2_bidderKind_57 (by decide) ?_
              subst hf
              exact W.iret (v := (5 : Int32)) hx hb hr (fun t ht hW => ⟨⟨(5 : Int32), (), rfl, rfl, hPt ht hP⟩, hS.F ht⟩) hS.2.2 dX2_bidderKind_61
          · have hf := hT hf c5
            refine lv_iconst (v := (4 : Int32)) hx hb dX2_bidderKind_46 (by decide) ?_
            refine lv_goto (tgt := 61) hx hb dX2_bidderKind_47 (by decide) ?_
            subst hf
            exact W.iret (v := (4 : Int32)) hx hb hr (fun t ht hW => ⟨⟨(4 : Int32), (), rfl, rfl, hPt ht hP⟩, hS.F ht⟩) hS.2.2 dX2_bidderKind_61
        · have hf := hT hf c4
          refine lv_iconst (v := (3 : Int32)) hx hb dX2_bidderKind_36 (by decide) ?_
          refine lv_goto (tgt := 61) hx hb dX2_bidderKind_37 (by decide) ?_
          subst hf
          exact W.iret (v := (3 : Int32)) hx hb hr (fun t ht hW => ⟨⟨(3 : Int32), (), rfl, rfl, hPt ht hP⟩, hS.F ht⟩) hS.2.2 dX2_bidderKind_61
      · have hf := hT hf c3
        refine lv_iconst (v := (2 : Int32)) hx hb dX2_bidderKind_26 (by decide) ?_
        refine lv_goto (tgt := 61) hx hb dX2_bidderKind_27 (by decide) ?_
        subst hf
        exact W.iret (v := (2 : Int32)) hx hb hr (fun t ht hW => ⟨⟨(2 : Int32), (), rfl, rfl, hPt ht hP⟩, hS.F ht⟩) hS.2.2 dX2_bidderKind_61
    · have hf := hT hf c2
      refine lv_iconst (v := (1 : Int32)) hx hb dX2_bidderKind_16 (by decide) ?_
      refine lv_goto (tgt := 61) hx hb dX2_bidderKind_17 (by decide) ?_
      subst hf
      exact W.iret (v := (1 : Int32)) hx hb hr (fun t ht hW => ⟨⟨(1 : Int32), (), rfl, rfl, hPt ht hP⟩, hS.F ht⟩) hS.2.2 dX2_bidderKind_61
  · have hf := hT hf c1
    refine lv_iconst (v := (0 : Int32)) hx hb dX2_bidderKind_6 (by decide) ?_
    refine lv_goto (tgt := 61) hx hb dX2_bidderKind_7 (by decide) ?_
    subst hf
    exact W.iret (v := (0 : Int32)) hx hb hr (fun t ht hW => ⟨⟨(0 : Int32), (), rfl, rfl, hPt ht hP⟩, hS.F ht⟩) hS.2.2 dX2_bidderKind_61
set_option maxHeartbeats 4000000 in
set_option maxRecDepth 100000 in
theorem c_X2_readsThing (l : Launch) (D : va_G) (cI : ClassId) (A : Nat → Nat) (j1 : Int32) (j2 : Int32) (tt : HS) (out : Int32 × HS) (hf : f_X2_readsThing j1 j2 tt = some out) : uI l D cI yX2_readsThing wsX2_readsThing ({ frames := 2, cells := 0, slots := 0, locals := 46 } : Room) [.ref (A 0), .int j1, .int j2] (wM A cI tt) (wM A cI out.2) out.1 := by
  intro sz
  refine Met.ofW (cc := cX2_readsThing) (maxL := 3) (ret := (some .boolean)) (by decide) rfl ?_
  intro p e s m args below meth c s₁ Bd hml hv
  obtain ⟨rfl, hsz, hP, hK, hD0, hN⟩ := hv
  have hx := Bd.exec
  have hb := Bd.bytes
  have hr := Bd.returns
  have hts := atoms_spec (ws := wsX2_readsThing) Bd.pre
  have hown : s.vm.findClass RX2 = some m.cls := findClass_of_methodNamed Bd.named
  have hlocks := Bd.notSynchronized
  subst hsz
  have hD := hD0.self (sz := s.heap.size)
  generalize hAe : va_A (wM A cI tt) s.heap.size = G at hD ⊢
  have hA : ∀ q : Nat, s.heap.size ≤ q → G q := fun q h => by rw [← hAe]; exact Or.inr h
  have hS : va_S G s.heap s.heap [] := va_S.rf
  have hP : va_P D vwCl (wM A cI tt) s.heap := hP
  have hl := lv_entry ([.ref (A 0), .int j1, .int j2]) (n := 3) (Nat.le_of_ble_eq_true rfl)
  rw [lg_entry_eq]
  generalize (lg_sl ([.ref (A 0), .int j1, .int j2]) ++ List.replicate (3 - (lg_sl ([.ref (A 0), .int j1, .int j2])).length) Slot.unset).toArray = ls at hl ⊢
  have hl : lv_has ls 3 [(0, .ref (A 0)), (1, .int j1), (2, .int j2)] := hl
  have hinM : ∀ w ∈ wsX20, w ∈ wsX2_readsThing := by decide +kernel
  have lk0 := hts (.fieldLink RX2 52 "LiesBoughtBackModel" "told" "[I") (by decide +kernel)
  have lk1 := hts (.fieldLink RX2 87 "LiesBoughtBackModel" "at" "I") (by decide +kernel)
  refine W_in ?_
  intro WW hWW
  refine (hWW _ _ _).mpr ?_
  unfold f_X2_readsThing at hf
  refine lv_aload_n hx hb dX2_readsThing_0 rfl (lv_at hl 0 rfl) ?_
  refine va_get (D := D) (ci := 2) (v := .ref (A 15)) (C := RX2) (T := TX2) (N := 31) hx hb hts hinM hown hK hP 0 rfl rfl 17 (by decide) lk0 (fun _ h9 => h9) rfl dX2_readsThing_1 ?_
  refine lv_iload_n hx hb dX2_readsThing_4 rfl (lv_at hl 1 rfl) ?_
  refine lv_iload_n hx hb dX2_readsThing_5 rfl (lv_at hl 2 rfl) ?_
  refine lv_if_eq (tgt := 19) hx hb dX2_readsThing_6 (by decide) (fun c1 => ?_) (fun c1 => ?_)
  · have hf := hT hf c1
    refine lv_aload_n hx hb dX2_readsThing_19 rfl (lv_at hl 0 rfl) ?_
    obtain ⟨v2, hev2, hf⟩ := bS hf
    refine qV_i (As := []) (rest := [.int j1, .ref (A 15)]) ⟨hx, hb, hml, hown, hts⟩ hK hN hA hP hD hS (c_X2_letterNow l D cI A tt v2 hev2) (cwV 0 hts gX2_readsThing_X2_letterNow rfl rfl rfl hd_X2_letterNow ⟨Nat.le_of_ble_eq_true rfl, Nat.le_of_ble_eq_true rfl⟩) (va_recv hK hP (ci := 2) (q0 := 0) rfl rfl) (bq_X2_X2_t A cI tt) rfl hl.1 rfl (Nat.le_of_ble_eq_true rfl) dX2_readsThing_20 ⟨Nat.le_of_ble_eq_true rfl, Nat.le_of_ble_eq_true rfl⟩ (fun H locs hP hD hS => ?_)
    refine qS_i (As := [.int v2]) (rest := [.int j1, .ref (A 15)]) ⟨hx, hb, hml, hown, hts⟩ hK hN hA hP hD hS (c_X2_bidderKind l D cI v2 (f_X2_bidderKind v2) rfl) (va_cwS 1 hts gX2_readsThing_X2_bidderKind rfl rfl rfl hd_X2_bidderKind.2 ⟨Nat.le_of_ble_eq_true rfl, Nat.le_of_ble_eq_true rfl⟩) Bp_e rfl hl.1 rfl (Nat.le_of_ble_eq_true rfl) dX2_readsThing_23 ⟨Nat.le_of_ble_eq_true rfl, Nat.le_of_ble_eq_true rfl⟩ (fun H locs hP hD hS => ?_)
    obtain ⟨v3, he, hf⟩ := bS hf
    obtain ⟨tt_v4, ett_v4, hf⟩ := jnS hf
    refine x_iast (ws' := (wM A cI tt_v4)) hx hb hK hP hD hS 15 (n := 144) rfl he ((sa_X2_t_14 A cI tt v3).trans (congrArg (fun z => wM A cI z) ett_v4.symm)) dX2_readsThing_26 (fun H locs hP hD hS => ?_)
    refine lv_aload_n hx hb dX2_readsThing_27 rfl (lv_at hl 0 rfl) ?_
    refine va_get (D := D) (ci := 2) (v := .ref (A 15)) (C := RX2) (T := TX2) (N := 31) hx hb hts hinM hown hK hP 0 rfl rfl 17 (by decide) lk0 (fun _ h9 => h9) rfl dX2_readsThing_28 ?_
    refine lv_iload_n hx hb dX2_readsThing_31 rfl (lv_at hl 1 rfl) ?_
    obtain ⟨v5, he, hf⟩ := bS hf
    refine x_iald hx hb hK hP 15 (n := 144) rfl he dX2_readsThing_32 ?_
    refine lv_if_ge (tgt := 38) hx hb dX2_readsThing_33 (by decide) (fun c6 => ?_) (fun c6 => ?_)
    · have hf := hT hf c6
      refine lv_aload_n hx hb dX2_readsThing_38 rfl (lv_at hl 0 rfl) ?_
      refine lv_dup hx hb dX2_readsThing_39 rfl ?_
      refine va_get (D := D) (ci := 2) (v := .int (tt_v4 24 0)) (C := RX2) (T := TX2) (N := 31) hx hb hts hinM hown hK hP 0 rfl rfl 19 (by decide) lk1 (fun _ h9 => h9) rfl dX2_readsThing_40 ?_
      refine lv_iconst (v := (1 : Int32)) hx hb dX2_readsThing_43 (by decide) ?_
      refine lv_iadd hx hb dX2_readsThing_44 ?_
      obtain ⟨tt_v7, ett_v7, hf⟩ := jnS hf
      refine va_put (D := D) (ci := 2) (v := .int ((tt_v4 24 0) + (1 : Int32))) (ty := .int) (C := RX2) (T := TX2) (N := 31) hx hb hts hinM tyX2 tyX2_ok nmX2 hown hK hP hD hS 0 rfl rfl 19 (by decide) lk1 (fun _ h9 => h9) rfl (by decide +kernel) rfl rfl (Nat.le_of_ble_eq_true rfl) dX2_readsThing_45 (fun H locs hP hD hS => ?_)
      have hE : _ = (wM A cI tt_v7) := ((sf_X2_t_24 A cI tt_v4 ((tt_v4 24 0) + (1 : Int32))).trans (congrArg (fun z => wM A cI z) ett_v7.symm))
      have hP : va_P D vwCl (wM A cI tt_v7) H := hE ▸ hP
      have hD : va_D G (wM A cI tt_v7) := hE ▸ hD
      refine lv_aload_n hx hb dX2_readsThing_48 rfl (lv_at hl 0 rfl) ?_
      refine lv_iload_n hx hb dX2_readsThing_49 rfl (lv_at hl 1 rfl) ?_
      refine lv_iconst (v := (1 : Int32)) hx hb dX2_readsThing_50 (by decide) ?_
      refine lv_iadd hx hb dX2_readsThing_51 ?_
      refine lv_iconst (v := (1 : Int32)) hx hb dX2_readsThing_52 (by decide) ?_
      obtain ⟨v8, hev8, hf⟩ := bS hf
      refine qV_i (ws' := (wM A cI v8.2)) (As := [.int (j1 + (1 : Int32)), .int (1 : Int32)]) (rest := []) ⟨hx, hb, hml, hown, hts⟩ hK hN hA hP hD hS (c_X2_readsDigits l D cI A (j1 + (1 : Int32)) (1 : Int32) tt_v7 v8 hev8) (cwV 2 hts gX2_readsThing_X2_readsDigits rfl rfl rfl hd_X2_readsDigits ⟨Nat.le_of_ble_eq_true rfl, Nat.le_of_ble_eq_true rfl⟩) (va_recv hK hP (ci := 2) (q0 := 0) rfl rfl) (bp_X2_X2_t_t A cI tt_v7 v8.2) rfl hl.1 rfl (Nat.le_of_ble_eq_true rfl) dX2_readsThing_53 ⟨Nat.le_of_ble_eq_true rfl, Nat.le_of_ble_eq_true rfl⟩ (fun H locs hP hD hS => ?_)
      have hP : va_P D vwCl (wM A cI v8.2) H := hP
      refine lv_if_eq (tgt := 82) hx hb dX2_readsThing_56 (by decide) (fun c9 => ?_) (fun c9 => ?_)
      · have hf := hT hf c9
        refine lv_iconst (v := (0 : Int32)) hx hb dX2_readsThing_82 (by decide) ?_
        obtain rfl := Option.some.inj hf
        exact W.zret (ty := .boolean) (v := (0 : Int32)) hx hb hr rfl (fun t ht hW => ⟨⟨(0 : Int32), (), rfl, rfl, hPt ht hP⟩, hS.F ht⟩) hS.2.2 dX2_readsThing_83
      · have hf := hF hf c9
        refine lv_aload_n hx hb dX2_readsThing_59 rfl (lv_at hl 0 rfl) ?_
        refine lv_iload_n hx hb dX2_readsThing_60 rfl (lv_at hl 1 rfl) ?_
        refine lv_iconst (v := (2 : Int32)) hx hb dX2_readsThing_61 (by decide) ?_
        refine lv_iadd hx hb dX2_readsThing_62 ?_
        refine lv_iload_n hx hb dX2_readsThing_63 rfl (lv_at hl 2 rfl) ?_
        refine lv_if_eq (tgt := 71) hx hb dX2_readsThing_64 (by decide) (fun c10 => ?_) (fun c10 => ?_)
        · have hf := hT hf c10
          refine lv_iconst (v := (3 : Int32)) hx hb dX2_readsThing_71 (by decide) ?_
          obtain ⟨v11, hev11, hf⟩ := bS hf
          refine qV_i (ws' := (wM A cI v11.2)) (As := [.int (j1 + (2 : Int32)), .int (3 : Int32)]) (rest := []) ⟨hx, hb, hml, hown, hts⟩ hK hN hA hP hD hS (c_X2_readsDigits l D cI A (j1 + (2 : Int32)) (3 : Int32) v8.2 v11 hev11) (cwV 2 hts gX2_readsThing_X2_readsDigits rfl rfl rfl hd_X2_readsDigits ⟨Nat.le_of_ble_eq_true rfl, Nat.le_of_ble_eq_true rfl⟩) (va_recv hK hP (ci := 2) (q0 := 0) rfl rfl) (bp_X2_X2_t_t A cI v8.2 v11.2) rfl hl.1 rfl (Nat.le_of_ble_eq_true rfl) dX2_readsThing_72 ⟨Nat.le_of_ble_eq_true rfl, Nat.le_of_ble_eq_true rfl⟩ (fun H locs hP hD hS => ?_)
          have hP : va_P D vwCl (wM A cI v11.2) H := hP
          refine lv_if_eq (tgt := 82) hx hb dX2_readsThing_75 (by decide) (fun c12 => ?_) (fun c12 => ?_)
          · have hf := hT hf c12
            refine lv_iconst (v := (0 : Int32)) hx hb dX2_readsThing_82 (by decide) ?_
            obtain rfl := Option.some.inj hf
            exact W.zret (ty := .boolean) (v := (0 : Int32)) hx hb hr rfl (fun t ht hW => ⟨⟨(0 : Int32), (), rfl, rfl, hPt ht hP⟩, hS.F ht⟩) hS.2.2 dX2_readsThing_83
          · have hf := hF hf c12
            refine lv_iconst (v := (1 : Int32)) hx hb dX2_readsThing_78 (by decide) ?_
            refine lv_goto (tgt := 83) hx hb dX2_readsThing_79 (by decide) ?_
            obtain rfl := Option.some.inj hf
            exact W.zret (ty := .boolean) (v := (1 : Int32)) hx hb hr rfl (fun t ht hW => ⟨⟨(1 : Int32), (), rfl, rfl, hPt ht hP⟩, hS.F ht⟩) hS.2.2 dX2_readsThing_83
        · have hf := hF hf c10
          refine lv_iconst (v := (1 : Int32)) hx hb dX2_readsThing_67 (by decide) ?_
          refine lv_goto (tgt := 72) hx hb dX2_readsThing_68 (by decide) ?_
          obtain ⟨v13, hev13, hf⟩ := bS hf
          refine qV_i (ws' := (wM A cI v13.2)) (As := [.int (j1 + (2 : Int32)), .int (1 : Int32)]) (rest := []) ⟨hx, hb, hml, hown, hts⟩ hK hN hA hP hD hS (c_X2_readsDigits l D cI A (j1 + (2 : Int32)) (1 : Int32) v8.2 v13 hev13) (cwV 2 hts gX2_readsThing_X2_readsDigits rfl rfl rfl hd_X2_readsDigits ⟨Nat.le_of_ble_eq_true rfl, Nat.le_of_ble_eq_true rfl⟩) (va_recv hK hP (ci := 2) (q0 := 0) rfl rfl) (bp_X2_X2_t_t A cI v8.2 v13.2) rfl hl.1 rfl (Nat.le_of_ble_eq_true rfl) dX2_readsThing_72 ⟨Nat.le_of_ble_eq_true rfl, Nat.le_of_ble_eq_true rfl⟩ (fun H locs hP hD hS => ?_)
          have hP : va_P D vwCl (wM A cI v13.2) H := hP
          refine lv_if_eq (tgt := 82) hx hb dX2_readsThing_75 (by decide) (fun c14 => ?_) (fun c14 => ?_)
          · have hf := hT hf c14
            refine lv_iconst (v := (0 : Int32)) hx hb dX2_readsThing_82 (by decide) ?_
            obtain rfl := Option.some.inj hf
            exact W.zret (ty := .boolean) (v := (0 : Int32)) hx hb hr rfl (fun t ht hW => ⟨⟨(0 : Int32), (), rfl, rfl, hPt ht hP⟩, hS.F ht⟩) hS.2.2 dX2_readsThing_83
          · have hf := hF hf c14
            refine lv_iconst (v := (1 : Int32)) hx hb dX2_readsThing_78 (by decide) ?_
            refine lv_goto (tgt := 83) hx hb dX2_readsThing_79 (by decide) ?_
            obtain rfl := Option.some.inj hf
            exact W.zret (ty := .boolean) (v := (1 : Int32)) hx hb hr rfl (fun t ht hW => ⟨⟨(1 : Int32), (), rfl, rfl, hPt ht hP⟩, hS.F ht⟩) hS.2.2 dX2_readsThing_83
    · have hf := hF hf c6
      refine lv_iconst (v := (0 : Int32)) hx hb dX2_readsThing_36 (by decide) ?_
      obtain rfl := Option.some.inj hf
      exact W.zret (ty := .boolean) (v := (0 : Int32)) hx hb hr rfl (fun t ht hW => ⟨⟨(0 : Int32), (), rfl, rfl, hPt ht hP⟩, hS.F ht⟩) hS.2.2 dX2_readsThing_37
  · have hf := hF hf c1
    refine lv_aload_n hx hb dX2_readsThing_9 rfl (lv_at hl 0 rfl) ?_
    obtain ⟨v15, hev15, hf⟩ := bS hf
    refine qV_i (As := []) (rest := [.int j1, .ref (A 15)]) ⟨hx, hb, hml, hown, hts⟩ hK hN hA hP hD hS (c_X2_letterNow l D cI A tt v15 hev15) (cwV 0 hts gX2_readsThing_X2_letterNow rfl rfl rfl hd_X2_letterNow ⟨Nat.le_of_ble_eq_true rfl, Nat.le_of_ble_eq_true rfl⟩) (va_recv hK hP (ci := 2) (q0 := 0) rfl rfl) (bq_X2_X2_t A cI tt) rfl hl.1 rfl (Nat.le_of_ble_eq_true rfl) dX2_readsThing_10 ⟨Nat.le_of_ble_eq_true rfl, Nat.le_of_ble_eq_true rfl⟩ (fun H locs hP hD hS => ?_)
    refine qS_i (As := [.int v15]) (rest := [.int j1, .ref (A 15)]) ⟨hx, hb, hml, hown, hts⟩ hK hN hA hP hD hS (c_X2_cardKind l D cI v15 (f_X2_cardKind v15) rfl) (va_cwS 1 hts gX2_readsThing_X2_cardKind rfl rfl rfl hd_X2_cardKind.2 ⟨Nat.le_of_ble_eq_true rfl, Nat.le_of_ble_eq_true rfl⟩) Bp_e rfl hl.1 rfl (Nat.le_of_ble_eq_true rfl) dX2_readsThing_13 ⟨Nat.le_of_ble_eq_true rfl, Nat.le_of_ble_eq_true rfl⟩ (fun H locs hP hD hS => ?_)
    refine lv_goto (tgt := 26) hx hb dX2_readsThing_16 (by decide) ?_
    obtain ⟨v16, he, hf⟩ := bS hf
    obtain ⟨tt_v17, ett_v17, hf⟩ := jnS hf
    refine x_iast (ws' := (wM A cI tt_v17)) hx hb hK hP hD hS 15 (n := 144) rfl he ((sa_X2_t_14 A cI tt v16).trans (congrArg (fun z => wM A cI z) ett_v17.symm)) dX2_readsThing_26 (fun H locs hP hD hS => ?_)
    refine lv_aload_n hx hb dX2_readsThing_27 rfl (lv_at hl 0 rfl) ?_
    refine va_get (D := D) (ci := 2) (v := .ref (A 15)) (C := RX2) (T := TX2) (N := 31) hx hb hts hinM hown hK hP 0 rfl rfl 17 (by decide) lk0 (fun _ h9 => h9) rfl dX2_readsThing_28 ?_
    refine lv_iload_n hx hb dX2_readsThing_31 rfl (lv_at hl 1 rfl) ?_
    obtain ⟨v18, he, hf⟩ := bS hf
    refine x_iald hx hb hK hP 15 (n := 144) rfl he dX2_readsThing_32 ?_
    refine lv_if_ge (tgt := 38) hx hb dX2_readsThing_33 (by decide) (fun c19 => ?_) (fun c19 => ?_)
    · have hf := hT hf c19
      refine lv_aload_n hx hb dX2_readsThing_38 rfl (lv_at hl 0 rfl) ?_
      refine lv_dup hx hb dX2_readsThing_39 rfl ?_
      refine va_get (D := D) (ci := 2) (v := .int (tt_v17 24 0)) (C := RX2) (T := TX2) (N := 31) hx hb hts hinM hown hK hP 0 rfl rfl 19 (by decide) lk1 (fun _ h9 => h9) rfl dX2_readsThing_40 ?_
      refine lv_iconst (v := (1 : Int32)) hx hb dX2_readsThing_43 (by decide) ?_
      refine lv_iadd hx hb dX2_readsThing_44 ?_
      obtain ⟨tt_v20, ett_v20, hf⟩ := jnS hf
      refine va_put (D := D) (ci := 2) (v := .int ((tt_v17 24 0) + (1 : Int32))) (ty := .int) (C := RX2) (T := TX2) (N := 31) hx hb hts hinM tyX2 tyX2_ok nmX2 hown hK hP hD hS 0 rfl rfl 19 (by decide) lk1 (fun _ h9 => h9) rfl (by decide +kernel) rfl rfl (Nat.le_of_ble_eq_true rfl) dX2_readsThing_45 (fun H locs hP hD hS => ?_)
      have hE : _ = (wM A cI tt_v20) := ((sf_X2_t_24 A cI tt_v17 ((tt_v17 24 0) + (1 : Int32))).trans (congrArg (fun z => wM A cI z) ett_v20.symm))
      have hP : va_P D vwCl (wM A cI tt_v20) H := hE ▸ hP
      have hD : va_D G (wM A cI tt_v20) := hE ▸ hD
      refine lv_aload_n hx hb dX2_readsThing_48 rfl (lv_at hl 0 rfl) ?_
      refine lv_iload_n hx hb dX2_readsThing_49 rfl (lv_at hl 1 rfl) ?_
      refine lv_iconst (v := (1 : Int32)) hx hb dX2_readsThing_50 (by decide) ?_
      refine lv_iadd hx hb dX2_readsThing_51 ?_
      refine lv_iconst (v := (1 : Int32)) hx hb dX2_readsThing_52 (by decide) ?_
      obtain ⟨v21, hev21, hf⟩ := bS hf
      refine qV_i (ws' := (wM A cI v21.2)) (As := [.int (j1 + (1 : Int32)), .int (1 : Int32)]) (rest := []) ⟨hx, hb, hml, hown, hts⟩ hK hN hA hP hD hS (c_X2_readsDigits l D cI A (j1 + (1 : Int32)) (1 : Int32) tt_v20 v21 hev21) (cwV 2 hts gX2_readsThing_X2_readsDigits rfl rfl rfl hd_X2_readsDigits ⟨Nat.le_of_ble_eq_true rfl, Nat.le_of_ble_eq_true rfl⟩) (va_recv hK hP (ci := 2) (q0 := 0) rfl rfl) (bp_X2_X2_t_t A cI tt_v20 v21.2) rfl hl.1 rfl (Nat.le_of_ble_eq_true rfl) dX2_readsThing_53 ⟨Nat.le_of_ble_eq_true rfl, Nat.le_of_ble_eq_true rfl⟩ (fun H locs hP hD hS => ?_)
      have hP : va_P D vwCl (wM A cI v21.2) H := hP
      refine lv_if_eq (tgt := 82) hx hb dX2_readsThing_56 (by decide) (fun c22 => ?_) (fun c22 => ?_)
      · have hf := hT hf c22
        refine lv_iconst (v := (0 : Int32)) hx hb dX2_readsThing_82 (by decide) ?_
        obtain rfl := Option.some.inj hf
        exact W.zret (ty := .boolean) (v := (0 : Int32)) hx hb hr rfl (fun t ht hW => ⟨⟨(0 : Int32), (), rfl, rfl, hPt ht hP⟩, hS.F ht⟩) hS.2.2 dX2_readsThing_83
      · have hf := hF hf c22
        refine lv_aload_n hx hb dX2_readsThing_59 rfl (lv_at hl 0 rfl) ?_
        refine lv_iload_n hx hb dX2_readsThing_60 rfl (lv_at hl 1 rfl) ?_
        refine lv_iconst (v := (2 : Int32)) hx hb dX2_readsThing_61 (by decide) ?_
        refine lv_iadd hx hb dX2_readsThing_62 ?_
        refine lv_iload_n hx hb dX2_readsThing_63 rfl (lv_at hl 2 rfl) ?_
        refine lv_if_eq (tgt := 71) hx hb dX2_readsThing_64 (by decide) (fun c23 => ?_) (fun c23 => ?_)
        · have hf := hT hf c23
          refine lv_iconst (v := (3 : Int32)) hx hb dX2_readsThing_71 (by decide) ?_
          obtain ⟨v24, hev24, hf⟩ := bS hf
          refine qV_i (ws' := (wM A cI v24.2)) (As := [.int (j1 + (2 : Int32)), .int (3 : Int32)]) (rest := []) ⟨hx, hb, hml, hown, hts⟩ hK hN hA hP hD hS (c_X2_readsDigits l D cI A (j1 + (2 : Int32)) (3 : Int32) v21.2 v24 hev24) (cwV 2 hts gX2_readsThing_X2_readsDigits rfl rfl rfl hd_X2_readsDigits ⟨Nat.le_of_ble_eq_true rfl, Nat.le_of_ble_eq_true rfl⟩) (va_recv hK hP (ci := 2) (q0 := 0) rfl rfl) (bp_X2_X2_t_t A cI v21.2 v24.2) rfl hl.1 rfl (Nat.le_of_ble_eq_true rfl) dX2_readsThing_72 ⟨Nat.le_of_ble_eq_true rfl, Nat.le_of_ble_eq_true rfl⟩ (fun H locs hP hD hS => ?_)
          have hP : va_P D vwCl (wM A cI v24.2) H := hP
          refine lv_if_eq (tgt := 82) hx hb dX2_readsThing_75 (by decide) (fun c25 => ?_) (fun c25 => ?_)
          · have hf := hT hf c25
            refine lv_iconst (v := (0 : Int32)) hx hb dX2_readsThing_82 (by decide) ?_
            obtain rfl := Option.some.inj hf
            exact W.zret (ty := .boolean) (v := (0 : Int32)) hx hb hr rfl (fun t ht hW => ⟨⟨(0 : Int32), (), rfl, rfl, hPt ht hP⟩, hS.F ht⟩) hS.2.2 dX2_readsThing_83
          · have hf := hF hf c25
            refine lv_iconst (v := (1 : Int32)) hx hb dX2_readsThing_78 (by decide) ?_
            refine lv_goto (tgt := 83) hx hb dX2_readsThing_79 (by decide) ?_
            obtain rfl := Option.some.inj hf
            exact W.zret (ty := .boolean) (v := (1 : Int32)) hx hb hr rfl (fun t ht hW => ⟨⟨(1 : Int32), (), rfl, rfl, hPt ht hP⟩, hS.F ht⟩) hS.2.2 dX2_readsThing_83
        · have hf := hF hf c23
          refine lv_iconst (v := (1 : Int32)) hx hb dX2_readsThing_67 (by decide) ?_
          refine lv_goto (tgt := 72) hx hb dX2_readsThing_68 (by decide) ?_
          obtain ⟨v26, hev26, hf⟩ := bS hf
          refine qV_i (ws' := (wM A cI v26.2)) (As := [.int (j1 + (2 : Int32)), .int (1 : Int32)]) (rest := []) ⟨hx, hb, hml, hown, hts⟩ hK hN hA hP hD hS (c_X2_readsDigits l D cI A (j1 + (2 : Int32)) (1 : Int32) v21.2 v26 hev26) (cwV 2 hts gX2_readsThing_X2_readsDigits rfl rfl rfl hd_X2_readsDigits ⟨Nat.le_of_ble_eq_true rfl, Nat.le_of_ble_eq_true rfl⟩) (va_recv hK hP (ci := 2) (q0 := 0) rfl rfl) (bp_X2_X2_t_t A cI v21.2 v26.2) rfl hl.1 rfl (Nat.le_of_ble_eq_true rfl) dX2_readsThing_72 ⟨Nat.le_of_ble_eq_true rfl, Nat.le_of_ble_eq_true rfl⟩ (fun H locs hP hD hS => ?_)
          have hP : va_P D vwCl (wM A cI v26.2) H := hP
          refine lv_if_eq (tgt := 82) hx hb dX2_readsThing_75 (by decide) (fun c27 => ?_) (fun c27 => ?_)
          · have hf := hT hf c27
            refine lv_iconst (v := (0 : Int32)) hx hb dX2_readsThing_82 (by decide) ?_
            obtain rfl := Option.some.inj hf
            exact W.zret (ty := .boolean) (v := (0 : Int32)) hx hb hr rfl (fun t ht hW => ⟨⟨(0 : Int32), (), rfl, rfl, hPt ht hP⟩, hS.F ht⟩) hS.2.2 dX2_readsThing_83
          · have hf := hF hf c27
            refine lv_iconst (v := (1 : Int32)) hx hb dX2_readsThing_78 (by decide) ?_
            refine lv_goto (tgt := 83) hx hb dX2_readsThing_79 (by decide) ?_
            obtain rfl := Option.some.inj hf
            exact W.zret (ty := .boolean) (v := (1 : Int32)) hx hb hr rfl (fun t ht hW => ⟨⟨(1 : Int32), (), rfl, rfl, hPt ht hP⟩, hS.F ht⟩) hS.2.2 dX2_readsThing_83
    · have hf := hF hf c19
      refine lv_iconst (v := (0 : Int32)) hx hb dX2_readsThing_36 (by decide) ?_
      obtain rfl := Option.some.inj hf
      exact W.zret (ty := .boolean) (v := (0 : Int32)) hx hb hr rfl (fun t ht hW => ⟨⟨(0 : Int32), (), rfl, rfl, hPt ht hP⟩, hS.F ht⟩) hS.2.2 dX2_readsThing_37
set_option maxHeartbeats 4000000 in
set_option maxRecDepth 100000 in
theorem c_X2_readsAll (l : Launch) (D : va_G) (cI : ClassId) (A : Nat → Nat) (j1 : Int32) (j2 : Int32) (tt : HS) (out : Int32 × HS) (hf : f_X2_readsAll j1 j2 tt = some out) : uI l D cI yX2_readsAll wsX2_readsAll ({ frames := 3, cells := 0, slots := 0, locals := 68 } : Room) [.ref (A 0), .int j1, .int j2] (wM A cI tt) (wM A cI out.2) out.1 := by
  intro sz
  refine Met.ofW (cc := cX2_readsAll) (maxL := 3) (ret := (some .boolean)) (by decide) rfl ?_
  intro p e s m args below meth c s₁ Bd hml hv
  obtain ⟨rfl, hsz, hP, hK, hD0, hN⟩ := hv
  have hx := Bd.exec
  have hb := Bd.bytes
  have hr := Bd.returns
  have hts := atoms_spec (ws := wsX2_readsAll) Bd.pre
  have hown : s.vm.findClass RX2 = some m.cls := findClass_of_methodNamed Bd.named
  have hlocks := Bd.notSynchronized
  subst hsz
  have hD := hD0.self (sz := s.heap.size)
  generalize hAe : va_A (wM A cI tt) s.heap.size = G at hD ⊢
  have hA : ∀ q : Nat, s.heap.size ≤ q → G q := fun q h => by rw [← hAe]; exact Or.inr h
  have hS : va_S G s.heap s.heap [] := va_S.rf
  have hP : va_P D vwCl (wM A cI tt) s.heap := hP
  have hl := lv_entry ([.ref (A 0), .int j1, .int j2]) (n := 3) (Nat.le_of_ble_eq_true rfl)
  rw [lg_entry_eq]
  generalize (lg_sl ([.ref (A 0), .int j1, .int j2]) ++ List.replicate (3 - (lg_sl ([.ref (A 0), .int j1, .int j2])).length) Slot.unset).toArray = ls at hl ⊢
  have hl : lv_has ls 3 [(0, .ref (A 0)), (1, .int j1), (2, .int j2)] := hl
  refine W_in ?_
  intro WW hWW
  refine (hWW _ _ _).mpr ?_
  unfold f_X2_readsAll at hf
  refine lv_iload_n hx hb dX2_readsAll_0 rfl (lv_at hl 1 rfl) ?_
  by_cases c1 : j1 = (98 : Int32)
  · have hf := hT hf c1
    refine lv_lookup (off := 59) (tgt := 60) hx hb dX2_readsAll_1 (by decide) (by rw [show (j1 : Int32).toInt = 98 from ((congrArg Int32.toInt c1).trans (by decide))]; decide) (by decide) ?_
    refine lv_aload_n hx hb dX2_readsAll_60 rfl (lv_at hl 0 rfl) ?_
    refine lv_iload_n hx hb dX2_readsAll_61 rfl (lv_at hl 2 rfl) ?_
    refine lv_iload_n hx hb dX2_readsAll_62 rfl (lv_at hl 1 rfl) ?_
    refine lv_bipush (v := (99 : Int32)) hx hb dX2_readsAll_63 (by decide) ?_
    refine lv_icmp_ne (tgt := 72) hx hb dX2_readsAll_65 (by decide) (fun c2 => ?_) (fun c2 => ?_)
    · have hf := hF hf c2
      refine lv_iconst (v := (0 : Int32)) hx hb dX2_readsAll_72 (by decide) ?_
      obtain ⟨v3, hev3, hf⟩ := bS hf
      refine qV_i (ws' := (wM A cI v3.2)) (As := [.int j2, .int (0 : Int32)]) (rest := []) ⟨hx, hb, hml, hown, hts⟩ hK hN hA hP hD hS (c_X2_readsThing l D cI A j2 (0 : Int32) tt v3 hev3) (cwV 2 hts gX2_readsAll_X2_readsThing rfl rfl rfl hd_X2_readsThing ⟨Nat.le_of_ble_eq_true rfl, Nat.le_of_ble_eq_true rfl⟩) (va_recv hK hP (ci := 2) (q0 := 0) rfl rfl) (bp_X2_X2_t_t A cI tt v3.2) rfl hl.1 rfl (Nat.le_of_ble_eq_true rfl) dX2_readsAll_73 ⟨Nat.le_of_ble_eq_true rfl, Nat.le_of_ble_eq_true rfl⟩ (fun H locs hP hD hS => ?_)
      have hP : va_P D vwCl (wM A cI v3.2) H := hP
      obtain ⟨hnb, hf⟩ := nbS hf
      obtain rfl := Option.some.inj hf
      exact W.zret (ty := .boolean) (v := v3.1) hx hb hr hnb (fun t ht hW => ⟨⟨v3.1, (), rfl, rfl, hPt ht hP⟩, hS.F ht⟩) hS.2.2 dX2_readsAll_76
    · have hf := hT hf c2
      refine lv_iconst (v := (1 : Int32)) hx hb dX2_readsAll_68 (by decide) ?_
      refine lv_goto (tgt := 73) hx hb dX2_readsAll_69 (by decide) ?_
      obtain ⟨v4, hev4, hf⟩ := bS hf
      refine qV_i (ws' := (wM A cI v4.2)) (As := [.int j2, .int (1 : Int32)]) (rest := []) ⟨hx, hb, hml, hown, hts⟩ hK hN hA hP hD hS (c_X2_readsThing l D cI A j2 (1 : Int32) tt v4 hev4) (cwV 2 hts gX2_readsAll_X2_readsThing rfl rfl rfl hd_X2_readsThing ⟨Nat.le_of_ble_eq_true rfl, Nat.le_of_ble_eq_true rfl⟩) (va_recv hK hP (ci := 2) (q0 := 0) rfl rfl) (bp_X2_X2_t_t A cI tt v4.2) rfl hl.1 rfl (Nat.le_of_ble_eq_true rfl) dX2_readsAll_73 ⟨Nat.le_of_ble_eq_true rfl, Nat.le_of_ble_eq_true rfl⟩ (fun H locs hP hD hS => ?_)
      have hP : va_P D vwCl (wM A cI v4.2) H := hP
      obtain ⟨hnb, hf⟩ := nbS hf
      obtain rfl := Option.some.inj hf
      exact W.zret (ty := .boolean) (v := v4.1) hx hb hr hnb (fun t ht hW => ⟨⟨v4.1, (), rfl, rfl, hPt ht hP⟩, hS.F ht⟩) hS.2.2 dX2_readsAll_76
  have hf := hF hf c1
  by_cases c5 : j1 = (99 : Int32)
  · have hf := hT hf c5
    refine lv_lookup (off := 59) (tgt := 60) hx hb dX2_readsAll_1 (by decide) (by rw [show (j1 : Int32).toInt = 99 from ((congrArg Int32.toInt c5).trans (by decide))]; decide) (by decide) ?_
    refine lv_aload_n hx hb dX2_readsAll_60 rfl (lv_at hl 0 rfl) ?_
    refine lv_iload_n hx hb dX2_readsAll_61 rfl (lv_at hl 2 rfl) ?_
    refine lv_iload_n hx hb dX2_readsAll_62 rfl (lv_at hl 1 rfl) ?_
    refine lv_bipush (v := (99 : Int32)) hx hb dX2_readsAll_63 (by decide) ?_
    refine lv_icmp_ne (tgt := 72) hx hb dX2_readsAll_65 (by decide) (fun c6 => ?_) (fun c6 => ?_)
    · have hf := hF hf c6
      refine lv_iconst (v := (0 : Int32)) hx hb dX2_readsAll_72 (by decide) ?_
      obtain ⟨v7, hev7, hf⟩ := bS hf
      refine qV_i (ws' := (wM A cI v7.2)) (As := [.int j2, .int (0 : Int32)]) (rest := []) ⟨hx, hb, hml, hown, hts⟩ hK hN hA hP hD hS (c_X2_readsThing l D cI A j2 (0 : Int32) tt v7 hev7) (cwV 2 hts gX2_readsAll_X2_readsThing rfl rfl rfl hd_X2_readsThing ⟨Nat.le_of_ble_eq_true rfl, Nat.le_of_ble_eq_true rfl⟩) (va_recv hK hP (ci := 2) (q0 := 0) rfl rfl) (bp_X2_X2_t_t A cI tt v7.2) rfl hl.1 rfl (Nat.le_of_ble_eq_true rfl) dX2_readsAll_73 ⟨Nat.le_of_ble_eq_true rfl, Nat.le_of_ble_eq_true rfl⟩ (fun H locs hP hD hS => ?_)
      have hP : va_P D vwCl (wM A cI v7.2) H := hP
      obtain ⟨hnb, hf⟩ := nbS hf
      obtain rfl := Option.some.inj hf
      exact W.zret (ty := .boolean) (v := v7.1) hx hb hr hnb (fun t ht hW => ⟨⟨v7.1, (), rfl, rfl, hPt ht hP⟩, hS.F ht⟩) hS.2.2 dX2_readsAll_76
    · have hf := hT hf c6
      refine lv_iconst (v := (1 : Int32)) hx hb dX2_readsAll_68 (by decide) ?_
      refine lv_goto (tgt := 73) hx hb dX2_readsAll_69 (by decide) ?_
      obtain ⟨v8, hev8, hf⟩ := bS hf
      refine qV_i (ws' := (wM A cI v8.2)) (As := [.int j2, .int (1 : Int32)]) (rest := []) ⟨hx, hb, hml, hown, hts⟩ hK hN hA hP hD hS (c_X2_readsThing l D cI A j2 (1 : Int32) tt v8 hev8) (cwV 2 hts gX2_readsAll_X2_readsThing rfl rfl rfl hd_X2_readsThing ⟨Nat.le_of_ble_eq_true rfl, Nat.le_of_ble_eq_true rfl⟩) (va_recv hK hP (ci := 2) (q0 := 0) rfl rfl) (bp_X2_X2_t_t A cI tt v8.2) rfl hl.1 rfl (Nat.le_of_ble_eq_true rfl) dX2_readsAll_73 ⟨Nat.le_of_ble_eq_true rfl, Nat.le_of_ble_eq_true rfl⟩ (fun H locs hP hD hS => ?_)
      have hP : va_P D vwCl (wM A cI v8.2) H := hP
      obtain ⟨hnb, hf⟩ := nbS hf
      obtain rfl := Option.some.inj hf
      exact W.zret (ty := .boolean) (v := v8.1) hx hb hr hnb (fun t ht hW => ⟨⟨v8.1, (), rfl, rfl, hPt ht hP⟩, hS.F ht⟩) hS.2.2 dX2_readsAll_76
  have hf := hF hf c5
  by_cases c9 : j1 = (103 : Int32)
  · have hf := hT hf c9
    refine lv_lookup (off := 102) (tgt := 103) hx hb dX2_readsAll_1 (by decide) (by rw [show (j1 : Int32).toInt = 103 from ((congrArg Int32.toInt c9).trans (by decide))]; decide) (by decide) ?_
    refine lv_aload_n hx hb dX2_readsAll_103 rfl (lv_at hl 0 rfl) ?_
    refine lv_iload_n hx hb dX2_readsAll_104 rfl (lv_at hl 2 rfl) ?_
    refine lv_iconst (v := (1 : Int32)) hx hb dX2_readsAll_105 (by decide) ?_
    obtain ⟨v10, hev10, hf⟩ := bS hf
    refine qV_i (ws' := (wM A cI v10.2)) (As := [.int j2, .int (1 : Int32)]) (rest := []) ⟨hx, hb, hml, hown, hts⟩ hK hN hA hP hD hS (c_X2_readsDigits l D cI A j2 (1 : Int32) tt v10 hev10) (cwV 2 hts gX2_readsAll_X2_readsDigits rfl rfl rfl hd_X2_readsDigits ⟨Nat.le_of_ble_eq_true rfl, Nat.le_of_ble_eq_true rfl⟩) (va_recv hK hP (ci := 2) (q0 := 0) rfl rfl) (bp_X2_X2_t_t A cI tt v10.2) rfl hl.1 rfl (Nat.le_of_ble_eq_true rfl) dX2_readsAll_106 ⟨Nat.le_of_ble_eq_true rfl, Nat.le_of_ble_eq_true rfl⟩ (fun H locs hP hD hS => ?_)
    have hP : va_P D vwCl (wM A cI v10.2) H := hP
    refine lv_if_eq (tgt := 127) hx hb dX2_readsAll_109 (by decide) (fun c11 => ?_) (fun c11 => ?_)
    · have hf := hT hf c11
      refine lv_iconst (v := (0 : Int32)) hx hb dX2_readsAll_127 (by decide) ?_
      obtain rfl := Option.some.inj hf
      exact W.zret (ty := .boolean) (v := (0 : Int32)) hx hb hr rfl (fun t ht hW => ⟨⟨(0 : Int32), (), rfl, rfl, hPt ht hP⟩, hS.F ht⟩) hS.2.2 dX2_readsAll_128
    · have hf := hF hf c11
      refine lv_aload_n hx hb dX2_readsAll_112 rfl (lv_at hl 0 rfl) ?_
      refine lv_iload_n hx hb dX2_readsAll_113 rfl (lv_at hl 2 rfl) ?_
      refine lv_iconst (v := (1 : Int32)) hx hb dX2_readsAll_114 (by decide) ?_
      refine lv_iadd hx hb dX2_readsAll_115 ?_
      refine lv_iconst (v := (1 : Int32)) hx hb dX2_readsAll_116 (by decide) ?_
      obtain ⟨v12, hev12, hf⟩ := bS hf
      refine qV_i (ws' := (wM A cI v12.2)) (As := [.int (j2 + (1 : Int32)), .int (1 : Int32)]) (rest := []) ⟨hx, hb, hml, hown, hts⟩ hK hN hA hP hD hS (c_X2_readsDigits l D cI A (j2 + (1 : Int32)) (1 : Int32) v10.2 v12 hev12) (cwV 2 hts gX2_readsAll_X2_readsDigits rfl rfl rfl hd_X2_readsDigits ⟨Nat.le_of_ble_eq_true rfl, Nat.le_of_ble_eq_true rfl⟩) (va_recv hK hP (ci := 2) (q0 := 0) rfl rfl) (bp_X2_X2_t_t A cI v10.2 v12.2) rfl hl.1 rfl (Nat.le_of_ble_eq_true rfl) dX2_readsAll_117 ⟨Nat.le_of_ble_eq_true rfl, Nat.le_of_ble_eq_true rfl⟩ (fun H locs hP hD hS => ?_)
      have hP : va_P D vwCl (wM A cI v12.2) H := hP
      refine lv_if_eq (tgt := 127) hx hb dX2_readsAll_120 (by decide) (fun c13 => ?_) (fun c13 => ?_)
      · have hf := hT hf c13
        refine lv_iconst (v := (0 : Int32)) hx hb dX2_readsAll_127 (by decide) ?_
        obtain rfl := Option.some.inj hf
        exact W.zret (ty := .boolean) (v := (0 : Int32)) hx hb hr rfl (fun t ht hW => ⟨⟨(0 : Int32), (), rfl, rfl, hPt ht hP⟩, hS.F ht⟩) hS.2.2 dX2_readsAll_128
      · have hf := hF hf c13
        refine lv_iconst (v := (1 : Int32)) hx hb dX2_readsAll_123 (by decide) ?_
        refine lv_goto (tgt := 128) hx hb dX2_readsAll_124 (by decide) ?_
        obtain rfl := Option.some.inj hf
        exact W.zret (ty := .boolean) (v := (1 : Int32)) hx hb hr rfl (fun t ht hW => ⟨⟨(1 : Int32), (), rfl, rfl, hPt ht hP⟩, hS.F ht⟩) hS.2.2 dX2_readsAll_128
  have hf := hF hf c9
  by_cases c14 : j1 = (112 : Int32)
  · have hf := hT hf c14
    refine lv_lookup (off := 76) (tgt := 77) hx hb dX2_readsAll_1 (by decide) (by rw [show (j1 : Int32).toInt = 112 from ((congrArg Int32.toInt c14).trans (by decide))]; decide) (by decide) ?_
    refine lv_aload_n hx hb dX2_readsAll_77 rfl (lv_at hl 0 rfl) ?_
    refine lv_iload_n hx hb dX2_readsAll_78 rfl (lv_at hl 2 rfl) ?_
    refine lv_iconst (v := (1 : Int32)) hx hb dX2_readsAll_79 (by decide) ?_
    obtain ⟨v15, hev15, hf⟩ := bS hf
    refine qV_i (ws' := (wM A cI v15.2)) (As := [.int j2, .int (1 : Int32)]) (rest := []) ⟨hx, hb, hml, hown, hts⟩ hK hN hA hP hD hS (c_X2_readsDigits l D cI A j2 (1 : Int32) tt v15 hev15) (cwV 2 hts gX2_readsAll_X2_readsDigits rfl rfl rfl hd_X2_readsDigits ⟨Nat.le_of_ble_eq_true rfl, Nat.le_of_ble_eq_true rfl⟩) (va_recv hK hP (ci := 2) (q0 := 0) rfl rfl) (bp_X2_X2_t_t A cI tt v15.2) rfl hl.1 rfl (Nat.le_of_ble_eq_true rfl) dX2_readsAll_80 ⟨Nat.le_of_ble_eq_true rfl, Nat.le_of_ble_eq_true rfl⟩ (fun H locs hP hD hS => ?_)
    have hP : va_P D vwCl (wM A cI v15.2) H := hP
    refine lv_if_eq (tgt := 101) hx hb dX2_readsAll_83 (by decide) (fun c16 => ?_) (fun c16 => ?_)
    · have hf := hT hf c16
      refine lv_iconst (v := (0 : Int32)) hx hb dX2_readsAll_101 (by decide) ?_
      obtain rfl := Option.some.inj hf
      exact W.zret (ty := .boolean) (v := (0 : Int32)) hx hb hr rfl (fun t ht hW => ⟨⟨(0 : Int32), (), rfl, rfl, hPt ht hP⟩, hS.F ht⟩) hS.2.2 dX2_readsAll_102
    · have hf := hF hf c16
      refine lv_aload_n hx hb dX2_readsAll_86 rfl (lv_at hl 0 rfl) ?_
      refine lv_iload_n hx hb dX2_readsAll_87 rfl (lv_at hl 2 rfl) ?_
      refine lv_iconst (v := (1 : Int32)) hx hb dX2_readsAll_88 (by decide) ?_
      refine lv_iadd hx hb dX2_readsAll_89 ?_
      refine lv_iconst (v := (3 : Int32)) hx hb dX2_readsAll_90 (by decide) ?_
      obtain ⟨v17, hev17, hf⟩ := bS hf
      refine qV_i (ws' := (wM A cI v17.2)) (As := [.int (j2 + (1 : Int32)), .int (3 : Int32)]) (rest := []) ⟨hx, hb, hml, hown, hts⟩ hK hN hA hP hD hS (c_X2_readsDigits l D cI A (j2 + (1 : Int32)) (3 : Int32) v15.2 v17 hev17) (cwV 2 hts gX2_readsAll_X2_readsDigits rfl rfl rfl hd_X2_readsDigits ⟨Nat.le_of_ble_eq_true rfl, Nat.le_of_ble_eq_true rfl⟩) (va_recv hK hP (ci := 2) (q0 := 0) rfl rfl) (bp_X2_X2_t_t A cI v15.2 v17.2) rfl hl.1 rfl (Nat.le_of_ble_eq_true rfl) dX2_readsAll_91 ⟨Nat.le_of_ble_eq_true rfl, Nat.le_of_ble_eq_true rfl⟩ (fun H locs hP hD hS => ?_)
      have hP : va_P D vwCl (wM A cI v17.2) H := hP
      refine lv_if_eq (tgt := 101) hx hb dX2_readsAll_94 (by decide) (fun c18 => ?_) (fun c18 => ?_)
      · have hf := hT hf c18
        refine lv_iconst (v := (0 : Int32)) hx hb dX2_readsAll_101 (by decide) ?_
        obtain rfl := Option.some.inj hf
        exact W.zret (ty := .boolean) (v := (0 : Int32)) hx hb hr rfl (fun t ht hW => ⟨⟨(0 : Int32), (), rfl, rfl, hPt ht hP⟩, hS.F ht⟩) hS.2.2 dX2_readsAll_102
      · have hf := hF hf c18
        refine lv_iconst (v := (1 : Int32)) hx hb dX2_readsAll_97 (by decide) ?_
        refine lv_goto (tgt := 102) hx hb dX2_readsAll_98 (by decide) ?_
        obtain rfl := Option.some.inj hf
        exact W.zret (ty := .boolean) (v := (1 : Int32)) hx hb hr rfl (fun t ht hW => ⟨⟨(1 : Int32), (), rfl, rfl, hPt ht hP⟩, hS.F ht⟩) hS.2.2 dX2_readsAll_102
  have hf := hF hf c14
  by_cases c19 : j1 = (114 : Int32)
  · have hf := hT hf c19
    refine lv_lookup (off := 128) (tgt := 129) hx hb dX2_readsAll_1 (by decide) (by rw [show (j1 : Int32).toInt = 114 from ((congrArg Int32.toInt c19).trans (by decide))]; decide) (by decide) ?_
    refine lv_aload_n hx hb dX2_readsAll_129 rfl (lv_at hl 0 rfl) ?_
    refine lv_iload_n hx hb dX2_readsAll_130 rfl (lv_at hl 2 rfl) ?_
    refine lv_iconst (v := (1 : Int32)) hx hb dX2_readsAll_131 (by decide) ?_
    obtain ⟨v20, hev20, hf⟩ := bS hf
    refine qV_i (ws' := (wM A cI v20.2)) (As := [.int j2, .int (1 : Int32)]) (rest := []) ⟨hx, hb, hml, hown, hts⟩ hK hN hA hP hD hS (c_X2_readsDigits l D cI A j2 (1 : Int32) tt v20 hev20) (cwV 2 hts gX2_readsAll_X2_readsDigits rfl rfl rfl hd_X2_readsDigits ⟨Nat.le_of_ble_eq_true rfl, Nat.le_of_ble_eq_true rfl⟩) (va_recv hK hP (ci := 2) (q0 := 0) rfl rfl) (bp_X2_X2_t_t A cI tt v20.2) rfl hl.1 rfl (Nat.le_of_ble_eq_true rfl) dX2_readsAll_132 ⟨Nat.le_of_ble_eq_true rfl, Nat.le_of_ble_eq_true rfl⟩ (fun H locs hP hD hS => ?_)
    have hP : va_P D vwCl (wM A cI v20.2) H := hP
    obtain ⟨hnb, hf⟩ := nbS hf
    obtain rfl := Option.some.inj hf
    exact W.zret (ty := .boolean) (v := v20.1) hx hb hr hnb (fun t ht hW => ⟨⟨v20.1, (), rfl, rfl, hPt ht hP⟩, hS.F ht⟩) hS.2.2 dX2_readsAll_135
  have hf := hF hf c19
  by_cases c21 : j1 = (120 : Int32)
  · have hf := hT hf c21
    refine lv_lookup (off := 102) (tgt := 103) hx hb dX2_readsAll_1 (by decide) (by rw [show (j1 : Int32).toInt = 120 from ((congrArg Int32.toInt c21).trans (by decide))]; decide) (by decide) ?_
    refine lv_aload_n hx hb dX2_readsAll_103 rfl (lv_at hl 0 rfl) ?_
    refine lv_iload_n hx hb dX2_readsAll_104 rfl (lv_at hl 2 rfl) ?_
    refine lv_iconst (v := (1 : Int32)) hx hb dX2_readsAll_105 (by decide) ?_
    obtain ⟨v22, hev22, hf⟩ := bS hf
    refine qV_i (ws' := (wM A cI v22.2)) (As := [.int j2, .int (1 : Int32)]) (rest := []) ⟨hx, hb, hml, hown, hts⟩ hK hN hA hP hD hS (c_X2_readsDigits l D cI A j2 (1 : Int32) tt v22 hev22) (cwV 2 hts gX2_readsAll_X2_readsDigits rfl rfl rfl hd_X2_readsDigits ⟨Nat.le_of_ble_eq_true rfl, Nat.le_of_ble_eq_true rfl⟩) (va_recv hK hP (ci := 2) (q0 := 0) rfl rfl) (bp_X2_X2_t_t A cI tt v22.2) rfl hl.1 rfl (Nat.le_of_ble_eq_true rfl) dX2_readsAll_106 ⟨Nat.le_of_ble_eq_true rfl, Nat.le_of_ble_eq_true rfl⟩ (fun H locs hP hD hS => ?_)
    have hP : va_P D vwCl (wM A cI v22.2) H := hP
    refine lv_if_eq (tgt := 127) hx hb dX2_readsAll_109 (by decide) (fun c23 => ?_) (fun c23 => ?_)
    · have hf := hT hf c23
      refine lv_iconst (v := (0 : Int32)) hx hb dX2_readsAll_127 (by decide) ?_
      obtain rfl := Option.some.inj hf
      exact W.zret (ty := .boolean) (v := (0 : Int32)) hx hb hr rfl (fun t ht hW => ⟨⟨(0 : Int32), (), rfl, rfl, hPt ht hP⟩, hS.F ht⟩) hS.2.2 dX2_readsAll_128
    · have hf := hF hf c23
      refine lv_aload_n hx hb dX2_readsAll_112 rfl (lv_at hl 0 rfl) ?_
      refine lv_iload_n hx hb dX2_readsAll_113 rfl (lv_at hl 2 rfl) ?_
      refine lv_iconst (v := (1 : Int32)) hx hb dX2_readsAll_114 (by decide) ?_
      refine lv_iadd hx hb dX2_readsAll_115 ?_
      refine lv_iconst (v := (1 : Int32)) hx hb dX2_readsAll_116 (by decide) ?_
      obtain ⟨v24, hev24, hf⟩ := bS hf
      refine qV_i (ws' := (wM A cI v24.2)) (As := [.int (j2 + (1 : Int32)), .int (1 : Int32)]) (rest := []) ⟨hx, hb, hml, hown, hts⟩ hK hN hA hP hD hS (c_X2_readsDigits l D cI A (j2 + (1 : Int32)) (1 : Int32) v22.2 v24 hev24) (cwV 2 hts gX2_readsAll_X2_readsDigits rfl rfl rfl hd_X2_readsDigits ⟨Nat.le_of_ble_eq_true rfl, Nat.le_of_ble_eq_true rfl⟩) (va_recv hK hP (ci := 2) (q0 := 0) rfl rfl) (bp_X2_X2_t_t A cI v22.2 v24.2) rfl hl.1 rfl (Nat.le_of_ble_eq_true rfl) dX2_readsAll_117 ⟨Nat.le_of_ble_eq_true rfl, Nat.le_of_ble_eq_true rfl⟩ (fun H locs hP hD hS => ?_)
      have hP : va_P D vwCl (wM A cI v24.2) H := hP
      refine lv_if_eq (tgt := 127) hx hb dX2_readsAll_120 (by decide) (fun c25 => ?_) (fun c25 => ?_)
      · have hf := hT hf c25
        refine lv_iconst (v := (0 : Int32)) hx hb dX2_readsAll_127 (by decide) ?_
        obtain rfl := Option.some.inj hf
        exact W.zret (ty := .boolean) (v := (0 : Int32)) hx hb hr rfl (fun t ht hW => ⟨⟨(0 : Int32), (), rfl, rfl, hPt ht hP⟩, hS.F ht⟩) hS.2.2 dX2_readsAll_128
      · have hf := hF hf c25
        refine lv_iconst (v := (1 : Int32)) hx hb dX2_readsAll_123 (by decide) ?_
        refine lv_goto (tgt := 128) hx hb dX2_readsAll_124 (by decide) ?_
        obtain rfl := Option.some.inj hf
        exact W.zret (ty := .boolean) (v := (1 : Int32)) hx hb hr rfl (fun t ht hW => ⟨⟨(1 : Int32), (), rfl, rfl, hPt ht hP⟩, hS.F ht⟩) hS.2.2 dX2_readsAll_128
  have hf := hF hf c21
  refine lv_lookup (off := 135) (tgt := 136) hx hb dX2_readsAll_1 (by decide) ((lv_osw c1 (by decide)).trans ((lv_osw c5 (by decide)).trans ((lv_osw c9 (by decide)).trans ((lv_osw c14 (by decide)).trans ((lv_osw c19 (by decide)).trans ((lv_osw c21 (by decide)).trans rfl)))))) (by decide) ?_
  refine lv_aload_n hx hb dX2_readsAll_136 rfl (lv_at hl 0 rfl) ?_
  refine lv_iload_n hx hb dX2_readsAll_137 rfl (lv_at hl 2 rfl) ?_
  refine lv_iconst (v := (2 : Int32)) hx hb dX2_readsAll_138 (by decide) ?_
  obtain ⟨v26, hev26, hf⟩ := bS hf
  refine qV_i (ws' := (wM A cI v26.2)) (As := [.int j2, .int (2 : Int32)]) (rest := []) ⟨hx, hb, hml, hown, hts⟩ hK hN hA hP hD hS (c_X2_readsDigits l D cI A j2 (2 : Int32) tt v26 hev26) (cwV 2 hts gX2_readsAll_X2_readsDigits rfl rfl rfl hd_X2_readsDigits ⟨Nat.le_of_ble_eq_true rfl, Nat.le_of_ble_eq_true rfl⟩) (va_recv hK hP (ci := 2) (q0 := 0) rfl rfl) (bp_X2_X2_t_t A cI tt v26.2) rfl hl.1 rfl (Nat.le_of_ble_eq_true rfl) dX2_readsAll_139 ⟨Nat.le_of_ble_eq_true rfl, Nat.le_of_ble_eq_true rfl⟩ (fun H locs hP hD hS => ?_)
  have hP : va_P D vwCl (wM A cI v26.2) H := hP
  obtain ⟨hnb, hf⟩ := nbS hf
  obtain rfl := Option.some.inj hf
  exact W.zret (ty := .boolean) (v := v26.1) hx hb hr hnb (fun t ht hW => ⟨⟨v26.1, (), rfl, rfl, hPt ht hP⟩, hS.F ht⟩) hS.2.2 dX2_readsAll_142
set_option maxHeartbeats 4000000 in
set_option maxRecDepth 100000 in
theorem c_X2_statement (l : Launch) (D : va_G) (cI : ClassId) (A : Nat → Nat) (tt : HS) (out : Int32 × HS) (hf : f_X2_statement tt = some out) : uI l D cI yX2_statement wsX2_statement ({ frames := 4, cells := 0, slots := 0, locals := 90 } : Room) [.ref (A 0)] (wM A cI tt) (wM A cI out.2) out.1 := by
  intro sz
  refine Met.ofW (cc := cX2_statement) (maxL := 2) (ret := (some .boolean)) (by decide) rfl ?_
  intro p e s m args below meth c s₁ Bd hml hv
  obtain ⟨rfl, hsz, hP, hK, hD0, hN⟩ := hv
  have hx := Bd.exec
  have hb := Bd.bytes
  have hr := Bd.returns
  have hts := atoms_spec (ws := wsX2_statement) Bd.pre
  have hown : s.vm.findClass RX2 = some m.cls := findClass_of_methodNamed Bd.named
  have hlocks := Bd.notSynchronized
  subst hsz
  have hD := hD0.self (sz := s.heap.size)
  generalize hAe : va_A (wM A cI tt) s.heap.size = G at hD ⊢
  have hA : ∀ q : Nat, s.heap.size ≤ q → G q := fun q h => by rw [← hAe]; exact Or.inr h
  have hS : va_S G s.heap s.heap [] := va_S.rf
  have hP : va_P D vwCl (wM A cI tt) s.heap := hP
  have hl := lv_entry ([.ref (A 0)]) (n := 2) (Nat.le_of_ble_eq_true rfl)
  rw [lg_entry_eq]
  generalize (lg_sl ([.ref (A 0)]) ++ List.replicate (2 - (lg_sl ([.ref (A 0)])).length) Slot.unset).toArray = ls at hl ⊢
  have hl : lv_has ls 2 [(0, .ref (A 0))] := hl
  have hinM : ∀ w ∈ wsX20, w ∈ wsX2_statement := by decide +kernel
  have lk0 := hts (.fieldLink RX2 46 "LiesBoughtBackModel" "letter" "[I") (by decide +kernel)
  have lk1 := hts (.fieldLink RX2 112 "LiesBoughtBackModel" "statements" "I") (by decide +kernel)
  have lk2 := hts (.fieldLink RX2 49 "LiesBoughtBackModel" "letterAt" "[I") (by decide +kernel)
  have lk3 := hts (.fieldLink RX2 87 "LiesBoughtBackModel" "at" "I") (by decide +kernel)
  refine W_in ?_
  intro WW hWW
  refine (hWW _ _ _).mpr ?_
  unfold f_X2_statement at hf
  refine lv_aload_n hx hb dX2_statement_0 rfl (lv_at hl 0 rfl) ?_
  obtain ⟨v1, hev1, hf⟩ := bS hf
  refine qV_i (As := []) (rest := []) ⟨hx, hb, hml, hown, hts⟩ hK hN hA hP hD hS (c_X2_letterNow l D cI A tt v1 hev1) (cwV 0 hts gX2_statement_X2_letterNow rfl rfl rfl hd_X2_letterNow ⟨Nat.le_of_ble_eq_true rfl, Nat.le_of_ble_eq_true rfl⟩) (va_recv hK hP (ci := 2) (q0 := 0) rfl rfl) (bq_X2_X2_t A cI tt) rfl hl.1 rfl (Nat.le_of_ble_eq_true rfl) dX2_statement_1 ⟨Nat.le_of_ble_eq_true rfl, Nat.le_of_ble_eq_true rfl⟩ (fun H locs hP hD hS => ?_)
  refine lv_istore_n (lv' := [(1, .int v1), (0, .ref (A 0))]) hx hb dX2_statement_4 rfl hl (by decide) rfl (fun ls hl => ?_)
  refine lv_iload_n hx hb dX2_statement_5 rfl (lv_at hl 0 rfl) ?_
  refine lv_bipush (v := (99 : Int32)) hx hb dX2_statement_6 (by decide) ?_
  obtain ⟨K49, hK49, hf⟩ := jnS hf
  have J49 : ∀ (j1_49 : Int32) (tt_49 : HS) (H : Heap) (locs : List Loc) (ls : Array Slot), K49 j1_49 tt_49 = some out → va_P D vwCl (wM A cI tt_49) H → va_D G (wM A cI tt_49) → va_S G s.heap H locs → lv_has ls 2 [(0, .ref (A 0)), (1, .int j1_49)] → WW H locs (F0 m 49 ls []) := by
    intro j1_49 tt_49 H locs ls hf hP hD hS hl
    subst hK49
    refine (hWW _ _ _).mpr ?_
    refine lv_aload_n hx hb dX2_statement_49 rfl (lv_at hl 0 rfl) ?_
    refine va_get (D := D) (ci := 2) (v := .ref (A 13)) (C := RX2) (T := TX2) (N := 31) hx hb hts hinM hown hK hP 0 rfl rfl 15 (by decide) lk0 (fun _ h9 => h9) rfl dX2_statement_50 ?_
    refine lv_aload_n hx hb dX2_statement_53 rfl (lv_at hl 0 rfl) ?_
    refine va_get (D := D) (ci := 2) (v := .int (tt_49 25 0)) (C := RX2) (T := TX2) (N := 31) hx hb hts hinM hown hK hP 0 rfl rfl 20 (by decide) lk1 (fun _ h9 => h9) rfl dX2_statement_54 ?_
    refine lv_iload_n hx hb dX2_statement_57 rfl (lv_at hl 1 rfl) ?_
    obtain ⟨v2, he, hf⟩ := bS hf
    obtain ⟨tt_v3, ett_v3, hf⟩ := jnS hf
    refine x_iast (ws' := (wM A cI tt_v3)) hx hb hK hP hD hS 13 (n := 48) rfl he ((sa_X2_t_12 A cI tt_49 v2).trans (congrArg (fun z => wM A cI z) ett_v3.symm)) dX2_statement_58 (fun H locs hP hD hS => ?_)
    refine lv_aload_n hx hb dX2_statement_59 rfl (lv_at hl 0 rfl) ?_
    refine va_get (D := D) (ci := 2) (v := .ref (A 14)) (C := RX2) (T := TX2) (N := 31) hx hb hts hinM hown hK hP 0 rfl rfl 16 (by decide) lk2 (fun _ h9 => h9) rfl dX2_statement_60 ?_
    refine lv_aload_n hx hb dX2_statement_63 rfl (lv_at hl 0 rfl) ?_
    refine va_get (D := D) (ci := 2) (v := .int (tt_v3 25 0)) (C := RX2) (T := TX2) (N := 31) hx hb hts hinM hown hK hP 0 rfl rfl 20 (by decide) lk1 (fun _ h9 => h9) rfl dX2_statement_64 ?_
    refine lv_aload_n hx hb dX2_statement_67 rfl (lv_at hl 0 rfl) ?_
    refine va_get (D := D) (ci := 2) (v := .int (tt_v3 24 0)) (C := RX2) (T := TX2) (N := 31) hx hb hts hinM hown hK hP 0 rfl rfl 19 (by decide) lk3 (fun _ h9 => h9) rfl dX2_statement_68 ?_
    obtain ⟨v4, he, hf⟩ := bS hf
    obtain ⟨tt_v5, ett_v5, hf⟩ := jnS hf
    refine x_iast (ws' := (wM A cI tt_v5)) hx hb hK hP hD hS 14 (n := 48) rfl he ((sa_X2_t_13 A cI tt_v3 v4).trans (congrArg (fun z => wM A cI z) ett_v5.symm)) dX2_statement_71 (fun H locs hP hD hS => ?_)
    refine lv_aload_n hx hb dX2_statement_72 rfl (lv_at hl 0 rfl) ?_
    refine lv_dup hx hb dX2_statement_73 rfl ?_
    refine va_get (D := D) (ci := 2) (v := .int (tt_v5 24 0)) (C := RX2) (T := TX2) (N := 31) hx hb hts hinM hown hK hP 0 rfl rfl 19 (by decide) lk3 (fun _ h9 => h9) rfl dX2_statement_74 ?_
    refine lv_iconst (v := (1 : Int32)) hx hb dX2_statement_77 (by decide) ?_
    refine lv_iadd hx hb dX2_statement_78 ?_
    obtain ⟨tt_v6, ett_v6, hf⟩ := jnS hf
    refine va_put (D := D) (ci := 2) (v := .int ((tt_v5 24 0) + (1 : Int32))) (ty := .int) (C := RX2) (T := TX2) (N := 31) hx hb hts hinM tyX2 tyX2_ok nmX2 hown hK hP hD hS 0 rfl rfl 19 (by decide) lk3 (fun _ h9 => h9) rfl (by decide +kernel) rfl rfl (Nat.le_of_ble_eq_true rfl) dX2_statement_79 (fun H locs hP hD hS => ?_)
    have hE : _ = (wM A cI tt_v6) := ((sf_X2_t_24 A cI tt_v5 ((tt_v5 24 0) + (1 : Int32))).trans (congrArg (fun z => wM A cI z) ett_v6.symm))
    have hP : va_P D vwCl (wM A cI tt_v6) H := hE ▸ hP
    have hD : va_D G (wM A cI tt_v6) := hE ▸ hD
    refine lv_aload_n hx hb dX2_statement_82 rfl (lv_at hl 0 rfl) ?_
    refine lv_iload_n hx hb dX2_statement_83 rfl (lv_at hl 1 rfl) ?_
    refine lv_iconst (v := (3 : Int32)) hx hb dX2_statement_84 (by decide) ?_
    refine lv_aload_n hx hb dX2_statement_85 rfl (lv_at hl 0 rfl) ?_
    refine va_get (D := D) (ci := 2) (v := .int (tt_v6 25 0)) (C := RX2) (T := TX2) (N := 31) hx hb hts hinM hown hK hP 0 rfl rfl 20 (by decide) lk1 (fun _ h9 => h9) rfl dX2_statement_86 ?_
    refine lv_imul hx hb dX2_statement_89 ?_
    obtain ⟨v7, hev7, hf⟩ := bS hf
    refine qV_i (ws' := (wM A cI v7.2)) (As := [.int j1_49, .int ((3 : Int32) * (tt_v6 25 0))]) (rest := []) ⟨hx, hb, hml, hown, hts⟩ hK hN hA hP hD hS (c_X2_readsAll l D cI A j1_49 ((3 : Int32) * (tt_v6 25 0)) tt_v6 v7 hev7) (cwV 2 hts gX2_statement_X2_readsAll rfl rfl rfl hd_X2_readsAll ⟨Nat.le_of_ble_eq_true rfl, Nat.le_of_ble_eq_true rfl⟩) (va_recv hK hP (ci := 2) (q0 := 0) rfl rfl) (bp_X2_X2_t_t A cI tt_v6 v7.2) rfl hl.1 rfl (Nat.le_of_ble_eq_true rfl) dX2_statement_90 ⟨Nat.le_of_ble_eq_true rfl, Nat.le_of_ble_eq_true rfl⟩ (fun H locs hP hD hS => ?_)
    have hP : va_P D vwCl (wM A cI v7.2) H := hP
    refine lv_if_eq (tgt := 105) hx hb dX2_statement_93 (by decide) (fun c8 => ?_) (fun c8 => ?_)
    · have hf := hT hf c8
      refine lv_iconst (v := (0 : Int32)) hx hb dX2_statement_105 (by decide) ?_
      obtain rfl := Option.some.inj hf
      exact W.zret (ty := .boolean) (v := (0 : Int32)) hx hb hr rfl (fun t ht hW => ⟨⟨(0 : Int32), (), rfl, rfl, hPt ht hP⟩, hS.F ht⟩) hS.2.2 dX2_statement_106
    · have hf := hF hf c8
      refine lv_aload_n hx hb dX2_statement_96 rfl (lv_at hl 0 rfl) ?_
      obtain ⟨v9, hev9, hf⟩ := bS hf
      refine qV_i (As := []) (rest := []) ⟨hx, hb, hml, hown, hts⟩ hK hN hA hP hD hS (c_X2_letterNow l D cI A v7.2 v9 hev9) (cwV 0 hts gX2_statement_X2_letterNow rfl rfl rfl hd_X2_letterNow ⟨Nat.le_of_ble_eq_true rfl, Nat.le_of_ble_eq_true rfl⟩) (va_recv hK hP (ci := 2) (q0 := 0) rfl rfl) (bq_X2_X2_t A cI v7.2) rfl hl.1 rfl (Nat.le_of_ble_eq_true rfl) dX2_statement_97 ⟨Nat.le_of_ble_eq_true rfl, Nat.le_of_ble_eq_true rfl⟩ (fun H locs hP hD hS => ?_)
      refine lv_bipush (v := (59 : Int32)) hx hb dX2_statement_100 (by decide) ?_
      refine lv_icmp_eq (tgt := 107) hx hb dX2_statement_102 (by decide) (fun c10 => ?_) (fun c10 => ?_)
      · have hf := hT hf c10
        refine lv_aload_n hx hb dX2_statement_107 rfl (lv_at hl 0 rfl) ?_
        refine lv_dup hx hb dX2_statement_108 rfl ?_
        refine va_get (D := D) (ci := 2) (v := .int (v7.2 24 0)) (C := RX2) (T := TX2) (N := 31) hx hb hts hinM hown hK hP 0 rfl rfl 19 (by decide) lk3 (fun _ h9 => h9) rfl dX2_statement_109 ?_
        refine lv_iconst (v := (1 : Int32)) hx hb dX2_statement_112 (by decide) ?_
        refine lv_iadd hx hb dX2_statement_113 ?_
        obtain ⟨tt_v11, ett_v11, hf⟩ := jnS hf
        refine va_put (D := D) (ci := 2) (v := .int ((v7.2 24 0) + (1 : Int32))) (ty := .int) (C := RX2) (T := TX2) (N := 31) hx hb hts hinM tyX2 tyX2_ok nmX2 hown hK hP hD hS 0 rfl rfl 19 (by decide) lk3 (fun _ h9 => h9) rfl (by decide +kernel) rfl rfl (Nat.le_of_ble_eq_true rfl) dX2_statement_114 (fun H locs hP hD hS => ?_)
        have hE : _ = (wM A cI tt_v11) := ((sf_X2_t_24 A cI v7.2 ((v7.2 24 0) + (1 : Int32))).trans (congrArg (fun z => wM A cI z) ett_v11.symm))
        have hP : va_P D vwCl (wM A cI tt_v11) H := hE ▸ hP
        have hD : va_D G (wM A cI tt_v11) := hE ▸ hD
        refine lv_iconst (v := (1 : Int32)) hx hb dX2_statement_117 (by decide) ?_
        obtain rfl := Option.some.inj hf
        exact W.zret (ty := .boolean) (v := (1 : Int32)) hx hb hr rfl (fun t ht hW => ⟨⟨(1 : Int32), (), rfl, rfl, hPt ht hP⟩, hS.F ht⟩) hS.2.2 dX2_statement_118
      · have hf := hF hf c10
        refine lv_iconst (v := (0 : Int32)) hx hb dX2_statement_105 (by decide) ?_
        obtain rfl := Option.some.inj hf
        exact W.zret (ty := .boolean) (v := (0 : Int32)) hx hb hr rfl (fun t ht hW => ⟨⟨(0 : Int32), (), rfl, rfl, hPt ht hP⟩, hS.F ht⟩) hS.2.2 dX2_statement_106
  refine lv_icmp_eq (tgt := 49) hx hb dX2_statement_8 (by decide) (fun c12 => ?_) (fun c12 => ?_)
  · have hf := hT hf c12
    exact (hWW _ _ _).mp (J49 _ _ _ _ _ hf hP hD hS (lv_sub hl [1, 0] rfl))
  · have hf := hF hf c12
    refine lv_iload_n hx hb dX2_statement_11 rfl (lv_at hl 0 rfl) ?_
    refine lv_bipush (v := (98 : Int32)) hx hb dX2_statement_12 (by decide) ?_
    refine lv_icmp_eq (tgt := 49) hx hb dX2_statement_14 (by decide) (fun c13 => ?_) (fun c13 => ?_)
    · have hf := hT hf c13
      exact (hWW _ _ _).mp (J49 _ _ _ _ _ hf hP hD hS (lv_sub hl [1, 0] rfl))
    · have hf := hF hf c13
      refine lv_iload_n hx hb dX2_statement_17 rfl (lv_at hl 0 rfl) ?_
      refine lv_bipush (v := (112 : Int32)) hx hb dX2_statement_18 (by decide) ?_
      refine lv_icmp_eq (tgt := 49) hx hb dX2_statement_20 (by decide) (fun c14 => ?_) (fun c14 => ?_)
      · have hf := hT hf c14
        exact (hWW _ _ _).mp (J49 _ _ _ _ _ hf hP hD hS (lv_sub hl [1, 0] rfl))
      · have hf := hF hf c14
        refine lv_iload_n hx hb dX2_statement_23 rfl (lv_at hl 0 rfl) ?_
        refine lv_bipush (v := (120 : Int32)) hx hb dX2_statement_24 (by decide) ?_
        refine lv_icmp_eq (tgt := 49) hx hb dX2_statement_26 (by decide) (fun c15 => ?_) (fun c15 => ?_)
        · have hf := hT hf c15
          exact (hWW _ _ _).mp (J49 _ _ _ _ _ hf hP hD hS (lv_sub hl [1, 0] rfl))
        · have hf := hF hf c15
          refine lv_iload_n hx hb dX2_statement_29 rfl (lv_at hl 0 rfl) ?_
          refine lv_bipush (v := (114 : Int32)) hx hb dX2_statement_30 (by decide) ?_
          refine lv_icmp_eq (tgt := 49) hx hb dX2_statement_32 (by decide) (fun c16 => ?_) (fun c16 => ?_)
          · have hf := hT hf c16
            exact (hWW _ _ _).mp (J49 _ _ _ _ _ hf hP hD hS (lv_sub hl [1, 0] rfl))
          · have hf := hF hf c16
            refine lv_iload_n hx hb dX2_statement_35 rfl (lv_at hl 0 rfl) ?_
            refine lv_bipush (v := (103 : Int32)) hx hb dX2_statement_36 (by decide) ?_
            refine lv_icmp_eq (tgt := 49) hx hb dX2_statement_38 (by decide) (fun c17 => ?_) (fun c17 => ?_)
            · have hf := hT hf c17
              exact (hWW _ _ _).mp (J49 _ _ _ _ _ hf hP hD hS (lv_sub hl [1, 0] rfl))
            · have hf := hF hf c17
              refine lv_iload_n hx hb dX2_statement_41 rfl (lv_at hl 0 rfl) ?_
              refine lv_bipush (v := (109 : Int32)) hx hb dX2_statement_42 (by decide) ?_
              refine lv_icmp_eq (tgt := 49) hx hb dX2_statement_44 (by decide) (fun c18 => ?_) (fun c18 => ?_)
              · have hf := hT hf c18
                exact (hWW _ _ _).mp (J49 _ _ _ _ _ hf hP hD hS (lv_sub hl [1, 0] rfl))
              · have hf := hF hf c18
                refine lv_iconst (v := (0 : Int32)) hx hb dX2_statement_47 (by decide) ?_
                obtain rfl := Option.some.inj hf
                exact W.zret (ty := .boolean) (v := (0 : Int32)) hx hb hr rfl (fun t ht hW => ⟨⟨(0 : Int32), (), rfl, rfl, hPt ht hP⟩, hS.F ht⟩) hS.2.2 dX2_statement_48
set_option maxHeartbeats 4000000 in
set_option maxRecDepth 100000 in
theorem c_X2_comesCard (l : Launch) (D : va_G) (cI : ClassId) (A : Nat → Nat) (j1 : Int32) (tt : HS) (out : Int32 × HS) (hf : f_X2_comesCard j1 tt = some out) : uI l D cI yX2_comesCard wsX2_comesCard ({ frames := 0, cells := 0, slots := 0, locals := 0 } : Room) [.ref (A 0), .int j1] (wM A cI tt) (wM A cI out.2) out.1 := by
  intro sz
  refine Met.ofW (cc := cX2_comesCard) (maxL := 2) (ret := (some .boolean)) (by decide) rfl ?_
  intro p e s m args below meth c s₁ Bd hml hv
  obtain ⟨rfl, hsz, hP, hK, hD0, hN⟩ := hv
  have hx := Bd.exec
  have hb := Bd.bytes
  have hr := Bd.returns
  have hts := atoms_spec (ws := wsX2_comesCard) Bd.pre
  have hown : s.vm.findClass RX2 = some m.cls := findClass_of_methodNamed Bd.named
  have hlocks := Bd.notSynchronized
  subst hsz
  have hD := hD0.self (sz := s.heap.size)
  generalize hAe : va_A (wM A cI tt) s.heap.size = G at hD ⊢
  have hA : ∀ q : Nat, s.heap.size ≤ q → G q := fun q h => by rw [← hAe]; exact Or.inr h
  have hS : va_S G s.heap s.heap [] := va_S.rf
  have hP : va_P D vwCl (wM A cI tt) s.heap := hP
  have hl := lv_entry ([.ref (A 0), .int j1]) (n := 2) (Nat.le_of_ble_eq_true rfl)
  rw [lg_entry_eq]
  generalize (lg_sl ([.ref (A 0), .int j1]) ++ List.replicate (2 - (lg_sl ([.ref (A 0), .int j1])).length) Slot.unset).toArray = ls at hl ⊢
  have hl : lv_has ls 2 [(0, .ref (A 0)), (1, .int j1)] := hl
  have hinM : ∀ w ∈ wsX20, w ∈ wsX2_comesCard := by decide +kernel
  have lk0 := hts (.fieldLink RX2 52 "LiesBoughtBackModel" "told" "[I") (by decide +kernel)
  have lk1 := hts (.fieldLink RX2 67 "LiesBoughtBackModel" "cards" "I") (by decide +kernel)
  have lk2 := hts (.fieldLink RX2 13 "LiesBoughtBackModel" "sort" "[I") (by decide +kernel)
  have lk3 := hts (.fieldLink RX2 16 "LiesBoughtBackModel" "size" "[I") (by decide +kernel)
  have lk4 := hts (.fieldLink RX2 19 "LiesBoughtBackModel" "teller" "[I") (by decide +kernel)
  have lk5 := hts (.fieldLink RX2 22 "LiesBoughtBackModel" "age" "[I") (by decide +kernel)
  have lk6 := hts (.fieldLink RX2 25 "LiesBoughtBackModel" "holder" "[I") (by decide +kernel)
  have lk7 := hts (.fieldLink RX2 28 "LiesBoughtBackModel" "order" "[I") (by decide +kernel)
  refine W_in ?_
  intro WW hWW
  refine (hWW _ _ _).mpr ?_
  unfold f_X2_comesCard at hf
  refine lv_aload_n hx hb dX2_comesCard_0 rfl (lv_at hl 0 rfl) ?_
  refine va_get (D := D) (ci := 2) (v := .ref (A 15)) (C := RX2) (T := TX2) (N := 31) hx hb hts hinM hown hK hP 0 rfl rfl 17 (by decide) lk0 (fun _ h9 => h9) rfl dX2_comesCard_1 ?_
  refine lv_iload_n hx hb dX2_comesCard_4 rfl (lv_at hl 1 rfl) ?_
  refine lv_iconst (v := (2 : Int32)) hx hb dX2_comesCard_5 (by decide) ?_
  refine lv_iadd hx hb dX2_comesCard_6 ?_
  obtain ⟨v1, he, hf⟩ := bS hf
  refine x_iald hx hb hK hP 15 (n := 144) rfl he dX2_comesCard_7 ?_
  refine lv_bipush (v := (6 : Int32)) hx hb dX2_comesCard_8 (by decide) ?_
  refine lv_icmp_ge (tgt := 22) hx hb dX2_comesCard_10 (by decide) (fun c2 => ?_) (fun c2 => ?_)
  · have hf := hT hf c2
    refine lv_iconst (v := (0 : Int32)) hx hb dX2_comesCard_22 (by decide) ?_
    obtain rfl := Option.some.inj hf
    exact W.zret (ty := .boolean) (v := (0 : Int32)) hx hb hr rfl (fun t ht hW => ⟨⟨(0 : Int32), (), rfl, rfl, hPt ht hP⟩, hS.F ht⟩) hS.2.2 dX2_comesCard_23
  · have hf := hF hf c2
    refine lv_aload_n hx hb dX2_comesCard_13 rfl (lv_at hl 0 rfl) ?_
    refine va_get (D := D) (ci := 2) (v := .int (tt 20 0)) (C := RX2) (T := TX2) (N := 31) hx hb hts hinM hown hK hP 0 rfl rfl 11 (by decide) lk1 (fun _ h9 => h9) rfl dX2_comesCard_14 ?_
    refine lv_bipush (v := (8 : Int32)) hx hb dX2_comesCard_17 (by decide) ?_
    refine lv_icmp_ne (tgt := 24) hx hb dX2_comesCard_19 (by decide) (fun c3 => ?_) (fun c3 => ?_)
    · have hf := hF hf c3
      refine lv_aload_n hx hb dX2_comesCard_24 rfl (lv_at hl 0 rfl) ?_
      refine va_get (D := D) (ci := 2) (v := .ref (A 2)) (C := RX2) (T := TX2) (N := 31) hx hb hts hinM hown hK hP 0 rfl rfl 1 (by decide) lk2 (fun _ h9 => h9) rfl dX2_comesCard_25 ?_
      refine lv_aload_n hx hb dX2_comesCard_28 rfl (lv_at hl 0 rfl) ?_
      refine va_get (D := D) (ci := 2) (v := .int (tt 20 0)) (C := RX2) (T := TX2) (N := 31) hx hb hts hinM hown hK hP 0 rfl rfl 11 (by decide) lk1 (fun _ h9 => h9) rfl dX2_comesCard_29 ?_
      refine lv_aload_n hx hb dX2_comesCard_32 rfl (lv_at hl 0 rfl) ?_
      refine va_get (D := D) (ci := 2) (v := .ref (A 15)) (C := RX2) (T := TX2) (N := 31) hx hb hts hinM hown hK hP 0 rfl rfl 17 (by decide) lk0 (fun _ h9 => h9) rfl dX2_comesCard_33 ?_
      refine lv_iload_n hx hb dX2_comesCard_36 rfl (lv_at hl 1 rfl) ?_
      obtain ⟨v4, he, hf⟩ := bS hf
      refine x_iald hx hb hK hP 15 (n := 144) rfl he dX2_comesCard_37 ?_
      obtain ⟨v5, he, hf⟩ := bS hf
      obtain ⟨tt_v6, ett_v6, hf⟩ := jnS hf
      refine x_iast (ws' := (wM A cI tt_v6)) hx hb hK hP hD hS 2 (n := 8) rfl he ((sa_X2_t_1 A cI tt v5).trans (congrArg (fun z => wM A cI z) ett_v6.symm)) dX2_comesCard_38 (fun H locs hP hD hS => ?_)
      refine lv_aload_n hx hb dX2_comesCard_39 rfl (lv_at hl 0 rfl) ?_
      refine va_get (D := D) (ci := 2) (v := .ref (A 3)) (C := RX2) (T := TX2) (N := 31) hx hb hts hinM hown hK hP 0 rfl rfl 2 (by decide) lk3 (fun _ h9 => h9) rfl dX2_comesCard_40 ?_
      refine lv_aload_n hx hb dX2_comesCard_43 rfl (lv_at hl 0 rfl) ?_
      refine va_get (D := D) (ci := 2) (v := .int (tt_v6 20 0)) (C := RX2) (T := TX2) (N := 31) hx hb hts hinM hown hK hP 0 rfl rfl 11 (by decide) lk1 (fun _ h9 => h9) rfl dX2_comesCard_44 ?_
      refine lv_aload_n hx hb dX2_comesCard_47 rfl (lv_at hl 0 rfl) ?_
      refine va_get (D := D) (ci := 2) (v := .ref (A 15)) (C := RX2) (T := TX2) (N := 31) hx hb hts hinM hown hK hP 0 rfl rfl 17 (by decide) lk0 (fun _ h9 => h9) rfl dX2_comesCard_48 ?_
      refine lv_iload_n hx hb dX2_comesCard_51 rfl (lv_at hl 1 rfl) ?_
      refine lv_iconst (v := (1 : Int32)) hx hb dX2_comesCard_52 (by decide) ?_
      refine lv_iadd hx hb dX2_comesCard_53 ?_
      obtain ⟨v7, he, hf⟩ := bS hf
      refine x_iald hx hb hK hP 15 (n := 144) rfl he dX2_comesCard_54 ?_
      obtain ⟨v8, he, hf⟩ := bS hf
      obtain ⟨tt_v9, ett_v9, hf⟩ := jnS hf
      refine x_iast (ws' := (wM A cI tt_v9)) hx hb hK hP hD hS 3 (n := 8) rfl he ((sa_X2_t_2 A cI tt_v6 v8).trans (congrArg (fun z => wM A cI z) ett_v9.symm)) dX2_comesCard_55 (fun H locs hP hD hS => ?_)
      refine lv_aload_n hx hb dX2_comesCard_56 rfl (lv_at hl 0 rfl) ?_
      refine va_get (D := D) (ci := 2) (v := .ref (A 4)) (C := RX2) (T := TX2) (N := 31) hx hb hts hinM hown hK hP 0 rfl rfl 3 (by decide) lk4 (fun _ h9 => h9) rfl dX2_comesCard_57 ?_
      refine lv_aload_n hx hb dX2_comesCard_60 rfl (lv_at hl 0 rfl) ?_
      refine va_get (D := D) (ci := 2) (v := .int (tt_v9 20 0)) (C := RX2) (T := TX2) (N := 31) hx hb hts hinM hown hK hP 0 rfl rfl 11 (by decide) lk1 (fun _ h9 => h9) rfl dX2_comesCard_61 ?_
      refine lv_aload_n hx hb dX2_comesCard_64 rfl (lv_at hl 0 rfl) ?_
      refine va_get (D := D) (ci := 2) (v := .ref (A 15)) (C := RX2) (T := TX2) (N := 31) hx hb hts hinM hown hK hP 0 rfl rfl 17 (by decide) lk0 (fun _ h9 => h9) rfl dX2_comesCard_65 ?_
      refine lv_iload_n hx hb dX2_comesCard_68 rfl (lv_at hl 1 rfl) ?_
      refine lv_iconst (v := (2 : Int32)) hx hb dX2_comesCard_69 (by decide) ?_
      refine lv_iadd hx hb dX2_comesCard_70 ?_
      obtain ⟨v10, he, hf⟩ := bS hf
      refine x_iald hx hb hK hP 15 (n := 144) rfl he dX2_comesCard_71 ?_
      obtain ⟨v11, he, hf⟩ := bS hf
      obtain ⟨tt_v12, ett_v12, hf⟩ := jnS hf
      refine x_iast (ws' := (wM A cI tt_v12)) hx hb hK hP hD hS 4 (n := 8) rfl he ((sa_X2_t_3 A cI tt_v9 v11).trans (congrArg (fun z => wM A cI z) ett_v12.symm)) dX2_comesCard_72 (fun H locs hP hD hS => ?_)
      refine lv_aload_n hx hb dX2_comesCard_73 rfl (lv_at hl 0 rfl) ?_
      refine va_get (D := D) (ci := 2) (v := .ref (A 5)) (C := RX2) (T := TX2) (N := 31) hx hb hts hinM hown hK hP 0 rfl rfl 4 (by decide) lk5 (fun _ h9 => h9) rfl dX2_comesCard_74 ?_
      refine lv_aload_n hx hb dX2_comesCard_77 rfl (lv_at hl 0 rfl) ?_
      refine va_get (D := D) (ci := 2) (v := .int (tt_v12 20 0)) (C := RX2) (T := TX2) (N := 31) hx hb hts hinM hown hK hP 0 rfl rfl 11 (by decide) lk1 (fun _ h9 => h9) rfl dX2_comesCard_78 ?_
      refine lv_iconst (v := (0 : Int32)) hx hb dX2_comesCard_81 (by decide) ?_
      obtain ⟨v13, he, hf⟩ := bS hf
      obtain ⟨tt_v14, ett_v14, hf⟩ := jnS hf
      refine x_iast (ws' := (wM A cI tt_v14)) hx hb hK hP hD hS 5 (n := 8) rfl he ((sa_X2_t_4 A cI tt_v12 v13).trans (congrArg (fun z => wM A cI z) ett_v14.symm)) dX2_comesCard_82 (fun H locs hP hD hS => ?_)
      refine lv_aload_n hx hb dX2_comesCard_83 rfl (lv_at hl 0 rfl) ?_
      refine va_get (D := D) (ci := 2) (v := .ref (A 6)) (C := RX2) (T := TX2) (N := 31) hx hb hts hinM hown hK hP 0 rfl rfl 5 (by decide) lk6 (fun _ h9 => h9) rfl dX2_comesCard_84 ?_
      refine lv_aload_n hx hb dX2_comesCard_87 rfl (lv_at hl 0 rfl) ?_
      refine va_get (D := D) (ci := 2) (v := .int (tt_v14 20 0)) (C := RX2) (T := TX2) (N := 31) hx hb hts hinM hown hK hP 0 rfl rfl 11 (by decide) lk1 (fun _ h9 => h9) rfl dX2_comesCard_88 ?_
      refine lv_iconst (v := (0 : Int32)) hx hb dX2_comesCard_91 (by decide) ?_
      obtain ⟨v15, he, hf⟩ := bS hf
      obtain ⟨tt_v16, ett_v16, hf⟩ := jnS hf
      refine x_iast (ws' := (wM A cI tt_v16)) hx hb hK hP hD hS 6 (n := 8) rfl he ((sa_X2_t_5 A cI tt_v14 v15).trans (congrArg (fun z => wM A cI z) ett_v16.symm)) dX2_comesCard_92 (fun H locs hP hD hS => ?_)
      refine lv_aload_n hx hb dX2_comesCard_93 rfl (lv_at hl 0 rfl) ?_
      refine va_get (D := D) (ci := 2) (v := .ref (A 7)) (C := RX2) (T := TX2) (N := 31) hx hb hts hinM hown hK hP 0 rfl rfl 6 (by decide) lk7 (fun _ h9 => h9) rfl dX2_comesCard_94 ?_
      refine lv_aload_n hx hb dX2_comesCard_97 rfl (lv_at hl 0 rfl) ?_
      refine va_get (D := D) (ci := 2) (v := .int (tt_v16 20 0)) (C := RX2) (T := TX2) (N := 31) hx hb hts hinM hown hK hP 0 rfl rfl 11 (by decide) lk1 (fun _ h9 => h9) rfl dX2_comesCard_98 ?_
      refine lv_aload_n hx hb dX2_comesCard_101 rfl (lv_at hl 0 rfl) ?_
      refine va_get (D := D) (ci := 2) (v := .int (tt_v16 20 0)) (C := RX2) (T := TX2) (N := 31) hx hb hts hinM hown hK hP 0 rfl rfl 11 (by decide) lk1 (fun _ h9 => h9) rfl dX2_comesCard_102 ?_
      obtain ⟨v17, he, hf⟩ := bS hf
      obtain ⟨tt_v18, ett_v18, hf⟩ := jnS hf
      refine x_iast (ws' := (wM A cI tt_v18)) hx hb hK hP hD hS 7 (n := 8) rfl he ((sa_X2_t_6 A cI tt_v16 v17).trans (congrArg (fun z => wM A cI z) ett_v18.symm)) dX2_comesCard_105 (fun H locs hP hD hS => ?_)
      refine lv_aload_n hx hb dX2_comesCard_106 rfl (lv_at hl 0 rfl) ?_
      refine lv_dup hx hb dX2_comesCard_107 rfl ?_
      refine va_get (D := D) (ci := 2) (v := .int (tt_v18 20 0)) (C := RX2) (T := TX2) (N := 31) hx hb hts hinM hown hK hP 0 rfl rfl 11 (by decide) lk1 (fun _ h9 => h9) rfl dX2_comesCard_108 ?_
      refine lv_iconst (v := (1 : Int32)) hx hb dX2_comesCard_111 (by decide) ?_
      refine lv_iadd hx hb dX2_comesCard_112 ?_
      obtain ⟨tt_v19, ett_v19, hf⟩ := jnS hf
      refine va_put (D := D) (ci := 2) (v := .int ((tt_v18 20 0) + (1 : Int32))) (ty := .int) (C := RX2) (T := TX2) (N := 31) hx hb hts hinM tyX2 tyX2_ok nmX2 hown hK hP hD hS 0 rfl rfl 11 (by decide) lk1 (fun _ h9 => h9) rfl (by decide +kernel) rfl rfl (Nat.le_of_ble_eq_true rfl) dX2_comesCard_113 (fun H locs hP hD hS => ?_)
      have hE : _ = (wM A cI tt_v19) := ((sf_X2_t_20 A cI tt_v18 ((tt_v18 20 0) + (1 : Int32))).trans (congrArg (fun z => wM A cI z) ett_v19.symm))
      have hP : va_P D vwCl (wM A cI tt_v19) H := hE ▸ hP
      have hD : va_D G (wM A cI tt_v19) := hE ▸ hD
      refine lv_iconst (v := (1 : Int32)) hx hb dX2_comesCard_116 (by decide) ?_
      obtain rfl := Option.some.inj hf
      exact W.zret (ty := .boolean) (v := (1 : Int32)) hx hb hr rfl (fun t ht hW => ⟨⟨(1 : Int32), (), rfl, rfl, hPt ht hP⟩, hS.F ht⟩) hS.2.2 dX2_comesCard_117
    · have hf := hT hf c3
      refine lv_iconst (v := (0 : Int32)) hx hb dX2_comesCard_22 (by decide) ?_
      obtain rfl := Option.some.inj hf
      exact W.zret (ty := .boolean) (v := (0 : Int32)) hx hb hr rfl (fun t ht hW => ⟨⟨(0 : Int32), (), rfl, rfl, hPt ht hP⟩, hS.F ht⟩) hS.2.2 dX2_comesCard_23
set_option maxHeartbeats 4000000 in
set_option maxRecDepth 100000 in
theorem c_X2_comesBidder (l : Launch) (D : va_G) (cI : ClassId) (A : Nat → Nat) (j1 : Int32) (tt : HS) (out : Int32 × HS) (hf : f_X2_comesBidder j1 tt = some out) : uI l D cI yX2_comesBidder wsX2_comesBidder ({ frames := 0, cells := 0, slots := 0, locals := 0 } : Room) [.ref (A 0), .int j1] (wM A cI tt) (wM A cI out.2) out.1 := by
  intro sz
  refine Met.ofW (cc := cX2_comesBidder) (maxL := 2) (ret := (some .boolean)) (by decide) rfl ?_
  intro p e s m args below meth c s₁ Bd hml hv
  obtain ⟨rfl, hsz, hP, hK, hD0, hN⟩ := hv
  have hx := Bd.exec
  have hb := Bd.bytes
  have hr := Bd.returns
  have hts := atoms_spec (ws := wsX2_comesBidder) Bd.pre
  have hown : s.vm.findClass RX2 = some m.cls := findClass_of_methodNamed Bd.named
  have hlocks := Bd.notSynchronized
  subst hsz
  have hD := hD0.self (sz := s.heap.size)
  generalize hAe : va_A (wM A cI tt) s.heap.size = G at hD ⊢
  have hA : ∀ q : Nat, s.heap.size ≤ q → G q := fun q h => by rw [← hAe]; exact Or.inr h
  have hS : va_S G s.heap s.heap [] := va_S.rf
  have hP : va_P D vwCl (wM A cI tt) s.heap := hP
  have hl := lv_entry ([.ref (A 0), .int j1]) (n := 2) (Nat.le_of_ble_eq_true rfl)
  rw [lg_entry_eq]
  generalize (lg_sl ([.ref (A 0), .int j1]) ++ List.replicate (2 - (lg_sl ([.ref (A 0), .int j1])).length) Slot.unset).toArray = ls at hl ⊢
  have hl : lv_has ls 2 [(0, .ref (A 0)), (1, .int j1)] := hl
  have hinM : ∀ w ∈ wsX20, w ∈ wsX2_comesBidder := by decide +kernel
  have lk0 := hts (.fieldLink RX2 73 "LiesBoughtBackModel" "bidders" "I") (by decide +kernel)
  have lk1 := hts (.fieldLink RX2 31 "LiesBoughtBackModel" "kind" "[I") (by decide +kernel)
  have lk2 := hts (.fieldLink RX2 52 "LiesBoughtBackModel" "told" "[I") (by decide +kernel)
  have lk3 := hts (.fieldLink RX2 34 "LiesBoughtBackModel" "figure" "[I") (by decide +kernel)
  have lk4 := hts (.fieldLink RX2 37 "LiesBoughtBackModel" "purse" "[I") (by decide +kernel)
  have lk5 := hts (.fieldLink RX2 40 "LiesBoughtBackModel" "belief" "[I") (by decide +kernel)
  refine W_in ?_
  intro WW hWW
  refine (hWW _ _ _).mpr ?_
  unfold f_X2_comesBidder at hf
  refine lv_aload_n hx hb dX2_comesBidder_0 rfl (lv_at hl 0 rfl) ?_
  refine va_get (D := D) (ci := 2) (v := .int (tt 21 0)) (C := RX2) (T := TX2) (N := 31) hx hb hts hinM hown hK hP 0 rfl rfl 12 (by decide) lk0 (fun _ h9 => h9) rfl dX2_comesBidder_1 ?_
  refine lv_bipush (v := (6 : Int32)) hx hb dX2_comesBidder_4 (by decide) ?_
  refine lv_icmp_ne (tgt := 11) hx hb dX2_comesBidder_6 (by decide) (fun c1 => ?_) (fun c1 => ?_)
  · have hf := hF hf c1
    refine lv_aload_n hx hb dX2_comesBidder_11 rfl (lv_at hl 0 rfl) ?_
    refine va_get (D := D) (ci := 2) (v := .ref (A 8)) (C := RX2) (T := TX2) (N := 31) hx hb hts hinM hown hK hP 0 rfl rfl 7 (by decide) lk1 (fun _ h9 => h9) rfl dX2_comesBidder_12 ?_
    refine lv_aload_n hx hb dX2_comesBidder_15 rfl (lv_at hl 0 rfl) ?_
    refine va_get (D := D) (ci := 2) (v := .int (tt 21 0)) (C := RX2) (T := TX2) (N := 31) hx hb hts hinM hown hK hP 0 rfl rfl 12 (by decide) lk0 (fun _ h9 => h9) rfl dX2_comesBidder_16 ?_
    refine lv_aload_n hx hb dX2_comesBidder_19 rfl (lv_at hl 0 rfl) ?_
    refine va_get (D := D) (ci := 2) (v := .ref (A 15)) (C := RX2) (T := TX2) (N := 31) hx hb hts hinM hown hK hP 0 rfl rfl 17 (by decide) lk2 (fun _ h9 => h9) rfl dX2_comesBidder_20 ?_
    refine lv_iload_n hx hb dX2_comesBidder_23 rfl (lv_at hl 1 rfl) ?_
    obtain ⟨v2, he, hf⟩ := bS hf
    refine x_iald hx hb hK hP 15 (n := 144) rfl he dX2_comesBidder_24 ?_
    obtain ⟨v3, he, hf⟩ := bS hf
    obtain ⟨tt_v4, ett_v4, hf⟩ := jnS hf
    refine x_iast (ws' := (wM A cI tt_v4)) hx hb hK hP hD hS 8 (n := 6) rfl he ((sa_X2_t_7 A cI tt v3).trans (congrArg (fun z => wM A cI z) ett_v4.symm)) dX2_comesBidder_25 (fun H locs hP hD hS => ?_)
    refine lv_aload_n hx hb dX2_comesBidder_26 rfl (lv_at hl 0 rfl) ?_
    refine va_get (D := D) (ci := 2) (v := .ref (A 9)) (C := RX2) (T := TX2) (N := 31) hx hb hts hinM hown hK hP 0 rfl rfl 8 (by decide) lk3 (fun _ h9 => h9) rfl dX2_comesBidder_27 ?_
    refine lv_aload_n hx hb dX2_comesBidder_30 rfl (lv_at hl 0 rfl) ?_
    refine va_get (D := D) (ci := 2) (v := .int (tt_v4 21 0)) (C := RX2) (T := TX2) (N := 31) hx hb hts hinM hown hK hP 0 rfl rfl 12 (by decide) lk0 (fun _ h9 => h9) rfl dX2_comesBidder_31 ?_
    refine lv_aload_n hx hb dX2_comesBidder_34 rfl (lv_at hl 0 rfl) ?_
    refine va_get (D := D) (ci := 2) (v := .ref (A 15)) (C := RX2) (T := TX2) (N := 31) hx hb hts hinM hown hK hP 0 rfl rfl 17 (by decide) lk2 (fun _ h9 => h9) rfl dX2_comesBidder_35 ?_
    refine lv_iload_n hx hb dX2_comesBidder_38 rfl (lv_at hl 1 rfl) ?_
    refine lv_iconst (v := (1 : Int32)) hx hb dX2_comesBidder_39 (by decide) ?_
    refine lv_iadd hx hb dX2_comesBidder_40 ?_
    obtain ⟨v5, he, hf⟩ := bS hf
    refine x_iald hx hb hK hP 15 (n := 144) rfl he dX2_comesBidder_41 ?_
    obtain ⟨v6, he, hf⟩ := bS hf
    obtain ⟨tt_v7, ett_v7, hf⟩ := jnS hf
    refine x_iast (ws' := (wM A cI tt_v7)) hx hb hK hP hD hS 9 (n := 6) rfl he ((sa_X2_t_8 A cI tt_v4 v6).trans (congrArg (fun z => wM A cI z) ett_v7.symm)) dX2_comesBidder_42 (fun H locs hP hD hS => ?_)
    refine lv_aload_n hx hb dX2_comesBidder_43 rfl (lv_at hl 0 rfl) ?_
    refine va_get (D := D) (ci := 2) (v := .ref (A 10)) (C := RX2) (T := TX2) (N := 31) hx hb hts hinM hown hK hP 0 rfl rfl 9 (by decide) lk4 (fun _ h9 => h9) rfl dX2_comesBidder_44 ?_
    refine lv_aload_n hx hb dX2_comesBidder_47 rfl (lv_at hl 0 rfl) ?_
    refine va_get (D := D) (ci := 2) (v := .int (tt_v7 21 0)) (C := RX2) (T := TX2) (N := 31) hx hb hts hinM hown hK hP 0 rfl rfl 12 (by decide) lk0 (fun _ h9 => h9) rfl dX2_comesBidder_48 ?_
    refine lv_aload_n hx hb dX2_comesBidder_51 rfl (lv_at hl 0 rfl) ?_
    refine va_get (D := D) (ci := 2) (v := .ref (A 15)) (C := RX2) (T := TX2) (N := 31) hx hb hts hinM hown hK hP 0 rfl rfl 17 (by decide) lk2 (fun _ h9 => h9) rfl dX2_comesBidder_52 ?_
    refine lv_iload_n hx hb dX2_comesBidder_55 rfl (lv_at hl 1 rfl) ?_
    refine lv_iconst (v := (2 : Int32)) hx hb dX2_comesBidder_56 (by decide) ?_
    refine lv_iadd hx hb dX2_comesBidder_57 ?_
    obtain ⟨v8, he, hf⟩ := bS hf
    refine x_iald hx hb hK hP 15 (n := 144) rfl he dX2_comesBidder_58 ?_
    obtain ⟨v9, he, hf⟩ := bS hf
    obtain ⟨tt_v10, ett_v10, hf⟩ := jnS hf
    refine x_iast (ws' := (wM A cI tt_v10)) hx hb hK hP hD hS 10 (n := 6) rfl he ((sa_X2_t_9 A cI tt_v7 v9).trans (congrArg (fun z => wM A cI z) ett_v10.symm)) dX2_comesBidder_59 (fun H locs hP hD hS => ?_)
    refine lv_aload_n hx hb dX2_comesBidder_60 rfl (lv_at hl 0 rfl) ?_
    refine va_get (D := D) (ci := 2) (v := .ref (A 11)) (C := RX2) (T := TX2) (N := 31) hx hb hts hinM hown hK hP 0 rfl rfl 10 (by decide) lk5 (fun _ h9 => h9) rfl dX2_comesBidder_61 ?_
    refine lv_aload_n hx hb dX2_comesBidder_64 rfl (lv_at hl 0 rfl) ?_
    refine va_get (D := D) (ci := 2) (v := .int (tt_v10 21 0)) (C := RX2) (T := TX2) (N := 31) hx hb hts hinM hown hK hP 0 rfl rfl 12 (by decide) lk0 (fun _ h9 => h9) rfl dX2_comesBidder_65 ?_
    refine lv_bipush (v := (50 : Int32)) hx hb dX2_comesBidder_68 (by decide) ?_
    obtain ⟨v11, he, hf⟩ := bS hf
    obtain ⟨tt_v12, ett_v12, hf⟩ := jnS hf
    refine x_iast (ws' := (wM A cI tt_v12)) hx hb hK hP hD hS 11 (n := 6) rfl he ((sa_X2_t_10 A cI tt_v10 v11).trans (congrArg (fun z => wM A cI z) ett_v12.symm)) dX2_comesBidder_70 (fun H locs hP hD hS => ?_)
    refine lv_aload_n hx hb dX2_comesBidder_71 rfl (lv_at hl 0 rfl) ?_
    refine lv_dup hx hb dX2_comesBidder_72 rfl ?_
    refine va_get (D := D) (ci := 2) (v := .int (tt_v12 21 0)) (C := RX2) (T := TX2) (N := 31) hx hb hts hinM hown hK hP 0 rfl rfl 12 (by decide) lk0 (fun _ h9 => h9) rfl dX2_comesBidder_73 ?_
    refine lv_iconst (v := (1 : Int32)) hx hb dX2_comesBidder_76 (by decide) ?_
    refine lv_iadd hx hb dX2_comesBidder_77 ?_
    obtain ⟨tt_v13, ett_v13, hf⟩ := jnS hf
    refine va_put (D := D) (ci := 2) (v := .int ((tt_v12 21 0) + (1 : Int32))) (ty := .int) (C := RX2) (T := TX2) (N := 31) hx hb hts hinM tyX2 tyX2_ok nmX2 hown hK hP hD hS 0 rfl rfl 12 (by decide) lk0 (fun _ h9 => h9) rfl (by decide +kernel) rfl rfl (Nat.le_of_ble_eq_true rfl) dX2_comesBidder_78 (fun H locs hP hD hS => ?_)
    have hE : _ = (wM A cI tt_v13) := ((sf_X2_t_21 A cI tt_v12 ((tt_v12 21 0) + (1 : Int32))).trans (congrArg (fun z => wM A cI z) ett_v13.symm))
    have hP : va_P D vwCl (wM A cI tt_v13) H := hE ▸ hP
    have hD : va_D G (wM A cI tt_v13) := hE ▸ hD
    refine lv_iconst (v := (1 : Int32)) hx hb dX2_comesBidder_81 (by decide) ?_
    obtain rfl := Option.some.inj hf
    exact W.zret (ty := .boolean) (v := (1 : Int32)) hx hb hr rfl (fun t ht hW => ⟨⟨(1 : Int32), (), rfl, rfl, hPt ht hP⟩, hS.F ht⟩) hS.2.2 dX2_comesBidder_82
  · have hf := hT hf c1
    refine lv_iconst (v := (0 : Int32)) hx hb dX2_comesBidder_9 (by decide) ?_
    obtain rfl := Option.some.inj hf
    exact W.zret (ty := .boolean) (v := (0 : Int32)) hx hb hr rfl (fun t ht hW => ⟨⟨(0 : Int32), (), rfl, rfl, hPt ht hP⟩, hS.F ht⟩) hS.2.2 dX2_comesBidder_10
set_option maxHeartbeats 4000000 in
set_option maxRecDepth 100000 in
theorem c_X2_placeOf (l : Launch) (D : va_G) (cI : ClassId) (A : Nat → Nat) (j1 : Int32) (tt : HS) (out : Int32) (hf : f_X2_placeOf j1 tt = some out) : uI l D cI yX2_placeOf wsX2_placeOf ({ frames := 0, cells := 0, slots := 0, locals := 0 } : Room) [.ref (A 0), .int j1] (wM A cI tt) (wM A cI tt) out := by
  intro sz
  refine Met.ofW (cc := cX2_placeOf) (maxL := 3) (ret := (some .int)) (by decide) rfl ?_
  intro p e s m args below meth c s₁ Bd hml hv
  obtain ⟨rfl, hsz, hP, hK, hD0, hN⟩ := hv
  have hx := Bd.exec
  have hb := Bd.bytes
  have hr := Bd.returns
  have hts := atoms_spec (ws := wsX2_placeOf) Bd.pre
  have hown : s.vm.findClass RX2 = some m.cls := findClass_of_methodNamed Bd.named
  have hlocks := Bd.notSynchronized
  subst hsz
  have hD := hD0.self (sz := s.heap.size)
  generalize hAe : va_A (wM A cI tt) s.heap.size = G at hD ⊢
  have hA : ∀ q : Nat, s.heap.size ≤ q → G q := fun q h => by rw [← hAe]; exact Or.inr h
  have hS : va_S G s.heap s.heap [] := va_S.rf
  have hP : va_P D vwCl (wM A cI tt) s.heap := hP
  have hl := lv_entry ([.ref (A 0), .int j1]) (n := 3) (Nat.le_of_ble_eq_true rfl)
  rw [lg_entry_eq]
  generalize (lg_sl ([.ref (A 0), .int j1]) ++ List.replicate (3 - (lg_sl ([.ref (A 0), .int j1])).length) Slot.unset).toArray = ls at hl ⊢
  have hl : lv_has ls 3 [(0, .ref (A 0)), (1, .int j1)] := hl
  have hinM : ∀ w ∈ wsX20, w ∈ wsX2_placeOf := by decide +kernel
  have lk0 := hts (.fieldLink RX2 28 "LiesBoughtBackModel" "order" "[I") (by decide +kernel)
  refine W_in ?_
  intro WW hWW
  refine (hWW _ _ _).mpr ?_
  unfold f_X2_placeOf at hf
  refine lv_iconst (v := (0 : Int32)) hx hb dX2_placeOf_0 (by decide) ?_
  refine lv_istore_n (lv' := [(2, .int (0 : Int32)), (0, .ref (A 0)), (1, .int j1)]) hx hb dX2_placeOf_1 rfl hl (by decide) rfl (fun ls hl => ?_)
  obtain ⟨K18, hK18, hf⟩ := jnS hf
  have J18 : ∀ (j2_18 : Int32) (H : Heap) (locs : List Loc) (ls : Array Slot), K18 j2_18 = some out → va_P D vwCl (wM A cI tt) H → va_D G (wM A cI tt) → va_S G s.heap H locs → lv_has ls 3 [(2, .int j2_18)] → WW H locs (F0 m 18 ls []) := by
    intro j2_18 H locs ls hf hP hD hS hl
    subst hK18
    refine (hWW _ _ _).mpr ?_
    refine lv_iload_n hx hb dX2_placeOf_18 rfl (lv_at hl 0 rfl) ?_
    obtain rfl := Option.some.inj hf
    exact W.iret (v := j2_18) hx hb hr (fun t ht hW => ⟨⟨j2_18, (), rfl, rfl, hPt ht hP⟩, hS.F ht⟩) hS.2.2 dX2_placeOf_19
  have P2 : ∀ (n' : Nat) (j2_2 : Int32) (H : Heap) (locs : List Loc) (ls : Array Slot), L_X2_placeOf_2 j1 tt K18 n' j2_2 = some out → va_P D vwCl (wM A cI tt) H → va_D G (wM A cI tt) → va_S G s.heap H locs → lv_has ls 3 [(0, .ref (A 0)), (1, .int j1), (2, .int j2_2)] → WW H locs (F0 m 2 ls []) := by
    intro n'
    induction n' with
    | zero => intro j2_2 H locs ls hf; exact absurd (show (none : Option (Int32)) = some out from hf) (fun q => by cases q)
    | succ n' ih =>
      intro j2_2 H locs ls hf hP hD hS hl
      rw [L_X2_placeOf_2] at hf
      refine (hWW _ _ _).mpr ?_
      refine lv_aload_n hx hb dX2_placeOf_2 rfl (lv_at hl 0 rfl) ?_
      refine va_get (D := D) (ci := 2) (v := .ref (A 7)) (C := RX2) (T := TX2) (N := 31) hx hb hts hinM hown hK hP 0 rfl rfl 6 (by decide) lk0 (fun _ h9 => h9) rfl dX2_placeOf_3 ?_
      refine lv_iload_n hx hb dX2_placeOf_6 rfl (lv_at hl 2 rfl) ?_
      obtain ⟨v1, he, hf⟩ := bS hf
      refine x_iald hx hb hK hP 7 (n := 8) rfl he dX2_placeOf_7 ?_
      refine lv_iload_n hx hb dX2_placeOf_8 rfl (lv_at hl 1 rfl) ?_
      refine lv_icmp_eq (tgt := 18) hx hb dX2_placeOf_9 (by decide) (fun c2 => ?_) (fun c2 => ?_)
      · have hf := hT hf c2
        exact (hWW _ _ _).mp (J18 _ _ _ _ hf hP hD hS (lv_sub hl [2] rfl))
      · have hf := hF hf c2
        refine lv_iinc (v := (j2_2 + (1 : Int32))) (lv' := [(2, .int (j2_2 + (1 : Int32))), (0, .ref (A 0)), (1, .int j1)]) hx hb dX2_placeOf_12 hl (k := 2) rfl rfl (by decide) rfl (fun ls hl => ?_)
        refine lv_goto (tgt := 2) hx hb dX2_placeOf_15 (by decide) ?_
        exact (hWW _ _ _).mp (ih _ _ _ _ hf hP hD hS (lv_sub hl [1, 2, 0] rfl))
  exact (hWW _ _ _).mp (P2 _ _ _ _ _ hf hP hD hS (lv_sub hl [1, 2, 0] rfl))
set_option maxHeartbeats 4000000 in
set_option maxRecDepth 100000 in
theorem c_X2_changesPlaces (l : Launch) (D : va_G) (cI : ClassId) (A : Nat → Nat) (j1 : Int32) (j2 : Int32) (tt : HS) (out : HS) (hf : f_X2_changesPlaces j1 j2 tt = some out) : uV l D cI yX2_changesPlaces wsX2_changesPlaces ({ frames := 1, cells := 0, slots := 0, locals := 22 } : Room) [.ref (A 0), .int j1, .int j2] (wM A cI tt) (wM A cI out) := by
  intro sz
  refine Met.ofW (cc := cX2_changesPlaces) (maxL := 5) (ret := none) (by decide) rfl ?_
  intro p e s m args below meth c s₁ Bd hml hv
  obtain ⟨rfl, hsz, hP, hK, hD0, hN⟩ := hv
  have hx := Bd.exec
  have hb := Bd.bytes
  have hr := Bd.returns
  have hts := atoms_spec (ws := wsX2_changesPlaces) Bd.pre
  have hown : s.vm.findClass RX2 = some m.cls := findClass_of_methodNamed Bd.named
  have hlocks := Bd.notSynchronized
  subst hsz
  have hD := hD0.self (sz := s.heap.size)
  generalize hAe : va_A (wM A cI tt) s.heap.size = G at hD ⊢
  have hA : ∀ q : Nat, s.heap.size ≤ q → G q := fun q h => by rw [← hAe]; exact Or.inr h
  have hS : va_S G s.heap s.heap [] := va_S.rf
  have hP : va_P D vwCl (wM A cI tt) s.heap := hP
  have hl := lv_entry ([.ref (A 0), .int j1, .int j2]) (n := 5) (Nat.le_of_ble_eq_true rfl)
  rw [lg_entry_eq]
  generalize (lg_sl ([.ref (A 0), .int j1, .int j2]) ++ List.replicate (5 - (lg_sl ([.ref (A 0), .int j1, .int j2])).length) Slot.unset).toArray = ls at hl ⊢
  have hl : lv_has ls 5 [(0, .ref (A 0)), (1, .int j1), (2, .int j2)] := hl
  have hinM : ∀ w ∈ wsX20, w ∈ wsX2_changesPlaces := by decide +kernel
  have lk0 := hts (.fieldLink RX2 28 "LiesBoughtBackModel" "order" "[I") (by decide +kernel)
  refine W_in ?_
  intro WW hWW
  refine (hWW _ _ _).mpr ?_
  unfold f_X2_changesPlaces at hf
  refine lv_aload_n hx hb dX2_changesPlaces_0 rfl (lv_at hl 0 rfl) ?_
  refine lv_iload_n hx hb dX2_changesPlaces_1 rfl (lv_at hl 1 rfl) ?_
  obtain ⟨v1, hev1, hf⟩ := bS hf
  refine qV_i (As := [.int j1]) (rest := []) ⟨hx, hb, hml, hown, hts⟩ hK hN hA hP hD hS (c_X2_placeOf l D cI A j1 tt v1 hev1) (cwV 1 hts gX2_changesPlaces_X2_placeOf rfl rfl rfl hd_X2_placeOf ⟨Nat.le_of_ble_eq_true rfl, Nat.le_of_ble_eq_true rfl⟩) (va_recv hK hP (ci := 2) (q0 := 0) rfl rfl) (bq_X2_X2_t A cI tt) rfl hl.1 rfl (Nat.le_of_ble_eq_true rfl) dX2_changesPlaces_2 ⟨Nat.le_of_ble_eq_true rfl, Nat.le_of_ble_eq_true rfl⟩ (fun H locs hP hD hS => ?_)
  refine lv_istore_n (lv' := [(3, .int v1), (0, .ref (A 0)), (1, .int j1), (2, .int j2)]) hx hb dX2_changesPlaces_5 rfl hl (by decide) rfl (fun ls hl => ?_)
  refine lv_aload_n hx hb dX2_changesPlaces_6 rfl (lv_at hl 1 rfl) ?_
  refine lv_iload_n hx hb dX2_changesPlaces_7 rfl (lv_at hl 3 rfl) ?_
  obtain ⟨v2, hev2, hf⟩ := bS hf
  refine qV_i (As := [.int j2]) (rest := []) ⟨hx, hb, hml, hown, hts⟩ hK hN hA hP hD hS (c_X2_placeOf l D cI A j2 tt v2 hev2) (cwV 1 hts gX2_changesPlaces_X2_placeOf rfl rfl rfl hd_X2_placeOf ⟨Nat.le_of_ble_eq_true rfl, Nat.le_of_ble_eq_true rfl⟩) (va_recv hK hP (ci := 2) (q0 := 0) rfl rfl) (bq_X2_X2_t A cI tt) rfl hl.1 rfl (Nat.le_of_ble_eq_true rfl) dX2_changesPlaces_8 ⟨Nat.le_of_ble_eq_true rfl, Nat.le_of_ble_eq_true rfl⟩ (fun H locs hP hD hS => ?_)
  refine lv_istore (lv' := [(4, .int v2), (3, .int v1), (0, .ref (A 0)), (1, .int j1), (2, .int j2)]) hx hb dX2_changesPlaces_11 hl (by decide) rfl (fun ls hl => ?_)
  refine lv_aload_n hx hb dX2_changesPlaces_13 rfl (lv_at hl 2 rfl) ?_
  refine va_get (D := D) (ci := 2) (v := .ref (A 7)) (C := RX2) (T := TX2) (N := 31) hx hb hts hinM hown hK hP 0 rfl rfl 6 (by decide) lk0 (fun _ h9 => h9) rfl dX2_changesPlaces_14 ?_
  refine lv_iload_n hx hb dX2_changesPlaces_17 rfl (lv_at hl 1 rfl) ?_
  refine lv_iload_n hx hb dX2_changesPlaces_18 rfl (lv_at hl 4 rfl) ?_
  obtain ⟨v3, he, hf⟩ := bS hf
  obtain ⟨tt_v4, ett_v4, hf⟩ := jnS hf
  refine x_iast (ws' := (wM A cI tt_v4)) hx hb hK hP hD hS 7 (n := 8) rfl he ((sa_X2_t_6 A cI tt v3).trans (congrArg (fun z => wM A cI z) ett_v4.symm)) dX2_changesPlaces_19 (fun H locs hP hD hS => ?_)
  refine lv_aload_n hx hb dX2_changesPlaces_20 rfl (lv_at hl 2 rfl) ?_
  refine va_get (D := D) (ci := 2) (v := .ref (A 7)) (C := RX2) (T := TX2) (N := 31) hx hb hts hinM hown hK hP 0 rfl rfl 6 (by decide) lk0 (fun _ h9 => h9) rfl dX2_changesPlaces_21 ?_
  refine lv_iload hx hb dX2_changesPlaces_24 (lv_at hl 0 rfl) ?_
  refine lv_iload_n hx hb dX2_changesPlaces_26 rfl (lv_at hl 3 rfl) ?_
  obtain ⟨v5, he, hf⟩ := bS hf
  obtain ⟨tt_v6, ett_v6, hf⟩ := jnS hf
  refine x_iast (ws' := (wM A cI tt_v6)) hx hb hK hP hD hS 7 (n := 8) rfl he ((sa_X2_t_6 A cI tt_v4 v5).trans (congrArg (fun z => wM A cI z) ett_v6.symm)) dX2_changesPlaces_27 (fun H locs hP hD hS => ?_)
  obtain rfl := Option.some.inj hf
  exact W.vret hx hb hr (fun t ht hW => ⟨⟨(), rfl, trivial, hPt ht hP⟩, hS.F ht⟩) hS.2.2 dX2_changesPlaces_28
set_option maxHeartbeats 4000000 in
set_option maxRecDepth 100000 in
theorem c_X2_comesOf (l : Launch) (D : va_G) (cI : ClassId) (A : Nat → Nat) (j1 : Int32) (j2 : Int32) (j3 : Int32) (tt : HS) (out : Int32 × HS) (hf : f_X2_comesOf j1 j2 j3 tt = some out) : uI l D cI yX2_comesOf wsX2_comesOf ({ frames := 2, cells := 0, slots := 0, locals := 46 } : Room) [.ref (A 0), .int j1, .int j2, .int j3] (wM A cI tt) (wM A cI out.2) out.1 := by
  intro sz
  refine Met.ofW (cc := cX2_comesOf) (maxL := 4) (ret := (some .boolean)) (by decide) rfl ?_
  intro p e s m args below meth c s₁ Bd hml hv
  obtain ⟨rfl, hsz, hP, hK, hD0, hN⟩ := hv
  have hx := Bd.exec
  have hb := Bd.bytes
  have hr := Bd.returns
  have hts := atoms_spec (ws := wsX2_comesOf) Bd.pre
  have hown : s.vm.findClass RX2 = some m.cls := findClass_of_methodNamed Bd.named
  have hlocks := Bd.notSynchronized
  subst hsz
  have hD := hD0.self (sz := s.heap.size)
  generalize hAe : va_A (wM A cI tt) s.heap.size = G at hD ⊢
  have hA : ∀ q : Nat, s.heap.size ≤ q → G q := fun q h => by rw [← hAe]; exact Or.inr h
  have hS : va_S G s.heap s.heap [] := va_S.rf
  have hP : va_P D vwCl (wM A cI tt) s.heap := hP
  have hl := lv_entry ([.ref (A 0), .int j1, .int j2, .int j3]) (n := 4) (Nat.le_of_ble_eq_true rfl)
  rw [lg_entry_eq]
  generalize (lg_sl ([.ref (A 0), .int j1, .int j2, .int j3]) ++ List.replicate (4 - (lg_sl ([.ref (A 0), .int j1, .int j2, .int j3])).length) Slot.unset).toArray = ls at hl ⊢
  have hl : lv_has ls 4 [(0, .ref (A 0)), (1, .int j1), (2, .int j2), (3, .int j3)] := hl
  have hinM : ∀ w ∈ wsX20, w ∈ wsX2_comesOf := by decide +kernel
  have lk0 := hts (.fieldLink RX2 25 "LiesBoughtBackModel" "holder" "[I") (by decide +kernel)
  refine W_in ?_
  intro WW hWW
  refine (hWW _ _ _).mpr ?_
  unfold f_X2_comesOf at hf
  refine lv_aload_n hx hb dX2_comesOf_0 rfl (lv_at hl 0 rfl) ?_
  refine lv_iload_n hx hb dX2_comesOf_1 rfl (lv_at hl 2 rfl) ?_
  refine qV_i (As := [.int j2]) (rest := []) ⟨hx, hb, hml, hown, hts⟩ hK hN hA hP hD hS (c_X2_isCard l D cI A j2 tt (f_X2_isCard j2 tt) rfl) (cwV 1 hts gX2_comesOf_X2_isCard rfl rfl rfl hd_X2_isCard ⟨Nat.le_of_ble_eq_true rfl, Nat.le_of_ble_eq_true rfl⟩) (va_recv hK hP (ci := 2) (q0 := 0) rfl rfl) (bq_X2_X2_t A cI tt) rfl hl.1 rfl (Nat.le_of_ble_eq_true rfl) dX2_comesOf_2 ⟨Nat.le_of_ble_eq_true rfl, Nat.le_of_ble_eq_true rfl⟩ (fun H locs hP hD hS => ?_)
  refine lv_if_eq (tgt := 41) hx hb dX2_comesOf_5 (by decide) (fun c1 => ?_) (fun c1 => ?_)
  · have hf := hT hf c1
    refine lv_iconst (v := (0 : Int32)) hx hb dX2_comesOf_41 (by decide) ?_
    obtain rfl := Option.some.inj hf
    exact W.zret (ty := .boolean) (v := (0 : Int32)) hx hb hr rfl (fun t ht hW => ⟨⟨(0 : Int32), (), rfl, rfl, hPt ht hP⟩, hS.F ht⟩) hS.2.2 dX2_comesOf_42
  · have hf := hF hf c1
    refine lv_iload_n hx hb dX2_comesOf_8 rfl (lv_at hl 1 rfl) ?_
    refine lv_bipush (v := (120 : Int32)) hx hb dX2_comesOf_9 (by decide) ?_
    obtain ⟨K27, hK27, hf⟩ := jnS hf
    have J27 : ∀ (tt_27 : HS) (H : Heap) (locs : List Loc) (ls : Array Slot), K27 tt_27 = some out → va_P D vwCl (wM A cI tt_27) H → va_D G (wM A cI tt_27) → va_S G s.heap H locs → lv_has ls 4 [(0, .ref (A 0)), (1, .int j1), (2, .int j2), (3, .int j3)] → WW H locs (F0 m 27 ls []) := by
      intro tt_27 H locs ls hf hP hD hS hl
      subst hK27
      refine (hWW _ _ _).mpr ?_
      refine lv_iload_n hx hb dX2_comesOf_27 rfl (lv_at hl 1 rfl) ?_
      refine lv_bipush (v := (103 : Int32)) hx hb dX2_comesOf_28 (by decide) ?_
      obtain ⟨K43, hK43, hf⟩ := jnS hf
      have J43 : ∀ (tt_43 : HS) (H : Heap) (locs : List Loc) (ls : Array Slot), K43 tt_43 = some out → va_P D vwCl (wM A cI tt_43) H → va_D G (wM A cI tt_43) → va_S G s.heap H locs → lv_has ls 4 [(0, .ref (A 0)), (1, .int j1), (2, .int j2), (3, .int j3)] → WW H locs (F0 m 43 ls []) := by
        intro tt_43 H locs ls hf hP hD hS hl
        subst hK43
        refine (hWW _ _ _).mpr ?_
        refine lv_iload_n hx hb dX2_comesOf_43 rfl (lv_at hl 1 rfl) ?_
        refine lv_bipush (v := (120 : Int32)) hx hb dX2_comesOf_44 (by decide) ?_
        refine lv_icmp_ne (tgt := 58) hx hb dX2_comesOf_46 (by decide) (fun c2 => ?_) (fun c2 => ?_)
        · have hf := hF hf c2
          refine lv_aload_n hx hb dX2_comesOf_58 rfl (lv_at hl 0 rfl) ?_
          refine va_get (D := D) (ci := 2) (v := .ref (A 6)) (C := RX2) (T := TX2) (N := 31) hx hb hts hinM hown hK hP 0 rfl rfl 5 (by decide) lk0 (fun _ h9 => h9) rfl dX2_comesOf_59 ?_
          refine lv_iload_n hx hb dX2_comesOf_62 rfl (lv_at hl 2 rfl) ?_
          refine lv_iload_n hx hb dX2_comesOf_63 rfl (lv_at hl 1 rfl) ?_
          refine lv_bipush (v := (103 : Int32)) hx hb dX2_comesOf_64 (by decide) ?_
          refine lv_icmp_ne (tgt := 75) hx hb dX2_comesOf_66 (by decide) (fun c3 => ?_) (fun c3 => ?_)
          · have hf := hF hf c3
            refine lv_iconst (v := (0 : Int32)) hx hb dX2_comesOf_75 (by decide) ?_
            obtain ⟨v4, he, hf⟩ := bS hf
            obtain ⟨tt_v5, ett_v5, hf⟩ := jnS hf
            refine x_iast (ws' := (wM A cI tt_v5)) hx hb hK hP hD hS 6 (n := 8) rfl he ((sa_X2_t_5 A cI tt_43 v4).trans (congrArg (fun z => wM A cI z) ett_v5.symm)) dX2_comesOf_76 (fun H locs hP hD hS => ?_)
            refine lv_iconst (v := (1 : Int32)) hx hb dX2_comesOf_77 (by decide) ?_
            obtain rfl := Option.some.inj hf
            exact W.zret (ty := .boolean) (v := (1 : Int32)) hx hb hr rfl (fun t ht hW => ⟨⟨(1 : Int32), (), rfl, rfl, hPt ht hP⟩, hS.F ht⟩) hS.2.2 dX2_comesOf_78
          · have hf := hT hf c3
            refine lv_iload_n hx hb dX2_comesOf_69 rfl (lv_at hl 3 rfl) ?_
            refine lv_iconst (v := (1 : Int32)) hx hb dX2_comesOf_70 (by decide) ?_
            refine lv_iadd hx hb dX2_comesOf_71 ?_
            refine lv_goto (tgt := 76) hx hb dX2_comesOf_72 (by decide) ?_
            obtain ⟨v6, he, hf⟩ := bS hf
            obtain ⟨tt_v7, ett_v7, hf⟩ := jnS hf
            refine x_iast (ws' := (wM A cI tt_v7)) hx hb hK hP hD hS 6 (n := 8) rfl he ((sa_X2_t_5 A cI tt_43 v6).trans (congrArg (fun z => wM A cI z) ett_v7.symm)) dX2_comesOf_76 (fun H locs hP hD hS => ?_)
            refine lv_iconst (v := (1 : Int32)) hx hb dX2_comesOf_77 (by decide) ?_
            obtain rfl := Option.some.inj hf
            exact W.zret (ty := .boolean) (v := (1 : Int32)) hx hb hr rfl (fun t ht hW => ⟨⟨(1 : Int32), (), rfl, rfl, hPt ht hP⟩, hS.F ht⟩) hS.2.2 dX2_comesOf_78
        · have hf := hT hf c2
          refine lv_aload_n hx hb dX2_comesOf_49 rfl (lv_at hl 0 rfl) ?_
          refine lv_iload_n hx hb dX2_comesOf_50 rfl (lv_at hl 2 rfl) ?_
          refine lv_iload_n hx hb dX2_comesOf_51 rfl (lv_at hl 3 rfl) ?_
          obtain ⟨v8, hev8, hf⟩ := bS hf
          refine qV_v (ws' := (wM A cI v8)) (As := [.int j2, .int j3]) (rest := []) ⟨hx, hb, hml, hown, hts⟩ hK hN hA hP hD hS (c_X2_changesPlaces l D cI A j2 j3 tt_43 v8 hev8) (cwV 2 hts gX2_comesOf_X2_changesPlaces rfl rfl rfl hd_X2_changesPlaces ⟨Nat.le_of_ble_eq_true rfl, Nat.le_of_ble_eq_true rfl⟩) (va_recv hK hP (ci := 2) (q0 := 0) rfl rfl) (bp_X2_X2_t_t A cI tt_43 v8) rfl hl.1 rfl (Nat.le_of_ble_eq_true rfl) dX2_comesOf_52 ⟨Nat.le_of_ble_eq_true rfl, Nat.le_of_ble_eq_true rfl⟩ (fun H locs hP hD hS => ?_)
          have hP : va_P D vwCl (wM A cI v8) H := hP
          refine lv_goto (tgt := 77) hx hb dX2_comesOf_55 (by decide) ?_
          refine lv_iconst (v := (1 : Int32)) hx hb dX2_comesOf_77 (by decide) ?_
          obtain rfl := Option.some.inj hf
          exact W.zret (ty := .boolean) (v := (1 : Int32)) hx hb hr rfl (fun t ht hW => ⟨⟨(1 : Int32), (), rfl, rfl, hPt ht hP⟩, hS.F ht⟩) hS.2.2 dX2_comesOf_78
      refine lv_icmp_ne (tgt := 43) hx hb dX2_comesOf_30 (by decide) (fun c9 => ?_) (fun c9 => ?_)
      · have hf := hF hf c9
        exact (hWW _ _ _).mp (J43 _ _ _ _ hf hP hD hS (lv_sub hl [0, 1, 2, 3] rfl))
      · have hf := hT hf c9
        refine lv_aload_n hx hb dX2_comesOf_33 rfl (lv_at hl 0 rfl) ?_
        refine lv_iload_n hx hb dX2_comesOf_34 rfl (lv_at hl 3 rfl) ?_
        refine qV_i (As := [.int j3]) (rest := []) ⟨hx, hb, hml, hown, hts⟩ hK hN hA hP hD hS (c_X2_isBidder l D cI A j3 tt_27 (f_X2_isBidder j3 tt_27) rfl) (cwV 1 hts gX2_comesOf_X2_isBidder rfl rfl rfl hd_X2_isBidder ⟨Nat.le_of_ble_eq_true rfl, Nat.le_of_ble_eq_true rfl⟩) (va_recv hK hP (ci := 2) (q0 := 0) rfl rfl) (bq_X2_X2_t A cI tt_27) rfl hl.1 rfl (Nat.le_of_ble_eq_true rfl) dX2_comesOf_35 ⟨Nat.le_of_ble_eq_true rfl, Nat.le_of_ble_eq_true rfl⟩ (fun H locs hP hD hS => ?_)
        refine lv_if_ne (tgt := 43) hx hb dX2_comesOf_38 (by decide) (fun c10 => ?_) (fun c10 => ?_)
        · have hf := hF hf c10
          exact (hWW _ _ _).mp (J43 _ _ _ _ hf hP hD hS (lv_sub hl [0, 1, 2, 3] rfl))
        · have hf := hT hf c10
          refine lv_iconst (v := (0 : Int32)) hx hb dX2_comesOf_41 (by decide) ?_
          obtain rfl := Option.some.inj hf
          exact W.zret (ty := .boolean) (v := (0 : Int32)) hx hb hr rfl (fun t ht hW => ⟨⟨(0 : Int32), (), rfl, rfl, hPt ht hP⟩, hS.F ht⟩) hS.2.2 dX2_comesOf_42
    refine lv_icmp_ne (tgt := 27) hx hb dX2_comesOf_11 (by decide) (fun c11 => ?_) (fun c11 => ?_)
    · have hf := hF hf c11
      exact (hWW _ _ _).mp (J27 _ _ _ _ hf hP hD hS (lv_sub hl [0, 1, 2, 3] rfl))
    · have hf := hT hf c11
      refine lv_aload_n hx hb dX2_comesOf_14 rfl (lv_at hl 0 rfl) ?_
      refine lv_iload_n hx hb dX2_comesOf_15 rfl (lv_at hl 3 rfl) ?_
      refine qV_i (As := [.int j3]) (rest := []) ⟨hx, hb, hml, hown, hts⟩ hK hN hA hP hD hS (c_X2_isCard l D cI A j3 tt (f_X2_isCard j3 tt) rfl) (cwV 1 hts gX2_comesOf_X2_isCard rfl rfl rfl hd_X2_isCard ⟨Nat.le_of_ble_eq_true rfl, Nat.le_of_ble_eq_true rfl⟩) (va_recv hK hP (ci := 2) (q0 := 0) rfl rfl) (bq_X2_X2_t A cI tt) rfl hl.1 rfl (Nat.le_of_ble_eq_true rfl) dX2_comesOf_16 ⟨Nat.le_of_ble_eq_true rfl, Nat.le_of_ble_eq_true rfl⟩ (fun H locs hP hD hS => ?_)
      refine lv_if_eq (tgt := 41) hx hb dX2_comesOf_19 (by decide) (fun c12 => ?_) (fun c12 => ?_)
      · have hf := hT hf c12
        refine lv_iconst (v := (0 : Int32)) hx hb dX2_comesOf_41 (by decide) ?_
        obtain rfl := Option.some.inj hf
        exact W.zret (ty := .boolean) (v := (0 : Int32)) hx hb hr rfl (fun t ht hW => ⟨⟨(0 : Int32), (), rfl, rfl, hPt ht hP⟩, hS.F ht⟩) hS.2.2 dX2_comesOf_42
      · have hf := hF hf c12
        refine lv_iload_n hx hb dX2_comesOf_22 rfl (lv_at hl 2 rfl) ?_
        refine lv_iload_n hx hb dX2_comesOf_23 rfl (lv_at hl 3 rfl) ?_
        refine lv_icmp_eq (tgt := 41) hx hb dX2_comesOf_24 (by decide) (fun c13 => ?_) (fun c13 => ?_)
        · have hf := hT hf c13
          refine lv_iconst (v := (0 : Int32)) hx hb dX2_comesOf_41 (by decide) ?_
          obtain rfl := Option.some.inj hf
          exact W.zret (ty := .boolean) (v := (0 : Int32)) hx hb hr rfl (fun t ht hW => ⟨⟨(0 : Int32), (), rfl, rfl, hPt ht hP⟩, hS.F ht⟩) hS.2.2 dX2_comesOf_42
        · have hf := hF hf c13
          exact (hWW _ _ _).mp (J27 _ _ _ _ hf hP hD hS (lv_sub hl [0, 1, 2, 3] rfl))
