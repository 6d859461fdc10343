set_option maxHeartbeats 4000000 in
set_option maxRecDepth 100000 in
theorem c_X2_allBeliefIn (l : Launch) (D : va_G) (cI : ClassId) (A : Nat → Nat) (j1 : Int32) (tt : HS) (out : Int32 × HS) (hf : f_X2_allBeliefIn j1 tt = some out) : uI l D cI yX2_allBeliefIn wsX2_allBeliefIn ({ frames := 9, cells := 0, slots := 0, locals := 204 } : Room) [.ref (A 0), .int j1] (wM A cI tt) (wM A cI out.2) out.1 := by
  intro sz
  refine Met.ofW (cc := cX2_allBeliefIn) (maxL := 3) (ret := (some .int)) (by decide) rfl ?_
  intro p e s m args below meth c s₁ Bd hml hv
  obtain ⟨rfl, hsz, hP, hK, hD0, hN⟩ := hv
  have hx := Bd.exec
  have hb := Bd.bytes
  have hr := Bd.returns
  have hts := atoms_spec (ws := wsX2_allBeliefIn) Bd.pre
  have hown : s.vm.findClass RX2 = some m.cls := findClass_of_methodNamed Bd.named
  have hlocks := Bd.notSynchronized
  subst hsz
  have hD := hD0.self (sz := s.heap.size)
  generalize hAe : va_A (wM A cI tt) s.heap.size = G at hD ⊢
  have hA : ∀ q : Nat, s.heap.size ≤ q → G q := fun q h => by rw [← hAe]; exact Or.inr h
  have hS : va_S G s.heap s.heap [] := va_S.rf
  have hP : va_P D vwCl (wM A cI tt) s.heap := hP
  have hl := lv_entry ([.ref (A 0), .int j1]) (n := 3) (Nat.le_of_ble_eq_true rfl)
  rw [lg_entry_eq]
  generalize (lg_sl ([.ref (A 0), .int j1]) ++ List.replicate (3 - (lg_sl ([.ref (A 0), .int j1])).length) Slot.unset).toArray = ls at hl ⊢
  have hl : lv_has ls 3 [(0, .ref (A 0)), (1, .int j1)] := hl
  have hinM : ∀ w ∈ wsX20, w ∈ wsX2_allBeliefIn := by decide +kernel
  have lk0 := hts (.fieldLink RX2 40 "LiesBoughtBackModel" "belief" "[I") (by decide +kernel)
  have lk1 := hts (.fieldLink RX2 73 "LiesBoughtBackModel" "bidders" "I") (by decide +kernel)
  refine W_in ?_
  intro WW hWW
  refine (hWW _ _ _).mpr ?_
  unfold f_X2_allBeliefIn at hf
  refine lv_aload_n hx hb dX2_allBeliefIn_0 rfl (lv_at hl 0 rfl) ?_
  obtain ⟨v1, hev1, hf⟩ := bS hf
  refine qV_v (ws' := (wM A cI v1)) (As := []) (rest := []) ⟨hx, hb, hml, hown, hts⟩ hK hN hA hP hD hS (c_X2_thinks l D cI A tt v1 hev1) (cwV 0 hts gX2_allBeliefIn_X2_thinks rfl rfl rfl hd_X2_thinks ⟨Nat.le_of_ble_eq_true rfl, Nat.le_of_ble_eq_true rfl⟩) (va_recv hK hP (ci := 2) (q0 := 0) rfl rfl) (bp_X2_X2_t_t A cI tt v1) rfl hl.1 rfl (Nat.le_of_ble_eq_true rfl) dX2_allBeliefIn_1 ⟨Nat.le_of_ble_eq_true rfl, Nat.le_of_ble_eq_true rfl⟩ (fun H locs hP hD hS => ?_)
  have hP : va_P D vwCl (wM A cI v1) H := hP
  refine lv_aload_n hx hb dX2_allBeliefIn_4 rfl (lv_at hl 0 rfl) ?_
  refine lv_iload_n hx hb dX2_allBeliefIn_5 rfl (lv_at hl 1 rfl) ?_
  obtain ⟨v2, hev2, hf⟩ := bS hf
  refine qV_v (ws' := (wM A cI v2)) (As := [.int j1]) (rest := []) ⟨hx, hb, hml, hown, hts⟩ hK hN hA hP hD hS (c_X2_goes l D cI A j1 v1 v2 hev2) (cwV 1 hts gX2_allBeliefIn_X2_goes rfl rfl rfl hd_X2_goes ⟨Nat.le_of_ble_eq_true rfl, Nat.le_of_ble_eq_true rfl⟩) (va_recv hK hP (ci := 2) (q0 := 0) rfl rfl) (bp_X2_X2_t_t A cI v1 v2) rfl hl.1 rfl (Nat.le_of_ble_eq_true rfl) dX2_allBeliefIn_6 ⟨Nat.le_of_ble_eq_true rfl, Nat.le_of_ble_eq_true rfl⟩ (fun H locs hP hD hS => ?_)
  have hP : va_P D vwCl (wM A cI v2) H := hP
  refine lv_aload_n hx hb dX2_allBeliefIn_9 rfl (lv_at hl 0 rfl) ?_
  refine lv_aload_n hx hb dX2_allBeliefIn_10 rfl (lv_at hl 0 rfl) ?_
  refine va_get (D := D) (ci := 2) (v := .ref (A 11)) (C := RX2) (T := TX2) (N := 31) hx hb hts hinM hown hK hP 0 rfl rfl 10 (by decide) lk0 (fun _ h9 => h9) rfl dX2_allBeliefIn_11 ?_
  refine lv_aload_n hx hb dX2_allBeliefIn_14 rfl (lv_at hl 0 rfl) ?_
  refine va_get (D := D) (ci := 2) (v := .int (v2 21 0)) (C := RX2) (T := TX2) (N := 31) hx hb hts hinM hown hK hP 0 rfl rfl 12 (by decide) lk1 (fun _ h9 => h9) rfl dX2_allBeliefIn_15 ?_
  obtain ⟨v3, hev3, hf⟩ := bS hf
  refine qV_i (As := [.ref (A 11), .int (v2 21 0)]) (rest := []) ⟨hx, hb, hml, hown, hts⟩ hK hN hA hP hD hS (c_X2_allOf_10 l D cI A (v2 21 0) v2 v3 hev3) (cwV 2 hts gX2_allBeliefIn_X2_allOf rfl rfl rfl hd_X2_allOf ⟨Nat.le_of_ble_eq_true rfl, Nat.le_of_ble_eq_true rfl⟩) (va_recv hK hP (ci := 2) (q0 := 0) rfl rfl) (bq_X2_X2_t A cI v2) rfl hl.1 rfl (Nat.le_of_ble_eq_true rfl) dX2_allBeliefIn_18 ⟨Nat.le_of_ble_eq_true rfl, Nat.le_of_ble_eq_true rfl⟩ (fun H locs hP hD hS => ?_)
  refine lv_istore_n (lv' := [(2, .int v3), (0, .ref (A 0)), (1, .int j1)]) hx hb dX2_allBeliefIn_21 rfl hl (by decide) rfl (fun ls hl => ?_)
  refine lv_aload_n hx hb dX2_allBeliefIn_22 rfl (lv_at hl 1 rfl) ?_
  obtain ⟨v4, hev4, hf⟩ := bS hf
  refine qV_v (ws' := (wM A cI v4)) (As := []) (rest := []) ⟨hx, hb, hml, hown, hts⟩ hK hN hA hP hD hS (c_X2_forgets l D cI A v2 v4 hev4) (cwV 0 hts gX2_allBeliefIn_X2_forgets rfl rfl rfl hd_X2_forgets ⟨Nat.le_of_ble_eq_true rfl, Nat.le_of_ble_eq_true rfl⟩) (va_recv hK hP (ci := 2) (q0 := 0) rfl rfl) (bp_X2_X2_t_t A cI v2 v4) rfl hl.1 rfl (Nat.le_of_ble_eq_true rfl) dX2_allBeliefIn_23 ⟨Nat.le_of_ble_eq_true rfl, Nat.le_of_ble_eq_true rfl⟩ (fun H locs hP hD hS => ?_)
  have hP : va_P D vwCl (wM A cI v4) H := hP
  refine lv_iload_n hx hb dX2_allBeliefIn_26 rfl (lv_at hl 0 rfl) ?_
  obtain rfl := Option.some.inj hf
  exact W.iret (v := v3) hx hb hr (fun t ht hW => ⟨⟨v3, (), rfl, rfl, hPt ht hP⟩, hS.F ht⟩) hS.2.2 dX2_allBeliefIn_27
set_option maxHeartbeats 4000000 in
set_option maxRecDepth 100000 in
theorem c_X2_first (l : Launch) (D : va_G) (cI : ClassId) (A : Nat → Nat) (j1 : Int32) (j2 : Int32) (tt : HS) (out : Int32 × HS) (hf : f_X2_first j1 j2 tt = some out) : uI l D cI yX2_first wsX2_first ({ frames := 10, cells := 0, slots := 0, locals := 227 } : Room) [.ref (A 0), .int j1, .int j2] (wM A cI tt) (wM A cI out.2) out.1 := by
  intro sz
  refine Met.ofW (cc := cX2_first) (maxL := 8) (ret := (some .int)) (by decide) rfl ?_
  intro p e s m args below meth c s₁ Bd hml hv
  obtain ⟨rfl, hsz, hP, hK, hD0, hN⟩ := hv
  have hx := Bd.exec
  have hb := Bd.bytes
  have hr := Bd.returns
  have hts := atoms_spec (ws := wsX2_first) Bd.pre
  have hown : s.vm.findClass RX2 = some m.cls := findClass_of_methodNamed Bd.named
  have hlocks := Bd.notSynchronized
  subst hsz
  have hD := hD0.self (sz := s.heap.size)
  generalize hAe : va_A (wM A cI tt) s.heap.size = G at hD ⊢
  have hA : ∀ q : Nat, s.heap.size ≤ q → G q := fun q h => by rw [← hAe]; exact Or.inr h
  have hS : va_S G s.heap s.heap [] := va_S.rf
  have hP : va_P D vwCl (wM A cI tt) s.heap := hP
  have hl := lv_entry ([.ref (A 0), .int j1, .int j2]) (n := 8) (Nat.le_of_ble_eq_true rfl)
  rw [lg_entry_eq]
  generalize (lg_sl ([.ref (A 0), .int j1, .int j2]) ++ List.replicate (8 - (lg_sl ([.ref (A 0), .int j1, .int j2])).length) Slot.unset).toArray = ls at hl ⊢
  have hl : lv_has ls 8 [(0, .ref (A 0)), (1, .int j1), (2, .int j2)] := hl
  have hinM : ∀ w ∈ wsX20, w ∈ wsX2_first := by decide +kernel
  have lk0 := hts (.fieldLink RX2 67 "LiesBoughtBackModel" "cards" "I") (by decide +kernel)
  have lk1 := hts (.fieldLink RX2 25 "LiesBoughtBackModel" "holder" "[I") (by decide +kernel)
  refine W_in ?_
  intro WW hWW
  refine (hWW _ _ _).mpr ?_
  unfold f_X2_first at hf
  refine lv_aload_n hx hb dX2_first_0 rfl (lv_at hl 0 rfl) ?_
  refine lv_iload_n hx hb dX2_first_1 rfl (lv_at hl 1 rfl) ?_
  refine qV_i (As := [.int j1]) (rest := []) ⟨hx, hb, hml, hown, hts⟩ hK hN hA hP hD hS (c_X2_isBidder l D cI A j1 tt (f_X2_isBidder j1 tt) rfl) (cwV 1 hts gX2_first_X2_isBidder rfl rfl rfl hd_X2_isBidder ⟨Nat.le_of_ble_eq_true rfl, Nat.le_of_ble_eq_true rfl⟩) (va_recv hK hP (ci := 2) (q0 := 0) rfl rfl) (bq_X2_X2_t A cI tt) rfl hl.1 rfl (Nat.le_of_ble_eq_true rfl) dX2_first_2 ⟨Nat.le_of_ble_eq_true rfl, Nat.le_of_ble_eq_true rfl⟩ (fun H locs hP hD hS => ?_)
  refine lv_if_ne (tgt := 12) hx hb dX2_first_5 (by decide) (fun c1 => ?_) (fun c1 => ?_)
  · have hf := hF hf c1
    refine lv_iload_n hx hb dX2_first_12 rfl (lv_at hl 2 rfl) ?_
    refine lv_iconst (v := (0 : Int32)) hx hb dX2_first_13 (by decide) ?_
    refine lv_bipush (v := (20 : Int32)) hx hb dX2_first_14 (by decide) ?_
    refine qS_i (As := [.int j2, .int (0 : Int32), .int (20 : Int32)]) (rest := []) ⟨hx, hb, hml, hown, hts⟩ hK hN hA hP hD hS (c_X2_bound l D cI j2 (0 : Int32) (20 : Int32) (f_X2_bound j2 (0 : Int32) (20 : Int32)) rfl) (va_cwS 3 hts gX2_first_X2_bound rfl rfl rfl hd_X2_bound.2 ⟨Nat.le_of_ble_eq_true rfl, Nat.le_of_ble_eq_true rfl⟩) Bp_e rfl hl.1 rfl (Nat.le_of_ble_eq_true rfl) dX2_first_16 ⟨Nat.le_of_ble_eq_true rfl, Nat.le_of_ble_eq_true rfl⟩ (fun H locs hP hD hS => ?_)
    refine lv_istore_n (lv' := [(3, .int (f_X2_bound j2 (0 : Int32) (20 : Int32))), (0, .ref (A 0)), (1, .int j1), (2, .int j2)]) hx hb dX2_first_19 rfl hl (by decide) rfl (fun ls hl => ?_)
    refine lv_iload_n hx hb dX2_first_20 rfl (lv_at hl 0 rfl) ?_
    refine lv_if_eq (tgt := 30) hx hb dX2_first_21 (by decide) (fun c2 => ?_) (fun c2 => ?_)
    · have hf := hT hf c2
      refine lv_bipush (v := (-9 : Int32)) hx hb dX2_first_30 (by decide) ?_
      refine lv_istore (lv' := [(4, .int (-9 : Int32)), (3, .int (f_X2_bound j2 (0 : Int32) (20 : Int32))), (0, .ref (A 0)), (1, .int j1), (2, .int j2)]) hx hb dX2_first_32 hl (by decide) rfl (fun ls hl => ?_)
      refine lv_aload_n hx hb dX2_first_34 rfl (lv_at hl 2 rfl) ?_
      refine lv_iload_n hx hb dX2_first_35 rfl (lv_at hl 3 rfl) ?_
      refine lv_iload_n hx hb dX2_first_36 rfl (lv_at hl 4 rfl) ?_
      obtain ⟨v3, hev3, hf⟩ := bS hf
      refine qV_i (ws' := (wM A cI v3.2)) (As := [.int j1, .int j2]) (rest := []) ⟨hx, hb, hml, hown, hts⟩ hK hN hA hP hD hS (c_X2_manyIn l D cI A j1 j2 tt v3 hev3) (cwV 2 hts gX2_first_X2_manyIn rfl rfl rfl hd_X2_manyIn ⟨Nat.le_of_ble_eq_true rfl, Nat.le_of_ble_eq_true rfl⟩) (va_recv hK hP (ci := 2) (q0 := 0) rfl rfl) (bp_X2_X2_t_t A cI tt v3.2) rfl hl.1 rfl (Nat.le_of_ble_eq_true rfl) dX2_first_37 ⟨Nat.le_of_ble_eq_true rfl, Nat.le_of_ble_eq_true rfl⟩ (fun H locs hP hD hS => ?_)
      have hP : va_P D vwCl (wM A cI v3.2) H := hP
      refine lv_istore (lv' := [(5, .int v3.1), (4, .int (-9 : Int32)), (3, .int (f_X2_bound j2 (0 : Int32) (20 : Int32))), (0, .ref (A 0)), (1, .int j1), (2, .int j2)]) hx hb dX2_first_40 hl (by decide) rfl (fun ls hl => ?_)
      refine lv_iconst (v := (0 : Int32)) hx hb dX2_first_42 (by decide) ?_
      refine lv_istore (lv' := [(6, .int (0 : Int32)), (5, .int v3.1), (4, .int (-9 : Int32)), (3, .int (f_X2_bound j2 (0 : Int32) (20 : Int32))), (0, .ref (A 0)), (1, .int j1), (2, .int j2)]) hx hb dX2_first_43 hl (by decide) rfl (fun ls hl => ?_)
      obtain ⟨K113, hK113, hf⟩ := jnS hf
      have J113 : ∀ (j4_113 : Int32) (tt_113 : HS) (H : Heap) (locs : List Loc) (ls : Array Slot), K113 j4_113 tt_113 = some out → va_P D vwCl (wM A cI tt_113) H → va_D G (wM A cI tt_113) → va_S G s.heap H locs → lv_has ls 8 [(4, .int j4_113)] → WW H locs (F0 m 113 ls []) := by
        intro j4_113 tt_113 H locs ls hf hP hD hS hl
        subst hK113
        refine (hWW _ _ _).mpr ?_
        refine lv_iload hx hb dX2_first_113 (lv_at hl 0 rfl) ?_
        obtain rfl := Option.some.inj hf
        exact W.iret (v := j4_113) hx hb hr (fun t ht hW => ⟨⟨j4_113, (), rfl, rfl, hPt ht hP⟩, hS.F ht⟩) hS.2.2 dX2_first_115
      have P45 : ∀ (n' : Nat) (j4_45 : Int32) (j5_45 : Int32) (j6_45 : Int32) (tt_45 : HS) (H : Heap) (locs : List Loc) (ls : Array Slot), L_X2_first_45 j1 j2 K113 n' j4_45 j5_45 j6_45 tt_45 = some out → va_P D vwCl (wM A cI tt_45) H → va_D G (wM A cI tt_45) → va_S G s.heap H locs → lv_has ls 8 [(0, .ref (A 0)), (1, .int j1), (2, .int j2), (4, .int j4_45), (5, .int j5_45), (6, .int j6_45)] → WW H locs (F0 m 45 ls []) := by
        intro n'
        induction n' with
        | zero => intro j4_45 j5_45 j6_45 tt_45 H locs ls hf; exact absurd (show (none : Option (Int32 × HS)) = some out from hf) (fun q => by cases q)
        | succ n' ih =>
          intro j4_45 j5_45 j6_45 tt_45 H locs ls hf hP hD hS hl
          rw [L_X2_first_45] at hf
          refine (hWW _ _ _).mpr ?_
          refine lv_iload hx hb dX2_first_45 (lv_at hl 5 rfl) ?_
          refine lv_aload_n hx hb dX2_first_47 rfl (lv_at hl 0 rfl) ?_
          refine va_get (D := D) (ci := 2) (v := .int (tt_45 20 0)) (C := RX2) (T := TX2) (N := 31) hx hb hts hinM hown hK hP 0 rfl rfl 11 (by decide) lk0 (fun _ h9 => h9) rfl dX2_first_48 ?_
          refine lv_icmp_ge (tgt := 113) hx hb dX2_first_51 (by decide) (fun c4 => ?_) (fun c4 => ?_)
          · have hf := hT hf c4
            exact (hWW _ _ _).mp (J113 _ _ _ _ _ hf hP hD hS (lv_sub hl [3] rfl))
          · have hf := hF hf c4
            refine lv_aload_n hx hb dX2_first_54 rfl (lv_at hl 0 rfl) ?_
            refine va_get (D := D) (ci := 2) (v := .ref (A 6)) (C := RX2) (T := TX2) (N := 31) hx hb hts hinM hown hK hP 0 rfl rfl 5 (by decide) lk1 (fun _ h9 => h9) rfl dX2_first_55 ?_
            refine lv_iload hx hb dX2_first_58 (lv_at hl 5 rfl) ?_
            obtain ⟨v5, he, hf⟩ := bS hf
            refine x_iald hx hb hK hP 6 (n := 8) rfl he dX2_first_60 ?_
            refine lv_if_eq (tgt := 67) hx hb dX2_first_61 (by decide) (fun c6 => ?_) (fun c6 => ?_)
            · have hf := hT hf c6
              refine lv_aload_n hx hb dX2_first_67 rfl (lv_at hl 0 rfl) ?_
              obtain ⟨v7, hev7, hf⟩ := bS hf
              refine qV_v (ws' := (wM A cI v7)) (As := []) (rest := []) ⟨hx, hb, hml, hown, hts⟩ hK hN hA hP hD hS (c_X2_changes l D cI A tt_45 v7 hev7) (cwV 0 hts gX2_first_X2_changes rfl rfl rfl hd_X2_changes ⟨Nat.le_of_ble_eq_true rfl, Nat.le_of_ble_eq_true rfl⟩) (va_recv hK hP (ci := 2) (q0 := 0) rfl rfl) (bp_X2_X2_t_t A cI tt_45 v7) rfl hl.1 rfl (Nat.le_of_ble_eq_true rfl) dX2_first_68 ⟨Nat.le_of_ble_eq_true rfl, Nat.le_of_ble_eq_true rfl⟩ (fun H locs hP hD hS => ?_)
              have hP : va_P D vwCl (wM A cI v7) H := hP
              refine lv_aload_n hx hb dX2_first_71 rfl (lv_at hl 0 rfl) ?_
              refine lv_iload hx hb dX2_first_72 (lv_at hl 5 rfl) ?_
              obtain ⟨v8, hev8, hf⟩ := bS hf
              refine qV_v (ws' := (wM A cI v8)) (As := [.int j6_45]) (rest := []) ⟨hx, hb, hml, hown, hts⟩ hK hN hA hP hD hS (c_X2_putsFirst l D cI A j6_45 v7 v8 hev8) (cwV 1 hts gX2_first_X2_putsFirst rfl rfl rfl hd_X2_putsFirst ⟨Nat.le_of_ble_eq_true rfl, Nat.le_of_ble_eq_true rfl⟩) (va_recv hK hP (ci := 2) (q0 := 0) rfl rfl) (bp_X2_X2_t_t A cI v7 v8) rfl hl.1 rfl (Nat.le_of_ble_eq_true rfl) dX2_first_74 ⟨Nat.le_of_ble_eq_true rfl, Nat.le_of_ble_eq_true rfl⟩ (fun H locs hP hD hS => ?_)
              have hP : va_P D vwCl (wM A cI v8) H := hP
              refine lv_aload_n hx hb dX2_first_77 rfl (lv_at hl 0 rfl) ?_
              refine lv_iload_n hx hb dX2_first_78 rfl (lv_at hl 1 rfl) ?_
              refine lv_iload_n hx hb dX2_first_79 rfl (lv_at hl 2 rfl) ?_
              obtain ⟨v9, hev9, hf⟩ := bS hf
              refine qV_i (ws' := (wM A cI v9.2)) (As := [.int j1, .int j2]) (rest := []) ⟨hx, hb, hml, hown, hts⟩ hK hN hA hP hD hS (c_X2_manyIn l D cI A j1 j2 v8 v9 hev9) (cwV 2 hts gX2_first_X2_manyIn rfl rfl rfl hd_X2_manyIn ⟨Nat.le_of_ble_eq_true rfl, Nat.le_of_ble_eq_true rfl⟩) (va_recv hK hP (ci := 2) (q0 := 0) rfl rfl) (bp_X2_X2_t_t A cI v8 v9.2) rfl hl.1 rfl (Nat.le_of_ble_eq_true rfl) dX2_first_80 ⟨Nat.le_of_ble_eq_true rfl, Nat.le_of_ble_eq_true rfl⟩ (fun H locs hP hD hS => ?_)
              have hP : va_P D vwCl (wM A cI v9.2) H := hP
              refine lv_istore (lv' := [(7, .int v9.1), (0, .ref (A 0)), (1, .int j1), (2, .int j2), (4, .int j4_45), (5, .int j5_45), (6, .int j6_45)]) hx hb dX2_first_83 hl (by decide) rfl (fun ls hl => ?_)
              refine lv_aload_n hx hb dX2_first_85 rfl (lv_at hl 1 rfl) ?_
              obtain ⟨v10, hev10, hf⟩ := bS hf
              refine qV_v (ws' := (wM A cI v10)) (As := []) (rest := []) ⟨hx, hb, hml, hown, hts⟩ hK hN hA hP hD hS (c_X2_changesBack l D cI A v9.2 v10 hev10) (cwV 0 hts gX2_first_X2_changesBack rfl rfl rfl hd_X2_changesBack ⟨Nat.le_of_ble_eq_true rfl, Nat.le_of_ble_eq_true rfl⟩) (va_recv hK hP (ci := 2) (q0 := 0) rfl rfl) (bp_X2_X2_t_t A cI v9.2 v10) rfl hl.1 rfl (Nat.le_of_ble_eq_true rfl) dX2_first_86 ⟨Nat.le_of_ble_eq_true rfl, Nat.le_of_ble_eq_true rfl⟩ (fun H locs hP hD hS => ?_)
              have hP : va_P D vwCl (wM A cI v10) H := hP
              refine lv_iload hx hb dX2_first_89 (lv_at hl 0 rfl) ?_
              refine lv_iload hx hb dX2_first_91 (lv_at hl 5 rfl) ?_
              refine lv_icmp_gt (tgt := 99) hx hb dX2_first_93 (by decide) (fun c11 => ?_) (fun c11 => ?_)
              · have hf := hT hf c11
                refine lv_iload hx hb dX2_first_99 (lv_at hl 6 rfl) ?_
                refine lv_istore (lv' := [(4, .int j6_45), (7, .int v9.1), (0, .ref (A 0)), (1, .int j1), (2, .int j2), (5, .int j5_45), (6, .int j6_45)]) hx hb dX2_first_101 hl (by decide) rfl (fun ls hl => ?_)
                refine lv_iload hx hb dX2_first_103 (lv_at hl 1 rfl) ?_
                refine lv_istore (lv' := [(5, .int v9.1), (4, .int j6_45), (7, .int v9.1), (0, .ref (A 0)), (1, .int j1), (2, .int j2), (6, .int j6_45)]) hx hb dX2_first_105 hl (by decide) rfl (fun ls hl => ?_)
                refine lv_iinc (v := (j6_45 + (1 : Int32))) (lv' := [(6, .int (j6_45 + (1 : Int32))), (5, .int v9.1), (4, .int j6_45), (7, .int v9.1), (0, .ref (A 0)), (1, .int j1), (2, .int j2)]) hx hb dX2_first_107 hl (k := 6) rfl rfl (by decide) rfl (fun ls hl => ?_)
                refine lv_goto (tgt := 45) hx hb dX2_first_110 (by decide) ?_
                exact (hWW _ _ _).mp (ih _ _ _ _ _ _ _ hf hP hD hS (lv_sub hl [4, 5, 6, 2, 1, 0] rfl))
              · have hf := hF hf c11
                refine lv_goto (tgt := 107) hx hb dX2_first_96 (by decide) ?_
                refine lv_iinc (v := (j6_45 + (1 : Int32))) (lv' := [(6, .int (j6_45 + (1 : Int32))), (7, .int v9.1), (0, .ref (A 0)), (1, .int j1), (2, .int j2), (4, .int j4_45), (5, .int j5_45)]) hx hb dX2_first_107 hl (k := 6) rfl rfl (by decide) rfl (fun ls hl => ?_)
                refine lv_goto (tgt := 45) hx hb dX2_first_110 (by decide) ?_
                exact (hWW _ _ _).mp (ih _ _ _ _ _ _ _ hf hP hD hS (lv_sub hl [2, 3, 4, 5, 6, 0] rfl))
            · have hf := hF hf c6
              refine lv_goto (tgt := 107) hx hb dX2_first_64 (by decide) ?_
              refine lv_iinc (v := (j6_45 + (1 : Int32))) (lv' := [(6, .int (j6_45 + (1 : Int32))), (0, .ref (A 0)), (1, .int j1), (2, .int j2), (4, .int j4_45), (5, .int j5_45)]) hx hb dX2_first_107 hl (k := 5) rfl rfl (by decide) rfl (fun ls hl => ?_)
              refine lv_goto (tgt := 45) hx hb dX2_first_110 (by decide) ?_
              exact (hWW _ _ _).mp (ih _ _ _ _ _ _ _ hf hP hD hS (lv_sub hl [1, 2, 3, 4, 5, 0] rfl))
      exact (hWW _ _ _).mp (P45 _ _ _ _ _ _ _ _ hf hP hD hS (lv_sub hl [4, 5, 6, 2, 1, 0] rfl))
    · have hf := hF hf c2
      refine lv_aload_n hx hb dX2_first_24 rfl (lv_at hl 1 rfl) ?_
      refine lv_iload_n hx hb dX2_first_25 rfl (lv_at hl 0 rfl) ?_
      obtain ⟨v12, hev12, hf⟩ := bS hf
      refine qV_i (ws' := (wM A cI v12.2)) (As := [.int (f_X2_bound j2 (0 : Int32) (20 : Int32))]) (rest := []) ⟨hx, hb, hml, hown, hts⟩ hK hN hA hP hD hS (c_X2_no l D cI A (f_X2_bound j2 (0 : Int32) (20 : Int32)) tt v12 hev12) (cwV 1 hts gX2_first_X2_no rfl rfl rfl hd_X2_no ⟨Nat.le_of_ble_eq_true rfl, Nat.le_of_ble_eq_true rfl⟩) (va_recv hK hP (ci := 2) (q0 := 0) rfl rfl) (bp_X2_X2_t_t A cI tt v12.2) rfl hl.1 rfl (Nat.le_of_ble_eq_true rfl) dX2_first_26 ⟨Nat.le_of_ble_eq_true rfl, Nat.le_of_ble_eq_true rfl⟩ (fun H locs hP hD hS => ?_)
      have hP : va_P D vwCl (wM A cI v12.2) H := hP
      obtain rfl := Option.some.inj hf
      exact W.iret (v := v12.1) hx hb hr (fun t ht hW => ⟨⟨v12.1, (), rfl, rfl, hPt ht hP⟩, hS.F ht⟩) hS.2.2 dX2_first_29
  · have hf := hT hf c1
    refine lv_iconst (v := (-1 : Int32)) hx hb dX2_first_8 (by decide) ?_
    refine lv_goto (tgt := 19) hx hb dX2_first_9 (by decide) ?_
    refine lv_istore_n (lv' := [(3, .int (-1 : Int32)), (0, .ref (A 0)), (1, .int j1), (2, .int j2)]) hx hb dX2_first_19 rfl hl (by decide) rfl (fun ls hl => ?_)
    refine lv_iload_n hx hb dX2_first_20 rfl (lv_at hl 0 rfl) ?_
    refine lv_if_eq (tgt := 30) hx hb dX2_first_21 (by decide) (fun c13 => ?_) (fun c13 => ?_)
    · exact absurd c13 (by decide)
    · refine lv_aload_n hx hb dX2_first_24 rfl (lv_at hl 1 rfl) ?_
      refine lv_iload_n hx hb dX2_first_25 rfl (lv_at hl 0 rfl) ?_
      obtain ⟨v14, hev14, hf⟩ := bS hf
      refine qV_i (ws' := (wM A cI v14.2)) (As := [.int (-1 : Int32)]) (rest := []) ⟨hx, hb, hml, hown, hts⟩ hK hN hA hP hD hS (c_X2_no l D cI A (-1 : Int32) tt v14 hev14) (cwV 1 hts gX2_first_X2_no rfl rfl rfl hd_X2_no ⟨Nat.le_of_ble_eq_true rfl, Nat.le_of_ble_eq_true rfl⟩) (va_recv hK hP (ci := 2) (q0 := 0) rfl rfl) (bp_X2_X2_t_t A cI tt v14.2) rfl hl.1 rfl (Nat.le_of_ble_eq_true rfl) dX2_first_26 ⟨Nat.le_of_ble_eq_true rfl, Nat.le_of_ble_eq_true rfl⟩ (fun H locs hP hD hS => ?_)
      have hP : va_P D vwCl (wM A cI v14.2) H := hP
      obtain rfl := Option.some.inj hf
      exact W.iret (v := v14.1) hx hb hr (fun t ht hW => ⟨⟨v14.1, (), rfl, rfl, hPt ht hP⟩, hS.F ht⟩) hS.2.2 dX2_first_29
set_option maxHeartbeats 4000000 in
set_option maxRecDepth 100000 in
theorem c_X2_give (l : Launch) (D : va_G) (cI : ClassId) (A : Nat → Nat) (j1 : Int32) (tt : HS) (out : Int32 × HS) (hf : f_X2_give j1 tt = some out) : uI l D cI yX2_give wsX2_give ({ frames := 10, cells := 0, slots := 0, locals := 226 } : Room) [.ref (A 0), .int j1] (wM A cI tt) (wM A cI out.2) out.1 := by
  intro sz
  refine Met.ofW (cc := cX2_give) (maxL := 7) (ret := (some .int)) (by decide) rfl ?_
  intro p e s m args below meth c s₁ Bd hml hv
  obtain ⟨rfl, hsz, hP, hK, hD0, hN⟩ := hv
  have hx := Bd.exec
  have hb := Bd.bytes
  have hr := Bd.returns
  have hts := atoms_spec (ws := wsX2_give) Bd.pre
  have hown : s.vm.findClass RX2 = some m.cls := findClass_of_methodNamed Bd.named
  have hlocks := Bd.notSynchronized
  subst hsz
  have hD := hD0.self (sz := s.heap.size)
  generalize hAe : va_A (wM A cI tt) s.heap.size = G at hD ⊢
  have hA : ∀ q : Nat, s.heap.size ≤ q → G q := fun q h => by rw [← hAe]; exact Or.inr h
  have hS : va_S G s.heap s.heap [] := va_S.rf
  have hP : va_P D vwCl (wM A cI tt) s.heap := hP
  have hl := lv_entry ([.ref (A 0), .int j1]) (n := 7) (Nat.le_of_ble_eq_true rfl)
  rw [lg_entry_eq]
  generalize (lg_sl ([.ref (A 0), .int j1]) ++ List.replicate (7 - (lg_sl ([.ref (A 0), .int j1])).length) Slot.unset).toArray = ls at hl ⊢
  have hl : lv_has ls 7 [(0, .ref (A 0)), (1, .int j1)] := hl
  have hinM : ∀ w ∈ wsX20, w ∈ wsX2_give := by decide +kernel
  have lk0 := hts (.fieldLink RX2 67 "LiesBoughtBackModel" "cards" "I") (by decide +kernel)
  have lk1 := hts (.fieldLink RX2 25 "LiesBoughtBackModel" "holder" "[I") (by decide +kernel)
  have lk2 := hts (.fieldLink RX2 19 "LiesBoughtBackModel" "teller" "[I") (by decide +kernel)
  refine W_in ?_
  intro WW hWW
  refine (hWW _ _ _).mpr ?_
  unfold f_X2_give at hf
  refine lv_iload_n hx hb dX2_give_0 rfl (lv_at hl 1 rfl) ?_
  refine lv_iconst (v := (0 : Int32)) hx hb dX2_give_1 (by decide) ?_
  refine lv_bipush (v := (20 : Int32)) hx hb dX2_give_2 (by decide) ?_
  refine qS_i (As := [.int j1, .int (0 : Int32), .int (20 : Int32)]) (rest := []) ⟨hx, hb, hml, hown, hts⟩ hK hN hA hP hD hS (c_X2_bound l D cI j1 (0 : Int32) (20 : Int32) (f_X2_bound j1 (0 : Int32) (20 : Int32)) rfl) (va_cwS 3 hts gX2_give_X2_bound rfl rfl rfl hd_X2_bound.2 ⟨Nat.le_of_ble_eq_true rfl, Nat.le_of_ble_eq_true rfl⟩) Bp_e rfl hl.1 rfl (Nat.le_of_ble_eq_true rfl) dX2_give_4 ⟨Nat.le_of_ble_eq_true rfl, Nat.le_of_ble_eq_true rfl⟩ (fun H locs hP hD hS => ?_)
  refine lv_istore_n (lv' := [(2, .int (f_X2_bound j1 (0 : Int32) (20 : Int32))), (0, .ref (A 0)), (1, .int j1)]) hx hb dX2_give_7 rfl hl (by decide) rfl (fun ls hl => ?_)
  refine lv_iload_n hx hb dX2_give_8 rfl (lv_at hl 0 rfl) ?_
  refine lv_if_eq (tgt := 18) hx hb dX2_give_9 (by decide) (fun c1 => ?_) (fun c1 => ?_)
  · have hf := hT hf c1
    refine lv_bipush (v := (-9 : Int32)) hx hb dX2_give_18 (by decide) ?_
    refine lv_istore_n (lv' := [(3, .int (-9 : Int32)), (2, .int (f_X2_bound j1 (0 : Int32) (20 : Int32))), (0, .ref (A 0)), (1, .int j1)]) hx hb dX2_give_20 rfl hl (by decide) rfl (fun ls hl => ?_)
    refine lv_aload_n hx hb dX2_give_21 rfl (lv_at hl 2 rfl) ?_
    refine lv_iload_n hx hb dX2_give_22 rfl (lv_at hl 3 rfl) ?_
    obtain ⟨v2, hev2, hf⟩ := bS hf
    refine qV_i (ws' := (wM A cI v2.2)) (As := [.int j1]) (rest := []) ⟨hx, hb, hml, hown, hts⟩ hK hN hA hP hD hS (c_X2_allBeliefIn l D cI A j1 tt v2 hev2) (cwV 1 hts gX2_give_X2_allBeliefIn rfl rfl rfl hd_X2_allBeliefIn ⟨Nat.le_of_ble_eq_true rfl, Nat.le_of_ble_eq_true rfl⟩) (va_recv hK hP (ci := 2) (q0 := 0) rfl rfl) (bp_X2_X2_t_t A cI tt v2.2) rfl hl.1 rfl (Nat.le_of_ble_eq_true rfl) dX2_give_23 ⟨Nat.le_of_ble_eq_true rfl, Nat.le_of_ble_eq_true rfl⟩ (fun H locs hP hD hS => ?_)
    have hP : va_P D vwCl (wM A cI v2.2) H := hP
    refine lv_istore (lv' := [(4, .int v2.1), (3, .int (-9 : Int32)), (2, .int (f_X2_bound j1 (0 : Int32) (20 : Int32))), (0, .ref (A 0)), (1, .int j1)]) hx hb dX2_give_26 hl (by decide) rfl (fun ls hl => ?_)
    refine lv_iconst (v := (0 : Int32)) hx hb dX2_give_28 (by decide) ?_
    refine lv_istore (lv' := [(5, .int (0 : Int32)), (4, .int v2.1), (3, .int (-9 : Int32)), (2, .int (f_X2_bound j1 (0 : Int32) (20 : Int32))), (0, .ref (A 0)), (1, .int j1)]) hx hb dX2_give_29 hl (by decide) rfl (fun ls hl => ?_)
    obtain ⟨K121, hK121, hf⟩ := jnS hf
    have J121 : ∀ (j3_121 : Int32) (tt_121 : HS) (H : Heap) (locs : List Loc) (ls : Array Slot), K121 j3_121 tt_121 = some out → va_P D vwCl (wM A cI tt_121) H → va_D G (wM A cI tt_121) → va_S G s.heap H locs → lv_has ls 7 [(3, .int j3_121)] → WW H locs (F0 m 121 ls []) := by
      intro j3_121 tt_121 H locs ls hf hP hD hS hl
      subst hK121
      refine (hWW _ _ _).mpr ?_
      refine lv_iload_n hx hb dX2_give_121 rfl (lv_at hl 0 rfl) ?_
      obtain rfl := Option.some.inj hf
      exact W.iret (v := j3_121) hx hb hr (fun t ht hW => ⟨⟨j3_121, (), rfl, rfl, hPt ht hP⟩, hS.F ht⟩) hS.2.2 dX2_give_122
    have P31 : ∀ (n' : Nat) (j3_31 : Int32) (j4_31 : Int32) (j5_31 : Int32) (tt_31 : HS) (H : Heap) (locs : List Loc) (ls : Array Slot), L_X2_give_31 j1 K121 n' j3_31 j4_31 j5_31 tt_31 = some out → va_P D vwCl (wM A cI tt_31) H → va_D G (wM A cI tt_31) → va_S G s.heap H locs → lv_has ls 7 [(0, .ref (A 0)), (1, .int j1), (3, .int j3_31), (4, .int j4_31), (5, .int j5_31)] → WW H locs (F0 m 31 ls []) := by
      intro n'
      induction n' with
      | zero => intro j3_31 j4_31 j5_31 tt_31 H locs ls hf; exact absurd (show (none : Option (Int32 × HS)) = some out from hf) (fun q => by cases q)
      | succ n' ih =>
        intro j3_31 j4_31 j5_31 tt_31 H locs ls hf hP hD hS hl
        rw [L_X2_give_31] at hf
        refine (hWW _ _ _).mpr ?_
        refine lv_iload hx hb dX2_give_31 (lv_at hl 4 rfl) ?_
        refine lv_aload_n hx hb dX2_give_33 rfl (lv_at hl 0 rfl) ?_
        refine va_get (D := D) (ci := 2) (v := .int (tt_31 20 0)) (C := RX2) (T := TX2) (N := 31) hx hb hts hinM hown hK hP 0 rfl rfl 11 (by decide) lk0 (fun _ h9 => h9) rfl dX2_give_34 ?_
        refine lv_icmp_ge (tgt := 121) hx hb dX2_give_37 (by decide) (fun c3 => ?_) (fun c3 => ?_)
        · have hf := hT hf c3
          exact (hWW _ _ _).mp (J121 _ _ _ _ _ hf hP hD hS (lv_sub hl [2] rfl))
        · have hf := hF hf c3
          refine lv_aload_n hx hb dX2_give_40 rfl (lv_at hl 0 rfl) ?_
          refine va_get (D := D) (ci := 2) (v := .ref (A 6)) (C := RX2) (T := TX2) (N := 31) hx hb hts hinM hown hK hP 0 rfl rfl 5 (by decide) lk1 (fun _ h9 => h9) rfl dX2_give_41 ?_
          refine lv_iload hx hb dX2_give_44 (lv_at hl 4 rfl) ?_
          obtain ⟨v4, he, hf⟩ := bS hf
          refine x_iald hx hb hK hP 6 (n := 8) rfl he dX2_give_46 ?_
          refine lv_if_ne (tgt := 115) hx hb dX2_give_47 (by decide) (fun c5 => ?_) (fun c5 => ?_)
          · have hf := hF hf c5
            refine lv_iinc (v := (j5_31 + (1 : Int32))) (lv' := [(5, .int (j5_31 + (1 : Int32))), (0, .ref (A 0)), (1, .int j1), (3, .int j3_31), (4, .int j4_31)]) hx hb dX2_give_115 hl (k := 4) rfl rfl (by decide) rfl (fun ls hl => ?_)
            refine lv_goto (tgt := 31) hx hb dX2_give_118 (by decide) ?_
            exact (hWW _ _ _).mp (ih _ _ _ _ _ _ _ hf hP hD hS (lv_sub hl [1, 2, 3, 4, 0] rfl))
          · have hf := hT hf c5
            refine lv_aload_n hx hb dX2_give_50 rfl (lv_at hl 0 rfl) ?_
            refine lv_aload_n hx hb dX2_give_51 rfl (lv_at hl 0 rfl) ?_
            refine va_get (D := D) (ci := 2) (v := .ref (A 4)) (C := RX2) (T := TX2) (N := 31) hx hb hts hinM hown hK hP 0 rfl rfl 3 (by decide) lk2 (fun _ h9 => h9) rfl dX2_give_52 ?_
            refine lv_iload hx hb dX2_give_55 (lv_at hl 4 rfl) ?_
            obtain ⟨v6, he, hf⟩ := bS hf
            refine x_iald hx hb hK hP 4 (n := 8) rfl he dX2_give_57 ?_
            refine qV_i (As := [.int v6]) (rest := []) ⟨hx, hb, hml, hown, hts⟩ hK hN hA hP hD hS (c_X2_isBidder l D cI A v6 tt_31 (f_X2_isBidder v6 tt_31) rfl) (cwV 1 hts gX2_give_X2_isBidder rfl rfl rfl hd_X2_isBidder ⟨Nat.le_of_ble_eq_true rfl, Nat.le_of_ble_eq_true rfl⟩) (va_recv hK hP (ci := 2) (q0 := 0) rfl rfl) (bq_X2_X2_t A cI tt_31) rfl hl.1 rfl (Nat.le_of_ble_eq_true rfl) dX2_give_58 ⟨Nat.le_of_ble_eq_true rfl, Nat.le_of_ble_eq_true rfl⟩ (fun H locs hP hD hS => ?_)
            refine lv_if_ne (tgt := 67) hx hb dX2_give_61 (by decide) (fun c7 => ?_) (fun c7 => ?_)
            · have hf := hF hf c7
              refine lv_aload_n hx hb dX2_give_67 rfl (lv_at hl 0 rfl) ?_
              refine va_get (D := D) (ci := 2) (v := .ref (A 6)) (C := RX2) (T := TX2) (N := 31) hx hb hts hinM hown hK hP 0 rfl rfl 5 (by decide) lk1 (fun _ h9 => h9) rfl dX2_give_68 ?_
              refine lv_iload hx hb dX2_give_71 (lv_at hl 4 rfl) ?_
              refine lv_aload_n hx hb dX2_give_73 rfl (lv_at hl 0 rfl) ?_
              refine va_get (D := D) (ci := 2) (v := .ref (A 4)) (C := RX2) (T := TX2) (N := 31) hx hb hts hinM hown hK hP 0 rfl rfl 3 (by decide) lk2 (fun _ h9 => h9) rfl dX2_give_74 ?_
              refine lv_iload hx hb dX2_give_77 (lv_at hl 4 rfl) ?_
              obtain ⟨v8, he, hf⟩ := bS hf
              refine x_iald hx hb hK hP 4 (n := 8) rfl he dX2_give_79 ?_
              refine lv_iconst (v := (1 : Int32)) hx hb dX2_give_80 (by decide) ?_
              refine lv_iadd hx hb dX2_give_81 ?_
              obtain ⟨v9, he, hf⟩ := bS hf
              obtain ⟨tt_v10, ett_v10, hf⟩ := jnS hf
              refine x_iast (ws' := (wM A cI tt_v10)) hx hb hK hP hD hS 6 (n := 8) rfl he ((sa_X2_t_5 A cI tt_31 v9).trans (congrArg (fun z => wM A cI z) ett_v10.symm)) dX2_give_82 (fun H locs hP hD hS => ?_)
              refine lv_aload_n hx hb dX2_give_83 rfl (lv_at hl 0 rfl) ?_
              refine lv_iload_n hx hb dX2_give_84 rfl (lv_at hl 1 rfl) ?_
              obtain ⟨v11, hev11, hf⟩ := bS hf
              refine qV_i (ws' := (wM A cI v11.2)) (As := [.int j1]) (rest := []) ⟨hx, hb, hml, hown, hts⟩ hK hN hA hP hD hS (c_X2_allBeliefIn l D cI A j1 tt_v10 v11 hev11) (cwV 1 hts gX2_give_X2_allBeliefIn rfl rfl rfl hd_X2_allBeliefIn ⟨Nat.le_of_ble_eq_true rfl, Nat.le_of_ble_eq_true rfl⟩) (va_recv hK hP (ci := 2) (q0 := 0) rfl rfl) (bp_X2_X2_t_t A cI tt_v10 v11.2) rfl hl.1 rfl (Nat.le_of_ble_eq_true rfl) dX2_give_85 ⟨Nat.le_of_ble_eq_true rfl, Nat.le_of_ble_eq_true rfl⟩ (fun H locs hP hD hS => ?_)
              have hP : va_P D vwCl (wM A cI v11.2) H := hP
              refine lv_istore (lv' := [(6, .int v11.1), (0, .ref (A 0)), (1, .int j1), (3, .int j3_31), (4, .int j4_31), (5, .int j5_31)]) hx hb dX2_give_88 hl (by decide) rfl (fun ls hl => ?_)
              refine lv_aload_n hx hb dX2_give_90 rfl (lv_at hl 1 rfl) ?_
              refine va_get (D := D) (ci := 2) (v := .ref (A 6)) (C := RX2) (T := TX2) (N := 31) hx hb hts hinM hown hK hP 0 rfl rfl 5 (by decide) lk1 (fun _ h9 => h9) rfl dX2_give_91 ?_
              refine lv_iload hx hb dX2_give_94 (lv_at hl 5 rfl) ?_
              refine lv_iconst (v := (0 : Int32)) hx hb dX2_give_96 (by decide) ?_
              obtain ⟨v12, he, hf⟩ := bS hf
              obtain ⟨tt_v13, ett_v13, hf⟩ := jnS hf
              refine x_iast (ws' := (wM A cI tt_v13)) hx hb hK hP hD hS 6 (n := 8) rfl he ((sa_X2_t_5 A cI v11.2 v12).trans (congrArg (fun z => wM A cI z) ett_v13.symm)) dX2_give_97 (fun H locs hP hD hS => ?_)
              refine lv_iload hx hb dX2_give_98 (lv_at hl 0 rfl) ?_
              refine lv_iload hx hb dX2_give_100 (lv_at hl 4 rfl) ?_
              refine lv_icmp_gt (tgt := 108) hx hb dX2_give_102 (by decide) (fun c14 => ?_) (fun c14 => ?_)
              · have hf := hT hf c14
                refine lv_iload hx hb dX2_give_108 (lv_at hl 5 rfl) ?_
                refine lv_istore_n (lv' := [(3, .int j5_31), (6, .int v11.1), (0, .ref (A 0)), (1, .int j1), (4, .int j4_31), (5, .int j5_31)]) hx hb dX2_give_110 rfl hl (by decide) rfl (fun ls hl => ?_)
                refine lv_iload hx hb dX2_give_111 (lv_at hl 1 rfl) ?_
                refine lv_istore (lv' := [(4, .int v11.1), (3, .int j5_31), (6, .int v11.1), (0, .ref (A 0)), (1, .int j1), (5, .int j5_31)]) hx hb dX2_give_113 hl (by decide) rfl (fun ls hl => ?_)
                refine lv_iinc (v := (j5_31 + (1 : Int32))) (lv' := [(5, .int (j5_31 + (1 : Int32))), (4, .int v11.1), (3, .int j5_31), (6, .int v11.1), (0, .ref (A 0)), (1, .int j1)]) hx hb dX2_give_115 hl (k := 5) rfl rfl (by decide) rfl (fun ls hl => ?_)
                refine lv_goto (tgt := 31) hx hb dX2_give_118 (by decide) ?_
                exact (hWW _ _ _).mp (ih _ _ _ _ _ _ _ hf hP hD hS (lv_sub hl [4, 5, 2, 1, 0] rfl))
              · have hf := hF hf c14
                refine lv_goto (tgt := 115) hx hb dX2_give_105 (by decide) ?_
                refine lv_iinc (v := (j5_31 + (1 : Int32))) (lv' := [(5, .int (j5_31 + (1 : Int32))), (6, .int v11.1), (0, .ref (A 0)), (1, .int j1), (3, .int j3_31), (4, .int j4_31)]) hx hb dX2_give_115 hl (k := 5) rfl rfl (by decide) rfl (fun ls hl => ?_)
                refine lv_goto (tgt := 31) hx hb dX2_give_118 (by decide) ?_
                exact (hWW _ _ _).mp (ih _ _ _ _ _ _ _ hf hP hD hS (lv_sub hl [2, 3, 4, 5, 0] rfl))
            · have hf := hT hf c7
              refine lv_goto (tgt := 115) hx hb dX2_give_64 (by decide) ?_
              refine lv_iinc (v := (j5_31 + (1 : Int32))) (lv' := [(5, .int (j5_31 + (1 : Int32))), (0, .ref (A 0)), (1, .int j1), (3, .int j3_31), (4, .int j4_31)]) hx hb dX2_give_115 hl (k := 4) rfl rfl (by decide) rfl (fun ls hl => ?_)
              refine lv_goto (tgt := 31) hx hb dX2_give_118 (by decide) ?_
              exact (hWW _ _ _).mp (ih _ _ _ _ _ _ _ hf hP hD hS (lv_sub hl [1, 2, 3, 4, 0] rfl))
    exact (hWW _ _ _).mp (P31 _ _ _ _ _ _ _ _ hf hP hD hS (lv_sub hl [4, 5, 2, 1, 0] rfl))
  · have hf := hF hf c1
    refine lv_aload_n hx hb dX2_give_12 rfl (lv_at hl 1 rfl) ?_
    refine lv_iload_n hx hb dX2_give_13 rfl (lv_at hl 0 rfl) ?_
    obtain ⟨v15, hev15, hf⟩ := bS hf
    refine qV_i (ws' := (wM A cI v15.2)) (As := [.int (f_X2_bound j1 (0 : Int32) (20 : Int32))]) (rest := []) ⟨hx, hb, hml, hown, hts⟩ hK hN hA hP hD hS (c_X2_no l D cI A (f_X2_bound j1 (0 : Int32) (20 : Int32)) tt v15 hev15) (cwV 1 hts gX2_give_X2_no rfl rfl rfl hd_X2_no ⟨Nat.le_of_ble_eq_true rfl, Nat.le_of_ble_eq_true rfl⟩) (va_recv hK hP (ci := 2) (q0 := 0) rfl rfl) (bp_X2_X2_t_t A cI tt v15.2) rfl hl.1 rfl (Nat.le_of_ble_eq_true rfl) dX2_give_14 ⟨Nat.le_of_ble_eq_true rfl, Nat.le_of_ble_eq_true rfl⟩ (fun H locs hP hD hS => ?_)
    have hP : va_P D vwCl (wM A cI v15.2) H := hP
    obtain rfl := Option.some.inj hf
    exact W.iret (v := v15.1) hx hb hr (fun t ht hW => ⟨⟨v15.1, (), rfl, rfl, hPt ht hP⟩, hS.F ht⟩) hS.2.2 dX2_give_17
set_option maxHeartbeats 4000000 in
set_option maxRecDepth 100000 in
theorem c_X2_pool (l : Launch) (D : va_G) (cI : ClassId) (A : Nat → Nat) (j1 : Int32) (j2 : Int32) (tt : HS) (out : Int32 × HS) (hf : f_X2_pool j1 j2 tt = some out) : uI l D cI yX2_pool wsX2_pool ({ frames := 10, cells := 0, slots := 0, locals := 227 } : Room) [.ref (A 0), .int j1, .int j2] (wM A cI tt) (wM A cI out.2) out.1 := by
  intro sz
  refine Met.ofW (cc := cX2_pool) (maxL := 10) (ret := (some .int)) (by decide) rfl ?_
  intro p e s m args below meth c s₁ Bd hml hv
  obtain ⟨rfl, hsz, hP, hK, hD0, hN⟩ := hv
  have hx := Bd.exec
  have hb := Bd.bytes
  have hr := Bd.returns
  have hts := atoms_spec (ws := wsX2_pool) Bd.pre
  have hown : s.vm.findClass RX2 = some m.cls := findClass_of_methodNamed Bd.named
  have hlocks := Bd.notSynchronized
  subst hsz
  have hD := hD0.self (sz := s.heap.size)
  generalize hAe : va_A (wM A cI tt) s.heap.size = G at hD ⊢
  have hA : ∀ q : Nat, s.heap.size ≤ q → G q := fun q h => by rw [← hAe]; exact Or.inr h
  have hS : va_S G s.heap s.heap [] := va_S.rf
  have hP : va_P D vwCl (wM A cI tt) s.heap := hP
  have hl := lv_entry ([.ref (A 0), .int j1, .int j2]) (n := 10) (Nat.le_of_ble_eq_true rfl)
  rw [lg_entry_eq]
  generalize (lg_sl ([.ref (A 0), .int j1, .int j2]) ++ List.replicate (10 - (lg_sl ([.ref (A 0), .int j1, .int j2])).length) Slot.unset).toArray = ls at hl ⊢
  have hl : lv_has ls 10 [(0, .ref (A 0)), (1, .int j1), (2, .int j2)] := hl
  have hinM : ∀ w ∈ wsX20, w ∈ wsX2_pool := by decide +kernel
  have lk0 := hts (.fieldLink RX2 37 "LiesBoughtBackModel" "purse" "[I") (by decide +kernel)
  have lk1 := hts (.fieldLink RX2 73 "LiesBoughtBackModel" "bidders" "I") (by decide +kernel)
  refine W_in ?_
  intro WW hWW
  refine (hWW _ _ _).mpr ?_
  unfold f_X2_pool at hf
  refine lv_aload_n hx hb dX2_pool_0 rfl (lv_at hl 0 rfl) ?_
  refine lv_iload_n hx hb dX2_pool_1 rfl (lv_at hl 1 rfl) ?_
  refine qV_i (As := [.int j1]) (rest := []) ⟨hx, hb, hml, hown, hts⟩ hK hN hA hP hD hS (c_X2_isBidder l D cI A j1 tt (f_X2_isBidder j1 tt) rfl) (cwV 1 hts gX2_pool_X2_isBidder rfl rfl rfl hd_X2_isBidder ⟨Nat.le_of_ble_eq_true rfl, Nat.le_of_ble_eq_true rfl⟩) (va_recv hK hP (ci := 2) (q0 := 0) rfl rfl) (bq_X2_X2_t A cI tt) rfl hl.1 rfl (Nat.le_of_ble_eq_true rfl) dX2_pool_2 ⟨Nat.le_of_ble_eq_true rfl, Nat.le_of_ble_eq_true rfl⟩ (fun H locs hP hD hS => ?_)
  refine lv_if_ne (tgt := 12) hx hb dX2_pool_5 (by decide) (fun c1 => ?_) (fun c1 => ?_)
  · have hf := hF hf c1
    refine lv_iload_n hx hb dX2_pool_12 rfl (lv_at hl 2 rfl) ?_
    refine lv_iconst (v := (0 : Int32)) hx hb dX2_pool_13 (by decide) ?_
    refine lv_bipush (v := (20 : Int32)) hx hb dX2_pool_14 (by decide) ?_
    refine qS_i (As := [.int j2, .int (0 : Int32), .int (20 : Int32)]) (rest := []) ⟨hx, hb, hml, hown, hts⟩ hK hN hA hP hD hS (c_X2_bound l D cI j2 (0 : Int32) (20 : Int32) (f_X2_bound j2 (0 : Int32) (20 : Int32)) rfl) (va_cwS 3 hts gX2_pool_X2_bound rfl rfl rfl hd_X2_bound.2 ⟨Nat.le_of_ble_eq_true rfl, Nat.le_of_ble_eq_true rfl⟩) Bp_e rfl hl.1 rfl (Nat.le_of_ble_eq_true rfl) dX2_pool_16 ⟨Nat.le_of_ble_eq_true rfl, Nat.le_of_ble_eq_true rfl⟩ (fun H locs hP hD hS => ?_)
    refine lv_istore_n (lv' := [(3, .int (f_X2_bound j2 (0 : Int32) (20 : Int32))), (0, .ref (A 0)), (1, .int j1), (2, .int j2)]) hx hb dX2_pool_19 rfl hl (by decide) rfl (fun ls hl => ?_)
    refine lv_iload_n hx hb dX2_pool_20 rfl (lv_at hl 0 rfl) ?_
    refine lv_if_eq (tgt := 30) hx hb dX2_pool_21 (by decide) (fun c2 => ?_) (fun c2 => ?_)
    · have hf := hT hf c2
      refine lv_bipush (v := (-9 : Int32)) hx hb dX2_pool_30 (by decide) ?_
      refine lv_istore (lv' := [(4, .int (-9 : Int32)), (3, .int (f_X2_bound j2 (0 : Int32) (20 : Int32))), (0, .ref (A 0)), (1, .int j1), (2, .int j2)]) hx hb dX2_pool_32 hl (by decide) rfl (fun ls hl => ?_)
      refine lv_aload_n hx hb dX2_pool_34 rfl (lv_at hl 2 rfl) ?_
      refine lv_iload_n hx hb dX2_pool_35 rfl (lv_at hl 3 rfl) ?_
      refine lv_iload_n hx hb dX2_pool_36 rfl (lv_at hl 4 rfl) ?_
      obtain ⟨v3, hev3, hf⟩ := bS hf
      refine qV_i (ws' := (wM A cI v3.2)) (As := [.int j1, .int j2]) (rest := []) ⟨hx, hb, hml, hown, hts⟩ hK hN hA hP hD hS (c_X2_manyIn l D cI A j1 j2 tt v3 hev3) (cwV 2 hts gX2_pool_X2_manyIn rfl rfl rfl hd_X2_manyIn ⟨Nat.le_of_ble_eq_true rfl, Nat.le_of_ble_eq_true rfl⟩) (va_recv hK hP (ci := 2) (q0 := 0) rfl rfl) (bp_X2_X2_t_t A cI tt v3.2) rfl hl.1 rfl (Nat.le_of_ble_eq_true rfl) dX2_pool_37 ⟨Nat.le_of_ble_eq_true rfl, Nat.le_of_ble_eq_true rfl⟩ (fun H locs hP hD hS => ?_)
      have hP : va_P D vwCl (wM A cI v3.2) H := hP
      refine lv_istore (lv' := [(5, .int v3.1), (4, .int (-9 : Int32)), (3, .int (f_X2_bound j2 (0 : Int32) (20 : Int32))), (0, .ref (A 0)), (1, .int j1), (2, .int j2)]) hx hb dX2_pool_40 hl (by decide) rfl (fun ls hl => ?_)
      refine lv_aload_n hx hb dX2_pool_42 rfl (lv_at hl 3 rfl) ?_
      refine va_get (D := D) (ci := 2) (v := .ref (A 10)) (C := RX2) (T := TX2) (N := 31) hx hb hts hinM hown hK hP 0 rfl rfl 9 (by decide) lk0 (fun _ h9 => h9) rfl dX2_pool_43 ?_
      refine lv_iload_n hx hb dX2_pool_46 rfl (lv_at hl 4 rfl) ?_
      obtain ⟨v4, he, hf⟩ := bS hf
      refine x_iald hx hb hK hP 10 (n := 6) rfl he dX2_pool_47 ?_
      refine lv_istore (lv' := [(6, .int v4), (5, .int v3.1), (4, .int (-9 : Int32)), (3, .int (f_X2_bound j2 (0 : Int32) (20 : Int32))), (0, .ref (A 0)), (1, .int j1), (2, .int j2)]) hx hb dX2_pool_48 hl (by decide) rfl (fun ls hl => ?_)
      refine lv_iconst (v := (0 : Int32)) hx hb dX2_pool_50 (by decide) ?_
      refine lv_istore (lv' := [(7, .int (0 : Int32)), (6, .int v4), (5, .int v3.1), (4, .int (-9 : Int32)), (3, .int (f_X2_bound j2 (0 : Int32) (20 : Int32))), (0, .ref (A 0)), (1, .int j1), (2, .int j2)]) hx hb dX2_pool_51 hl (by decide) rfl (fun ls hl => ?_)
      obtain ⟨K154, hK154, hf⟩ := jnS hf
      have J154 : ∀ (j4_154 : Int32) (tt_154 : HS) (H : Heap) (locs : List Loc) (ls : Array Slot), K154 j4_154 tt_154 = some out → va_P D vwCl (wM A cI tt_154) H → va_D G (wM A cI tt_154) → va_S G s.heap H locs → lv_has ls 10 [(4, .int j4_154)] → WW H locs (F0 m 154 ls []) := by
        intro j4_154 tt_154 H locs ls hf hP hD hS hl
        subst hK154
        refine (hWW _ _ _).mpr ?_
        refine lv_iload hx hb dX2_pool_154 (lv_at hl 0 rfl) ?_
        obtain rfl := Option.some.inj hf
        exact W.iret (v := j4_154) hx hb hr (fun t ht hW => ⟨⟨j4_154, (), rfl, rfl, hPt ht hP⟩, hS.F ht⟩) hS.2.2 dX2_pool_156
      have P53 : ∀ (n' : Nat) (j4_53 : Int32) (j5_53 : Int32) (j6_53 : Int32) (j7_53 : Int32) (tt_53 : HS) (H : Heap) (locs : List Loc) (ls : Array Slot), L_X2_pool_53 j1 j2 K154 n' j4_53 j5_53 j6_53 j7_53 tt_53 = some out → va_P D vwCl (wM A cI tt_53) H → va_D G (wM A cI tt_53) → va_S G s.heap H locs → lv_has ls 10 [(0, .ref (A 0)), (1, .int j1), (2, .int j2), (4, .int j4_53), (5, .int j5_53), (6, .int j6_53), (7, .int j7_53)] → WW H locs (F0 m 53 ls []) := by
        intro n'
        induction n' with
        | zero => intro j4_53 j5_53 j6_53 j7_53 tt_53 H locs ls hf; exact absurd (show (none : Option (Int32 × HS)) = some out from hf) (fun q => by cases q)
        | succ n' ih =>
          intro j4_53 j5_53 j6_53 j7_53 tt_53 H locs ls hf hP hD hS hl
          rw [L_X2_pool_53] at hf
          refine (hWW _ _ _).mpr ?_
          refine lv_iload hx hb dX2_pool_53 (lv_at hl 6 rfl) ?_
          refine lv_aload_n hx hb dX2_pool_55 rfl (lv_at hl 0 rfl) ?_
          refine va_get (D := D) (ci := 2) (v := .int (tt_53 21 0)) (C := RX2) (T := TX2) (N := 31) hx hb hts hinM hown hK hP 0 rfl rfl 12 (by decide) lk1 (fun _ h9 => h9) rfl dX2_pool_56 ?_
          refine lv_icmp_ge (tgt := 154) hx hb dX2_pool_59 (by decide) (fun c5 => ?_) (fun c5 => ?_)
          · have hf := hT hf c5
            exact (hWW _ _ _).mp (J154 _ _ _ _ _ hf hP hD hS (lv_sub hl [3] rfl))
          · have hf := hF hf c5
            refine lv_iload hx hb dX2_pool_62 (lv_at hl 6 rfl) ?_
            refine lv_iload_n hx hb dX2_pool_64 rfl (lv_at hl 1 rfl) ?_
            refine lv_icmp_ne (tgt := 71) hx hb dX2_pool_65 (by decide) (fun c6 => ?_) (fun c6 => ?_)
            · have hf := hF hf c6
              refine lv_aload_n hx hb dX2_pool_71 rfl (lv_at hl 0 rfl) ?_
              refine va_get (D := D) (ci := 2) (v := .ref (A 10)) (C := RX2) (T := TX2) (N := 31) hx hb hts hinM hown hK hP 0 rfl rfl 9 (by decide) lk0 (fun _ h9 => h9) rfl dX2_pool_72 ?_
              refine lv_iload hx hb dX2_pool_75 (lv_at hl 6 rfl) ?_
              obtain ⟨v7, he, hf⟩ := bS hf
              refine x_iald hx hb hK hP 10 (n := 6) rfl he dX2_pool_77 ?_
              refine lv_istore (lv' := [(8, .int v7), (0, .ref (A 0)), (1, .int j1), (2, .int j2), (4, .int j4_53), (5, .int j5_53), (6, .int j6_53), (7, .int j7_53)]) hx hb dX2_pool_78 hl (by decide) rfl (fun ls hl => ?_)
              refine lv_aload_n hx hb dX2_pool_80 rfl (lv_at hl 1 rfl) ?_
              refine va_get (D := D) (ci := 2) (v := .ref (A 10)) (C := RX2) (T := TX2) (N := 31) hx hb hts hinM hown hK hP 0 rfl rfl 9 (by decide) lk0 (fun _ h9 => h9) rfl dX2_pool_81 ?_
              refine lv_iload_n hx hb dX2_pool_84 rfl (lv_at hl 2 rfl) ?_
              refine lv_iload hx hb dX2_pool_85 (lv_at hl 6 rfl) ?_
              refine lv_iload hx hb dX2_pool_87 (lv_at hl 0 rfl) ?_
              refine lv_iadd hx hb dX2_pool_89 ?_
              refine lv_sipush (v := (999 : Int32)) hx hb dX2_pool_90 (by decide) ?_
              refine qS_i (As := [.int (j6_53 + v7), .int (999 : Int32)]) (rest := [.int j1, .ref (A 10)]) ⟨hx, hb, hml, hown, hts⟩ hK hN hA hP hD hS (c_X2_held l D cI (j6_53 + v7) (999 : Int32) (f_X2_held (j6_53 + v7) (999 : Int32)) rfl) (va_cwS 2 hts gX2_pool_X2_held rfl rfl rfl hd_X2_held.2 ⟨Nat.le_of_ble_eq_true rfl, Nat.le_of_ble_eq_true rfl⟩) Bp_e rfl hl.1 rfl (Nat.le_of_ble_eq_true rfl) dX2_pool_93 ⟨Nat.le_of_ble_eq_true rfl, Nat.le_of_ble_eq_true rfl⟩ (fun H locs hP hD hS => ?_)
              obtain ⟨v8, he, hf⟩ := bS hf
              obtain ⟨tt_v9, ett_v9, hf⟩ := jnS hf
              refine x_iast (ws' := (wM A cI tt_v9)) hx hb hK hP hD hS 10 (n := 6) rfl he ((sa_X2_t_9 A cI tt_53 v8).trans (congrArg (fun z => wM A cI z) ett_v9.symm)) dX2_pool_96 (fun H locs hP hD hS => ?_)
              refine lv_aload_n hx hb dX2_pool_97 rfl (lv_at hl 1 rfl) ?_
              refine va_get (D := D) (ci := 2) (v := .ref (A 10)) (C := RX2) (T := TX2) (N := 31) hx hb hts hinM hown hK hP 0 rfl rfl 9 (by decide) lk0 (fun _ h9 => h9) rfl dX2_pool_98 ?_
              refine lv_iload hx hb dX2_pool_101 (lv_at hl 7 rfl) ?_
              refine lv_iconst (v := (0 : Int32)) hx hb dX2_pool_103 (by decide) ?_
              obtain ⟨v10, he, hf⟩ := bS hf
              obtain ⟨tt_v11, ett_v11, hf⟩ := jnS hf
              refine x_iast (ws' := (wM A cI tt_v11)) hx hb hK hP hD hS 10 (n := 6) rfl he ((sa_X2_t_9 A cI tt_v9 v10).trans (congrArg (fun z => wM A cI z) ett_v11.symm)) dX2_pool_104 (fun H locs hP hD hS => ?_)
              refine lv_aload_n hx hb dX2_pool_105 rfl (lv_at hl 1 rfl) ?_
              refine lv_iload_n hx hb dX2_pool_106 rfl (lv_at hl 2 rfl) ?_
              refine lv_iload_n hx hb dX2_pool_107 rfl (lv_at hl 3 rfl) ?_
              obtain ⟨v12, hev12, hf⟩ := bS hf
              refine qV_i (ws' := (wM A cI v12.2)) (As := [.int j1, .int j2]) (rest := []) ⟨hx, hb, hml, hown, hts⟩ hK hN hA hP hD hS (c_X2_manyIn l D cI A j1 j2 tt_v11 v12 hev12) (cwV 2 hts gX2_pool_X2_manyIn rfl rfl rfl hd_X2_manyIn ⟨Nat.le_of_ble_eq_true rfl, Nat.le_of_ble_eq_true rfl⟩) (va_recv hK hP (ci := 2) (q0 := 0) rfl rfl) (bp_X2_X2_t_t A cI tt_v11 v12.2) rfl hl.1 rfl (Nat.le_of_ble_eq_true rfl) dX2_pool_108 ⟨Nat.le_of_ble_eq_true rfl, Nat.le_of_ble_eq_true rfl⟩ (fun H locs hP hD hS => ?_)
              have hP : va_P D vwCl (wM A cI v12.2) H := hP
              refine lv_istore (lv' := [(9, .int v12.1), (8, .int v7), (0, .ref (A 0)), (1, .int j1), (2, .int j2), (4, .int j4_53), (5, .int j5_53), (6, .int j6_53), (7, .int j7_53)]) hx hb dX2_pool_111 hl (by decide) rfl (fun ls hl => ?_)
              refine lv_aload_n hx hb dX2_pool_113 rfl (lv_at hl 2 rfl) ?_
              refine va_get (D := D) (ci := 2) (v := .ref (A 10)) (C := RX2) (T := TX2) (N := 31) hx hb hts hinM hown hK hP 0 rfl rfl 9 (by decide) lk0 (fun _ h9 => h9) rfl dX2_pool_114 ?_
              refine lv_iload_n hx hb dX2_pool_117 rfl (lv_at hl 3 rfl) ?_
              refine lv_iload hx hb dX2_pool_118 (lv_at hl 7 rfl) ?_
              obtain ⟨v13, he, hf⟩ := bS hf
              obtain ⟨tt_v14, ett_v14, hf⟩ := jnS hf
              refine x_iast (ws' := (wM A cI tt_v14)) hx hb hK hP hD hS 10 (n := 6) rfl he ((sa_X2_t_9 A cI v12.2 v13).trans (congrArg (fun z => wM A cI z) ett_v14.symm)) dX2_pool_120 (fun H locs hP hD hS => ?_)
              refine lv_aload_n hx hb dX2_pool_121 rfl (lv_at hl 2 rfl) ?_
              refine va_get (D := D) (ci := 2) (v := .ref (A 10)) (C := RX2) (T := TX2) (N := 31) hx hb hts hinM hown hK hP 0 rfl rfl 9 (by decide) lk0 (fun _ h9 => h9) rfl dX2_pool_122 ?_
              refine lv_iload hx hb dX2_pool_125 (lv_at hl 8 rfl) ?_
              refine lv_iload hx hb dX2_pool_127 (lv_at hl 1 rfl) ?_
              obtain ⟨v15, he, hf⟩ := bS hf
              obtain ⟨tt_v16, ett_v16, hf⟩ := jnS hf
              refine x_iast (ws' := (wM A cI tt_v16)) hx hb hK hP hD hS 10 (n := 6) rfl he ((sa_X2_t_9 A cI tt_v14 v15).trans (congrArg (fun z => wM A cI z) ett_v16.symm)) dX2_pool_129 (fun H locs hP hD hS => ?_)
              refine lv_iload hx hb dX2_pool_130 (lv_at hl 0 rfl) ?_
              refine lv_iload hx hb dX2_pool_132 (lv_at hl 6 rfl) ?_
              refine lv_icmp_gt (tgt := 140) hx hb dX2_pool_134 (by decide) (fun c17 => ?_) (fun c17 => ?_)
              · have hf := hT hf c17
                refine lv_iload hx hb dX2_pool_140 (lv_at hl 8 rfl) ?_
                refine lv_istore (lv' := [(4, .int j7_53), (9, .int v12.1), (8, .int v7), (0, .ref (A 0)), (1, .int j1), (2, .int j2), (5, .int j5_53), (6, .int j6_53), (7, .int j7_53)]) hx hb dX2_pool_142 hl (by decide) rfl (fun ls hl => ?_)
                refine lv_iload hx hb dX2_pool_144 (lv_at hl 1 rfl) ?_
                refine lv_istore (lv' := [(5, .int v12.1), (4, .int j7_53), (9, .int v12.1), (8, .int v7), (0, .ref (A 0)), (1, .int j1), (2, .int j2), (6, .int j6_53), (7, .int j7_53)]) hx hb dX2_pool_146 hl (by decide) rfl (fun ls hl => ?_)
                refine lv_iinc (v := (j7_53 + (1 : Int32))) (lv' := [(7, .int (j7_53 + (1 : Int32))), (5, .int v12.1), (4, .int j7_53), (9, .int v12.1), (8, .int v7), (0, .ref (A 0)), (1, .int j1), (2, .int j2), (6, .int j6_53)]) hx hb dX2_pool_148 hl (k := 8) rfl rfl (by decide) rfl (fun ls hl => ?_)
                refine lv_goto (tgt := 53) hx hb dX2_pool_151 (by decide) ?_
                exact (hWW _ _ _).mp (ih _ _ _ _ _ _ _ _ hf hP hD hS (lv_sub hl [5, 6, 7, 2, 1, 8, 0] rfl))
              · have hf := hF hf c17
                refine lv_goto (tgt := 148) hx hb dX2_pool_137 (by decide) ?_
                refine lv_iinc (v := (j7_53 + (1 : Int32))) (lv' := [(7, .int (j7_53 + (1 : Int32))), (9, .int v12.1), (8, .int v7), (0, .ref (A 0)), (1, .int j1), (2, .int j2), (4, .int j4_53), (5, .int j5_53), (6, .int j6_53)]) hx hb dX2_pool_148 hl (k := 8) rfl rfl (by decide) rfl (fun ls hl => ?_)
                refine lv_goto (tgt := 53) hx hb dX2_pool_151 (by decide) ?_
                exact (hWW _ _ _).mp (ih _ _ _ _ _ _ _ _ hf hP hD hS (lv_sub hl [3, 4, 5, 6, 7, 8, 0] rfl))
            · have hf := hT hf c6
              refine lv_goto (tgt := 148) hx hb dX2_pool_68 (by decide) ?_
              refine lv_iinc (v := (j7_53 + (1 : Int32))) (lv' := [(7, .int (j7_53 + (1 : Int32))), (0, .ref (A 0)), (1, .int j1), (2, .int j2), (4, .int j4_53), (5, .int j5_53), (6, .int j6_53)]) hx hb dX2_pool_148 hl (k := 6) rfl rfl (by decide) rfl (fun ls hl => ?_)
              refine lv_goto (tgt := 53) hx hb dX2_pool_151 (by decide) ?_
              exact (hWW _ _ _).mp (ih _ _ _ _ _ _ _ _ hf hP hD hS (lv_sub hl [1, 2, 3, 4, 5, 6, 0] rfl))
      exact (hWW _ _ _).mp (P53 _ _ _ _ _ _ _ _ _ hf hP hD hS (lv_sub hl [5, 6, 7, 3, 2, 1, 0] rfl))
    · have hf := hF hf c2
      refine lv_aload_n hx hb dX2_pool_24 rfl (lv_at hl 1 rfl) ?_
      refine lv_iload_n hx hb dX2_pool_25 rfl (lv_at hl 0 rfl) ?_
      obtain ⟨v18, hev18, hf⟩ := bS hf
      refine qV_i (ws' := (wM A cI v18.2)) (As := [.int (f_X2_bound j2 (0 : Int32) (20 : Int32))]) (rest := []) ⟨hx, hb, hml, hown, hts⟩ hK hN hA hP hD hS (c_X2_no l D cI A (f_X2_bound j2 (0 : Int32) (20 : Int32)) tt v18 hev18) (cwV 1 hts gX2_pool_X2_no rfl rfl rfl hd_X2_no ⟨Nat.le_of_ble_eq_true rfl, Nat.le_of_ble_eq_true rfl⟩) (va_recv hK hP (ci := 2) (q0 := 0) rfl rfl) (bp_X2_X2_t_t A cI tt v18.2) rfl hl.1 rfl (Nat.le_of_ble_eq_true rfl) dX2_pool_26 ⟨Nat.le_of_ble_eq_true rfl, Nat.le_of_ble_eq_true rfl⟩ (fun H locs hP hD hS => ?_)
      have hP : va_P D vwCl (wM A cI v18.2) H := hP
      obtain rfl := Option.some.inj hf
      exact W.iret (v := v18.1) hx hb hr (fun t ht hW => ⟨⟨v18.1, (), rfl, rfl, hPt ht hP⟩, hS.F ht⟩) hS.2.2 dX2_pool_29
  · have hf := hT hf c1
    refine lv_iconst (v := (-1 : Int32)) hx hb dX2_pool_8 (by decide) ?_
    refine lv_goto (tgt := 19) hx hb dX2_pool_9 (by decide) ?_
    refine lv_istore_n (lv' := [(3, .int (-1 : Int32)), (0, .ref (A 0)), (1, .int j1), (2, .int j2)]) hx hb dX2_pool_19 rfl hl (by decide) rfl (fun ls hl => ?_)
    refine lv_iload_n hx hb dX2_pool_20 rfl (lv_at hl 0 rfl) ?_
    refine lv_if_eq (tgt := 30) hx hb dX2_pool_21 (by decide) (fun c19 => ?_) (fun c19 => ?_)
    · exact absurd c19 (by decide)
    · refine lv_aload_n hx hb dX2_pool_24 rfl (lv_at hl 1 rfl) ?_
      refine lv_iload_n hx hb dX2_pool_25 rfl (lv_at hl 0 rfl) ?_
      obtain ⟨v20, hev20, hf⟩ := bS hf
      refine qV_i (ws' := (wM A cI v20.2)) (As := [.int (-1 : Int32)]) (rest := []) ⟨hx, hb, hml, hown, hts⟩ hK hN hA hP hD hS (c_X2_no l D cI A (-1 : Int32) tt v20 hev20) (cwV 1 hts gX2_pool_X2_no rfl rfl rfl hd_X2_no ⟨Nat.le_of_ble_eq_true rfl, Nat.le_of_ble_eq_true rfl⟩) (va_recv hK hP (ci := 2) (q0 := 0) rfl rfl) (bp_X2_X2_t_t A cI tt v20.2) rfl hl.1 rfl (Nat.le_of_ble_eq_true rfl) dX2_pool_26 ⟨Nat.le_of_ble_eq_true rfl, Nat.le_of_ble_eq_true rfl⟩ (fun H locs hP hD hS => ?_)
      have hP : va_P D vwCl (wM A cI v20.2) H := hP
      obtain rfl := Option.some.inj hf
      exact W.iret (v := v20.1) hx hb hr (fun t ht hW => ⟨⟨v20.1, (), rfl, rfl, hPt ht hP⟩, hS.F ht⟩) hS.2.2 dX2_pool_29
set_option maxHeartbeats 4000000 in
set_option maxRecDepth 100000 in
theorem c_X2_allOf_16 (l : Launch) (D : va_G) (cI : ClassId) (A : Nat → Nat) (j2 : Int32) (tt : HS) (out : Int32) (hf : f_X2_allOf_16 j2 tt = some out) : uI l D cI yX2_allOf wsX2_allOf ({ frames := 0, cells := 0, slots := 0, locals := 0 } : Room) [.ref (A 0), .ref (A 17), .int j2] (wM A cI tt) (wM A cI tt) out := by
  intro sz
  refine Met.ofW (cc := cX2_allOf) (maxL := 5) (ret := (some .int)) (by decide) rfl ?_
  intro p e s m args below meth c s₁ Bd hml hv
  obtain ⟨rfl, hsz, hP, hK, hD0, hN⟩ := hv
  have hx := Bd.exec
  have hb := Bd.bytes
  have hr := Bd.returns
  have hts := atoms_spec (ws := wsX2_allOf) Bd.pre
  have hown : s.vm.findClass RX2 = some m.cls := findClass_of_methodNamed Bd.named
  have hlocks := Bd.notSynchronized
  subst hsz
  have hD := hD0.self (sz := s.heap.size)
  generalize hAe : va_A (wM A cI tt) s.heap.size = G at hD ⊢
  have hA : ∀ q : Nat, s.heap.size ≤ q → G q := fun q h => by rw [← hAe]; exact Or.inr h
  have hS : va_S G s.heap s.heap [] := va_S.rf
  have hP : va_P D vwCl (wM A cI tt) s.heap := hP
  have hl := lv_entry ([.ref (A 0), .ref (A 17), .int j2]) (n := 5) (Nat.le_of_ble_eq_true rfl)
  rw [lg_entry_eq]
  generalize (lg_sl ([.ref (A 0), .ref (A 17), .int j2]) ++ List.replicate (5 - (lg_sl ([.ref (A 0), .ref (A 17), .int j2])).length) Slot.unset).toArray = ls at hl ⊢
  have hl : lv_has ls 5 [(0, .ref (A 0)), (1, .ref (A 17)), (2, .int j2)] := hl
  refine W_in ?_
  intro WW hWW
  refine (hWW _ _ _).mpr ?_
  unfold f_X2_allOf_16 at hf
  refine lv_iconst (v := (0 : Int32)) hx hb dX2_allOf_0 (by decide) ?_
  refine lv_istore_n (lv' := [(3, .int (0 : Int32)), (0, .ref (A 0)), (1, .ref (A 17)), (2, .int j2)]) hx hb dX2_allOf_1 rfl hl (by decide) rfl (fun ls hl => ?_)
  refine lv_iconst (v := (0 : Int32)) hx hb dX2_allOf_2 (by decide) ?_
  refine lv_istore (lv' := [(4, .int (0 : Int32)), (3, .int (0 : Int32)), (0, .ref (A 0)), (1, .ref (A 17)), (2, .int j2)]) hx hb dX2_allOf_3 hl (by decide) rfl (fun ls hl => ?_)
  obtain ⟨K24, hK24, hf⟩ := jnS hf
  have J24 : ∀ (j3_24 : Int32) (H : Heap) (locs : List Loc) (ls : Array Slot), K24 j3_24 = some out → va_P D vwCl (wM A cI tt) H → va_D G (wM A cI tt) → va_S G s.heap H locs → lv_has ls 5 [(3, .int j3_24)] → WW H locs (F0 m 24 ls []) := by
    intro j3_24 H locs ls hf hP hD hS hl
    subst hK24
    refine (hWW _ _ _).mpr ?_
    refine lv_iload_n hx hb dX2_allOf_24 rfl (lv_at hl 0 rfl) ?_
    obtain rfl := Option.some.inj hf
    exact W.iret (v := j3_24) hx hb hr (fun t ht hW => ⟨⟨j3_24, (), rfl, rfl, hPt ht hP⟩, hS.F ht⟩) hS.2.2 dX2_allOf_25
  have P5 : ∀ (n' : Nat) (j3_5 : Int32) (j4_5 : Int32) (H : Heap) (locs : List Loc) (ls : Array Slot), L_X2_allOf_16_5 j2 tt K24 n' j3_5 j4_5 = some out → va_P D vwCl (wM A cI tt) H → va_D G (wM A cI tt) → va_S G s.heap H locs → lv_has ls 5 [(1, .ref (A 17)), (2, .int j2), (3, .int j3_5), (4, .int j4_5)] → WW H locs (F0 m 5 ls []) := by
    intro n'
    induction n' with
    | zero => intro j3_5 j4_5 H locs ls hf; exact absurd (show (none : Option (Int32)) = some out from hf) (fun q => by cases q)
    | succ n' ih =>
      intro j3_5 j4_5 H locs ls hf hP hD hS hl
      rw [L_X2_allOf_16_5] at hf
      refine (hWW _ _ _).mpr ?_
      refine lv_iload hx hb dX2_allOf_5 (lv_at hl 3 rfl) ?_
      refine lv_iload_n hx hb dX2_allOf_7 rfl (lv_at hl 1 rfl) ?_
      refine lv_icmp_ge (tgt := 24) hx hb dX2_allOf_8 (by decide) (fun c1 => ?_) (fun c1 => ?_)
      · have hf := hT hf c1
        exact (hWW _ _ _).mp (J24 _ _ _ _ hf hP hD hS (lv_sub hl [2] rfl))
      · have hf := hF hf c1
        refine lv_iload_n hx hb dX2_allOf_11 rfl (lv_at hl 2 rfl) ?_
        refine lv_aload_n hx hb dX2_allOf_12 rfl (lv_at hl 0 rfl) ?_
        refine lv_iload hx hb dX2_allOf_13 (lv_at hl 3 rfl) ?_
        obtain ⟨v2, he, hf⟩ := bS hf
        refine x_iald hx hb hK hP 17 (n := 6) rfl he dX2_allOf_15 ?_
        refine lv_iadd hx hb dX2_allOf_16 ?_
        refine lv_istore_n (lv' := [(3, .int (j3_5 + v2)), (1, .ref (A 17)), (2, .int j2), (4, .int j4_5)]) hx hb dX2_allOf_17 rfl hl (by decide) rfl (fun ls hl => ?_)
        refine lv_iinc (v := (j4_5 + (1 : Int32))) (lv' := [(4, .int (j4_5 + (1 : Int32))), (3, .int (j3_5 + v2)), (1, .ref (A 17)), (2, .int j2)]) hx hb dX2_allOf_18 hl (k := 3) rfl rfl (by decide) rfl (fun ls hl => ?_)
        refine lv_goto (tgt := 5) hx hb dX2_allOf_21 (by decide) ?_
        exact (hWW _ _ _).mp (ih _ _ _ _ _ hf hP hD hS (lv_sub hl [2, 3, 1, 0] rfl))
  exact (hWW _ _ _).mp (P5 _ _ _ _ _ _ hf hP hD hS (lv_sub hl [3, 4, 1, 0] rfl))
set_option maxHeartbeats 4000000 in
set_option maxRecDepth 100000 in
theorem c_X2_paidWithout (l : Launch) (D : va_G) (cI : ClassId) (A : Nat → Nat) (j1 : Int32) (tt : HS) (out : Int32 × HS) (hf : f_X2_paidWithout j1 tt = some out) : uI l D cI yX2_paidWithout wsX2_paidWithout ({ frames := 8, cells := 0, slots := 0, locals := 182 } : Room) [.ref (A 0), .int j1] (wM A cI tt) (wM A cI out.2) out.1 := by
  intro sz
  refine Met.ofW (cc := cX2_paidWithout) (maxL := 3) (ret := (some .int)) (by decide) rfl ?_
  intro p e s m args below meth c s₁ Bd hml hv
  obtain ⟨rfl, hsz, hP, hK, hD0, hN⟩ := hv
  have hx := Bd.exec
  have hb := Bd.bytes
  have hr := Bd.returns
  have hts := atoms_spec (ws := wsX2_paidWithout) Bd.pre
  have hown : s.vm.findClass RX2 = some m.cls := findClass_of_methodNamed Bd.named
  have hlocks := Bd.notSynchronized
  subst hsz
  have hD := hD0.self (sz := s.heap.size)
  generalize hAe : va_A (wM A cI tt) s.heap.size = G at hD ⊢
  have hA : ∀ q : Nat, s.heap.size ≤ q → G q := fun q h => by rw [← hAe]; exact Or.inr h
  have hS : va_S G s.heap s.heap [] := va_S.rf
  have hP : va_P D vwCl (wM A cI tt) s.heap := hP
  have hl := lv_entry ([.ref (A 0), .int j1]) (n := 3) (Nat.le_of_ble_eq_true rfl)
  rw [lg_entry_eq]
  generalize (lg_sl ([.ref (A 0), .int j1]) ++ List.replicate (3 - (lg_sl ([.ref (A 0), .int j1])).length) Slot.unset).toArray = ls at hl ⊢
  have hl : lv_has ls 3 [(0, .ref (A 0)), (1, .int j1)] := hl
  have hinM : ∀ w ∈ wsX20, w ∈ wsX2_paidWithout := by decide +kernel
  have lk0 := hts (.fieldLink RX2 37 "LiesBoughtBackModel" "purse" "[I") (by decide +kernel)
  have lk1 := hts (.fieldLink RX2 58 "LiesBoughtBackModel" "paid" "[I") (by decide +kernel)
  have lk2 := hts (.fieldLink RX2 73 "LiesBoughtBackModel" "bidders" "I") (by decide +kernel)
  refine W_in ?_
  intro WW hWW
  refine (hWW _ _ _).mpr ?_
  unfold f_X2_paidWithout at hf
  refine lv_aload_n hx hb dX2_paidWithout_0 rfl (lv_at hl 0 rfl) ?_
  obtain ⟨v1, hev1, hf⟩ := bS hf
  refine qV_v (ws' := (wM A cI v1)) (As := []) (rest := []) ⟨hx, hb, hml, hown, hts⟩ hK hN hA hP hD hS (c_X2_thinks l D cI A tt v1 hev1) (cwV 0 hts gX2_paidWithout_X2_thinks rfl rfl rfl hd_X2_thinks ⟨Nat.le_of_ble_eq_true rfl, Nat.le_of_ble_eq_true rfl⟩) (va_recv hK hP (ci := 2) (q0 := 0) rfl rfl) (bp_X2_X2_t_t A cI tt v1) rfl hl.1 rfl (Nat.le_of_ble_eq_true rfl) dX2_paidWithout_1 ⟨Nat.le_of_ble_eq_true rfl, Nat.le_of_ble_eq_true rfl⟩ (fun H locs hP hD hS => ?_)
  have hP : va_P D vwCl (wM A cI v1) H := hP
  refine lv_aload_n hx hb dX2_paidWithout_4 rfl (lv_at hl 0 rfl) ?_
  refine va_get (D := D) (ci := 2) (v := .ref (A 10)) (C := RX2) (T := TX2) (N := 31) hx hb hts hinM hown hK hP 0 rfl rfl 9 (by decide) lk0 (fun _ h9 => h9) rfl dX2_paidWithout_5 ?_
  refine lv_iload_n hx hb dX2_paidWithout_8 rfl (lv_at hl 1 rfl) ?_
  refine lv_iconst (v := (0 : Int32)) hx hb dX2_paidWithout_9 (by decide) ?_
  obtain ⟨v2, he, hf⟩ := bS hf
  obtain ⟨tt_v3, ett_v3, hf⟩ := jnS hf
  refine x_iast (ws' := (wM A cI tt_v3)) hx hb hK hP hD hS 10 (n := 6) rfl he ((sa_X2_t_9 A cI v1 v2).trans (congrArg (fun z => wM A cI z) ett_v3.symm)) dX2_paidWithout_10 (fun H locs hP hD hS => ?_)
  refine lv_iconst (v := (0 : Int32)) hx hb dX2_paidWithout_11 (by decide) ?_
  refine lv_istore_n (lv' := [(2, .int (0 : Int32)), (0, .ref (A 0)), (1, .int j1)]) hx hb dX2_paidWithout_12 rfl hl (by decide) rfl (fun ls hl => ?_)
  obtain ⟨K32, hK32, hf⟩ := jnS hf
  have J32 : ∀ (tt_32 : HS) (H : Heap) (locs : List Loc) (ls : Array Slot), K32 tt_32 = some out → va_P D vwCl (wM A cI tt_32) H → va_D G (wM A cI tt_32) → va_S G s.heap H locs → lv_has ls 3 [(0, .ref (A 0)), (1, .int j1)] → WW H locs (F0 m 32 ls []) := by
    intro tt_32 H locs ls hf hP hD hS hl
    subst hK32
    refine (hWW _ _ _).mpr ?_
    refine lv_aload_n hx hb dX2_paidWithout_32 rfl (lv_at hl 0 rfl) ?_
    refine lv_iconst (v := (0 : Int32)) hx hb dX2_paidWithout_33 (by decide) ?_
    obtain ⟨v4, hev4, hf⟩ := bS hf
    refine qV_v (ws' := (wM A cI v4)) (As := [.int (0 : Int32)]) (rest := []) ⟨hx, hb, hml, hown, hts⟩ hK hN hA hP hD hS (c_X2_goesMonth l D cI A (0 : Int32) tt_32 v4 hev4) (cwV 1 hts gX2_paidWithout_X2_goesMonth rfl rfl rfl hd_X2_goesMonth ⟨Nat.le_of_ble_eq_true rfl, Nat.le_of_ble_eq_true rfl⟩) (va_recv hK hP (ci := 2) (q0 := 0) rfl rfl) (bp_X2_X2_t_t A cI tt_32 v4) rfl hl.1 rfl (Nat.le_of_ble_eq_true rfl) dX2_paidWithout_34 ⟨Nat.le_of_ble_eq_true rfl, Nat.le_of_ble_eq_true rfl⟩ (fun H locs hP hD hS => ?_)
    have hP : va_P D vwCl (wM A cI v4) H := hP
    refine lv_aload_n hx hb dX2_paidWithout_37 rfl (lv_at hl 0 rfl) ?_
    refine lv_aload_n hx hb dX2_paidWithout_38 rfl (lv_at hl 0 rfl) ?_
    refine va_get (D := D) (ci := 2) (v := .ref (A 17)) (C := RX2) (T := TX2) (N := 31) hx hb hts hinM hown hK hP 0 rfl rfl 26 (by decide) lk1 (fun _ h9 => h9) rfl dX2_paidWithout_39 ?_
    refine lv_aload_n hx hb dX2_paidWithout_42 rfl (lv_at hl 0 rfl) ?_
    refine va_get (D := D) (ci := 2) (v := .int (v4 21 0)) (C := RX2) (T := TX2) (N := 31) hx hb hts hinM hown hK hP 0 rfl rfl 12 (by decide) lk2 (fun _ h9 => h9) rfl dX2_paidWithout_43 ?_
    obtain ⟨v5, hev5, hf⟩ := bS hf
    refine qV_i (As := [.ref (A 17), .int (v4 21 0)]) (rest := []) ⟨hx, hb, hml, hown, hts⟩ hK hN hA hP hD hS (c_X2_allOf_16 l D cI A (v4 21 0) v4 v5 hev5) (cwV 2 hts gX2_paidWithout_X2_allOf rfl rfl rfl hd_X2_allOf ⟨Nat.le_of_ble_eq_true rfl, Nat.le_of_ble_eq_true rfl⟩) (va_recv hK hP (ci := 2) (q0 := 0) rfl rfl) (bq_X2_X2_t A cI v4) rfl hl.1 rfl (Nat.le_of_ble_eq_true rfl) dX2_paidWithout_46 ⟨Nat.le_of_ble_eq_true rfl, Nat.le_of_ble_eq_true rfl⟩ (fun H locs hP hD hS => ?_)
    refine lv_aload_n hx hb dX2_paidWithout_49 rfl (lv_at hl 0 rfl) ?_
    refine va_get (D := D) (ci := 2) (v := .ref (A 17)) (C := RX2) (T := TX2) (N := 31) hx hb hts hinM hown hK hP 0 rfl rfl 26 (by decide) lk1 (fun _ h9 => h9) rfl dX2_paidWithout_50 ?_
    refine lv_iload_n hx hb dX2_paidWithout_53 rfl (lv_at hl 1 rfl) ?_
    obtain ⟨v6, he, hf⟩ := bS hf
    refine x_iald hx hb hK hP 17 (n := 6) rfl he dX2_paidWithout_54 ?_
    refine lv_isub hx hb dX2_paidWithout_55 ?_
    refine lv_istore_n (lv' := [(2, .int (v5 - v6)), (0, .ref (A 0)), (1, .int j1)]) hx hb dX2_paidWithout_56 rfl hl (by decide) rfl (fun ls hl => ?_)
    refine lv_aload_n hx hb dX2_paidWithout_57 rfl (lv_at hl 1 rfl) ?_
    obtain ⟨v7, hev7, hf⟩ := bS hf
    refine qV_v (ws' := (wM A cI v7)) (As := []) (rest := []) ⟨hx, hb, hml, hown, hts⟩ hK hN hA hP hD hS (c_X2_forgets l D cI A v4 v7 hev7) (cwV 0 hts gX2_paidWithout_X2_forgets rfl rfl rfl hd_X2_forgets ⟨Nat.le_of_ble_eq_true rfl, Nat.le_of_ble_eq_true rfl⟩) (va_recv hK hP (ci := 2) (q0 := 0) rfl rfl) (bp_X2_X2_t_t A cI v4 v7) rfl hl.1 rfl (Nat.le_of_ble_eq_true rfl) dX2_paidWithout_58 ⟨Nat.le_of_ble_eq_true rfl, Nat.le_of_ble_eq_true rfl⟩ (fun H locs hP hD hS => ?_)
    have hP : va_P D vwCl (wM A cI v7) H := hP
    refine lv_iload_n hx hb dX2_paidWithout_61 rfl (lv_at hl 0 rfl) ?_
    obtain rfl := Option.some.inj hf
    exact W.iret (v := (v5 - v6)) hx hb hr (fun t ht hW => ⟨⟨(v5 - v6), (), rfl, rfl, hPt ht hP⟩, hS.F ht⟩) hS.2.2 dX2_paidWithout_62
  have P13 : ∀ (n' : Nat) (j2_13 : Int32) (tt_13 : HS) (H : Heap) (locs : List Loc) (ls : Array Slot), L_X2_paidWithout_13 j1 K32 n' j2_13 tt_13 = some out → va_P D vwCl (wM A cI tt_13) H → va_D G (wM A cI tt_13) → va_S G s.heap H locs → lv_has ls 3 [(0, .ref (A 0)), (1, .int j1), (2, .int j2_13)] → WW H locs (F0 m 13 ls []) := by
    intro n'
    induction n' with
    | zero => intro j2_13 tt_13 H locs ls hf; exact absurd (show (none : Option (Int32 × HS)) = some out from hf) (fun q => by cases q)
    | succ n' ih =>
      intro j2_13 tt_13 H locs ls hf hP hD hS hl
      rw [L_X2_paidWithout_13] at hf
      refine (hWW _ _ _).mpr ?_
      refine lv_iload_n hx hb dX2_paidWithout_13 rfl (lv_at hl 2 rfl) ?_
      refine lv_bipush (v := (6 : Int32)) hx hb dX2_paidWithout_14 (by decide) ?_
      refine lv_icmp_ge (tgt := 32) hx hb dX2_paidWithout_16 (by decide) (fun c8 => ?_) (fun c8 => ?_)
      · have hf := hT hf c8
        exact (hWW _ _ _).mp (J32 _ _ _ _ hf hP hD hS (lv_sub hl [0, 1] rfl))
      · have hf := hF hf c8
        refine lv_aload_n hx hb dX2_paidWithout_19 rfl (lv_at hl 0 rfl) ?_
        refine va_get (D := D) (ci := 2) (v := .ref (A 17)) (C := RX2) (T := TX2) (N := 31) hx hb hts hinM hown hK hP 0 rfl rfl 26 (by decide) lk1 (fun _ h9 => h9) rfl dX2_paidWithout_20 ?_
        refine lv_iload_n hx hb dX2_paidWithout_23 rfl (lv_at hl 2 rfl) ?_
        refine lv_iconst (v := (0 : Int32)) hx hb dX2_paidWithout_24 (by decide) ?_
        obtain ⟨v9, he, hf⟩ := bS hf
        obtain ⟨tt_v10, ett_v10, hf⟩ := jnS hf
        refine x_iast (ws' := (wM A cI tt_v10)) hx hb hK hP hD hS 17 (n := 6) rfl he ((sa_X2_t_16 A cI tt_13 v9).trans (congrArg (fun z => wM A cI z) ett_v10.symm)) dX2_paidWithout_25 (fun H locs hP hD hS => ?_)
        refine lv_iinc (v := (j2_13 + (1 : Int32))) (lv' := [(2, .int (j2_13 + (1 : Int32))), (0, .ref (A 0)), (1, .int j1)]) hx hb dX2_paidWithout_26 hl (k := 2) rfl rfl (by decide) rfl (fun ls hl => ?_)
        refine lv_goto (tgt := 13) hx hb dX2_paidWithout_29 (by decide) ?_
        exact (hWW _ _ _).mp (ih _ _ _ _ _ hf hP hD hS (lv_sub hl [1, 2, 0] rfl))
  exact (hWW _ _ _).mp (P13 _ _ _ _ _ _ hf hP hD hS (lv_sub hl [1, 2, 0] rfl))
set_option maxHeartbeats 4000000 in
set_option maxRecDepth 100000 in
theorem c_X2_stay (l : Launch) (D : va_G) (cI : ClassId) (A : Nat → Nat) (j1 : Int32) (tt : HS) (out : Int32 × HS) (hf : f_X2_stay j1 tt = some out) : uI l D cI yX2_stay wsX2_stay ({ frames := 9, cells := 0, slots := 0, locals := 204 } : Room) [.ref (A 0), .int j1] (wM A cI tt) (wM A cI out.2) out.1 := by
  intro sz
  refine Met.ofW (cc := cX2_stay) (maxL := 6) (ret := (some .int)) (by decide) rfl ?_
  intro p e s m args below meth c s₁ Bd hml hv
  obtain ⟨rfl, hsz, hP, hK, hD0, hN⟩ := hv
  have hx := Bd.exec
  have hb := Bd.bytes
  have hr := Bd.returns
  have hts := atoms_spec (ws := wsX2_stay) Bd.pre
  have hown : s.vm.findClass RX2 = some m.cls := findClass_of_methodNamed Bd.named
  have hlocks := Bd.notSynchronized
  subst hsz
  have hD := hD0.self (sz := s.heap.size)
  generalize hAe : va_A (wM A cI tt) s.heap.size = G at hD ⊢
  have hA : ∀ q : Nat, s.heap.size ≤ q → G q := fun q h => by rw [← hAe]; exact Or.inr h
  have hS : va_S G s.heap s.heap [] := va_S.rf
  have hP : va_P D vwCl (wM A cI tt) s.heap := hP
  have hl := lv_entry ([.ref (A 0), .int j1]) (n := 6) (Nat.le_of_ble_eq_true rfl)
  rw [lg_entry_eq]
  generalize (lg_sl ([.ref (A 0), .int j1]) ++ List.replicate (6 - (lg_sl ([.ref (A 0), .int j1])).length) Slot.unset).toArray = ls at hl ⊢
  have hl : lv_has ls 6 [(0, .ref (A 0)), (1, .int j1)] := hl
  have hinM : ∀ w ∈ wsX20, w ∈ wsX2_stay := by decide +kernel
  have lk0 := hts (.fieldLink RX2 73 "LiesBoughtBackModel" "bidders" "I") (by decide +kernel)
  refine W_in ?_
  intro WW hWW
  refine (hWW _ _ _).mpr ?_
  unfold f_X2_stay at hf
  refine lv_iload_n hx hb dX2_stay_0 rfl (lv_at hl 1 rfl) ?_
  refine lv_iconst (v := (0 : Int32)) hx hb dX2_stay_1 (by decide) ?_
  refine lv_iconst (v := (1 : Int32)) hx hb dX2_stay_2 (by decide) ?_
  refine qS_i (As := [.int j1, .int (0 : Int32), .int (1 : Int32)]) (rest := []) ⟨hx, hb, hml, hown, hts⟩ hK hN hA hP hD hS (c_X2_isIn l D cI j1 (0 : Int32) (1 : Int32) (f_X2_isIn j1 (0 : Int32) (1 : Int32)) rfl) (va_cwS 3 hts gX2_stay_X2_isIn rfl rfl rfl hd_X2_isIn.2 ⟨Nat.le_of_ble_eq_true rfl, Nat.le_of_ble_eq_true rfl⟩) Bp_e rfl hl.1 rfl (Nat.le_of_ble_eq_true rfl) dX2_stay_3 ⟨Nat.le_of_ble_eq_true rfl, Nat.le_of_ble_eq_true rfl⟩ (fun H locs hP hD hS => ?_)
  refine lv_if_ne (tgt := 16) hx hb dX2_stay_6 (by decide) (fun c1 => ?_) (fun c1 => ?_)
  · have hf := hF hf c1
    refine lv_bipush (v := (-9 : Int32)) hx hb dX2_stay_16 (by decide) ?_
    refine lv_istore_n (lv' := [(2, .int (-9 : Int32)), (0, .ref (A 0)), (1, .int j1)]) hx hb dX2_stay_18 rfl hl (by decide) rfl (fun ls hl => ?_)
    refine lv_bipush (v := (-9 : Int32)) hx hb dX2_stay_19 (by decide) ?_
    refine lv_istore_n (lv' := [(3, .int (-9 : Int32)), (2, .int (-9 : Int32)), (0, .ref (A 0)), (1, .int j1)]) hx hb dX2_stay_21 rfl hl (by decide) rfl (fun ls hl => ?_)
    refine lv_iconst (v := (0 : Int32)) hx hb dX2_stay_22 (by decide) ?_
    refine lv_istore (lv' := [(4, .int (0 : Int32)), (3, .int (-9 : Int32)), (2, .int (-9 : Int32)), (0, .ref (A 0)), (1, .int j1)]) hx hb dX2_stay_23 hl (by decide) rfl (fun ls hl => ?_)
    obtain ⟨K67, hK67, hf⟩ := jnS hf
    have J67 : ∀ (j2_67 : Int32) (j3_67 : Int32) (tt_67 : HS) (H : Heap) (locs : List Loc) (ls : Array Slot), K67 j2_67 j3_67 tt_67 = some out → va_P D vwCl (wM A cI tt_67) H → va_D G (wM A cI tt_67) → va_S G s.heap H locs → lv_has ls 6 [(1, .int j1), (2, .int j2_67), (3, .int j3_67)] → WW H locs (F0 m 67 ls []) := by
      intro j2_67 j3_67 tt_67 H locs ls hf hP hD hS hl
      subst hK67
      refine (hWW _ _ _).mpr ?_
      refine lv_iload_n hx hb dX2_stay_67 rfl (lv_at hl 0 rfl) ?_
      refine lv_if_ne (tgt := 75) hx hb dX2_stay_68 (by decide) (fun c2 => ?_) (fun c2 => ?_)
      · have hf := hF hf c2
        refine lv_iload_n hx hb dX2_stay_75 rfl (lv_at hl 2 rfl) ?_
        obtain rfl := Option.some.inj hf
        exact W.iret (v := j3_67) hx hb hr (fun t ht hW => ⟨⟨j3_67, (), rfl, rfl, hPt ht hP⟩, hS.F ht⟩) hS.2.2 dX2_stay_76
      · have hf := hT hf c2
        refine lv_iload_n hx hb dX2_stay_71 rfl (lv_at hl 1 rfl) ?_
        refine lv_goto (tgt := 76) hx hb dX2_stay_72 (by decide) ?_
        obtain rfl := Option.some.inj hf
        exact W.iret (v := j2_67) hx hb hr (fun t ht hW => ⟨⟨j2_67, (), rfl, rfl, hPt ht hP⟩, hS.F ht⟩) hS.2.2 dX2_stay_76
    have P25 : ∀ (n' : Nat) (j2_25 : Int32) (j3_25 : Int32) (j4_25 : Int32) (tt_25 : HS) (H : Heap) (locs : List Loc) (ls : Array Slot), L_X2_stay_25 j1 K67 n' j2_25 j3_25 j4_25 tt_25 = some out → va_P D vwCl (wM A cI tt_25) H → va_D G (wM A cI tt_25) → va_S G s.heap H locs → lv_has ls 6 [(0, .ref (A 0)), (1, .int j1), (2, .int j2_25), (3, .int j3_25), (4, .int j4_25)] → WW H locs (F0 m 25 ls []) := by
      intro n'
      induction n' with
      | zero => intro j2_25 j3_25 j4_25 tt_25 H locs ls hf; exact absurd (show (none : Option (Int32 × HS)) = some out from hf) (fun q => by cases q)
      | succ n' ih =>
        intro j2_25 j3_25 j4_25 tt_25 H locs ls hf hP hD hS hl
        rw [L_X2_stay_25] at hf
        refine (hWW _ _ _).mpr ?_
        refine lv_iload hx hb dX2_stay_25 (lv_at hl 4 rfl) ?_
        refine lv_aload_n hx hb dX2_stay_27 rfl (lv_at hl 0 rfl) ?_
        refine va_get (D := D) (ci := 2) (v := .int (tt_25 21 0)) (C := RX2) (T := TX2) (N := 31) hx hb hts hinM hown hK hP 0 rfl rfl 12 (by decide) lk0 (fun _ h9 => h9) rfl dX2_stay_28 ?_
        refine lv_icmp_ge (tgt := 67) hx hb dX2_stay_31 (by decide) (fun c3 => ?_) (fun c3 => ?_)
        · have hf := hT hf c3
          exact (hWW _ _ _).mp (J67 _ _ _ _ _ _ hf hP hD hS (lv_sub hl [1, 2, 3] rfl))
        · have hf := hF hf c3
          refine lv_aload_n hx hb dX2_stay_34 rfl (lv_at hl 0 rfl) ?_
          refine lv_iload hx hb dX2_stay_35 (lv_at hl 4 rfl) ?_
          obtain ⟨v4, hev4, hf⟩ := bS hf
          refine qV_i (ws' := (wM A cI v4.2)) (As := [.int j4_25]) (rest := []) ⟨hx, hb, hml, hown, hts⟩ hK hN hA hP hD hS (c_X2_paidWithout l D cI A j4_25 tt_25 v4 hev4) (cwV 1 hts gX2_stay_X2_paidWithout rfl rfl rfl hd_X2_paidWithout ⟨Nat.le_of_ble_eq_true rfl, Nat.le_of_ble_eq_true rfl⟩) (va_recv hK hP (ci := 2) (q0 := 0) rfl rfl) (bp_X2_X2_t_t A cI tt_25 v4.2) rfl hl.1 rfl (Nat.le_of_ble_eq_true rfl) dX2_stay_37 ⟨Nat.le_of_ble_eq_true rfl, Nat.le_of_ble_eq_true rfl⟩ (fun H locs hP hD hS => ?_)
          have hP : va_P D vwCl (wM A cI v4.2) H := hP
          refine lv_istore (lv' := [(5, .int v4.1), (0, .ref (A 0)), (1, .int j1), (2, .int j2_25), (3, .int j3_25), (4, .int j4_25)]) hx hb dX2_stay_40 hl (by decide) rfl (fun ls hl => ?_)
          refine lv_iload_n hx hb dX2_stay_42 rfl (lv_at hl 3 rfl) ?_
          refine lv_if_lt (tgt := 55) hx hb dX2_stay_43 (by decide) (fun c5 => ?_) (fun c5 => ?_)
          · have hf := hT hf c5
            refine lv_iload hx hb dX2_stay_55 (lv_at hl 5 rfl) ?_
            refine lv_istore_n (lv' := [(2, .int j4_25), (5, .int v4.1), (0, .ref (A 0)), (1, .int j1), (3, .int j3_25), (4, .int j4_25)]) hx hb dX2_stay_57 rfl hl (by decide) rfl (fun ls hl => ?_)
            refine lv_iload hx hb dX2_stay_58 (lv_at hl 1 rfl) ?_
            refine lv_istore_n (lv' := [(3, .int v4.1), (2, .int j4_25), (5, .int v4.1), (0, .ref (A 0)), (1, .int j1), (4, .int j4_25)]) hx hb dX2_stay_60 rfl hl (by decide) rfl (fun ls hl => ?_)
            refine lv_iinc (v := (j4_25 + (1 : Int32))) (lv' := [(4, .int (j4_25 + (1 : Int32))), (3, .int v4.1), (2, .int j4_25), (5, .int v4.1), (0, .ref (A 0)), (1, .int j1)]) hx hb dX2_stay_61 hl (k := 5) rfl rfl (by decide) rfl (fun ls hl => ?_)
            refine lv_goto (tgt := 25) hx hb dX2_stay_64 (by decide) ?_
            exact (hWW _ _ _).mp (ih _ _ _ _ _ _ _ hf hP hD hS (lv_sub hl [4, 5, 2, 1, 0] rfl))
          · have hf := hF hf c5
            refine lv_iload hx hb dX2_stay_46 (lv_at hl 0 rfl) ?_
            refine lv_iload_n hx hb dX2_stay_48 rfl (lv_at hl 4 rfl) ?_
            refine lv_icmp_lt (tgt := 55) hx hb dX2_stay_49 (by decide) (fun c6 => ?_) (fun c6 => ?_)
            · have hf := hT hf c6
              refine lv_iload hx hb dX2_stay_55 (lv_at hl 5 rfl) ?_
              refine lv_istore_n (lv' := [(2, .int j4_25), (5, .int v4.1), (0, .ref (A 0)), (1, .int j1), (3, .int j3_25), (4, .int j4_25)]) hx hb dX2_stay_57 rfl hl (by decide) rfl (fun ls hl => ?_)
              refine lv_iload hx hb dX2_stay_58 (lv_at hl 1 rfl) ?_
              refine lv_istore_n (lv' := [(3, .int v4.1), (2, .int j4_25), (5, .int v4.1), (0, .ref (A 0)), (1, .int j1), (4, .int j4_25)]) hx hb dX2_stay_60 rfl hl (by decide) rfl (fun ls hl => ?_)
              refine lv_iinc (v := (j4_25 + (1 : Int32))) (lv' := [(4, .int (j4_25 + (1 : Int32))), (3, .int v4.1), (2, .int j4_25), (5, .int v4.1), (0, .ref (A 0)), (1, .int j1)]) hx hb dX2_stay_61 hl (k := 5) rfl rfl (by decide) rfl (fun ls hl => ?_)
              refine lv_goto (tgt := 25) hx hb dX2_stay_64 (by decide) ?_
              exact (hWW _ _ _).mp (ih _ _ _ _ _ _ _ hf hP hD hS (lv_sub hl [4, 5, 2, 1, 0] rfl))
            · have hf := hF hf c6
              refine lv_goto (tgt := 61) hx hb dX2_stay_52 (by decide) ?_
              refine lv_iinc (v := (j4_25 + (1 : Int32))) (lv' := [(4, .int (j4_25 + (1 : Int32))), (5, .int v4.1), (0, .ref (A 0)), (1, .int j1), (2, .int j2_25), (3, .int j3_25)]) hx hb dX2_stay_61 hl (k := 5) rfl rfl (by decide) rfl (fun ls hl => ?_)
              refine lv_goto (tgt := 25) hx hb dX2_stay_64 (by decide) ?_
              exact (hWW _ _ _).mp (ih _ _ _ _ _ _ _ hf hP hD hS (lv_sub hl [2, 3, 4, 5, 0] rfl))
    exact (hWW _ _ _).mp (P25 _ _ _ _ _ _ _ _ hf hP hD hS (lv_sub hl [3, 4, 2, 1, 0] rfl))
  · have hf := hT hf c1
    refine lv_aload_n hx hb dX2_stay_9 rfl (lv_at hl 0 rfl) ?_
    refine lv_bipush (v := (-2 : Int32)) hx hb dX2_stay_10 (by decide) ?_
    obtain ⟨v7, hev7, hf⟩ := bS hf
    refine qV_i (ws' := (wM A cI v7.2)) (As := [.int (-2 : Int32)]) (rest := []) ⟨hx, hb, hml, hown, hts⟩ hK hN hA hP hD hS (c_X2_no l D cI A (-2 : Int32) tt v7 hev7) (cwV 1 hts gX2_stay_X2_no rfl rfl rfl hd_X2_no ⟨Nat.le_of_ble_eq_true rfl, Nat.le_of_ble_eq_true rfl⟩) (va_recv hK hP (ci := 2) (q0 := 0) rfl rfl) (bp_X2_X2_t_t A cI tt v7.2) rfl hl.1 rfl (Nat.le_of_ble_eq_true rfl) dX2_stay_12 ⟨Nat.le_of_ble_eq_true rfl, Nat.le_of_ble_eq_true rfl⟩ (fun H locs hP hD hS => ?_)
    have hP : va_P D vwCl (wM A cI v7.2) H := hP
    obtain rfl := Option.some.inj hf
    exact W.iret (v := v7.1) hx hb hr (fun t ht hW => ⟨⟨v7.1, (), rfl, rfl, hPt ht hP⟩, hS.F ht⟩) hS.2.2 dX2_stay_15
set_option maxHeartbeats 4000000 in
set_option maxRecDepth 100000 in
theorem c_X2_dearest (l : Launch) (D : va_G) (cI : ClassId) (A : Nat → Nat) (tt : HS) (out : Int32) (hf : f_X2_dearest tt = some out) : uI l D cI yX2_dearest wsX2_dearest ({ frames := 1, cells := 0, slots := 0, locals := 23 } : Room) [.ref (A 0)] (wM A cI tt) (wM A cI tt) out := by
  intro sz
  refine Met.ofW (cc := cX2_dearest) (maxL := 3) (ret := (some .int)) (by decide) rfl ?_
  intro p e s m args below meth c s₁ Bd hml hv
  obtain ⟨rfl, hsz, hP, hK, hD0, hN⟩ := hv
  have hx := Bd.exec
  have hb := Bd.bytes
  have hr := Bd.returns
  have hts := atoms_spec (ws := wsX2_dearest) Bd.pre
  have hown : s.vm.findClass RX2 = some m.cls := findClass_of_methodNamed Bd.named
  have hlocks := Bd.notSynchronized
  subst hsz
  have hD := hD0.self (sz := s.heap.size)
  generalize hAe : va_A (wM A cI tt) s.heap.size = G at hD ⊢
  have hA : ∀ q : Nat, s.heap.size ≤ q → G q := fun q h => by rw [← hAe]; exact Or.inr h
  have hS : va_S G s.heap s.heap [] := va_S.rf
  have hP : va_P D vwCl (wM A cI tt) s.heap := hP
  have hl := lv_entry ([.ref (A 0)]) (n := 3) (Nat.le_of_ble_eq_true rfl)
  rw [lg_entry_eq]
  generalize (lg_sl ([.ref (A 0)]) ++ List.replicate (3 - (lg_sl ([.ref (A 0)])).length) Slot.unset).toArray = ls at hl ⊢
  have hl : lv_has ls 3 [(0, .ref (A 0))] := hl
  have hinM : ∀ w ∈ wsX20, w ∈ wsX2_dearest := by decide +kernel
  have lk0 := hts (.fieldLink RX2 67 "LiesBoughtBackModel" "cards" "I") (by decide +kernel)
  refine W_in ?_
  intro WW hWW
  refine (hWW _ _ _).mpr ?_
  unfold f_X2_dearest at hf
  refine lv_bipush (v := (-9 : Int32)) hx hb dX2_dearest_0 (by decide) ?_
  refine lv_istore_n (lv' := [(1, .int (-9 : Int32)), (0, .ref (A 0))]) hx hb dX2_dearest_2 rfl hl (by decide) rfl (fun ls hl => ?_)
  refine lv_iconst (v := (0 : Int32)) hx hb dX2_dearest_3 (by decide) ?_
  refine lv_istore_n (lv' := [(2, .int (0 : Int32)), (1, .int (-9 : Int32)), (0, .ref (A 0))]) hx hb dX2_dearest_4 rfl hl (by decide) rfl (fun ls hl => ?_)
  obtain ⟨K42, hK42, hf⟩ := jnS hf
  have J42 : ∀ (j1_42 : Int32) (H : Heap) (locs : List Loc) (ls : Array Slot), K42 j1_42 = some out → va_P D vwCl (wM A cI tt) H → va_D G (wM A cI tt) → va_S G s.heap H locs → lv_has ls 3 [(1, .int j1_42)] → WW H locs (F0 m 42 ls []) := by
    intro j1_42 H locs ls hf hP hD hS hl
    subst hK42
    refine (hWW _ _ _).mpr ?_
    refine lv_iload_n hx hb dX2_dearest_42 rfl (lv_at hl 0 rfl) ?_
    obtain rfl := Option.some.inj hf
    exact W.iret (v := j1_42) hx hb hr (fun t ht hW => ⟨⟨j1_42, (), rfl, rfl, hPt ht hP⟩, hS.F ht⟩) hS.2.2 dX2_dearest_43
  have P5 : ∀ (n' : Nat) (j1_5 : Int32) (j2_5 : Int32) (H : Heap) (locs : List Loc) (ls : Array Slot), L_X2_dearest_5 tt K42 n' j1_5 j2_5 = some out → va_P D vwCl (wM A cI tt) H → va_D G (wM A cI tt) → va_S G s.heap H locs → lv_has ls 3 [(0, .ref (A 0)), (1, .int j1_5), (2, .int j2_5)] → WW H locs (F0 m 5 ls []) := by
    intro n'
    induction n' with
    | zero => intro j1_5 j2_5 H locs ls hf; exact absurd (show (none : Option (Int32)) = some out from hf) (fun q => by cases q)
    | succ n' ih =>
      intro j1_5 j2_5 H locs ls hf hP hD hS hl
      rw [L_X2_dearest_5] at hf
      refine (hWW _ _ _).mpr ?_
      refine lv_iload_n hx hb dX2_dearest_5 rfl (lv_at hl 2 rfl) ?_
      refine lv_aload_n hx hb dX2_dearest_6 rfl (lv_at hl 0 rfl) ?_
      refine va_get (D := D) (ci := 2) (v := .int (tt 20 0)) (C := RX2) (T := TX2) (N := 31) hx hb hts hinM hown hK hP 0 rfl rfl 11 (by decide) lk0 (fun _ h9 => h9) rfl dX2_dearest_7 ?_
      refine lv_icmp_ge (tgt := 42) hx hb dX2_dearest_10 (by decide) (fun c1 => ?_) (fun c1 => ?_)
      · have hf := hT hf c1
        exact (hWW _ _ _).mp (J42 _ _ _ _ hf hP hD hS (lv_sub hl [1] rfl))
      · have hf := hF hf c1
        refine lv_iload_n hx hb dX2_dearest_13 rfl (lv_at hl 1 rfl) ?_
        refine lv_if_lt (tgt := 30) hx hb dX2_dearest_14 (by decide) (fun c2 => ?_) (fun c2 => ?_)
        · have hf := hT hf c2
          refine lv_iload_n hx hb dX2_dearest_30 rfl (lv_at hl 2 rfl) ?_
          refine lv_goto (tgt := 35) hx hb dX2_dearest_31 (by decide) ?_
          refine lv_istore_n (lv' := [(1, .int j2_5), (0, .ref (A 0)), (2, .int j2_5)]) hx hb dX2_dearest_35 rfl hl (by decide) rfl (fun ls hl => ?_)
          refine lv_iinc (v := (j2_5 + (1 : Int32))) (lv' := [(2, .int (j2_5 + (1 : Int32))), (1, .int j2_5), (0, .ref (A 0))]) hx hb dX2_dearest_36 hl (k := 2) rfl rfl (by decide) rfl (fun ls hl => ?_)
          refine lv_goto (tgt := 5) hx hb dX2_dearest_39 (by decide) ?_
          exact (hWW _ _ _).mp (ih _ _ _ _ _ hf hP hD hS (lv_sub hl [2, 1, 0] rfl))
        · have hf := hF hf c2
          refine lv_aload_n hx hb dX2_dearest_17 rfl (lv_at hl 0 rfl) ?_
          refine lv_iload_n hx hb dX2_dearest_18 rfl (lv_at hl 2 rfl) ?_
          obtain ⟨v3, hev3, hf⟩ := bS hf
          refine qV_i (As := [.int j2_5]) (rest := []) ⟨hx, hb, hml, hown, hts⟩ hK hN hA hP hD hS (c_X2_worth l D cI A j2_5 tt v3 hev3) (cwV 1 hts gX2_dearest_X2_worth rfl rfl rfl hd_X2_worth ⟨Nat.le_of_ble_eq_true rfl, Nat.le_of_ble_eq_true rfl⟩) (va_recv hK hP (ci := 2) (q0 := 0) rfl rfl) (bq_X2_X2_t A cI tt) rfl hl.1 rfl (Nat.le_of_ble_eq_true rfl) dX2_dearest_19 ⟨Nat.le_of_ble_eq_true rfl, Nat.le_of_ble_eq_true rfl⟩ (fun H locs hP hD hS => ?_)
          refine lv_aload_n hx hb dX2_dearest_22 rfl (lv_at hl 0 rfl) ?_
          refine lv_iload_n hx hb dX2_dearest_23 rfl (lv_at hl 1 rfl) ?_
          obtain ⟨v4, hev4, hf⟩ := bS hf
          refine qV_i (As := [.int j1_5]) (rest := [.int v3]) ⟨hx, hb, hml, hown, hts⟩ hK hN hA hP hD hS (c_X2_worth l D cI A j1_5 tt v4 hev4) (cwV 1 hts gX2_dearest_X2_worth rfl rfl rfl hd_X2_worth ⟨Nat.le_of_ble_eq_true rfl, Nat.le_of_ble_eq_true rfl⟩) (va_recv hK hP (ci := 2) (q0 := 0) rfl rfl) (bq_X2_X2_t A cI tt) rfl hl.1 rfl (Nat.le_of_ble_eq_true rfl) dX2_dearest_24 ⟨Nat.le_of_ble_eq_true rfl, Nat.le_of_ble_eq_true rfl⟩ (fun H locs hP hD hS => ?_)
          refine lv_icmp_le (tgt := 34) hx hb dX2_dearest_27 (by decide) (fun c5 => ?_) (fun c5 => ?_)
          · have hf := hT hf c5
            refine lv_iload_n hx hb dX2_dearest_34 rfl (lv_at hl 1 rfl) ?_
            refine lv_istore_n (lv' := [(1, .int j1_5), (0, .ref (A 0)), (2, .int j2_5)]) hx hb dX2_dearest_35 rfl hl (by decide) rfl (fun ls hl => ?_)
            refine lv_iinc (v := (j2_5 + (1 : Int32))) (lv' := [(2, .int (j2_5 + (1 : Int32))), (1, .int j1_5), (0, .ref (A 0))]) hx hb dX2_dearest_36 hl (k := 2) rfl rfl (by decide) rfl (fun ls hl => ?_)
            refine lv_goto (tgt := 5) hx hb dX2_dearest_39 (by decide) ?_
            exact (hWW _ _ _).mp (ih _ _ _ _ _ hf hP hD hS (lv_sub hl [2, 1, 0] rfl))
          · have hf := hF hf c5
            refine lv_iload_n hx hb dX2_dearest_30 rfl (lv_at hl 2 rfl) ?_
            refine lv_goto (tgt := 35) hx hb dX2_dearest_31 (by decide) ?_
            refine lv_istore_n (lv' := [(1, .int j2_5), (0, .ref (A 0)), (2, .int j2_5)]) hx hb dX2_dearest_35 rfl hl (by decide) rfl (fun ls hl => ?_)
            refine lv_iinc (v := (j2_5 + (1 : Int32))) (lv' := [(2, .int (j2_5 + (1 : Int32))), (1, .int j2_5), (0, .ref (A 0))]) hx hb dX2_dearest_36 hl (k := 2) rfl rfl (by decide) rfl (fun ls hl => ?_)
            refine lv_goto (tgt := 5) hx hb dX2_dearest_39 (by decide) ?_
            exact (hWW _ _ _).mp (ih _ _ _ _ _ hf hP hD hS (lv_sub hl [2, 1, 0] rfl))
  exact (hWW _ _ _).mp (P5 _ _ _ _ _ _ hf hP hD hS (lv_sub hl [2, 1, 0] rfl))
set_option maxHeartbeats 4000000 in
set_option maxRecDepth 100000 in
theorem c_X2_mostOf_10 (l : Launch) (D : va_G) (cI : ClassId) (A : Nat → Nat) (tt : HS) (out : Int32) (hf : f_X2_mostOf_10 tt = some out) : uI l D cI yX2_mostOf wsX2_mostOf ({ frames := 0, cells := 0, slots := 0, locals := 0 } : Room) [.ref (A 0), .ref (A 11)] (wM A cI tt) (wM A cI tt) out := by
  intro sz
  refine Met.ofW (cc := cX2_mostOf) (maxL := 4) (ret := (some .int)) (by decide) rfl ?_
  intro p e s m args below meth c s₁ Bd hml hv
  obtain ⟨rfl, hsz, hP, hK, hD0, hN⟩ := hv
  have hx := Bd.exec
  have hb := Bd.bytes
  have hr := Bd.returns
  have hts := atoms_spec (ws := wsX2_mostOf) Bd.pre
  have hown : s.vm.findClass RX2 = some m.cls := findClass_of_methodNamed Bd.named
  have hlocks := Bd.notSynchronized
  subst hsz
  have hD := hD0.self (sz := s.heap.size)
  generalize hAe : va_A (wM A cI tt) s.heap.size = G at hD ⊢
  have hA : ∀ q : Nat, s.heap.size ≤ q → G q := fun q h => by rw [← hAe]; exact Or.inr h
  have hS : va_S G s.heap s.heap [] := va_S.rf
  have hP : va_P D vwCl (wM A cI tt) s.heap := hP
  have hl := lv_entry ([.ref (A 0), .ref (A 11)]) (n := 4) (Nat.le_of_ble_eq_true rfl)
  rw [lg_entry_eq]
  generalize (lg_sl ([.ref (A 0), .ref (A 11)]) ++ List.replicate (4 - (lg_sl ([.ref (A 0), .ref (A 11)])).length) Slot.unset).toArray = ls at hl ⊢
  have hl : lv_has ls 4 [(0, .ref (A 0)), (1, .ref (A 11))] := hl
  have hinM : ∀ w ∈ wsX20, w ∈ wsX2_mostOf := by decide +kernel
  have lk0 := hts (.fieldLink RX2 73 "LiesBoughtBackModel" "bidders" "I") (by decide +kernel)
  refine W_in ?_
  intro WW hWW
  refine (hWW _ _ _).mpr ?_
  unfold f_X2_mostOf_10 at hf
  refine lv_bipush (v := (-9 : Int32)) hx hb dX2_mostOf_0 (by decide) ?_
  refine lv_istore_n (lv' := [(2, .int (-9 : Int32)), (0, .ref (A 0)), (1, .ref (A 11))]) hx hb dX2_mostOf_2 rfl hl (by decide) rfl (fun ls hl => ?_)
  refine lv_iconst (v := (0 : Int32)) hx hb dX2_mostOf_3 (by decide) ?_
  refine lv_istore_n (lv' := [(3, .int (0 : Int32)), (2, .int (-9 : Int32)), (0, .ref (A 0)), (1, .ref (A 11))]) hx hb dX2_mostOf_4 rfl hl (by decide) rfl (fun ls hl => ?_)
  obtain ⟨K38, hK38, hf⟩ := jnS hf
  have J38 : ∀ (j2_38 : Int32) (H : Heap) (locs : List Loc) (ls : Array Slot), K38 j2_38 = some out → va_P D vwCl (wM A cI tt) H → va_D G (wM A cI tt) → va_S G s.heap H locs → lv_has ls 4 [(2, .int j2_38)] → WW H locs (F0 m 38 ls []) := by
    intro j2_38 H locs ls hf hP hD hS hl
    subst hK38
    refine (hWW _ _ _).mpr ?_
    refine lv_iload_n hx hb dX2_mostOf_38 rfl (lv_at hl 0 rfl) ?_
    obtain rfl := Option.some.inj hf
    exact W.iret (v := j2_38) hx hb hr (fun t ht hW => ⟨⟨j2_38, (), rfl, rfl, hPt ht hP⟩, hS.F ht⟩) hS.2.2 dX2_mostOf_39
  have P5 : ∀ (n' : Nat) (j2_5 : Int32) (j3_5 : Int32) (H : Heap) (locs : List Loc) (ls : Array Slot), L_X2_mostOf_10_5 tt K38 n' j2_5 j3_5 = some out → va_P D vwCl (wM A cI tt) H → va_D G (wM A cI tt) → va_S G s.heap H locs → lv_has ls 4 [(0, .ref (A 0)), (1, .ref (A 11)), (2, .int j2_5), (3, .int j3_5)] → WW H locs (F0 m 5 ls []) := by
    intro n'
    induction n' with
    | zero => intro j2_5 j3_5 H locs ls hf; exact absurd (show (none : Option (Int32)) = some out from hf) (fun q => by cases q)
    | succ n' ih =>
      intro j2_5 j3_5 H locs ls hf hP hD hS hl
      rw [L_X2_mostOf_10_5] at hf
      refine (hWW _ _ _).mpr ?_
      refine lv_iload_n hx hb dX2_mostOf_5 rfl (lv_at hl 3 rfl) ?_
      refine lv_aload_n hx hb dX2_mostOf_6 rfl (lv_at hl 0 rfl) ?_
      refine va_get (D := D) (ci := 2) (v := .int (tt 21 0)) (C := RX2) (T := TX2) (N := 31) hx hb hts hinM hown hK hP 0 rfl rfl 12 (by decide) lk0 (fun _ h9 => h9) rfl dX2_mostOf_7 ?_
      refine lv_icmp_ge (tgt := 38) hx hb dX2_mostOf_10 (by decide) (fun c1 => ?_) (fun c1 => ?_)
      · have hf := hT hf c1
        exact (hWW _ _ _).mp (J38 _ _ _ _ hf hP hD hS (lv_sub hl [2] rfl))
      · have hf := hF hf c1
        refine lv_iload_n hx hb dX2_mostOf_13 rfl (lv_at hl 2 rfl) ?_
        refine lv_if_lt (tgt := 26) hx hb dX2_mostOf_14 (by decide) (fun c2 => ?_) (fun c2 => ?_)
        · have hf := hT hf c2
          refine lv_iload_n hx hb dX2_mostOf_26 rfl (lv_at hl 3 rfl) ?_
          refine lv_goto (tgt := 31) hx hb dX2_mostOf_27 (by decide) ?_
          refine lv_istore_n (lv' := [(2, .int j3_5), (0, .ref (A 0)), (1, .ref (A 11)), (3, .int j3_5)]) hx hb dX2_mostOf_31 rfl hl (by decide) rfl (fun ls hl => ?_)
          refine lv_iinc (v := (j3_5 + (1 : Int32))) (lv' := [(3, .int (j3_5 + (1 : Int32))), (2, .int j3_5), (0, .ref (A 0)), (1, .ref (A 11))]) hx hb dX2_mostOf_32 hl (k := 3) rfl rfl (by decide) rfl (fun ls hl => ?_)
          refine lv_goto (tgt := 5) hx hb dX2_mostOf_35 (by decide) ?_
          exact (hWW _ _ _).mp (ih _ _ _ _ _ hf hP hD hS (lv_sub hl [2, 3, 1, 0] rfl))
        · have hf := hF hf c2
          refine lv_aload_n hx hb dX2_mostOf_17 rfl (lv_at hl 1 rfl) ?_
          refine lv_iload_n hx hb dX2_mostOf_18 rfl (lv_at hl 3 rfl) ?_
          obtain ⟨v3, he, hf⟩ := bS hf
          refine x_iald hx hb hK hP 11 (n := 6) rfl he dX2_mostOf_19 ?_
          refine lv_aload_n hx hb dX2_mostOf_20 rfl (lv_at hl 1 rfl) ?_
          refine lv_iload_n hx hb dX2_mostOf_21 rfl (lv_at hl 2 rfl) ?_
          obtain ⟨v4, he, hf⟩ := bS hf
          refine x_iald hx hb hK hP 11 (n := 6) rfl he dX2_mostOf_22 ?_
          refine lv_icmp_le (tgt := 30) hx hb dX2_mostOf_23 (by decide) (fun c5 => ?_) (fun c5 => ?_)
          · have hf := hT hf c5
            refine lv_iload_n hx hb dX2_mostOf_30 rfl (lv_at hl 2 rfl) ?_
            refine lv_istore_n (lv' := [(2, .int j2_5), (0, .ref (A 0)), (1, .ref (A 11)), (3, .int j3_5)]) hx hb dX2_mostOf_31 rfl hl (by decide) rfl (fun ls hl => ?_)
            refine lv_iinc (v := (j3_5 + (1 : Int32))) (lv' := [(3, .int (j3_5 + (1 : Int32))), (2, .int j2_5), (0, .ref (A 0)), (1, .ref (A 11))]) hx hb dX2_mostOf_32 hl (k := 3) rfl rfl (by decide) rfl (fun ls hl => ?_)
            refine lv_goto (tgt := 5) hx hb dX2_mostOf_35 (by decide) ?_
            exact (hWW _ _ _).mp (ih _ _ _ _ _ hf hP hD hS (lv_sub hl [2, 3, 1, 0] rfl))
          · have hf := hF hf c5
            refine lv_iload_n hx hb dX2_mostOf_26 rfl (lv_at hl 3 rfl) ?_
            refine lv_goto (tgt := 31) hx hb dX2_mostOf_27 (by decide) ?_
            refine lv_istore_n (lv' := [(2, .int j3_5), (0, .ref (A 0)), (1, .ref (A 11)), (3, .int j3_5)]) hx hb dX2_mostOf_31 rfl hl (by decide) rfl (fun ls hl => ?_)
            refine lv_iinc (v := (j3_5 + (1 : Int32))) (lv' := [(3, .int (j3_5 + (1 : Int32))), (2, .int j3_5), (0, .ref (A 0)), (1, .ref (A 11))]) hx hb dX2_mostOf_32 hl (k := 3) rfl rfl (by decide) rfl (fun ls hl => ?_)
            refine lv_goto (tgt := 5) hx hb dX2_mostOf_35 (by decide) ?_
            exact (hWW _ _ _).mp (ih _ _ _ _ _ hf hP hD hS (lv_sub hl [2, 3, 1, 0] rfl))
  exact (hWW _ _ _).mp (P5 _ _ _ _ _ _ hf hP hD hS (lv_sub hl [2, 3, 1, 0] rfl))
set_option maxHeartbeats 4000000 in
set_option maxRecDepth 100000 in
theorem c_X2_mostOf_9 (l : Launch) (D : va_G) (cI : ClassId) (A : Nat → Nat) (tt : HS) (out : Int32) (hf : f_X2_mostOf_9 tt = some out) : uI l D cI yX2_mostOf wsX2_mostOf ({ frames := 0, cells := 0, slots := 0, locals := 0 } : Room) [.ref (A 0), .ref (A 10)] (wM A cI tt) (wM A cI tt) out := by
  intro sz
  refine Met.ofW (cc := cX2_mostOf) (maxL := 4) (ret := (some .int)) (by decide) rfl ?_
  intro p e s m args below meth c s₁ Bd hml hv
  obtain ⟨rfl, hsz, hP, hK, hD0, hN⟩ := hv
  have hx := Bd.exec
  have hb := Bd.bytes
  have hr := Bd.returns
  have hts := atoms_spec (ws := wsX2_mostOf) Bd.pre
  have hown : s.vm.findClass RX2 = some m.cls := findClass_of_methodNamed Bd.named
  have hlocks := Bd.notSynchronized
  subst hsz
  have hD := hD0.self (sz := s.heap.size)
  generalize hAe : va_A (wM A cI tt) s.heap.size = G at hD ⊢
  have hA : ∀ q : Nat, s.heap.size ≤ q → G q := fun q h => by rw [← hAe]; exact Or.inr h
  have hS : va_S G s.heap s.heap [] := va_S.rf
  have hP : va_P D vwCl (wM A cI tt) s.heap := hP
  have hl := lv_entry ([.ref (A 0), .ref (A 10)]) (n := 4) (Nat.le_of_ble_eq_true rfl)
  rw [lg_entry_eq]
  generalize (lg_sl ([.ref (A 0), .ref (A 10)]) ++ List.replicate (4 - (lg_sl ([.ref (A 0), .ref (A 10)])).length) Slot.unset).toArray = ls at hl ⊢
  have hl : lv_has ls 4 [(0, .ref (A 0)), (1, .ref (A 10))] := hl
  have hinM : ∀ w ∈ wsX20, w ∈ wsX2_mostOf := by decide +kernel
  have lk0 := hts (.fieldLink RX2 73 "LiesBoughtBackModel" "bidders" "I") (by decide +kernel)
  refine W_in ?_
  intro WW hWW
  refine (hWW _ _ _).mpr ?_
  unfold f_X2_mostOf_9 at hf
  refine lv_bipush (v := (-9 : Int32)) hx hb dX2_mostOf_0 (by decide) ?_
  refine lv_istore_n (lv' := [(2, .int (-9 : Int32)), (0, .ref (A 0)), (1, .ref (A 10))]) hx hb dX2_mostOf_2 rfl hl (by decide) rfl (fun ls hl => ?_)
  refine lv_iconst (v := (0 : Int32)) hx hb dX2_mostOf_3 (by decide) ?_
  refine lv_istore_n (lv' := [(3, .int (0 : Int32)), (2, .int (-9 : Int32)), (0, .ref (A 0)), (1, .ref (A 10))]) hx hb dX2_mostOf_4 rfl hl (by decide) rfl (fun ls hl => ?_)
  obtain ⟨K38, hK38, hf⟩ := jnS hf
  have J38 : ∀ (j2_38 : Int32) (H : Heap) (locs : List Loc) (ls : Array Slot), K38 j2_38 = some out → va_P D vwCl (wM A cI tt) H → va_D G (wM A cI tt) → va_S G s.heap H locs → lv_has ls 4 [(2, .int j2_38)] → WW H locs (F0 m 38 ls []) := by
    intro j2_38 H locs ls hf hP hD hS hl
    subst hK38
    refine (hWW _ _ _).mpr ?_
    refine lv_iload_n hx hb dX2_mostOf_38 rfl (lv_at hl 0 rfl) ?_
    obtain rfl := Option.some.inj hf
    exact W.iret (v := j2_38) hx hb hr (fun t ht hW => ⟨⟨j2_38, (), rfl, rfl, hPt ht hP⟩, hS.F ht⟩) hS.2.2 dX2_mostOf_39
  have P5 : ∀ (n' : Nat) (j2_5 : Int32) (j3_5 : Int32) (H : Heap) (locs : List Loc) (ls : Array Slot), L_X2_mostOf_9_5 tt K38 n' j2_5 j3_5 = some out → va_P D vwCl (wM A cI tt) H → va_D G (wM A cI tt) → va_S G s.heap H locs → lv_has ls 4 [(0, .ref (A 0)), (1, .ref (A 10)), (2, .int j2_5), (3, .int j3_5)] → WW H locs (F0 m 5 ls []) := by
    intro n'
    induction n' with
    | zero => intro j2_5 j3_5 H locs ls hf; exact absurd (show (none : Option (Int32)) = some out from hf) (fun q => by cases q)
    | succ n' ih =>
      intro j2_5 j3_5 H locs ls hf hP hD hS hl
      rw [L_X2_mostOf_9_5] at hf
      refine (hWW _ _ _).mpr ?_
      refine lv_iload_n hx hb dX2_mostOf_5 rfl (lv_at hl 3 rfl) ?_
      refine lv_aload_n hx hb dX2_mostOf_6 rfl (lv_at hl 0 rfl) ?_
      refine va_get (D := D) (ci := 2) (v := .int (tt 21 0)) (C := RX2) (T := TX2) (N := 31) hx hb hts hinM hown hK hP 0 rfl rfl 12 (by decide) lk0 (fun _ h9 => h9) rfl dX2_mostOf_7 ?_
      refine lv_icmp_ge (tgt := 38) hx hb dX2_mostOf_10 (by decide) (fun c1 => ?_) (fun c1 => ?_)
      · have hf := hT hf c1
        exact (hWW _ _ _).mp (J38 _ _ _ _ hf hP hD hS (lv_sub hl [2] rfl))
      · have hf := hF hf c1
        refine lv_iload_n hx hb dX2_mostOf_13 rfl (lv_at hl 2 rfl) ?_
        refine lv_if_lt (tgt := 26) hx hb dX2_mostOf_14 (by decide) (fun c2 => ?_) (fun c2 => ?_)
        · have hf := hT hf c2
          refine lv_iload_n hx hb dX2_mostOf_26 rfl (lv_at hl 3 rfl) ?_
          refine lv_goto (tgt := 31) hx hb dX2_mostOf_27 (by decide) ?_
          refine lv_istore_n (lv' := [(2, .int j3_5), (0, .ref (A 0)), (1, .ref (A 10)), (3, .int j3_5)]) hx hb dX2_mostOf_31 rfl hl (by decide) rfl (fun ls hl => ?_)
          refine lv_iinc (v := (j3_5 + (1 : Int32))) (lv' := [(3, .int (j3_5 + (1 : Int32))), (2, .int j3_5), (0, .ref (A 0)), (1, .ref (A 10))]) hx hb dX2_mostOf_32 hl (k := 3) rfl rfl (by decide) rfl (fun ls hl => ?_)
          refine lv_goto (tgt := 5) hx hb dX2_mostOf_35 (by decide) ?_
          exact (hWW _ _ _).mp (ih _ _ _ _ _ hf hP hD hS (lv_sub hl [2, 3, 1, 0] rfl))
        · have hf := hF hf c2
          refine lv_aload_n hx hb dX2_mostOf_17 rfl (lv_at hl 1 rfl) ?_
          refine lv_iload_n hx hb dX2_mostOf_18 rfl (lv_at hl 3 rfl) ?_
          obtain ⟨v3, he, hf⟩ := bS hf
          refine x_iald hx hb hK hP 10 (n := 6) rfl he dX2_mostOf_19 ?_
          refine lv_aload_n hx hb dX2_mostOf_20 rfl (lv_at hl 1 rfl) ?_
          refine lv_iload_n hx hb dX2_mostOf_21 rfl (lv_at hl 2 rfl) ?_
          obtain ⟨v4, he, hf⟩ := bS hf
          refine x_iald hx hb hK hP 10 (n := 6) rfl he dX2_mostOf_22 ?_
          refine lv_icmp_le (tgt := 30) hx hb dX2_mostOf_23 (by decide) (fun c5 => ?_) (fun c5 => ?_)
          · have hf := hT hf c5
            refine lv_iload_n hx hb dX2_mostOf_30 rfl (lv_at hl 2 rfl) ?_
            refine lv_istore_n (lv' := [(2, .int j2_5), (0, .ref (A 0)), (1, .ref (A 10)), (3, .int j3_5)]) hx hb dX2_mostOf_31 rfl hl (by decide) rfl (fun ls hl => ?_)
            refine lv_iinc (v := (j3_5 + (1 : Int32))) (lv' := [(3, .int (j3_5 + (1 : Int32))), (2, .int j2_5), (0, .ref (A 0)), (1, .ref (A 10))]) hx hb dX2_mostOf_32 hl (k := 3) rfl rfl (by decide) rfl (fun ls hl => ?_)
            refine lv_goto (tgt := 5) hx hb dX2_mostOf_35 (by decide) ?_
            exact (hWW _ _ _).mp (ih _ _ _ _ _ hf hP hD hS (lv_sub hl [2, 3, 1, 0] rfl))
          · have hf := hF hf c5
            refine lv_iload_n hx hb dX2_mostOf_26 rfl (lv_at hl 3 rfl) ?_
            refine lv_goto (tgt := 31) hx hb dX2_mostOf_27 (by decide) ?_
            refine lv_istore_n (lv' := [(2, .int j3_5), (0, .ref (A 0)), (1, .ref (A 10)), (3, .int j3_5)]) hx hb dX2_mostOf_31 rfl hl (by decide) rfl (fun ls hl => ?_)
            refine lv_iinc (v := (j3_5 + (1 : Int32))) (lv' := [(3, .int (j3_5 + (1 : Int32))), (2, .int j3_5), (0, .ref (A 0)), (1, .ref (A 10))]) hx hb dX2_mostOf_32 hl (k := 3) rfl rfl (by decide) rfl (fun ls hl => ?_)
            refine lv_goto (tgt := 5) hx hb dX2_mostOf_35 (by decide) ?_
            exact (hWW _ _ _).mp (ih _ _ _ _ _ hf hP hD hS (lv_sub hl [2, 3, 1, 0] rfl))
  exact (hWW _ _ _).mp (P5 _ _ _ _ _ _ hf hP hD hS (lv_sub hl [2, 3, 1, 0] rfl))
set_option maxHeartbeats 4000000 in
set_option maxRecDepth 100000 in
theorem c_X2_richest (l : Launch) (D : va_G) (cI : ClassId) (A : Nat → Nat) (j1 : Int32) (tt : HS) (out : Int32 × HS) (hf : f_X2_richest j1 tt = some out) : uI l D cI yX2_richest wsX2_richest ({ frames := 2, cells := 0, slots := 0, locals := 45 } : Room) [.ref (A 0), .int j1] (wM A cI tt) (wM A cI out.2) out.1 := by
  intro sz
  refine Met.ofW (cc := cX2_richest) (maxL := 2) (ret := (some .int)) (by decide) rfl ?_
  intro p e s m args below meth c s₁ Bd hml hv
  obtain ⟨rfl, hsz, hP, hK, hD0, hN⟩ := hv
  have hx := Bd.exec
  have hb := Bd.bytes
  have hr := Bd.returns
  have hts := atoms_spec (ws := wsX2_richest) Bd.pre
  have hown : s.vm.findClass RX2 = some m.cls := findClass_of_methodNamed Bd.named
  have hlocks := Bd.notSynchronized
  subst hsz
  have hD := hD0.self (sz := s.heap.size)
  generalize hAe : va_A (wM A cI tt) s.heap.size = G at hD ⊢
  have hA : ∀ q : Nat, s.heap.size ≤ q → G q := fun q h => by rw [← hAe]; exact Or.inr h
  have hS : va_S G s.heap s.heap [] := va_S.rf
  have hP : va_P D vwCl (wM A cI tt) s.heap := hP
  have hl := lv_entry ([.ref (A 0), .int j1]) (n := 2) (Nat.le_of_ble_eq_true rfl)
  rw [lg_entry_eq]
  generalize (lg_sl ([.ref (A 0), .int j1]) ++ List.replicate (2 - (lg_sl ([.ref (A 0), .int j1])).length) Slot.unset).toArray = ls at hl ⊢
  have hl : lv_has ls 2 [(0, .ref (A 0)), (1, .int j1)] := hl
  have hinM : ∀ w ∈ wsX20, w ∈ wsX2_richest := by decide +kernel
  have lk0 := hts (.fieldLink RX2 40 "LiesBoughtBackModel" "belief" "[I") (by decide +kernel)
  have lk1 := hts (.fieldLink RX2 37 "LiesBoughtBackModel" "purse" "[I") (by decide +kernel)
  refine W_in ?_
  intro WW hWW
  refine (hWW _ _ _).mpr ?_
  unfold f_X2_richest at hf
  refine lv_iload_n hx hb dX2_richest_0 rfl (lv_at hl 1 rfl) ?_
  refine lv_iconst (v := (0 : Int32)) hx hb dX2_richest_1 (by decide) ?_
  refine lv_iconst (v := (2 : Int32)) hx hb dX2_richest_2 (by decide) ?_
  refine qS_i (As := [.int j1, .int (0 : Int32), .int (2 : Int32)]) (rest := []) ⟨hx, hb, hml, hown, hts⟩ hK hN hA hP hD hS (c_X2_isIn l D cI j1 (0 : Int32) (2 : Int32) (f_X2_isIn j1 (0 : Int32) (2 : Int32)) rfl) (va_cwS 3 hts gX2_richest_X2_isIn rfl rfl rfl hd_X2_isIn.2 ⟨Nat.le_of_ble_eq_true rfl, Nat.le_of_ble_eq_true rfl⟩) Bp_e rfl hl.1 rfl (Nat.le_of_ble_eq_true rfl) dX2_richest_3 ⟨Nat.le_of_ble_eq_true rfl, Nat.le_of_ble_eq_true rfl⟩ (fun H locs hP hD hS => ?_)
  refine lv_if_ne (tgt := 16) hx hb dX2_richest_6 (by decide) (fun c1 => ?_) (fun c1 => ?_)
  · have hf := hF hf c1
    refine lv_iload_n hx hb dX2_richest_16 rfl (lv_at hl 1 rfl) ?_
    refine lv_if_ne (tgt := 31) hx hb dX2_richest_17 (by decide) (fun c2 => ?_) (fun c2 => ?_)
    · have hf := hF hf c2
      refine lv_iload_n hx hb dX2_richest_31 rfl (lv_at hl 1 rfl) ?_
      refine lv_iconst (v := (1 : Int32)) hx hb dX2_richest_32 (by decide) ?_
      refine lv_icmp_ne (tgt := 47) hx hb dX2_richest_33 (by decide) (fun c3 => ?_) (fun c3 => ?_)
      · have hf := hF hf c3
        refine lv_aload_n hx hb dX2_richest_47 rfl (lv_at hl 0 rfl) ?_
        obtain ⟨v4, hev4, hf⟩ := bS hf
        refine qV_i (As := []) (rest := []) ⟨hx, hb, hml, hown, hts⟩ hK hN hA hP hD hS (c_X2_dearest l D cI A tt v4 hev4) (cwV 0 hts gX2_richest_X2_dearest rfl rfl rfl hd_X2_dearest ⟨Nat.le_of_ble_eq_true rfl, Nat.le_of_ble_eq_true rfl⟩) (va_recv hK hP (ci := 2) (q0 := 0) rfl rfl) (bq_X2_X2_t A cI tt) rfl hl.1 rfl (Nat.le_of_ble_eq_true rfl) dX2_richest_48 ⟨Nat.le_of_ble_eq_true rfl, Nat.le_of_ble_eq_true rfl⟩ (fun H locs hP hD hS => ?_)
        obtain rfl := Option.some.inj hf
        exact W.iret (v := v4) hx hb hr (fun t ht hW => ⟨⟨v4, (), rfl, rfl, hPt ht hP⟩, hS.F ht⟩) hS.2.2 dX2_richest_51
      · have hf := hT hf c3
        refine lv_aload_n hx hb dX2_richest_36 rfl (lv_at hl 0 rfl) ?_
        refine lv_aload_n hx hb dX2_richest_37 rfl (lv_at hl 0 rfl) ?_
        refine va_get (D := D) (ci := 2) (v := .ref (A 11)) (C := RX2) (T := TX2) (N := 31) hx hb hts hinM hown hK hP 0 rfl rfl 10 (by decide) lk0 (fun _ h9 => h9) rfl dX2_richest_38 ?_
        obtain ⟨v5, hev5, hf⟩ := bS hf
        refine qV_i (As := [.ref (A 11)]) (rest := []) ⟨hx, hb, hml, hown, hts⟩ hK hN hA hP hD hS (c_X2_mostOf_10 l D cI A tt v5 hev5) (cwV 1 hts gX2_richest_X2_mostOf rfl rfl rfl hd_X2_mostOf ⟨Nat.le_of_ble_eq_true rfl, Nat.le_of_ble_eq_true rfl⟩) (va_recv hK hP (ci := 2) (q0 := 0) rfl rfl) (bq_X2_X2_t A cI tt) rfl hl.1 rfl (Nat.le_of_ble_eq_true rfl) dX2_richest_41 ⟨Nat.le_of_ble_eq_true rfl, Nat.le_of_ble_eq_true rfl⟩ (fun H locs hP hD hS => ?_)
        refine lv_goto (tgt := 51) hx hb dX2_richest_44 (by decide) ?_
        obtain rfl := Option.some.inj hf
        exact W.iret (v := v5) hx hb hr (fun t ht hW => ⟨⟨v5, (), rfl, rfl, hPt ht hP⟩, hS.F ht⟩) hS.2.2 dX2_richest_51
    · have hf := hT hf c2
      refine lv_aload_n hx hb dX2_richest_20 rfl (lv_at hl 0 rfl) ?_
      refine lv_aload_n hx hb dX2_richest_21 rfl (lv_at hl 0 rfl) ?_
      refine va_get (D := D) (ci := 2) (v := .ref (A 10)) (C := RX2) (T := TX2) (N := 31) hx hb hts hinM hown hK hP 0 rfl rfl 9 (by decide) lk1 (fun _ h9 => h9) rfl dX2_richest_22 ?_
      obtain ⟨v6, hev6, hf⟩ := bS hf
      refine qV_i (As := [.ref (A 10)]) (rest := []) ⟨hx, hb, hml, hown, hts⟩ hK hN hA hP hD hS (c_X2_mostOf_9 l D cI A tt v6 hev6) (cwV 1 hts gX2_richest_X2_mostOf rfl rfl rfl hd_X2_mostOf ⟨Nat.le_of_ble_eq_true rfl, Nat.le_of_ble_eq_true rfl⟩) (va_recv hK hP (ci := 2) (q0 := 0) rfl rfl) (bq_X2_X2_t A cI tt) rfl hl.1 rfl (Nat.le_of_ble_eq_true rfl) dX2_richest_25 ⟨Nat.le_of_ble_eq_true rfl, Nat.le_of_ble_eq_true rfl⟩ (fun H locs hP hD hS => ?_)
      refine lv_goto (tgt := 51) hx hb dX2_richest_28 (by decide) ?_
      obtain rfl := Option.some.inj hf
      exact W.iret (v := v6) hx hb hr (fun t ht hW => ⟨⟨v6, (), rfl, rfl, hPt ht hP⟩, hS.F ht⟩) hS.2.2 dX2_richest_51
  · have hf := hT hf c1
    refine lv_aload_n hx hb dX2_richest_9 rfl (lv_at hl 0 rfl) ?_
    refine lv_bipush (v := (-2 : Int32)) hx hb dX2_richest_10 (by decide) ?_
    obtain ⟨v7, hev7, hf⟩ := bS hf
    refine qV_i (ws' := (wM A cI v7.2)) (As := [.int (-2 : Int32)]) (rest := []) ⟨hx, hb, hml, hown, hts⟩ hK hN hA hP hD hS (c_X2_no l D cI A (-2 : Int32) tt v7 hev7) (cwV 1 hts gX2_richest_X2_no rfl rfl rfl hd_X2_no ⟨Nat.le_of_ble_eq_true rfl, Nat.le_of_ble_eq_true rfl⟩) (va_recv hK hP (ci := 2) (q0 := 0) rfl rfl) (bp_X2_X2_t_t A cI tt v7.2) rfl hl.1 rfl (Nat.le_of_ble_eq_true rfl) dX2_richest_12 ⟨Nat.le_of_ble_eq_true rfl, Nat.le_of_ble_eq_true rfl⟩ (fun H locs hP hD hS => ?_)
    have hP : va_P D vwCl (wM A cI v7.2) H := hP
    obtain rfl := Option.some.inj hf
    exact W.iret (v := v7.1) hx hb hr (fun t ht hW => ⟨⟨v7.1, (), rfl, rfl, hPt ht hP⟩, hS.F ht⟩) hS.2.2 dX2_richest_15
set_option maxHeartbeats 4000000 in
set_option maxRecDepth 100000 in
theorem c_X2_ownCards (l : Launch) (D : va_G) (cI : ClassId) (A : Nat → Nat) (j1 : Int32) (tt : HS) (out : Int32) (hf : f_X2_ownCards j1 tt = some out) : uI l D cI yX2_ownCards wsX2_ownCards ({ frames := 0, cells := 0, slots := 0, locals := 0 } : Room) [.ref (A 0), .int j1] (wM A cI tt) (wM A cI tt) out := by
  intro sz
  refine Met.ofW (cc := cX2_ownCards) (maxL := 4) (ret := (some .int)) (by decide) rfl ?_
  intro p e s m args below meth c s₁ Bd hml hv
  obtain ⟨rfl, hsz, hP, hK, hD0, hN⟩ := hv
  have hx := Bd.exec
  have hb := Bd.bytes
  have hr := Bd.returns
  have hts := atoms_spec (ws := wsX2_ownCards) Bd.pre
  have hown : s.vm.findClass RX2 = some m.cls := findClass_of_methodNamed Bd.named
  have hlocks := Bd.notSynchronized
  subst hsz
  have hD := hD0.self (sz := s.heap.size)
  generalize hAe : va_A (wM A cI tt) s.heap.size = G at hD ⊢
  have hA : ∀ q : Nat, s.heap.size ≤ q → G q := fun q h => by rw [← hAe]; exact Or.inr h
  have hS : va_S G s.heap s.heap [] := va_S.rf
  have hP : va_P D vwCl (wM A cI tt) s.heap := hP
  have hl := lv_entry ([.ref (A 0), .int j1]) (n := 4) (Nat.le_of_ble_eq_true rfl)
  rw [lg_entry_eq]
  generalize (lg_sl ([.ref (A 0), .int j1]) ++ List.replicate (4 - (lg_sl ([.ref (A 0), .int j1])).length) Slot.unset).toArray = ls at hl ⊢
  have hl : lv_has ls 4 [(0, .ref (A 0)), (1, .int j1)] := hl
  have hinM : ∀ w ∈ wsX20, w ∈ wsX2_ownCards := by decide +kernel
  have lk0 := hts (.fieldLink RX2 67 "LiesBoughtBackModel" "cards" "I") (by decide +kernel)
  have lk1 := hts (.fieldLink RX2 25 "LiesBoughtBackModel" "holder" "[I") (by decide +kernel)
  have lk2 := hts (.fieldLink RX2 19 "LiesBoughtBackModel" "teller" "[I") (by decide +kernel)
  refine W_in ?_
  intro WW hWW
  refine (hWW _ _ _).mpr ?_
  unfold f_X2_ownCards at hf
  refine lv_iconst (v := (0 : Int32)) hx hb dX2_ownCards_0 (by decide) ?_
  refine lv_istore_n (lv' := [(2, .int (0 : Int32)), (0, .ref (A 0)), (1, .int j1)]) hx hb dX2_ownCards_1 rfl hl (by decide) rfl (fun ls hl => ?_)
  refine lv_iconst (v := (0 : Int32)) hx hb dX2_ownCards_2 (by decide) ?_
  refine lv_istore_n (lv' := [(3, .int (0 : Int32)), (2, .int (0 : Int32)), (0, .ref (A 0)), (1, .int j1)]) hx hb dX2_ownCards_3 rfl hl (by decide) rfl (fun ls hl => ?_)
  obtain ⟨K63, hK63, hf⟩ := jnS hf
  have J63 : ∀ (j2_63 : Int32) (H : Heap) (locs : List Loc) (ls : Array Slot), K63 j2_63 = some out → va_P D vwCl (wM A cI tt) H → va_D G (wM A cI tt) → va_S G s.heap H locs → lv_has ls 4 [(2, .int j2_63)] → WW H locs (F0 m 63 ls []) := by
    intro j2_63 H locs ls hf hP hD hS hl
    subst hK63
    refine (hWW _ _ _).mpr ?_
    refine lv_iload_n hx hb dX2_ownCards_63 rfl (lv_at hl 0 rfl) ?_
    obtain rfl := Option.some.inj hf
    exact W.iret (v := j2_63) hx hb hr (fun t ht hW => ⟨⟨j2_63, (), rfl, rfl, hPt ht hP⟩, hS.F ht⟩) hS.2.2 dX2_ownCards_64
  have P4 : ∀ (n' : Nat) (j2_4 : Int32) (j3_4 : Int32) (H : Heap) (locs : List Loc) (ls : Array Slot), L_X2_ownCards_4 j1 tt K63 n' j2_4 j3_4 = some out → va_P D vwCl (wM A cI tt) H → va_D G (wM A cI tt) → va_S G s.heap H locs → lv_has ls 4 [(0, .ref (A 0)), (1, .int j1), (2, .int j2_4), (3, .int j3_4)] → WW H locs (F0 m 4 ls []) := by
    intro n'
    induction n' with
    | zero => intro j2_4 j3_4 H locs ls hf; exact absurd (show (none : Option (Int32)) = some out from hf) (fun q => by cases q)
    | succ n' ih =>
      intro j2_4 j3_4 H locs ls hf hP hD hS hl
      rw [L_X2_ownCards_4] at hf
      refine (hWW _ _ _).mpr ?_
      refine lv_iload_n hx hb dX2_ownCards_4 rfl (lv_at hl 3 rfl) ?_
      refine lv_aload_n hx hb dX2_ownCards_5 rfl (lv_at hl 0 rfl) ?_
      refine va_get (D := D) (ci := 2) (v := .int (tt 20 0)) (C := RX2) (T := TX2) (N := 31) hx hb hts hinM hown hK hP 0 rfl rfl 11 (by decide) lk0 (fun _ h9 => h9) rfl dX2_ownCards_6 ?_
      refine lv_icmp_ge (tgt := 63) hx hb dX2_ownCards_9 (by decide) (fun c1 => ?_) (fun c1 => ?_)
      · have hf := hT hf c1
        exact (hWW _ _ _).mp (J63 _ _ _ _ hf hP hD hS (lv_sub hl [2] rfl))
      · have hf := hF hf c1
        refine lv_iload_n hx hb dX2_ownCards_12 rfl (lv_at hl 2 rfl) ?_
        refine lv_aload_n hx hb dX2_ownCards_13 rfl (lv_at hl 0 rfl) ?_
        refine va_get (D := D) (ci := 2) (v := .ref (A 6)) (C := RX2) (T := TX2) (N := 31) hx hb hts hinM hown hK hP 0 rfl rfl 5 (by decide) lk1 (fun _ h9 => h9) rfl dX2_ownCards_14 ?_
        refine lv_iload_n hx hb dX2_ownCards_17 rfl (lv_at hl 3 rfl) ?_
        obtain ⟨v2, he, hf⟩ := bS hf
        refine x_iald hx hb hK hP 6 (n := 8) rfl he dX2_ownCards_18 ?_
        refine lv_if_eq (tgt := 54) hx hb dX2_ownCards_19 (by decide) (fun c3 => ?_) (fun c3 => ?_)
        · have hf := hT hf c3
          refine lv_iconst (v := (0 : Int32)) hx hb dX2_ownCards_54 (by decide) ?_
          refine lv_ior hx hb dX2_ownCards_55 ?_
          refine lv_istore_n (lv' := [(2, .int (j2_4 ||| (0 : Int32))), (0, .ref (A 0)), (1, .int j1), (3, .int j3_4)]) hx hb dX2_ownCards_56 rfl hl (by decide) rfl (fun ls hl => ?_)
          refine lv_iinc (v := (j3_4 + (1 : Int32))) (lv' := [(3, .int (j3_4 + (1 : Int32))), (2, .int (j2_4 ||| (0 : Int32))), (0, .ref (A 0)), (1, .int j1)]) hx hb dX2_ownCards_57 hl (k := 3) rfl rfl (by decide) rfl (fun ls hl => ?_)
          refine lv_goto (tgt := 4) hx hb dX2_ownCards_60 (by decide) ?_
          exact (hWW _ _ _).mp (ih _ _ _ _ _ hf hP hD hS (lv_sub hl [2, 3, 1, 0] rfl))
        · have hf := hF hf c3
          refine lv_aload_n hx hb dX2_ownCards_22 rfl (lv_at hl 0 rfl) ?_
          refine va_get (D := D) (ci := 2) (v := .ref (A 6)) (C := RX2) (T := TX2) (N := 31) hx hb hts hinM hown hK hP 0 rfl rfl 5 (by decide) lk1 (fun _ h9 => h9) rfl dX2_ownCards_23 ?_
          refine lv_iload_n hx hb dX2_ownCards_26 rfl (lv_at hl 3 rfl) ?_
          obtain ⟨v4, he, hf⟩ := bS hf
          refine x_iald hx hb hK hP 6 (n := 8) rfl he dX2_ownCards_27 ?_
          refine lv_aload_n hx hb dX2_ownCards_28 rfl (lv_at hl 0 rfl) ?_
          refine va_get (D := D) (ci := 2) (v := .ref (A 4)) (C := RX2) (T := TX2) (N := 31) hx hb hts hinM hown hK hP 0 rfl rfl 3 (by decide) lk2 (fun _ h9 => h9) rfl dX2_ownCards_29 ?_
          refine lv_iload_n hx hb dX2_ownCards_32 rfl (lv_at hl 3 rfl) ?_
          obtain ⟨v5, he, hf⟩ := bS hf
          refine x_iald hx hb hK hP 4 (n := 8) rfl he dX2_ownCards_33 ?_
          refine lv_iconst (v := (1 : Int32)) hx hb dX2_ownCards_34 (by decide) ?_
          refine lv_iadd hx hb dX2_ownCards_35 ?_
          refine lv_icmp_ne (tgt := 43) hx hb dX2_ownCards_36 (by decide) (fun c6 => ?_) (fun c6 => ?_)
          · have hf := hF hf c6
            refine lv_iconst (v := (0 : Int32)) hx hb dX2_ownCards_43 (by decide) ?_
            refine lv_iload_n hx hb dX2_ownCards_44 rfl (lv_at hl 1 rfl) ?_
            refine lv_icmp_ne (tgt := 54) hx hb dX2_ownCards_45 (by decide) (fun c7 => ?_) (fun c7 => ?_)
            · have hf := hF hf c7
              refine lv_iconst (v := (0 : Int32)) hx hb dX2_ownCards_54 (by decide) ?_
              refine lv_ior hx hb dX2_ownCards_55 ?_
              refine lv_istore_n (lv' := [(2, .int (j2_4 ||| (0 : Int32))), (0, .ref (A 0)), (1, .int j1), (3, .int j3_4)]) hx hb dX2_ownCards_56 rfl hl (by decide) rfl (fun ls hl => ?_)
              refine lv_iinc (v := (j3_4 + (1 : Int32))) (lv' := [(3, .int (j3_4 + (1 : Int32))), (2, .int (j2_4 ||| (0 : Int32))), (0, .ref (A 0)), (1, .int j1)]) hx hb dX2_ownCards_57 hl (k := 3) rfl rfl (by decide) rfl (fun ls hl => ?_)
              refine lv_goto (tgt := 4) hx hb dX2_ownCards_60 (by decide) ?_
              exact (hWW _ _ _).mp (ih _ _ _ _ _ hf hP hD hS (lv_sub hl [2, 3, 1, 0] rfl))
            · have hf := hT hf c7
              refine lv_iconst (v := (1 : Int32)) hx hb dX2_ownCards_48 (by decide) ?_
              refine lv_iload_n hx hb dX2_ownCards_49 rfl (lv_at hl 3 rfl) ?_
              refine lv_ishl hx hb dX2_ownCards_50 ?_
              refine lv_goto (tgt := 55) hx hb dX2_ownCards_51 (by decide) ?_
              refine lv_ior hx hb dX2_ownCards_55 ?_
              refine lv_istore_n (lv' := [(2, .int (j2_4 ||| ((1 : Int32) <<< (j3_4 &&& 31)))), (0, .ref (A 0)), (1, .int j1), (3, .int j3_4)]) hx hb dX2_ownCards_56 rfl hl (by decide) rfl (fun ls hl => ?_)
              refine lv_iinc (v := (j3_4 + (1 : Int32))) (lv' := [(3, .int (j3_4 + (1 : Int32))), (2, .int (j2_4 ||| ((1 : Int32) <<< (j3_4 &&& 31)))), (0, .ref (A 0)), (1, .int j1)]) hx hb dX2_ownCards_57 hl (k := 3) rfl rfl (by decide) rfl (fun ls hl => ?_)
              refine lv_goto (tgt := 4) hx hb dX2_ownCards_60 (by decide) ?_
              exact (hWW _ _ _).mp (ih _ _ _ _ _ hf hP hD hS (lv_sub hl [2, 3, 1, 0] rfl))
          · have hf := hT hf c6
            refine lv_iconst (v := (1 : Int32)) hx hb dX2_ownCards_39 (by decide) ?_
            refine lv_goto (tgt := 44) hx hb dX2_ownCards_40 (by decide) ?_
            refine lv_iload_n hx hb dX2_ownCards_44 rfl (lv_at hl 1 rfl) ?_
            refine lv_icmp_ne (tgt := 54) hx hb dX2_ownCards_45 (by decide) (fun c8 => ?_) (fun c8 => ?_)
            · have hf := hF hf c8
              refine lv_iconst (v := (0 : Int32)) hx hb dX2_ownCards_54 (by decide) ?_
              refine lv_ior hx hb dX2_ownCards_55 ?_
              refine lv_istore_n (lv' := [(2, .int (j2_4 ||| (0 : Int32))), (0, .ref (A 0)), (1, .int j1), (3, .int j3_4)]) hx hb dX2_ownCards_56 rfl hl (by decide) rfl (fun ls hl => ?_)
              refine lv_iinc (v := (j3_4 + (1 : Int32))) (lv' := [(3, .int (j3_4 + (1 : Int32))), (2, .int (j2_4 ||| (0 : Int32))), (0, .ref (A 0)), (1, .int j1)]) hx hb dX2_ownCards_57 hl (k := 3) rfl rfl (by decide) rfl (fun ls hl => ?_)
              refine lv_goto (tgt := 4) hx hb dX2_ownCards_60 (by decide) ?_
              exact (hWW _ _ _).mp (ih _ _ _ _ _ hf hP hD hS (lv_sub hl [2, 3, 1, 0] rfl))
            · have hf := hT hf c8
              refine lv_iconst (v := (1 : Int32)) hx hb dX2_ownCards_48 (by decide) ?_
              refine lv_iload_n hx hb dX2_ownCards_49 rfl (lv_at hl 3 rfl) ?_
              refine lv_ishl hx hb dX2_ownCards_50 ?_
              refine lv_goto (tgt := 55) hx hb dX2_ownCards_51 (by decide) ?_
              refine lv_ior hx hb dX2_ownCards_55 ?_
              refine lv_istore_n (lv' := [(2, .int (j2_4 ||| ((1 : Int32) <<< (j3_4 &&& 31)))), (0, .ref (A 0)), (1, .int j1), (3, .int j3_4)]) hx hb dX2_ownCards_56 rfl hl (by decide) rfl (fun ls hl => ?_)
              refine lv_iinc (v := (j3_4 + (1 : Int32))) (lv' := [(3, .int (j3_4 + (1 : Int32))), (2, .int (j2_4 ||| ((1 : Int32) <<< (j3_4 &&& 31)))), (0, .ref (A 0)), (1, .int j1)]) hx hb dX2_ownCards_57 hl (k := 3) rfl rfl (by decide) rfl (fun ls hl => ?_)
              refine lv_goto (tgt := 4) hx hb dX2_ownCards_60 (by decide) ?_
              exact (hWW _ _ _).mp (ih _ _ _ _ _ hf hP hD hS (lv_sub hl [2, 3, 1, 0] rfl))
  exact (hWW _ _ _).mp (P4 _ _ _ _ _ _ hf hP hD hS (lv_sub hl [2, 3, 1, 0] rfl))
set_option maxHeartbeats 4000000 in
set_option maxRecDepth 100000 in
theorem c_X2_cleanOnes (l : Launch) (D : va_G) (cI : ClassId) (A : Nat → Nat) (tt : HS) (out : Int32) (hf : f_X2_cleanOnes tt = some out) : uI l D cI yX2_cleanOnes wsX2_cleanOnes ({ frames := 0, cells := 0, slots := 0, locals := 0 } : Room) [.ref (A 0)] (wM A cI tt) (wM A cI tt) out := by
  intro sz
  refine Met.ofW (cc := cX2_cleanOnes) (maxL := 3) (ret := (some .int)) (by decide) rfl ?_
  intro p e s m args below meth c s₁ Bd hml hv
  obtain ⟨rfl, hsz, hP, hK, hD0, hN⟩ := hv
  have hx := Bd.exec
  have hb := Bd.bytes
  have hr := Bd.returns
  have hts := atoms_spec (ws := wsX2_cleanOnes) Bd.pre
  have hown : s.vm.findClass RX2 = some m.cls := findClass_of_methodNamed Bd.named
  have hlocks := Bd.notSynchronized
  subst hsz
  have hD := hD0.self (sz := s.heap.size)
  generalize hAe : va_A (wM A cI tt) s.heap.size = G at hD ⊢
  have hA : ∀ q : Nat, s.heap.size ≤ q → G q := fun q h => by rw [← hAe]; exact Or.inr h
  have hS : va_S G s.heap s.heap [] := va_S.rf
  have hP : va_P D vwCl (wM A cI tt) s.heap := hP
  have hl := lv_entry ([.ref (A 0)]) (n := 3) (Nat.le_of_ble_eq_true rfl)
  rw [lg_entry_eq]
  generalize (lg_sl ([.ref (A 0)]) ++ List.replicate (3 - (lg_sl ([.ref (A 0)])).length) Slot.unset).toArray = ls at hl ⊢
  have hl : lv_has ls 3 [(0, .ref (A 0))] := hl
  have hinM : ∀ w ∈ wsX20, w ∈ wsX2_cleanOnes := by decide +kernel
  have lk0 := hts (.fieldLink RX2 73 "LiesBoughtBackModel" "bidders" "I") (by decide +kernel)
  have lk1 := hts (.fieldLink RX2 67 "LiesBoughtBackModel" "cards" "I") (by decide +kernel)
  have lk2 := hts (.fieldLink RX2 19 "LiesBoughtBackModel" "teller" "[I") (by decide +kernel)
  refine W_in ?_
  intro WW hWW
  refine (hWW _ _ _).mpr ?_
  unfold f_X2_cleanOnes at hf
  refine lv_iconst (v := (1 : Int32)) hx hb dX2_cleanOnes_0 (by decide) ?_
  refine lv_aload_n hx hb dX2_cleanOnes_1 rfl (lv_at hl 0 rfl) ?_
  refine va_get (D := D) (ci := 2) (v := .int (tt 21 0)) (C := RX2) (T := TX2) (N := 31) hx hb hts hinM hown hK hP 0 rfl rfl 12 (by decide) lk0 (fun _ h9 => h9) rfl dX2_cleanOnes_2 ?_
  refine lv_ishl hx hb dX2_cleanOnes_5 ?_
  refine lv_iconst (v := (1 : Int32)) hx hb dX2_cleanOnes_6 (by decide) ?_
  refine lv_isub hx hb dX2_cleanOnes_7 ?_
  refine lv_istore_n (lv' := [(1, .int (((1 : Int32) <<< ((tt 21 0) &&& 31)) - (1 : Int32))), (0, .ref (A 0))]) hx hb dX2_cleanOnes_8 rfl hl (by decide) rfl (fun ls hl => ?_)
  refine lv_iconst (v := (0 : Int32)) hx hb dX2_cleanOnes_9 (by decide) ?_
  refine lv_istore_n (lv' := [(2, .int (0 : Int32)), (1, .int (((1 : Int32) <<< ((tt 21 0) &&& 31)) - (1 : Int32))), (0, .ref (A 0))]) hx hb dX2_cleanOnes_10 rfl hl (by decide) rfl (fun ls hl => ?_)
  obtain ⟨K38, hK38, hf⟩ := jnS hf
  have J38 : ∀ (j1_38 : Int32) (H : Heap) (locs : List Loc) (ls : Array Slot), K38 j1_38 = some out → va_P D vwCl (wM A cI tt) H → va_D G (wM A cI tt) → va_S G s.heap H locs → lv_has ls 3 [(1, .int j1_38)] → WW H locs (F0 m 38 ls []) := by
    intro j1_38 H locs ls hf hP hD hS hl
    subst hK38
    refine (hWW _ _ _).mpr ?_
    refine lv_iload_n hx hb dX2_cleanOnes_38 rfl (lv_at hl 0 rfl) ?_
    obtain rfl := Option.some.inj hf
    exact W.iret (v := j1_38) hx hb hr (fun t ht hW => ⟨⟨j1_38, (), rfl, rfl, hPt ht hP⟩, hS.F ht⟩) hS.2.2 dX2_cleanOnes_39
  have P11 : ∀ (n' : Nat) (j1_11 : Int32) (j2_11 : Int32) (H : Heap) (locs : List Loc) (ls : Array Slot), L_X2_cleanOnes_11 tt K38 n' j1_11 j2_11 = some out → va_P D vwCl (wM A cI tt) H → va_D G (wM A cI tt) → va_S G s.heap H locs → lv_has ls 3 [(0, .ref (A 0)), (1, .int j1_11), (2, .int j2_11)] → WW H locs (F0 m 11 ls []) := by
    intro n'
    induction n' with
    | zero => intro j1_11 j2_11 H locs ls hf; exact absurd (show (none : Option (Int32)) = some out from hf) (fun q => by cases q)
    | succ n' ih =>
      intro j1_11 j2_11 H locs ls hf hP hD hS hl
      rw [L_X2_cleanOnes_11] at hf
      refine (hWW _ _ _).mpr ?_
      refine lv_iload_n hx hb dX2_cleanOnes_11 rfl (lv_at hl 2 rfl) ?_
      refine lv_aload_n hx hb dX2_cleanOnes_12 rfl (lv_at hl 0 rfl) ?_
      refine va_get (D := D) (ci := 2) (v := .int (tt 20 0)) (C := RX2) (T := TX2) (N := 31) hx hb hts hinM hown hK hP 0 rfl rfl 11 (by decide) lk1 (fun _ h9 => h9) rfl dX2_cleanOnes_13 ?_
      refine lv_icmp_ge (tgt := 38) hx hb dX2_cleanOnes_16 (by decide) (fun c1 => ?_) (fun c1 => ?_)
      · have hf := hT hf c1
        exact (hWW _ _ _).mp (J38 _ _ _ _ hf hP hD hS (lv_sub hl [1] rfl))
      · have hf := hF hf c1
        refine lv_iload_n hx hb dX2_cleanOnes_19 rfl (lv_at hl 1 rfl) ?_
        refine lv_iconst (v := (1 : Int32)) hx hb dX2_cleanOnes_20 (by decide) ?_
        refine lv_aload_n hx hb dX2_cleanOnes_21 rfl (lv_at hl 0 rfl) ?_
        refine va_get (D := D) (ci := 2) (v := .ref (A 4)) (C := RX2) (T := TX2) (N := 31) hx hb hts hinM hown hK hP 0 rfl rfl 3 (by decide) lk2 (fun _ h9 => h9) rfl dX2_cleanOnes_22 ?_
        refine lv_iload_n hx hb dX2_cleanOnes_25 rfl (lv_at hl 2 rfl) ?_
        obtain ⟨v2, he, hf⟩ := bS hf
        refine x_iald hx hb hK hP 4 (n := 8) rfl he dX2_cleanOnes_26 ?_
        refine lv_ishl hx hb dX2_cleanOnes_27 ?_
        refine lv_iconst (v := (-1 : Int32)) hx hb dX2_cleanOnes_28 (by decide) ?_
        refine lv_ixor hx hb dX2_cleanOnes_29 ?_
        refine lv_iand hx hb dX2_cleanOnes_30 ?_
        refine lv_istore_n (lv' := [(1, .int (j1_11 &&& (((1 : Int32) <<< (v2 &&& 31)) ^^^ (-1 : Int32)))), (0, .ref (A 0)), (2, .int j2_11)]) hx hb dX2_cleanOnes_31 rfl hl (by decide) rfl (fun ls hl => ?_)
        refine lv_iinc (v := (j2_11 + (1 : Int32))) (lv' := [(2, .int (j2_11 + (1 : Int32))), (1, .int (j1_11 &&& (((1 : Int32) <<< (v2 &&& 31)) ^^^ (-1 : Int32)))), (0, .ref (A 0))]) hx hb dX2_cleanOnes_32 hl (k := 2) rfl rfl (by decide) rfl (fun ls hl => ?_)
        refine lv_goto (tgt := 11) hx hb dX2_cleanOnes_35 (by decide) ?_
        exact (hWW _ _ _).mp (ih _ _ _ _ _ hf hP hD hS (lv_sub hl [2, 1, 0] rfl))
  exact (hWW _ _ _).mp (P11 _ _ _ _ _ _ hf hP hD hS (lv_sub hl [2, 1, 0] rfl))
set_option maxHeartbeats 4000000 in
set_option maxRecDepth 100000 in
theorem c_X2_allOf_9 (l : Launch) (D : va_G) (cI : ClassId) (A : Nat → Nat) (j2 : Int32) (tt : HS) (out : Int32) (hf : f_X2_allOf_9 j2 tt = some out) : uI l D cI yX2_allOf wsX2_allOf ({ frames := 0, cells := 0, slots := 0, locals := 0 } : Room) [.ref (A 0), .ref (A 10), .int j2] (wM A cI tt) (wM A cI tt) out := by
  intro sz
  refine Met.ofW (cc := cX2_allOf) (maxL := 5) (ret := (some .int)) (by decide) rfl ?_
  intro p e s m args below meth c s₁ Bd hml hv
  obtain ⟨rfl, hsz, hP, hK, hD0, hN⟩ := hv
  have hx := Bd.exec
  have hb := Bd.bytes
  have hr := Bd.returns
  have hts := atoms_spec (ws := wsX2_allOf) Bd.pre
  have hown : s.vm.findClass RX2 = some m.cls := findClass_of_methodNamed Bd.named
  have hlocks := Bd.notSynchronized
  subst hsz
  have hD := hD0.self (sz := s.heap.size)
  generalize hAe : va_A (wM A cI tt) s.heap.size = G at hD ⊢
  have hA : ∀ q : Nat, s.heap.size ≤ q → G q := fun q h => by rw [← hAe]; exact Or.inr h
  have hS : va_S G s.heap s.heap [] := va_S.rf
  have hP : va_P D vwCl (wM A cI tt) s.heap := hP
  have hl := lv_entry ([.ref (A 0), .ref (A 10), .int j2]) (n := 5) (Nat.le_of_ble_eq_true rfl)
  rw [lg_entry_eq]
  generalize (lg_sl ([.ref (A 0), .ref (A 10), .int j2]) ++ List.replicate (5 - (lg_sl ([.ref (A 0), .ref (A 10), .int j2])).length) Slot.unset).toArray = ls at hl ⊢
  have hl : lv_has ls 5 [(0, .ref (A 0)), (1, .ref (A 10)), (2, .int j2)] := hl
  refine W_in ?_
  intro WW hWW
  refine (hWW _ _ _).mpr ?_
  unfold f_X2_allOf_9 at hf
  refine lv_iconst (v := (0 : Int32)) hx hb dX2_allOf_0 (by decide) ?_
  refine lv_istore_n (lv' := [(3, .int (0 : Int32)), (0, .ref (A 0)), (1, .ref (A 10)), (2, .int j2)]) hx hb dX2_allOf_1 rfl hl (by decide) rfl (fun ls hl => ?_)
  refine lv_iconst (v := (0 : Int32)) hx hb dX2_allOf_2 (by decide) ?_
  refine lv_istore (lv' := [(4, .int (0 : Int32)), (3, .int (0 : Int32)), (0, .ref (A 0)), (1, .ref (A 10)), (2, .int j2)]) hx hb dX2_allOf_3 hl (by decide) rfl (fun ls hl => ?_)
  obtain ⟨K24, hK24, hf⟩ := jnS hf
  have J24 : ∀ (j3_24 : Int32) (H : Heap) (locs : List Loc) (ls : Array Slot), K24 j3_24 = some out → va_P D vwCl (wM A cI tt) H → va_D G (wM A cI tt) → va_S G s.heap H locs → lv_has ls 5 [(3, .int j3_24)] → WW H locs (F0 m 24 ls []) := by
    intro j3_24 H locs ls hf hP hD hS hl
    subst hK24
    refine (hWW _ _ _).mpr ?_
    refine lv_iload_n hx hb dX2_allOf_24 rfl (lv_at hl 0 rfl) ?_
    obtain rfl := Option.some.inj hf
    exact W.iret (v := j3_24) hx hb hr (fun t ht hW => ⟨⟨j3_24, (), rfl, rfl, hPt ht hP⟩, hS.F ht⟩) hS.2.2 dX2_allOf_25
  have P5 : ∀ (n' : Nat) (j3_5 : Int32) (j4_5 : Int32) (H : Heap) (locs : List Loc) (ls : Array Slot), L_X2_allOf_9_5 j2 tt K24 n' j3_5 j4_5 = some out → va_P D vwCl (wM A cI tt) H → va_D G (wM A cI tt) → va_S G s.heap H locs → lv_has ls 5 [(1, .ref (A 10)), (2, .int j2), (3, .int j3_5), (4, .int j4_5)] → WW H locs (F0 m 5 ls []) := by
    intro n'
    induction n' with
    | zero => intro j3_5 j4_5 H locs ls hf; exact absurd (show (none : Option (Int32)) = some out from hf) (fun q => by cases q)
    | succ n' ih =>
      intro j3_5 j4_5 H locs ls hf hP hD hS hl
      rw [L_X2_allOf_9_5] at hf
      refine (hWW _ _ _).mpr ?_
      refine lv_iload hx hb dX2_allOf_5 (lv_at hl 3 rfl) ?_
      refine lv_iload_n hx hb dX2_allOf_7 rfl (lv_at hl 1 rfl) ?_
      refine lv_icmp_ge (tgt := 24) hx hb dX2_allOf_8 (by decide) (fun c1 => ?_) (fun c1 => ?_)
      · have hf := hT hf c1
        exact (hWW _ _ _).mp (J24 _ _ _ _ hf hP hD hS (lv_sub hl [2] rfl))
      · have hf := hF hf c1
        refine lv_iload_n hx hb dX2_allOf_11 rfl (lv_at hl 2 rfl) ?_
        refine lv_aload_n hx hb dX2_allOf_12 rfl (lv_at hl 0 rfl) ?_
        refine lv_iload hx hb dX2_allOf_13 (lv_at hl 3 rfl) ?_
        obtain ⟨v2, he, hf⟩ := bS hf
        refine x_iald hx hb hK hP 10 (n := 6) rfl he dX2_allOf_15 ?_
        refine lv_iadd hx hb dX2_allOf_16 ?_
        refine lv_istore_n (lv' := [(3, .int (j3_5 + v2)), (1, .ref (A 10)), (2, .int j2), (4, .int j4_5)]) hx hb dX2_allOf_17 rfl hl (by decide) rfl (fun ls hl => ?_)
        refine lv_iinc (v := (j4_5 + (1 : Int32))) (lv' := [(4, .int (j4_5 + (1 : Int32))), (3, .int (j3_5 + v2)), (1, .ref (A 10)), (2, .int j2)]) hx hb dX2_allOf_18 hl (k := 3) rfl rfl (by decide) rfl (fun ls hl => ?_)
        refine lv_goto (tgt := 5) hx hb dX2_allOf_21 (by decide) ?_
        exact (hWW _ _ _).mp (ih _ _ _ _ _ hf hP hD hS (lv_sub hl [2, 3, 1, 0] rfl))
  exact (hWW _ _ _).mp (P5 _ _ _ _ _ _ hf hP hD hS (lv_sub hl [3, 4, 1, 0] rfl))
set_option maxHeartbeats 4000000 in
set_option maxRecDepth 100000 in
theorem c_X2_owned (l : Launch) (D : va_G) (cI : ClassId) (A : Nat → Nat) (j1 : Int32) (tt : HS) (out : Int32 × HS) (hf : f_X2_owned j1 tt = some out) : uI l D cI yX2_owned wsX2_owned ({ frames := 1, cells := 0, slots := 0, locals := 24 } : Room) [.ref (A 0), .int j1] (wM A cI tt) (wM A cI out.2) out.1 := by
  intro sz
  refine Met.ofW (cc := cX2_owned) (maxL := 2) (ret := (some .int)) (by decide) rfl ?_
  intro p e s m args below meth c s₁ Bd hml hv
  obtain ⟨rfl, hsz, hP, hK, hD0, hN⟩ := hv
  have hx := Bd.exec
  have hb := Bd.bytes
  have hr := Bd.returns
  have hts := atoms_spec (ws := wsX2_owned) Bd.pre
  have hown : s.vm.findClass RX2 = some m.cls := findClass_of_methodNamed Bd.named
  have hlocks := Bd.notSynchronized
  subst hsz
  have hD := hD0.self (sz := s.heap.size)
  generalize hAe : va_A (wM A cI tt) s.heap.size = G at hD ⊢
  have hA : ∀ q : Nat, s.heap.size ≤ q → G q := fun q h => by rw [← hAe]; exact Or.inr h
  have hS : va_S G s.heap s.heap [] := va_S.rf
  have hP : va_P D vwCl (wM A cI tt) s.heap := hP
  have hl := lv_entry ([.ref (A 0), .int j1]) (n := 2) (Nat.le_of_ble_eq_true rfl)
  rw [lg_entry_eq]
  generalize (lg_sl ([.ref (A 0), .int j1]) ++ List.replicate (2 - (lg_sl ([.ref (A 0), .int j1])).length) Slot.unset).toArray = ls at hl ⊢
  have hl : lv_has ls 2 [(0, .ref (A 0)), (1, .int j1)] := hl
  have hinM : ∀ w ∈ wsX20, w ∈ wsX2_owned := by decide +kernel
  have lk0 := hts (.fieldLink RX2 37 "LiesBoughtBackModel" "purse" "[I") (by decide +kernel)
  have lk1 := hts (.fieldLink RX2 73 "LiesBoughtBackModel" "bidders" "I") (by decide +kernel)
  refine W_in ?_
  intro WW hWW
  refine (hWW _ _ _).mpr ?_
  unfold f_X2_owned at hf
  refine lv_iload_n hx hb dX2_owned_0 rfl (lv_at hl 1 rfl) ?_
  by_cases c1 : j1 = (0 : Int32)
  · have hf := hT hf c1
    refine sw_in (v := 0) (off := 31) (tgt := 32) hx hb dX2_owned_1 ((congrArg Int32.toInt c1).trans (by decide)) (by decide) (by decide) (by decide) (by decide) ?_
    refine lv_aload_n hx hb dX2_owned_32 rfl (lv_at hl 0 rfl) ?_
    refine lv_iload_n hx hb dX2_owned_33 rfl (lv_at hl 1 rfl) ?_
    refine lv_if_ne (tgt := 41) hx hb dX2_owned_34 (by decide) (fun c2 => ?_) (fun c2 => ?_)
    · have hf := hF hf c2
      refine lv_iconst (v := (0 : Int32)) hx hb dX2_owned_41 (by decide) ?_
      obtain ⟨v3, hev3, hf⟩ := bS hf
      refine qV_i (As := [.int (0 : Int32)]) (rest := []) ⟨hx, hb, hml, hown, hts⟩ hK hN hA hP hD hS (c_X2_ownCards l D cI A (0 : Int32) tt v3 hev3) (cwV 1 hts gX2_owned_X2_ownCards rfl rfl rfl hd_X2_ownCards ⟨Nat.le_of_ble_eq_true rfl, Nat.le_of_ble_eq_true rfl⟩) (va_recv hK hP (ci := 2) (q0 := 0) rfl rfl) (bq_X2_X2_t A cI tt) rfl hl.1 rfl (Nat.le_of_ble_eq_true rfl) dX2_owned_42 ⟨Nat.le_of_ble_eq_true rfl, Nat.le_of_ble_eq_true rfl⟩ (fun H locs hP hD hS => ?_)
      obtain rfl := Option.some.inj hf
      exact W.iret (v := v3) hx hb hr (fun t ht hW => ⟨⟨v3, (), rfl, rfl, hPt ht hP⟩, hS.F ht⟩) hS.2.2 dX2_owned_45
    · have hf := hT hf c2
      refine lv_iconst (v := (1 : Int32)) hx hb dX2_owned_37 (by decide) ?_
      refine lv_goto (tgt := 42) hx hb dX2_owned_38 (by decide) ?_
      obtain ⟨v4, hev4, hf⟩ := bS hf
      refine qV_i (As := [.int (1 : Int32)]) (rest := []) ⟨hx, hb, hml, hown, hts⟩ hK hN hA hP hD hS (c_X2_ownCards l D cI A (1 : Int32) tt v4 hev4) (cwV 1 hts gX2_owned_X2_ownCards rfl rfl rfl hd_X2_ownCards ⟨Nat.le_of_ble_eq_true rfl, Nat.le_of_ble_eq_true rfl⟩) (va_recv hK hP (ci := 2) (q0 := 0) rfl rfl) (bq_X2_X2_t A cI tt) rfl hl.1 rfl (Nat.le_of_ble_eq_true rfl) dX2_owned_42 ⟨Nat.le_of_ble_eq_true rfl, Nat.le_of_ble_eq_true rfl⟩ (fun H locs hP hD hS => ?_)
      obtain rfl := Option.some.inj hf
      exact W.iret (v := v4) hx hb hr (fun t ht hW => ⟨⟨v4, (), rfl, rfl, hPt ht hP⟩, hS.F ht⟩) hS.2.2 dX2_owned_45
  have hf := hF hf c1
  by_cases c5 : j1 = (1 : Int32)
  · have hf := hT hf c5
    refine sw_in (v := 1) (off := 31) (tgt := 32) hx hb dX2_owned_1 ((congrArg Int32.toInt c5).trans (by decide)) (by decide) (by decide) (by decide) (by decide) ?_
    refine lv_aload_n hx hb dX2_owned_32 rfl (lv_at hl 0 rfl) ?_
    refine lv_iload_n hx hb dX2_owned_33 rfl (lv_at hl 1 rfl) ?_
    refine lv_if_ne (tgt := 41) hx hb dX2_owned_34 (by decide) (fun c6 => ?_) (fun c6 => ?_)
    · have hf := hF hf c6
      refine lv_iconst (v := (0 : Int32)) hx hb dX2_owned_41 (by decide) ?_
      obtain ⟨v7, hev7, hf⟩ := bS hf
      refine qV_i (As := [.int (0 : Int32)]) (rest := []) ⟨hx, hb, hml, hown, hts⟩ hK hN hA hP hD hS (c_X2_ownCards l D cI A (0 : Int32) tt v7 hev7) (cwV 1 hts gX2_owned_X2_ownCards rfl rfl rfl hd_X2_ownCards ⟨Nat.le_of_ble_eq_true rfl, Nat.le_of_ble_eq_true rfl⟩) (va_recv hK hP (ci := 2) (q0 := 0) rfl rfl) (bq_X2_X2_t A cI tt) rfl hl.1 rfl (Nat.le_of_ble_eq_true rfl) dX2_owned_42 ⟨Nat.le_of_ble_eq_true rfl, Nat.le_of_ble_eq_true rfl⟩ (fun H locs hP hD hS => ?_)
      obtain rfl := Option.some.inj hf
      exact W.iret (v := v7) hx hb hr (fun t ht hW => ⟨⟨v7, (), rfl, rfl, hPt ht hP⟩, hS.F ht⟩) hS.2.2 dX2_owned_45
    · have hf := hT hf c6
      refine lv_iconst (v := (1 : Int32)) hx hb dX2_owned_37 (by decide) ?_
      refine lv_goto (tgt := 42) hx hb dX2_owned_38 (by decide) ?_
      obtain ⟨v8, hev8, hf⟩ := bS hf
      refine qV_i (As := [.int (1 : Int32)]) (rest := []) ⟨hx, hb, hml, hown, hts⟩ hK hN hA hP hD hS (c_X2_ownCards l D cI A (1 : Int32) tt v8 hev8) (cwV 1 hts gX2_owned_X2_ownCards rfl rfl rfl hd_X2_ownCards ⟨Nat.le_of_ble_eq_true rfl, Nat.le_of_ble_eq_true rfl⟩) (va_recv hK hP (ci := 2) (q0 := 0) rfl rfl) (bq_X2_X2_t A cI tt) rfl hl.1 rfl (Nat.le_of_ble_eq_true rfl) dX2_owned_42 ⟨Nat.le_of_ble_eq_true rfl, Nat.le_of_ble_eq_true rfl⟩ (fun H locs hP hD hS => ?_)
      obtain rfl := Option.some.inj hf
      exact W.iret (v := v8) hx hb hr (fun t ht hW => ⟨⟨v8, (), rfl, rfl, hPt ht hP⟩, hS.F ht⟩) hS.2.2 dX2_owned_45
  have hf := hF hf c5
  by_cases c9 : j1 = (2 : Int32)
  · have hf := hT hf c9
    refine sw_in (v := 2) (off := 45) (tgt := 46) hx hb dX2_owned_1 ((congrArg Int32.toInt c9).trans (by decide)) (by decide) (by decide) (by decide) (by decide) ?_
    refine lv_aload_n hx hb dX2_owned_46 rfl (lv_at hl 0 rfl) ?_
    obtain ⟨v10, hev10, hf⟩ := bS hf
    refine qV_i (As := []) (rest := []) ⟨hx, hb, hml, hown, hts⟩ hK hN hA hP hD hS (c_X2_cleanOnes l D cI A tt v10 hev10) (cwV 0 hts gX2_owned_X2_cleanOnes rfl rfl rfl hd_X2_cleanOnes ⟨Nat.le_of_ble_eq_true rfl, Nat.le_of_ble_eq_true rfl⟩) (va_recv hK hP (ci := 2) (q0 := 0) rfl rfl) (bq_X2_X2_t A cI tt) rfl hl.1 rfl (Nat.le_of_ble_eq_true rfl) dX2_owned_47 ⟨Nat.le_of_ble_eq_true rfl, Nat.le_of_ble_eq_true rfl⟩ (fun H locs hP hD hS => ?_)
    obtain rfl := Option.some.inj hf
    exact W.iret (v := v10) hx hb hr (fun t ht hW => ⟨⟨v10, (), rfl, rfl, hPt ht hP⟩, hS.F ht⟩) hS.2.2 dX2_owned_50
  have hf := hF hf c9
  by_cases c11 : j1 = (3 : Int32)
  · have hf := hT hf c11
    refine sw_in (v := 3) (off := 50) (tgt := 51) hx hb dX2_owned_1 ((congrArg Int32.toInt c11).trans (by decide)) (by decide) (by decide) (by decide) (by decide) ?_
    refine lv_aload_n hx hb dX2_owned_51 rfl (lv_at hl 0 rfl) ?_
    refine lv_aload_n hx hb dX2_owned_52 rfl (lv_at hl 0 rfl) ?_
    refine va_get (D := D) (ci := 2) (v := .ref (A 10)) (C := RX2) (T := TX2) (N := 31) hx hb hts hinM hown hK hP 0 rfl rfl 9 (by decide) lk0 (fun _ h9 => h9) rfl dX2_owned_53 ?_
    refine lv_aload_n hx hb dX2_owned_56 rfl (lv_at hl 0 rfl) ?_
    refine va_get (D := D) (ci := 2) (v := .int (tt 21 0)) (C := RX2) (T := TX2) (N := 31) hx hb hts hinM hown hK hP 0 rfl rfl 12 (by decide) lk1 (fun _ h9 => h9) rfl dX2_owned_57 ?_
    obtain ⟨v12, hev12, hf⟩ := bS hf
    refine qV_i (As := [.ref (A 10), .int (tt 21 0)]) (rest := []) ⟨hx, hb, hml, hown, hts⟩ hK hN hA hP hD hS (c_X2_allOf_9 l D cI A (tt 21 0) tt v12 hev12) (cwV 2 hts gX2_owned_X2_allOf rfl rfl rfl hd_X2_allOf ⟨Nat.le_of_ble_eq_true rfl, Nat.le_of_ble_eq_true rfl⟩) (va_recv hK hP (ci := 2) (q0 := 0) rfl rfl) (bq_X2_X2_t A cI tt) rfl hl.1 rfl (Nat.le_of_ble_eq_true rfl) dX2_owned_60 ⟨Nat.le_of_ble_eq_true rfl, Nat.le_of_ble_eq_true rfl⟩ (fun H locs hP hD hS => ?_)
    obtain rfl := Option.some.inj hf
    exact W.iret (v := v12) hx hb hr (fun t ht hW => ⟨⟨v12, (), rfl, rfl, hPt ht hP⟩, hS.F ht⟩) hS.2.2 dX2_owned_63
  have hf := hF hf c11
  refine lv_tableOut (tgt := 64) hx hb dX2_owned_1 (by have z0 := lv_neT (a := 0) c1 (by decide); have z1 := lv_neT (a := 1) c5 (by decide); have z2 := lv_neT (a := 2) c9 (by decide); have z3 := lv_neT (a := 3) c11 (by decide); omega) (by decide) ?_
  refine lv_aload_n hx hb dX2_owned_64 rfl (lv_at hl 0 rfl) ?_
  refine lv_bipush (v := (-2 : Int32)) hx hb dX2_owned_65 (by decide) ?_
  obtain ⟨v13, hev13, hf⟩ := bS hf
  refine qV_i (ws' := (wM A cI v13.2)) (As := [.int (-2 : Int32)]) (rest := []) ⟨hx, hb, hml, hown, hts⟩ hK hN hA hP hD hS (c_X2_no l D cI A (-2 : Int32) tt v13 hev13) (cwV 1 hts gX2_owned_X2_no rfl rfl rfl hd_X2_no ⟨Nat.le_of_ble_eq_true rfl, Nat.le_of_ble_eq_true rfl⟩) (va_recv hK hP (ci := 2) (q0 := 0) rfl rfl) (bp_X2_X2_t_t A cI tt v13.2) rfl hl.1 rfl (Nat.le_of_ble_eq_true rfl) dX2_owned_67 ⟨Nat.le_of_ble_eq_true rfl, Nat.le_of_ble_eq_true rfl⟩ (fun H locs hP hD hS => ?_)
  have hP : va_P D vwCl (wM A cI v13.2) H := hP
  obtain rfl := Option.some.inj hf
  exact W.iret (v := v13.1) hx hb hr (fun t ht hW => ⟨⟨v13.1, (), rfl, rfl, hPt ht hP⟩, hS.F ht⟩) hS.2.2 dX2_owned_70
set_option maxHeartbeats 4000000 in
set_option maxRecDepth 100000 in
theorem c_X2_endFor (l : Launch) (D : va_G) (cI : ClassId) (A : Nat → Nat) (j1 : Int32) (j2 : Int32) (j3 : Int32) (tt : HS) (out : Int32) (hf : f_X2_endFor j1 j2 j3 tt = some out) : uI l D cI yX2_endFor wsX2_endFor ({ frames := 6, cells := 0, slots := 0, locals := 136 } : Room) [.ref (A 0), .int j1, .int j2, .int j3] (wM A cI tt) (wM A cI tt) out := by
  intro sz
  refine Met.ofW (cc := cX2_endFor) (maxL := 4) (ret := (some .int)) (by decide) rfl ?_
  intro p e s m args below meth c s₁ Bd hml hv
  obtain ⟨rfl, hsz, hP, hK, hD0, hN⟩ := hv
  have hx := Bd.exec
  have hb := Bd.bytes
  have hr := Bd.returns
  have hts := atoms_spec (ws := wsX2_endFor) Bd.pre
  have hown : s.vm.findClass RX2 = some m.cls := findClass_of_methodNamed Bd.named
  have hlocks := Bd.notSynchronized
  subst hsz
  have hD := hD0.self (sz := s.heap.size)
  generalize hAe : va_A (wM A cI tt) s.heap.size = G at hD ⊢
  have hA : ∀ q : Nat, s.heap.size ≤ q → G q := fun q h => by rw [← hAe]; exact Or.inr h
  have hS : va_S G s.heap s.heap [] := va_S.rf
  have hP : va_P D vwCl (wM A cI tt) s.heap := hP
  have hl := lv_entry ([.ref (A 0), .int j1, .int j2, .int j3]) (n := 4) (Nat.le_of_ble_eq_true rfl)
  rw [lg_entry_eq]
  generalize (lg_sl ([.ref (A 0), .int j1, .int j2, .int j3]) ++ List.replicate (4 - (lg_sl ([.ref (A 0), .int j1, .int j2, .int j3])).length) Slot.unset).toArray = ls at hl ⊢
  have hl : lv_has ls 4 [(0, .ref (A 0)), (1, .int j1), (2, .int j2), (3, .int j3)] := hl
  have hinM : ∀ w ∈ wsX20, w ∈ wsX2_endFor := by decide +kernel
  have lk0 := hts (.fieldLink RX2 19 "LiesBoughtBackModel" "teller" "[I") (by decide +kernel)
  refine W_in ?_
  intro WW hWW
  refine (hWW _ _ _).mpr ?_
  unfold f_X2_endFor at hf
  refine lv_iload_n hx hb dX2_endFor_0 rfl (lv_at hl 3 rfl) ?_
  refine lv_iload_n hx hb dX2_endFor_1 rfl (lv_at hl 1 rfl) ?_
  refine lv_icmp_ne (tgt := 18) hx hb dX2_endFor_2 (by decide) (fun c1 => ?_) (fun c1 => ?_)
  · have hf := hF hf c1
    refine lv_iload_n hx hb dX2_endFor_18 rfl (lv_at hl 3 rfl) ?_
    refine lv_if_lt (tgt := 37) hx hb dX2_endFor_19 (by decide) (fun c2 => ?_) (fun c2 => ?_)
    · have hf := hT hf c2
      refine lv_iconst (v := (0 : Int32)) hx hb dX2_endFor_37 (by decide) ?_
      obtain rfl := Option.some.inj hf
      exact W.iret (v := (0 : Int32)) hx hb hr (fun t ht hW => ⟨⟨(0 : Int32), (), rfl, rfl, hPt ht hP⟩, hS.F ht⟩) hS.2.2 dX2_endFor_38
    · have hf := hF hf c2
      refine lv_aload_n hx hb dX2_endFor_22 rfl (lv_at hl 0 rfl) ?_
      refine va_get (D := D) (ci := 2) (v := .ref (A 4)) (C := RX2) (T := TX2) (N := 31) hx hb hts hinM hown hK hP 0 rfl rfl 3 (by decide) lk0 (fun _ h9 => h9) rfl dX2_endFor_23 ?_
      refine lv_iload_n hx hb dX2_endFor_26 rfl (lv_at hl 2 rfl) ?_
      obtain ⟨v3, he, hf⟩ := bS hf
      refine x_iald hx hb hK hP 4 (n := 8) rfl he dX2_endFor_27 ?_
      refine lv_iload_n hx hb dX2_endFor_28 rfl (lv_at hl 1 rfl) ?_
      refine lv_icmp_ne (tgt := 37) hx hb dX2_endFor_29 (by decide) (fun c4 => ?_) (fun c4 => ?_)
      · have hf := hF hf c4
        refine lv_iconst (v := (0 : Int32)) hx hb dX2_endFor_37 (by decide) ?_
        obtain rfl := Option.some.inj hf
        exact W.iret (v := (0 : Int32)) hx hb hr (fun t ht hW => ⟨⟨(0 : Int32), (), rfl, rfl, hPt ht hP⟩, hS.F ht⟩) hS.2.2 dX2_endFor_38
      · have hf := hT hf c4
        refine lv_bipush (v := (-3 : Int32)) hx hb dX2_endFor_32 (by decide) ?_
        refine lv_goto (tgt := 38) hx hb dX2_endFor_34 (by decide) ?_
        obtain rfl := Option.some.inj hf
        exact W.iret (v := (-3 : Int32)) hx hb hr (fun t ht hW => ⟨⟨(-3 : Int32), (), rfl, rfl, hPt ht hP⟩, hS.F ht⟩) hS.2.2 dX2_endFor_38
  · have hf := hT hf c1
    refine lv_aload_n hx hb dX2_endFor_5 rfl (lv_at hl 0 rfl) ?_
    refine lv_iload_n hx hb dX2_endFor_6 rfl (lv_at hl 2 rfl) ?_
    obtain ⟨v5, hev5, hf⟩ := bS hf
    refine qV_i (As := [.int j2]) (rest := []) ⟨hx, hb, hml, hown, hts⟩ hK hN hA hP hD hS (c_X2_worth l D cI A j2 tt v5 hev5) (cwV 1 hts gX2_endFor_X2_worth rfl rfl rfl hd_X2_worth ⟨Nat.le_of_ble_eq_true rfl, Nat.le_of_ble_eq_true rfl⟩) (va_recv hK hP (ci := 2) (q0 := 0) rfl rfl) (bq_X2_X2_t A cI tt) rfl hl.1 rfl (Nat.le_of_ble_eq_true rfl) dX2_endFor_7 ⟨Nat.le_of_ble_eq_true rfl, Nat.le_of_ble_eq_true rfl⟩ (fun H locs hP hD hS => ?_)
    refine lv_aload_n hx hb dX2_endFor_10 rfl (lv_at hl 0 rfl) ?_
    refine lv_iload_n hx hb dX2_endFor_11 rfl (lv_at hl 1 rfl) ?_
    refine lv_iload_n hx hb dX2_endFor_12 rfl (lv_at hl 2 rfl) ?_
    obtain ⟨v6, hev6, hf⟩ := bS hf
    refine qV_i (As := [.int j1, .int j2]) (rest := [.int v5]) ⟨hx, hb, hml, hown, hts⟩ hK hN hA hP hD hS (c_X2_priceFor l D cI A j1 j2 tt v6 hev6) (cwV 2 hts gX2_endFor_X2_priceFor rfl rfl rfl hd_X2_priceFor ⟨Nat.le_of_ble_eq_true rfl, Nat.le_of_ble_eq_true rfl⟩) (va_recv hK hP (ci := 2) (q0 := 0) rfl rfl) (bq_X2_X2_t A cI tt) rfl hl.1 rfl (Nat.le_of_ble_eq_true rfl) dX2_endFor_13 ⟨Nat.le_of_ble_eq_true rfl, Nat.le_of_ble_eq_true rfl⟩ (fun H locs hP hD hS => ?_)
    refine lv_isub hx hb dX2_endFor_16 ?_
    obtain rfl := Option.some.inj hf
    exact W.iret (v := (v5 - v6)) hx hb hr (fun t ht hW => ⟨⟨(v5 - v6), (), rfl, rfl, hPt ht hP⟩, hS.F ht⟩) hS.2.2 dX2_endFor_17
set_option maxHeartbeats 4000000 in
set_option maxRecDepth 100000 in
theorem c_X2_findEnds (l : Launch) (D : va_G) (cI : ClassId) (A : Nat → Nat) (j1 : Int32) (j2 : Int32) (j3 : Int32) (tt : HS) (out : HS) (hf : f_X2_findEnds j1 j2 j3 tt = some out) : uV l D cI yX2_findEnds wsX2_findEnds ({ frames := 7, cells := 0, slots := 0, locals := 159 } : Room) [.ref (A 0), .int j1, .int j2, .int j3] (wM A cI tt) (wM A cI out) := by
  intro sz
  refine Met.ofW (cc := cX2_findEnds) (maxL := 6) (ret := none) (by decide) rfl ?_
  intro p e s m args below meth c s₁ Bd hml hv
  obtain ⟨rfl, hsz, hP, hK, hD0, hN⟩ := hv
  have hx := Bd.exec
  have hb := Bd.bytes
  have hr := Bd.returns
  have hts := atoms_spec (ws := wsX2_findEnds) Bd.pre
  have hown : s.vm.findClass RX2 = some m.cls := findClass_of_methodNamed Bd.named
  have hlocks := Bd.notSynchronized
  subst hsz
  have hD := hD0.self (sz := s.heap.size)
  generalize hAe : va_A (wM A cI tt) s.heap.size = G at hD ⊢
  have hA : ∀ q : Nat, s.heap.size ≤ q → G q := fun q h => by rw [← hAe]; exact Or.inr h
  have hS : va_S G s.heap s.heap [] := va_S.rf
  have hP : va_P D vwCl (wM A cI tt) s.heap := hP
  have hl := lv_entry ([.ref (A 0), .int j1, .int j2, .int j3]) (n := 6) (Nat.le_of_ble_eq_true rfl)
  rw [lg_entry_eq]
  generalize (lg_sl ([.ref (A 0), .int j1, .int j2, .int j3]) ++ List.replicate (6 - (lg_sl ([.ref (A 0), .int j1, .int j2, .int j3])).length) Slot.unset).toArray = ls at hl ⊢
  have hl : lv_has ls 6 [(0, .ref (A 0)), (1, .int j1), (2, .int j2), (3, .int j3)] := hl
  have hinM : ∀ w ∈ wsX20, w ∈ wsX2_findEnds := by decide +kernel
  have lk0 := hts (.fieldLink RX2 189 "LiesBoughtBackModel" "away" "I") (by decide +kernel)
  have lk1 := hts (.fieldLink RX2 61 "LiesBoughtBackModel" "ends" "[I") (by decide +kernel)
  refine W_in ?_
  intro WW hWW
  refine (hWW _ _ _).mpr ?_
  unfold f_X2_findEnds at hf
  refine lv_iconst (v := (0 : Int32)) hx hb dX2_findEnds_0 (by decide) ?_
  refine lv_istore (lv' := [(4, .int (0 : Int32)), (0, .ref (A 0)), (1, .int j1), (2, .int j2), (3, .int j3)]) hx hb dX2_findEnds_1 hl (by decide) rfl (fun ls hl => ?_)
  obtain ⟨K79, hK79, hf⟩ := jnS hf
  have J79 : ∀ (tt_79 : HS) (H : Heap) (locs : List Loc) (ls : Array Slot), K79 tt_79 = some out → va_P D vwCl (wM A cI tt_79) H → va_D G (wM A cI tt_79) → va_S G s.heap H locs → lv_has ls 6 [(0, .ref (A 0))] → WW H locs (F0 m 79 ls []) := by
    intro tt_79 H locs ls hf hP hD hS hl
    subst hK79
    refine (hWW _ _ _).mpr ?_
    refine lv_aload_n hx hb dX2_findEnds_79 rfl (lv_at hl 0 rfl) ?_
    refine lv_iconst (v := (0 : Int32)) hx hb dX2_findEnds_80 (by decide) ?_
    obtain ⟨tt_v1, ett_v1, hf⟩ := jnS hf
    refine va_put (D := D) (ci := 2) (v := .int (0 : Int32)) (ty := .int) (C := RX2) (T := TX2) (N := 31) hx hb hts hinM tyX2 tyX2_ok nmX2 hown hK hP hD hS 0 rfl rfl 25 (by decide) lk0 (fun _ h9 => h9) rfl (by decide +kernel) rfl rfl (Nat.le_of_ble_eq_true rfl) dX2_findEnds_81 (fun H locs hP hD hS => ?_)
    have hE : _ = (wM A cI tt_v1) := ((sf_X2_t_29 A cI tt_79 (0 : Int32)).trans (congrArg (fun z => wM A cI z) ett_v1.symm))
    have hP : va_P D vwCl (wM A cI tt_v1) H := hE ▸ hP
    have hD : va_D G (wM A cI tt_v1) := hE ▸ hD
    obtain rfl := Option.some.inj hf
    exact W.vret hx hb hr (fun t ht hW => ⟨⟨(), rfl, trivial, hPt ht hP⟩, hS.F ht⟩) hS.2.2 dX2_findEnds_84
  have P3 : ∀ (n' : Nat) (j4_3 : Int32) (tt_3 : HS) (H : Heap) (locs : List Loc) (ls : Array Slot), L_X2_findEnds_3 j1 j2 j3 K79 n' j4_3 tt_3 = some out → va_P D vwCl (wM A cI tt_3) H → va_D G (wM A cI tt_3) → va_S G s.heap H locs → lv_has ls 6 [(0, .ref (A 0)), (1, .int j1), (2, .int j2), (3, .int j3), (4, .int j4_3)] → WW H locs (F0 m 3 ls []) := by
    intro n'
    induction n' with
    | zero => intro j4_3 tt_3 H locs ls hf; exact absurd (show (none : Option (HS)) = some out from hf) (fun q => by cases q)
    | succ n' ih =>
      intro j4_3 tt_3 H locs ls hf hP hD hS hl
      rw [L_X2_findEnds_3] at hf
      refine (hWW _ _ _).mpr ?_
      refine lv_iload hx hb dX2_findEnds_3 (lv_at hl 4 rfl) ?_
      refine lv_iconst (v := (4 : Int32)) hx hb dX2_findEnds_5 (by decide) ?_
      refine lv_icmp_ge (tgt := 79) hx hb dX2_findEnds_6 (by decide) (fun c2 => ?_) (fun c2 => ?_)
      · have hf := hT hf c2
        exact (hWW _ _ _).mp (J79 _ _ _ _ hf hP hD hS (lv_sub hl [0] rfl))
      · have hf := hF hf c2
        refine lv_aload_n hx hb dX2_findEnds_9 rfl (lv_at hl 0 rfl) ?_
        refine lv_iconst (v := (1 : Int32)) hx hb dX2_findEnds_10 (by decide) ?_
        refine lv_iload hx hb dX2_findEnds_11 (lv_at hl 4 rfl) ?_
        refine lv_iconst (v := (2 : Int32)) hx hb dX2_findEnds_13 (by decide) ?_
        refine lv_idiv hx hb dX2_findEnds_14 (by decide) ?_
        refine lv_isub hx hb dX2_findEnds_15 ?_
        refine lv_iload_n hx hb dX2_findEnds_16 rfl (lv_at hl 1 rfl) ?_
        refine lv_ishl hx hb dX2_findEnds_17 ?_
        refine lv_iconst (v := (1 : Int32)) hx hb dX2_findEnds_18 (by decide) ?_
        refine lv_iload hx hb dX2_findEnds_19 (lv_at hl 4 rfl) ?_
        refine lv_iconst (v := (2 : Int32)) hx hb dX2_findEnds_21 (by decide) ?_
        refine lv_irem hx hb dX2_findEnds_22 (by decide) ?_
        refine lv_isub hx hb dX2_findEnds_23 ?_
        refine lv_iload_n hx hb dX2_findEnds_24 rfl (lv_at hl 2 rfl) ?_
        refine lv_ishl hx hb dX2_findEnds_25 ?_
        refine lv_ior hx hb dX2_findEnds_26 ?_
        obtain ⟨tt_v3, ett_v3, hf⟩ := jnS hf
        refine va_put (D := D) (ci := 2) (v := .int ((((1 : Int32) - (j4_3 / (2 : Int32))) <<< (j1 &&& 31)) ||| (((1 : Int32) - (j4_3 - j4_3 / (2 : Int32) * (2 : Int32))) <<< (j2 &&& 31)))) (ty := .int) (C := RX2) (T := TX2) (N := 31) hx hb hts hinM tyX2 tyX2_ok nmX2 hown hK hP hD hS 0 rfl rfl 25 (by decide) lk0 (fun _ h9 => h9) rfl (by decide +kernel) rfl rfl (Nat.le_of_ble_eq_true rfl) dX2_findEnds_27 (fun H locs hP hD hS => ?_)
        have hE : _ = (wM A cI tt_v3) := ((sf_X2_t_29 A cI tt_3 ((((1 : Int32) - (j4_3 / (2 : Int32))) <<< (j1 &&& 31)) ||| (((1 : Int32) - (j4_3 - j4_3 / (2 : Int32) * (2 : Int32))) <<< (j2 &&& 31)))).trans (congrArg (fun z => wM A cI z) ett_v3.symm))
        have hP : va_P D vwCl (wM A cI tt_v3) H := hE ▸ hP
        have hD : va_D G (wM A cI tt_v3) := hE ▸ hD
        refine lv_aload_n hx hb dX2_findEnds_30 rfl (lv_at hl 0 rfl) ?_
        refine lv_iload_n hx hb dX2_findEnds_31 rfl (lv_at hl 3 rfl) ?_
        obtain ⟨v4, hev4, hf⟩ := bS hf
        refine qV_i (As := [.int j3]) (rest := []) ⟨hx, hb, hml, hown, hts⟩ hK hN hA hP hD hS (c_X2_getter l D cI A j3 tt_v3 v4 hev4) (cwV 1 hts gX2_findEnds_X2_getter rfl rfl rfl hd_X2_getter ⟨Nat.le_of_ble_eq_true rfl, Nat.le_of_ble_eq_true rfl⟩) (va_recv hK hP (ci := 2) (q0 := 0) rfl rfl) (bq_X2_X2_t A cI tt_v3) rfl hl.1 rfl (Nat.le_of_ble_eq_true rfl) dX2_findEnds_32 ⟨Nat.le_of_ble_eq_true rfl, Nat.le_of_ble_eq_true rfl⟩ (fun H locs hP hD hS => ?_)
        refine lv_istore (lv' := [(5, .int v4), (0, .ref (A 0)), (1, .int j1), (2, .int j2), (3, .int j3), (4, .int j4_3)]) hx hb dX2_findEnds_35 hl (by decide) rfl (fun ls hl => ?_)
        refine lv_aload_n hx hb dX2_findEnds_37 rfl (lv_at hl 1 rfl) ?_
        refine va_get (D := D) (ci := 2) (v := .ref (A 18)) (C := RX2) (T := TX2) (N := 31) hx hb hts hinM hown hK hP 0 rfl rfl 27 (by decide) lk1 (fun _ h9 => h9) rfl dX2_findEnds_38 ?_
        refine lv_iconst (v := (2 : Int32)) hx hb dX2_findEnds_41 (by decide) ?_
        refine lv_iload hx hb dX2_findEnds_42 (lv_at hl 5 rfl) ?_
        refine lv_imul hx hb dX2_findEnds_44 ?_
        refine lv_aload_n hx hb dX2_findEnds_45 rfl (lv_at hl 1 rfl) ?_
        refine lv_iload_n hx hb dX2_findEnds_46 rfl (lv_at hl 2 rfl) ?_
        refine lv_iload_n hx hb dX2_findEnds_47 rfl (lv_at hl 4 rfl) ?_
        refine lv_iload hx hb dX2_findEnds_48 (lv_at hl 0 rfl) ?_
        obtain ⟨v5, hev5, hf⟩ := bS hf
        refine qV_i (As := [.int j1, .int j3, .int v4]) (rest := [.int ((2 : Int32) * j4_3), .ref (A 18)]) ⟨hx, hb, hml, hown, hts⟩ hK hN hA hP hD hS (c_X2_endFor l D cI A j1 j3 v4 tt_v3 v5 hev5) (cwV 3 hts gX2_findEnds_X2_endFor rfl rfl rfl hd_X2_endFor ⟨Nat.le_of_ble_eq_true rfl, Nat.le_of_ble_eq_true rfl⟩) (va_recv hK hP (ci := 2) (q0 := 0) rfl rfl) (bq_X2_X2_t A cI tt_v3) rfl hl.1 rfl (Nat.le_of_ble_eq_true rfl) dX2_findEnds_50 ⟨Nat.le_of_ble_eq_true rfl, Nat.le_of_ble_eq_true rfl⟩ (fun H locs hP hD hS => ?_)
        obtain ⟨v6, he, hf⟩ := bS hf
        obtain ⟨tt_v7, ett_v7, hf⟩ := jnS hf
        refine x_iast (ws' := (wM A cI tt_v7)) hx hb hK hP hD hS 18 (n := 8) rfl he ((sa_X2_t_17 A cI tt_v3 v6).trans (congrArg (fun z => wM A cI z) ett_v7.symm)) dX2_findEnds_53 (fun H locs hP hD hS => ?_)
        refine lv_aload_n hx hb dX2_findEnds_54 rfl (lv_at hl 1 rfl) ?_
        refine va_get (D := D) (ci := 2) (v := .ref (A 18)) (C := RX2) (T := TX2) (N := 31) hx hb hts hinM hown hK hP 0 rfl rfl 27 (by decide) lk1 (fun _ h9 => h9) rfl dX2_findEnds_55 ?_
        refine lv_iconst (v := (2 : Int32)) hx hb dX2_findEnds_58 (by decide) ?_
        refine lv_iload hx hb dX2_findEnds_59 (lv_at hl 5 rfl) ?_
        refine lv_imul hx hb dX2_findEnds_61 ?_
        refine lv_iconst (v := (1 : Int32)) hx hb dX2_findEnds_62 (by decide) ?_
        refine lv_iadd hx hb dX2_findEnds_63 ?_
        refine lv_aload_n hx hb dX2_findEnds_64 rfl (lv_at hl 1 rfl) ?_
        refine lv_iload_n hx hb dX2_findEnds_65 rfl (lv_at hl 3 rfl) ?_
        refine lv_iload_n hx hb dX2_findEnds_66 rfl (lv_at hl 4 rfl) ?_
        refine lv_iload hx hb dX2_findEnds_67 (lv_at hl 0 rfl) ?_
        obtain ⟨v8, hev8, hf⟩ := bS hf
        refine qV_i (As := [.int j2, .int j3, .int v4]) (rest := [.int (((2 : Int32) * j4_3) + (1 : Int32)), .ref (A 18)]) ⟨hx, hb, hml, hown, hts⟩ hK hN hA hP hD hS (c_X2_endFor l D cI A j2 j3 v4 tt_v7 v8 hev8) (cwV 3 hts gX2_findEnds_X2_endFor rfl rfl rfl hd_X2_endFor ⟨Nat.le_of_ble_eq_true rfl, Nat.le_of_ble_eq_true rfl⟩) (va_recv hK hP (ci := 2) (q0 := 0) rfl rfl) (bq_X2_X2_t A cI tt_v7) rfl hl.1 rfl (Nat.le_of_ble_eq_true rfl) dX2_findEnds_69 ⟨Nat.le_of_ble_eq_true rfl, Nat.le_of_ble_eq_true rfl⟩ (fun H locs hP hD hS => ?_)
        obtain ⟨v9, he, hf⟩ := bS hf
        obtain ⟨tt_v10, ett_v10, hf⟩ := jnS hf
        refine x_iast (ws' := (wM A cI tt_v10)) hx hb hK hP hD hS 18 (n := 8) rfl he ((sa_X2_t_17 A cI tt_v7 v9).trans (congrArg (fun z => wM A cI z) ett_v10.symm)) dX2_findEnds_72 (fun H locs hP hD hS => ?_)
        refine lv_iinc (v := (j4_3 + (1 : Int32))) (lv' := [(4, .int (j4_3 + (1 : Int32))), (5, .int v4), (0, .ref (A 0)), (1, .int j1), (2, .int j2), (3, .int j3)]) hx hb dX2_findEnds_73 hl (k := 5) rfl rfl (by decide) rfl (fun ls hl => ?_)
        refine lv_goto (tgt := 3) hx hb dX2_findEnds_76 (by decide) ?_
        exact (hWW _ _ _).mp (ih _ _ _ _ _ hf hP hD hS (lv_sub hl [2, 3, 4, 5, 0] rfl))
  exact (hWW _ _ _).mp (P3 _ _ _ _ _ _ hf hP hD hS (lv_sub hl [1, 2, 3, 4, 0] rfl))
set_option maxHeartbeats 4000000 in
set_option maxRecDepth 100000 in
theorem c_X2_two (l : Launch) (D : va_G) (cI : ClassId) (A : Nat → Nat) (j1 : Int32) (j2 : Int32) (j3 : Int32) (tt : HS) (out : Int32 × HS) (hf : f_X2_two j1 j2 j3 tt = some out) : uI l D cI yX2_two wsX2_two ({ frames := 8, cells := 0, slots := 0, locals := 184 } : Room) [.ref (A 0), .int j1, .int j2, .int j3] (wM A cI tt) (wM A cI out.2) out.1 := by
  intro sz
  refine Met.ofW (cc := cX2_two) (maxL := 6) (ret := (some .int)) (by decide) rfl ?_
  intro p e s m args below meth c s₁ Bd hml hv
  obtain ⟨rfl, hsz, hP, hK, hD0, hN⟩ := hv
  have hx := Bd.exec
  have hb := Bd.bytes
  have hr := Bd.returns
  have hts := atoms_spec (ws := wsX2_two) Bd.pre
  have hown : s.vm.findClass RX2 = some m.cls := findClass_of_methodNamed Bd.named
  have hlocks := Bd.notSynchronized
  subst hsz
  have hD := hD0.self (sz := s.heap.size)
  generalize hAe : va_A (wM A cI tt) s.heap.size = G at hD ⊢
  have hA : ∀ q : Nat, s.heap.size ≤ q → G q := fun q h => by rw [← hAe]; exact Or.inr h
  have hS : va_S G s.heap s.heap [] := va_S.rf
  have hP : va_P D vwCl (wM A cI tt) s.heap := hP
  have hl := lv_entry ([.ref (A 0), .int j1, .int j2, .int j3]) (n := 6) (Nat.le_of_ble_eq_true rfl)
  rw [lg_entry_eq]
  generalize (lg_sl ([.ref (A 0), .int j1, .int j2, .int j3]) ++ List.replicate (6 - (lg_sl ([.ref (A 0), .int j1, .int j2, .int j3])).length) Slot.unset).toArray = ls at hl ⊢
  have hl : lv_has ls 6 [(0, .ref (A 0)), (1, .int j1), (2, .int j2), (3, .int j3)] := hl
  have hinM : ∀ w ∈ wsX20, w ∈ wsX2_two := by decide +kernel
  have lk0 := hts (.fieldLink RX2 25 "LiesBoughtBackModel" "holder" "[I") (by decide +kernel)
  have lk1 := hts (.fieldLink RX2 61 "LiesBoughtBackModel" "ends" "[I") (by decide +kernel)
  refine W_in ?_
  intro WW hWW
  refine (hWW _ _ _).mpr ?_
  unfold f_X2_two at hf
  refine lv_aload_n hx hb dX2_two_0 rfl (lv_at hl 0 rfl) ?_
  refine lv_iload_n hx hb dX2_two_1 rfl (lv_at hl 1 rfl) ?_
  refine qV_i (As := [.int j1]) (rest := []) ⟨hx, hb, hml, hown, hts⟩ hK hN hA hP hD hS (c_X2_isBidder l D cI A j1 tt (f_X2_isBidder j1 tt) rfl) (cwV 1 hts gX2_two_X2_isBidder rfl rfl rfl hd_X2_isBidder ⟨Nat.le_of_ble_eq_true rfl, Nat.le_of_ble_eq_true rfl⟩) (va_recv hK hP (ci := 2) (q0 := 0) rfl rfl) (bq_X2_X2_t A cI tt) rfl hl.1 rfl (Nat.le_of_ble_eq_true rfl) dX2_two_2 ⟨Nat.le_of_ble_eq_true rfl, Nat.le_of_ble_eq_true rfl⟩ (fun H locs hP hD hS => ?_)
  obtain ⟨K29, hK29, hf⟩ := jnS hf
  have J29 : ∀ (tt_29 : HS) (H : Heap) (locs : List Loc) (ls : Array Slot), K29 tt_29 = some out → va_P D vwCl (wM A cI tt_29) H → va_D G (wM A cI tt_29) → va_S G s.heap H locs → lv_has ls 6 [(0, .ref (A 0)), (1, .int j1), (2, .int j2), (3, .int j3)] → WW H locs (F0 m 29 ls []) := by
    intro tt_29 H locs ls hf hP hD hS hl
    subst hK29
    refine (hWW _ _ _).mpr ?_
    refine lv_iconst (v := (-1 : Int32)) hx hb dX2_two_29 (by decide) ?_
    refine lv_goto (tgt := 48) hx hb dX2_two_30 (by decide) ?_
    refine lv_istore (lv' := [(4, .int (-1 : Int32)), (0, .ref (A 0)), (1, .int j1), (2, .int j2), (3, .int j3)]) hx hb dX2_two_48 hl (by decide) rfl (fun ls hl => ?_)
    refine lv_iload hx hb dX2_two_50 (lv_at hl 0 rfl) ?_
    refine lv_if_eq (tgt := 62) hx hb dX2_two_52 (by decide) (fun c1 => ?_) (fun c1 => ?_)
    · exact absurd c1 (by decide)
    · refine lv_aload_n hx hb dX2_two_55 rfl (lv_at hl 1 rfl) ?_
      refine lv_iload hx hb dX2_two_56 (lv_at hl 0 rfl) ?_
      obtain ⟨v2, hev2, hf⟩ := bS hf
      refine qV_i (ws' := (wM A cI v2.2)) (As := [.int (-1 : Int32)]) (rest := []) ⟨hx, hb, hml, hown, hts⟩ hK hN hA hP hD hS (c_X2_no l D cI A (-1 : Int32) tt_29 v2 hev2) (cwV 1 hts gX2_two_X2_no rfl rfl rfl hd_X2_no ⟨Nat.le_of_ble_eq_true rfl, Nat.le_of_ble_eq_true rfl⟩) (va_recv hK hP (ci := 2) (q0 := 0) rfl rfl) (bp_X2_X2_t_t A cI tt_29 v2.2) rfl hl.1 rfl (Nat.le_of_ble_eq_true rfl) dX2_two_58 ⟨Nat.le_of_ble_eq_true rfl, Nat.le_of_ble_eq_true rfl⟩ (fun H locs hP hD hS => ?_)
      have hP : va_P D vwCl (wM A cI v2.2) H := hP
      obtain rfl := Option.some.inj hf
      exact W.iret (v := v2.1) hx hb hr (fun t ht hW => ⟨⟨v2.1, (), rfl, rfl, hPt ht hP⟩, hS.F ht⟩) hS.2.2 dX2_two_61
  refine lv_if_eq (tgt := 29) hx hb dX2_two_5 (by decide) (fun c3 => ?_) (fun c3 => ?_)
  · have hf := hT hf c3
    exact (hWW _ _ _).mp (J29 _ _ _ _ hf hP hD hS (lv_sub hl [0, 1, 2, 3] rfl))
  · have hf := hF hf c3
    refine lv_aload_n hx hb dX2_two_8 rfl (lv_at hl 0 rfl) ?_
    refine lv_iload_n hx hb dX2_two_9 rfl (lv_at hl 2 rfl) ?_
    refine qV_i (As := [.int j2]) (rest := []) ⟨hx, hb, hml, hown, hts⟩ hK hN hA hP hD hS (c_X2_isBidder l D cI A j2 tt (f_X2_isBidder j2 tt) rfl) (cwV 1 hts gX2_two_X2_isBidder rfl rfl rfl hd_X2_isBidder ⟨Nat.le_of_ble_eq_true rfl, Nat.le_of_ble_eq_true rfl⟩) (va_recv hK hP (ci := 2) (q0 := 0) rfl rfl) (bq_X2_X2_t A cI tt) rfl hl.1 rfl (Nat.le_of_ble_eq_true rfl) dX2_two_10 ⟨Nat.le_of_ble_eq_true rfl, Nat.le_of_ble_eq_true rfl⟩ (fun H locs hP hD hS => ?_)
    refine lv_if_eq (tgt := 29) hx hb dX2_two_13 (by decide) (fun c4 => ?_) (fun c4 => ?_)
    · have hf := hT hf c4
      exact (hWW _ _ _).mp (J29 _ _ _ _ hf hP hD hS (lv_sub hl [0, 1, 2, 3] rfl))
    · have hf := hF hf c4
      refine lv_iload_n hx hb dX2_two_16 rfl (lv_at hl 1 rfl) ?_
      refine lv_iload_n hx hb dX2_two_17 rfl (lv_at hl 2 rfl) ?_
      refine lv_icmp_eq (tgt := 29) hx hb dX2_two_18 (by decide) (fun c5 => ?_) (fun c5 => ?_)
      · have hf := hT hf c5
        exact (hWW _ _ _).mp (J29 _ _ _ _ hf hP hD hS (lv_sub hl [0, 1, 2, 3] rfl))
      · have hf := hF hf c5
        refine lv_aload_n hx hb dX2_two_21 rfl (lv_at hl 0 rfl) ?_
        refine lv_iload_n hx hb dX2_two_22 rfl (lv_at hl 3 rfl) ?_
        refine qV_i (As := [.int j3]) (rest := []) ⟨hx, hb, hml, hown, hts⟩ hK hN hA hP hD hS (c_X2_isCard l D cI A j3 tt (f_X2_isCard j3 tt) rfl) (cwV 1 hts gX2_two_X2_isCard rfl rfl rfl hd_X2_isCard ⟨Nat.le_of_ble_eq_true rfl, Nat.le_of_ble_eq_true rfl⟩) (va_recv hK hP (ci := 2) (q0 := 0) rfl rfl) (bq_X2_X2_t A cI tt) rfl hl.1 rfl (Nat.le_of_ble_eq_true rfl) dX2_two_23 ⟨Nat.le_of_ble_eq_true rfl, Nat.le_of_ble_eq_true rfl⟩ (fun H locs hP hD hS => ?_)
        refine lv_if_ne (tgt := 33) hx hb dX2_two_26 (by decide) (fun c6 => ?_) (fun c6 => ?_)
        · have hf := hF hf c6
          refine lv_aload_n hx hb dX2_two_33 rfl (lv_at hl 0 rfl) ?_
          refine va_get (D := D) (ci := 2) (v := .ref (A 6)) (C := RX2) (T := TX2) (N := 31) hx hb hts hinM hown hK hP 0 rfl rfl 5 (by decide) lk0 (fun _ h9 => h9) rfl dX2_two_34 ?_
          refine lv_iload_n hx hb dX2_two_37 rfl (lv_at hl 3 rfl) ?_
          obtain ⟨v7, he, hf⟩ := bS hf
          refine x_iald hx hb hK hP 6 (n := 8) rfl he dX2_two_38 ?_
          refine lv_if_eq (tgt := 47) hx hb dX2_two_39 (by decide) (fun c8 => ?_) (fun c8 => ?_)
          · have hf := hT hf c8
            refine lv_iconst (v := (0 : Int32)) hx hb dX2_two_47 (by decide) ?_
            refine lv_istore (lv' := [(4, .int (0 : Int32)), (0, .ref (A 0)), (1, .int j1), (2, .int j2), (3, .int j3)]) hx hb dX2_two_48 hl (by decide) rfl (fun ls hl => ?_)
            refine lv_iload hx hb dX2_two_50 (lv_at hl 0 rfl) ?_
            refine lv_if_eq (tgt := 62) hx hb dX2_two_52 (by decide) (fun c9 => ?_) (fun c9 => ?_)
            · refine lv_aload_n hx hb dX2_two_62 rfl (lv_at hl 1 rfl) ?_
              refine lv_iload_n hx hb dX2_two_63 rfl (lv_at hl 2 rfl) ?_
              refine lv_iload_n hx hb dX2_two_64 rfl (lv_at hl 3 rfl) ?_
              refine lv_iload_n hx hb dX2_two_65 rfl (lv_at hl 4 rfl) ?_
              obtain ⟨v10, hev10, hf⟩ := bS hf
              refine qV_v (ws' := (wM A cI v10)) (As := [.int j1, .int j2, .int j3]) (rest := []) ⟨hx, hb, hml, hown, hts⟩ hK hN hA hP hD hS (c_X2_findEnds l D cI A j1 j2 j3 tt v10 hev10) (cwV 3 hts gX2_two_X2_findEnds rfl rfl rfl hd_X2_findEnds ⟨Nat.le_of_ble_eq_true rfl, Nat.le_of_ble_eq_true rfl⟩) (va_recv hK hP (ci := 2) (q0 := 0) rfl rfl) (bp_X2_X2_t_t A cI tt v10) rfl hl.1 rfl (Nat.le_of_ble_eq_true rfl) dX2_two_66 ⟨Nat.le_of_ble_eq_true rfl, Nat.le_of_ble_eq_true rfl⟩ (fun H locs hP hD hS => ?_)
              have hP : va_P D vwCl (wM A cI v10) H := hP
              refine lv_iconst (v := (0 : Int32)) hx hb dX2_two_69 (by decide) ?_
              refine lv_istore (lv' := [(5, .int (0 : Int32)), (4, .int (0 : Int32)), (0, .ref (A 0)), (1, .int j1), (2, .int j2), (3, .int j3)]) hx hb dX2_two_70 hl (by decide) rfl (fun ls hl => ?_)
              obtain ⟨K147, hK147, hf⟩ := jnS hf
              have J147 : ∀ (tt_147 : HS) (H : Heap) (locs : List Loc) (ls : Array Slot), K147 tt_147 = some out → va_P D vwCl (wM A cI tt_147) H → va_D G (wM A cI tt_147) → va_S G s.heap H locs → lv_has ls 6 [] → WW H locs (F0 m 147 ls []) := by
                intro tt_147 H locs ls hf hP hD hS hl
                subst hK147
                refine (hWW _ _ _).mpr ?_
                refine lv_bipush (v := (-9 : Int32)) hx hb dX2_two_147 (by decide) ?_
                obtain rfl := Option.some.inj hf
                exact W.iret (v := (-9 : Int32)) hx hb hr (fun t ht hW => ⟨⟨(-9 : Int32), (), rfl, rfl, hPt ht hP⟩, hS.F ht⟩) hS.2.2 dX2_two_149
              have P72 : ∀ (n' : Nat) (j5_72 : Int32) (tt_72 : HS) (H : Heap) (locs : List Loc) (ls : Array Slot), L_X2_two_72 j1 j2 j3 K147 n' j5_72 tt_72 = some out → va_P D vwCl (wM A cI tt_72) H → va_D G (wM A cI tt_72) → va_S G s.heap H locs → lv_has ls 6 [(0, .ref (A 0)), (5, .int j5_72)] → WW H locs (F0 m 72 ls []) := by
                intro n'
                induction n' with
                | zero => intro j5_72 tt_72 H locs ls hf; exact absurd (show (none : Option (Int32 × HS)) = some out from hf) (fun q => by cases q)
                | succ n' ih =>
                  intro j5_72 tt_72 H locs ls hf hP hD hS hl
                  rw [L_X2_two_72] at hf
                  refine (hWW _ _ _).mpr ?_
                  refine lv_iload hx hb dX2_two_72 (lv_at hl 1 rfl) ?_
                  refine lv_iconst (v := (4 : Int32)) hx hb dX2_two_74 (by decide) ?_
                  refine lv_icmp_ge (tgt := 147) hx hb dX2_two_75 (by decide) (fun c11 => ?_) (fun c11 => ?_)
                  · have hf := hT hf c11
                    exact (hWW _ _ _).mp (J147 _ _ _ _ hf hP hD hS (lv_sub hl [] rfl))
                  · have hf := hF hf c11
                    refine lv_aload_n hx hb dX2_two_78 rfl (lv_at hl 0 rfl) ?_
                    refine va_get (D := D) (ci := 2) (v := .ref (A 18)) (C := RX2) (T := TX2) (N := 31) hx hb hts hinM hown hK hP 0 rfl rfl 27 (by decide) lk1 (fun _ h9 => h9) rfl dX2_two_79 ?_
                    refine lv_iconst (v := (2 : Int32)) hx hb dX2_two_82 (by decide) ?_
                    refine lv_iload hx hb dX2_two_83 (lv_at hl 1 rfl) ?_
                    refine lv_iconst (v := (2 : Int32)) hx hb dX2_two_85 (by decide) ?_
                    refine lv_ixor hx hb dX2_two_86 ?_
                    refine lv_imul hx hb dX2_two_87 ?_
                    obtain ⟨v12, he, hf⟩ := bS hf
                    refine x_iald hx hb hK hP 18 (n := 8) rfl he dX2_two_88 ?_
                    refine lv_aload_n hx hb dX2_two_89 rfl (lv_at hl 0 rfl) ?_
                    refine va_get (D := D) (ci := 2) (v := .ref (A 18)) (C := RX2) (T := TX2) (N := 31) hx hb hts hinM hown hK hP 0 rfl rfl 27 (by decide) lk1 (fun _ h9 => h9) rfl dX2_two_90 ?_
                    refine lv_iconst (v := (2 : Int32)) hx hb dX2_two_93 (by decide) ?_
                    refine lv_iload hx hb dX2_two_94 (lv_at hl 1 rfl) ?_
                    refine lv_imul hx hb dX2_two_96 ?_
                    obtain ⟨v13, he, hf⟩ := bS hf
                    refine x_iald hx hb hK hP 18 (n := 8) rfl he dX2_two_97 ?_
                    refine lv_icmp_gt (tgt := 141) hx hb dX2_two_98 (by decide) (fun c14 => ?_) (fun c14 => ?_)
                    · have hf := hT hf c14
                      refine lv_iinc (v := (j5_72 + (1 : Int32))) (lv' := [(5, .int (j5_72 + (1 : Int32))), (0, .ref (A 0))]) hx hb dX2_two_141 hl (k := 1) rfl rfl (by decide) rfl (fun ls hl => ?_)
                      refine lv_goto (tgt := 72) hx hb dX2_two_144 (by decide) ?_
                      exact (hWW _ _ _).mp (ih _ _ _ _ _ hf hP hD hS (lv_sub hl [1, 0] rfl))
                    · have hf := hF hf c14
                      refine lv_aload_n hx hb dX2_two_101 rfl (lv_at hl 0 rfl) ?_
                      refine va_get (D := D) (ci := 2) (v := .ref (A 18)) (C := RX2) (T := TX2) (N := 31) hx hb hts hinM hown hK hP 0 rfl rfl 27 (by decide) lk1 (fun _ h9 => h9) rfl dX2_two_102 ?_
                      refine lv_iconst (v := (2 : Int32)) hx hb dX2_two_105 (by decide) ?_
                      refine lv_iload hx hb dX2_two_106 (lv_at hl 1 rfl) ?_
                      refine lv_iconst (v := (1 : Int32)) hx hb dX2_two_108 (by decide) ?_
                      refine lv_ixor hx hb dX2_two_109 ?_
                      refine lv_imul hx hb dX2_two_110 ?_
                      refine lv_iconst (v := (1 : Int32)) hx hb dX2_two_111 (by decide) ?_
                      refine lv_iadd hx hb dX2_two_112 ?_
                      obtain ⟨v15, he, hf⟩ := bS hf
                      refine x_iald hx hb hK hP 18 (n := 8) rfl he dX2_two_113 ?_
                      refine lv_aload_n hx hb dX2_two_114 rfl (lv_at hl 0 rfl) ?_
                      refine va_get (D := D) (ci := 2) (v := .ref (A 18)) (C := RX2) (T := TX2) (N := 31) hx hb hts hinM hown hK hP 0 rfl rfl 27 (by decide) lk1 (fun _ h9 => h9) rfl dX2_two_115 ?_
                      refine lv_iconst (v := (2 : Int32)) hx hb dX2_two_118 (by decide) ?_
                      refine lv_iload hx hb dX2_two_119 (lv_at hl 1 rfl) ?_
                      refine lv_imul hx hb dX2_two_121 ?_
                      refine lv_iconst (v := (1 : Int32)) hx hb dX2_two_122 (by decide) ?_
                      refine lv_iadd hx hb dX2_two_123 ?_
                      obtain ⟨v16, he, hf⟩ := bS hf
                      refine x_iald hx hb hK hP 18 (n := 8) rfl he dX2_two_124 ?_
                      refine lv_icmp_gt (tgt := 141) hx hb dX2_two_125 (by decide) (fun c17 => ?_) (fun c17 => ?_)
                      · have hf := hT hf c17
                        refine lv_iinc (v := (j5_72 + (1 : Int32))) (lv' := [(5, .int (j5_72 + (1 : Int32))), (0, .ref (A 0))]) hx hb dX2_two_141 hl (k := 1) rfl rfl (by decide) rfl (fun ls hl => ?_)
                        refine lv_goto (tgt := 72) hx hb dX2_two_144 (by decide) ?_
                        exact (hWW _ _ _).mp (ih _ _ _ _ _ hf hP hD hS (lv_sub hl [1, 0] rfl))
                      · have hf := hF hf c17
                        refine lv_bipush (v := (10 : Int32)) hx hb dX2_two_128 (by decide) ?_
                        refine lv_iload hx hb dX2_two_130 (lv_at hl 1 rfl) ?_
                        refine lv_iconst (v := (2 : Int32)) hx hb dX2_two_132 (by decide) ?_
                        refine lv_idiv hx hb dX2_two_133 (by decide) ?_
                        refine lv_imul hx hb dX2_two_134 ?_
                        refine lv_iload hx hb dX2_two_135 (lv_at hl 1 rfl) ?_
                        refine lv_iconst (v := (2 : Int32)) hx hb dX2_two_137 (by decide) ?_
                        refine lv_irem hx hb dX2_two_138 (by decide) ?_
                        refine lv_iadd hx hb dX2_two_139 ?_
                        obtain rfl := Option.some.inj hf
                        exact W.iret (v := (((10 : Int32) * (j5_72 / (2 : Int32))) + (j5_72 - j5_72 / (2 : Int32) * (2 : Int32)))) hx hb hr (fun t ht hW => ⟨⟨(((10 : Int32) * (j5_72 / (2 : Int32))) + (j5_72 - j5_72 / (2 : Int32) * (2 : Int32))), (), rfl, rfl, hPt ht hP⟩, hS.F ht⟩) hS.2.2 dX2_two_140
              exact (hWW _ _ _).mp (P72 _ _ _ _ _ _ hf hP hD hS (lv_sub hl [2, 0] rfl))
            · exact absurd c9 (by decide)
          · have hf := hF hf c8
            refine lv_bipush (v := (-3 : Int32)) hx hb dX2_two_42 (by decide) ?_
            refine lv_goto (tgt := 48) hx hb dX2_two_44 (by decide) ?_
            refine lv_istore (lv' := [(4, .int (-3 : Int32)), (0, .ref (A 0)), (1, .int j1), (2, .int j2), (3, .int j3)]) hx hb dX2_two_48 hl (by decide) rfl (fun ls hl => ?_)
            refine lv_iload hx hb dX2_two_50 (lv_at hl 0 rfl) ?_
            refine lv_if_eq (tgt := 62) hx hb dX2_two_52 (by decide) (fun c18 => ?_) (fun c18 => ?_)
            · exact absurd c18 (by decide)
            · refine lv_aload_n hx hb dX2_two_55 rfl (lv_at hl 1 rfl) ?_
              refine lv_iload hx hb dX2_two_56 (lv_at hl 0 rfl) ?_
              obtain ⟨v19, hev19, hf⟩ := bS hf
              refine qV_i (ws' := (wM A cI v19.2)) (As := [.int (-3 : Int32)]) (rest := []) ⟨hx, hb, hml, hown, hts⟩ hK hN hA hP hD hS (c_X2_no l D cI A (-3 : Int32) tt v19 hev19) (cwV 1 hts gX2_two_X2_no rfl rfl rfl hd_X2_no ⟨Nat.le_of_ble_eq_true rfl, Nat.le_of_ble_eq_true rfl⟩) (va_recv hK hP (ci := 2) (q0 := 0) rfl rfl) (bp_X2_X2_t_t A cI tt v19.2) rfl hl.1 rfl (Nat.le_of_ble_eq_true rfl) dX2_two_58 ⟨Nat.le_of_ble_eq_true rfl, Nat.le_of_ble_eq_true rfl⟩ (fun H locs hP hD hS => ?_)
              have hP : va_P D vwCl (wM A cI v19.2) H := hP
              obtain rfl := Option.some.inj hf
              exact W.iret (v := v19.1) hx hb hr (fun t ht hW => ⟨⟨v19.1, (), rfl, rfl, hPt ht hP⟩, hS.F ht⟩) hS.2.2 dX2_two_61
        · have hf := hT hf c6
          exact (hWW _ _ _).mp (J29 _ _ _ _ hf hP hD hS (lv_sub hl [0, 1, 2, 3] rfl))
