set_option maxHeartbeats 4000000 in
set_option maxRecDepth 100000 in
theorem c_X1_give (l : Launch) (D : va_G) (cI : ClassId) (A : Nat → Nat → Nat) (j1 : Int32) (xx : HS) (xn : HS) (xm : HS) (xk : HS) (out : Int32 × HS × HS) (hf : f_X1_give j1 xx xn xm xk = some out) : uI l D cI yX1_give wsX1_give ({ frames := 5, cells := 0, slots := 0, locals := 128 } : Room) [.ref ((A 0) 0), .int j1] (wX A cI xx xn xm xk) (wX A cI out.2.1 xn out.2.2 xk) out.1 := by
  intro sz
  refine Met.ofW (cc := cX1_give) (maxL := 8) (ret := (some .int)) (by decide) rfl ?_
  intro p e s m args below meth c s₁ Bd hml hv
  obtain ⟨rfl, hsz, hP, hK, hD0, hN⟩ := hv
  have hx := Bd.exec
  have hb := Bd.bytes
  have hr := Bd.returns
  have hts := atoms_spec (ws := wsX1_give) Bd.pre
  have hown : s.vm.findClass RX1 = some m.cls := findClass_of_methodNamed Bd.named
  have hlocks := Bd.notSynchronized
  subst hsz
  have hD := hD0.self (sz := s.heap.size)
  generalize hAe : va_A (wX A cI xx xn xm xk) s.heap.size = G at hD ⊢
  have hA : ∀ q : Nat, s.heap.size ≤ q → G q := fun q h => by rw [← hAe]; exact Or.inr h
  have hS : va_S G s.heap s.heap [] := va_S.rf
  have hP : va_P D vwCl (wX A cI xx xn xm xk) s.heap := hP
  have hl := lv_entry ([.ref ((A 0) 0), .int j1]) (n := 8) (Nat.le_of_ble_eq_true rfl)
  rw [lg_entry_eq]
  generalize (lg_sl ([.ref ((A 0) 0), .int j1]) ++ List.replicate (8 - (lg_sl ([.ref ((A 0) 0), .int j1])).length) Slot.unset).toArray = ls at hl ⊢
  have hl : lv_has ls 8 [(0, .ref ((A 0) 0)), (1, .int j1)] := hl
  have hinH : ∀ w ∈ wsX00, w ∈ wsX1_give := by decide +kernel
  have hinX : ∀ w ∈ wsX10, w ∈ wsX1_give := by decide +kernel
  have lk0 := hts (.fieldLink RX1 16 "LiesBoughtBack" "mind" "LLiesBoughtBack$Hall;") (by decide +kernel)
  have lk1 := hts (.fieldLink RX1 10 "LiesBoughtBack" "now" "LLiesBoughtBack$Hall;") (by decide +kernel)
  have lk2 := hts (.initialized RX0) (by decide +kernel)
  have lk3 := hts (.instanceMethod yX0_become) (by decide +kernel)
  have lk4 := hts (.selects RX0 yX0_become yX0_become) (by decide +kernel)
  have lk5 := hts (.instanceMethod yX0_goOn) (by decide +kernel)
  have lk6 := hts (.selects RX0 yX0_goOn yX0_goOn) (by decide +kernel)
  have lk7 := hts (.instanceMethod yX0_allBelieved) (by decide +kernel)
  have lk8 := hts (.selects RX0 yX0_allBelieved yX0_allBelieved) (by decide +kernel)
  have lk9 := hts (.instanceMethod yX0_inPile) (by decide +kernel)
  have lk10 := hts (.selects RX0 yX0_inPile yX0_inPile) (by decide +kernel)
  have lk11 := hts (.instanceMethod yX0_hasBidder) (by decide +kernel)
  have lk12 := hts (.selects RX0 yX0_hasBidder yX0_hasBidder) (by decide +kernel)
  refine W_in ?_
  intro WW hWW
  refine (hWW _ _ _).mpr ?_
  unfold f_X1_give at hf
  refine lv_iload_n hx hb dX1_give_0 rfl (lv_at hl 1 rfl) ?_
  refine lv_iconst (v := (0 : Int32)) hx hb dX1_give_1 (by decide) ?_
  refine lv_bipush (v := (20 : Int32)) hx hb dX1_give_2 (by decide) ?_
  refine qS_i (As := [.int j1, .int (0 : Int32), .int (20 : Int32)]) (rest := []) ⟨hx, hb, hml, hown, hts⟩ hK hN hA hP hD hS (c_X1_beyond l D cI j1 (0 : Int32) (20 : Int32) (f_X1_beyond j1 (0 : Int32) (20 : Int32)) rfl) (va_cwS 3 hts gX1_give_X1_beyond rfl rfl rfl hd_X1_beyond.2 ⟨Nat.le_of_ble_eq_true rfl, Nat.le_of_ble_eq_true rfl⟩) Bp_e rfl hl.1 rfl (Nat.le_of_ble_eq_true rfl) dX1_give_4 ⟨Nat.le_of_ble_eq_true rfl, Nat.le_of_ble_eq_true rfl⟩ (fun H locs hP hD hS => ?_)
  refine lv_istore_n (lv' := [(2, .int (f_X1_beyond j1 (0 : Int32) (20 : Int32))), (0, .ref ((A 0) 0)), (1, .int j1)]) hx hb dX1_give_7 rfl hl (by decide) rfl (fun ls hl => ?_)
  refine lv_iload_n hx hb dX1_give_8 rfl (lv_at hl 0 rfl) ?_
  refine lv_if_eq (tgt := 18) hx hb dX1_give_9 (by decide) (fun c1 => ?_) (fun c1 => ?_)
  · have hf := hT hf c1
    refine lv_aload_n hx hb dX1_give_18 rfl (lv_at hl 1 rfl) ?_
    refine va_get (D := D) (ci := 1) (v := .ref ((A 2) 0)) (C := RX1) (T := TX1) (N := 9) hx hb hts hinX hown hK hP 0 rfl rfl 1 (by decide) lk0 (fun _ h9 => h9) rfl dX1_give_19 ?_
    refine lv_aload_n hx hb dX1_give_22 rfl (lv_at hl 1 rfl) ?_
    refine va_get (D := D) (ci := 1) (v := .ref ((A 1) 0)) (C := RX1) (T := TX1) (N := 9) hx hb hts hinX hown hK hP 0 rfl rfl 0 (by decide) lk1 (fun _ h9 => h9) rfl dX1_give_23 ?_
    obtain ⟨v2, hev2, hf⟩ := bS hf
    refine qVN_v (ws' := (wX A cI xx xn v2 xk)) (As := [.ref ((A 1) 0)]) (rest := []) ⟨hx, hb, hml, hown, hts⟩ hK hN hA hP hD hS (c_X0_become l D cI (A 2) (A 1) xm xn v2 hev2) ⟨va_cnB 1 hts gX1_give_X0_become_n47 rfl rfl rfl (nW.m hN 1 rfl) lk2 hd_X0_become.2 ⟨Nat.le_of_ble_eq_true rfl, Nat.le_of_ble_eq_true rfl⟩, lk3, lk4⟩ (va_recv hK hP (ci := 0) (q0 := 12) rfl rfl) (bp_X1_HH_mn_h A cI xx xn xm xk v2) rfl hl.1 rfl (Nat.le_of_ble_eq_true rfl) dX1_give_26 ⟨Nat.le_of_ble_eq_true rfl, Nat.le_of_ble_eq_true rfl⟩ (fun H locs hP hD hS => ?_)
    have hP : va_P D vwCl (wX A cI xx xn v2 xk) H := hP
    refine lv_aload_n hx hb dX1_give_29 rfl (lv_at hl 1 rfl) ?_
    refine va_get (D := D) (ci := 1) (v := .ref ((A 2) 0)) (C := RX1) (T := TX1) (N := 9) hx hb hts hinX hown hK hP 0 rfl rfl 1 (by decide) lk0 (fun _ h9 => h9) rfl dX1_give_30 ?_
    refine lv_iload_n hx hb dX1_give_33 rfl (lv_at hl 2 rfl) ?_
    refine lv_iconst (v := (1 : Int32)) hx hb dX1_give_34 (by decide) ?_
    obtain ⟨v3, hev3, hf⟩ := bS hf
    refine qVN_i (ws' := (wX A cI xx xn v3.2 xk)) (As := [.int j1, .int (1 : Int32)]) (rest := []) ⟨hx, hb, hml, hown, hts⟩ hK hN hA hP hD hS (c_X0_goOn l D cI (A 2) j1 (1 : Int32) v2 v3 hev3) ⟨va_cnB 2 hts gX1_give_X0_goOn_n97 rfl rfl rfl (nW.m hN 12 rfl) lk2 hd_X0_goOn.2 ⟨Nat.le_of_ble_eq_true rfl, Nat.le_of_ble_eq_true rfl⟩, lk5, lk6⟩ (va_recv hK hP (ci := 0) (q0 := 12) rfl rfl) (bp_X1_X0_m_h A cI xx xn v2 xk v3.2) rfl hl.1 rfl (Nat.le_of_ble_eq_true rfl) dX1_give_35 ⟨Nat.le_of_ble_eq_true rfl, Nat.le_of_ble_eq_true rfl⟩ (fun H locs hP hD hS => ?_)
    have hP : va_P D vwCl (wX A cI xx xn v3.2 xk) H := hP
    refine lv_pop hx hb dX1_give_38 rfl ?_
    refine lv_aload_n hx hb dX1_give_39 rfl (lv_at hl 1 rfl) ?_
    refine va_get (D := D) (ci := 1) (v := .ref ((A 2) 0)) (C := RX1) (T := TX1) (N := 9) hx hb hts hinX hown hK hP 0 rfl rfl 1 (by decide) lk0 (fun _ h9 => h9) rfl dX1_give_40 ?_
    obtain ⟨v4, hev4, hf⟩ := bS hf
    refine qVN_i (As := []) (rest := []) ⟨hx, hb, hml, hown, hts⟩ hK hN hA hP hD hS (c_X0_allBelieved l D cI (A 2) v3.2 v4 hev4) ⟨va_cnB 0 hts gX1_give_X0_allBelieved_n174 rfl rfl rfl (nW.m hN 30 rfl) lk2 hd_X0_allBelieved.2 ⟨Nat.le_of_ble_eq_true rfl, Nat.le_of_ble_eq_true rfl⟩, lk7, lk8⟩ (va_recv hK hP (ci := 0) (q0 := 12) rfl rfl) (bq_X1_X0_m A cI xx xn v3.2 xk) rfl hl.1 rfl (Nat.le_of_ble_eq_true rfl) dX1_give_43 ⟨Nat.le_of_ble_eq_true rfl, Nat.le_of_ble_eq_true rfl⟩ (fun H locs hP hD hS => ?_)
    refine lv_istore_n (lv' := [(3, .int v4), (2, .int (f_X1_beyond j1 (0 : Int32) (20 : Int32))), (0, .ref ((A 0) 0)), (1, .int j1)]) hx hb dX1_give_46 rfl hl (by decide) rfl (fun ls hl => ?_)
    refine lv_bipush (v := (-9 : Int32)) hx hb dX1_give_47 (by decide) ?_
    refine lv_istore (lv' := [(4, .int (-9 : Int32)), (3, .int v4), (2, .int (f_X1_beyond j1 (0 : Int32) (20 : Int32))), (0, .ref ((A 0) 0)), (1, .int j1)]) hx hb dX1_give_49 hl (by decide) rfl (fun ls hl => ?_)
    refine lv_iconst (v := (0 : Int32)) hx hb dX1_give_51 (by decide) ?_
    refine lv_istore (lv' := [(5, .int (0 : Int32)), (4, .int (-9 : Int32)), (3, .int v4), (2, .int (f_X1_beyond j1 (0 : Int32) (20 : Int32))), (0, .ref ((A 0) 0)), (1, .int j1)]) hx hb dX1_give_52 hl (by decide) rfl (fun ls hl => ?_)
    obtain ⟨K167, hK167, hf⟩ := jnS hf
    have J167 : ∀ (j4_167 : Int32) (xx_167 : HS) (xm_167 : HS) (H : Heap) (locs : List Loc) (ls : Array Slot), K167 j4_167 xx_167 xm_167 = some out → va_P D vwCl (wX A cI xx_167 xn xm_167 xk) H → va_D G (wX A cI xx_167 xn xm_167 xk) → va_S G s.heap H locs → lv_has ls 8 [(4, .int j4_167)] → WW H locs (F0 m 167 ls []) := by
      intro j4_167 xx_167 xm_167 H locs ls hf hP hD hS hl
      subst hK167
      refine (hWW _ _ _).mpr ?_
      refine lv_iload hx hb dX1_give_167 (lv_at hl 0 rfl) ?_
      obtain rfl := Option.some.inj hf
      exact W.iret (v := j4_167) hx hb hr (fun t ht hW => ⟨⟨j4_167, (), rfl, rfl, hPt ht hP⟩, hS.F ht⟩) hS.2.2 dX1_give_169
    have P54 : ∀ (n' : Nat) (j3_54 : Int32) (j4_54 : Int32) (j5_54 : Int32) (xx_54 : HS) (xm_54 : HS) (H : Heap) (locs : List Loc) (ls : Array Slot), L_X1_give_54 j1 xn xk K167 n' j3_54 j4_54 j5_54 xx_54 xm_54 = some out → va_P D vwCl (wX A cI xx_54 xn xm_54 xk) H → va_D G (wX A cI xx_54 xn xm_54 xk) → va_S G s.heap H locs → lv_has ls 8 [(0, .ref ((A 0) 0)), (1, .int j1), (3, .int j3_54), (4, .int j4_54), (5, .int j5_54)] → WW H locs (F0 m 54 ls []) := by
      intro n'
      induction n' with
      | zero => intro j3_54 j4_54 j5_54 xx_54 xm_54 H locs ls hf; exact absurd (show (none : Option (Int32 × HS × HS)) = some out from hf) (fun q => by cases q)
      | succ n' ih =>
        intro j3_54 j4_54 j5_54 xx_54 xm_54 H locs ls hf hP hD hS hl
        rw [L_X1_give_54] at hf
        refine (hWW _ _ _).mpr ?_
        refine lv_iload hx hb dX1_give_54 (lv_at hl 4 rfl) ?_
        refine lv_aload_n hx hb dX1_give_56 rfl (lv_at hl 0 rfl) ?_
        refine va_get (D := D) (ci := 1) (v := .ref ((A 1) 0)) (C := RX1) (T := TX1) (N := 9) hx hb hts hinX hown hK hP 0 rfl rfl 0 (by decide) lk1 (fun _ h9 => h9) rfl dX1_give_57 ?_
        refine va_getN (D := D) (ci := 0) (v := .int (xn 10 0)) (C := RX0) (T := TX0) (N := 13) hx hb hts hinH hown hK hP 1 rfl rfl 0 (by decide) (nW.f hN 0 rfl) (fun _ h9 => h9) rfl dX1_give_60 ?_
        refine lv_icmp_ge (tgt := 167) hx hb dX1_give_63 (by decide) (fun c5 => ?_) (fun c5 => ?_)
        · have hf := hT hf c5
          exact (hWW _ _ _).mp (J167 _ _ _ _ _ _ hf hP hD hS (lv_sub hl [3] rfl))
        · have hf := hF hf c5
          refine lv_aload_n hx hb dX1_give_66 rfl (lv_at hl 0 rfl) ?_
          refine va_get (D := D) (ci := 1) (v := .ref ((A 1) 0)) (C := RX1) (T := TX1) (N := 9) hx hb hts hinX hown hK hP 0 rfl rfl 0 (by decide) lk1 (fun _ h9 => h9) rfl dX1_give_67 ?_
          refine va_getN (D := D) (ci := 0) (v := .ref ((A 1) 3)) (C := RX0) (T := TX0) (N := 13) hx hb hts hinH hown hK hP 1 rfl rfl 5 (by decide) (nW.f hN 5 rfl) (fun _ h9 => h9) rfl dX1_give_70 ?_
          refine lv_iload hx hb dX1_give_73 (lv_at hl 4 rfl) ?_
          refine qS_i (As := [.ref ((A 1) 3), .int j5_54]) (rest := []) ⟨hx, hb, hml, hown, hts⟩ hK hN hA hP hD hS (c_X1_at l D cI 8 (by decide) ((A 1) 3) (xn 2) j5_54) (va_cwS 2 hts gX1_give_X1_at rfl rfl rfl hd_X1_at.2 ⟨Nat.le_of_ble_eq_true rfl, Nat.le_of_ble_eq_true rfl⟩) (bA_X1_n_2 A cI xx_54 xn xm_54 xk) rfl hl.1 rfl (Nat.le_of_ble_eq_true rfl) dX1_give_75 ⟨Nat.le_of_ble_eq_true rfl, Nat.le_of_ble_eq_true rfl⟩ (fun H locs hP hD hS => ?_)
          refine lv_istore (lv' := [(6, .int (atv 8 (xn 2) j5_54)), (0, .ref ((A 0) 0)), (1, .int j1), (3, .int j3_54), (4, .int j4_54), (5, .int j5_54)]) hx hb dX1_give_78 hl (by decide) rfl (fun ls hl => ?_)
          refine lv_aload_n hx hb dX1_give_80 rfl (lv_at hl 1 rfl) ?_
          refine va_get (D := D) (ci := 1) (v := .ref ((A 1) 0)) (C := RX1) (T := TX1) (N := 9) hx hb hts hinX hown hK hP 0 rfl rfl 0 (by decide) lk1 (fun _ h9 => h9) rfl dX1_give_81 ?_
          refine lv_iload hx hb dX1_give_84 (lv_at hl 5 rfl) ?_
          refine qVN_i (As := [.int j5_54]) (rest := []) ⟨hx, hb, hml, hown, hts⟩ hK hN hA hP hD hS (c_X0_inPile l D cI (A 1) j5_54 xn (f_X0_inPile j5_54 xn) rfl) ⟨va_cnB 1 hts gX1_give_X0_inPile_n72 rfl rfl rfl (nW.m hN 15 rfl) lk2 hd_X0_inPile.2 ⟨Nat.le_of_ble_eq_true rfl, Nat.le_of_ble_eq_true rfl⟩, lk9, lk10⟩ (va_recv hK hP (ci := 0) (q0 := 1) rfl rfl) (bq_X1_X0_n A cI xx_54 xn xm_54 xk) rfl hl.1 rfl (Nat.le_of_ble_eq_true rfl) dX1_give_86 ⟨Nat.le_of_ble_eq_true rfl, Nat.le_of_ble_eq_true rfl⟩ (fun H locs hP hD hS => ?_)
          refine lv_if_eq (tgt := 161) hx hb dX1_give_89 (by decide) (fun c6 => ?_) (fun c6 => ?_)
          · have hf := hT hf c6
            refine lv_iinc (v := (j5_54 + (1 : Int32))) (lv' := [(5, .int (j5_54 + (1 : Int32))), (6, .int (atv 8 (xn 2) j5_54)), (0, .ref ((A 0) 0)), (1, .int j1), (3, .int j3_54), (4, .int j4_54)]) hx hb dX1_give_161 hl (k := 5) rfl rfl (by decide) rfl (fun ls hl => ?_)
            refine lv_goto (tgt := 54) hx hb dX1_give_164 (by decide) ?_
            exact (hWW _ _ _).mp (ih _ _ _ _ _ _ _ _ hf hP hD hS (lv_sub hl [2, 3, 4, 5, 0] rfl))
          · have hf := hF hf c6
            refine lv_aload_n hx hb dX1_give_92 rfl (lv_at hl 1 rfl) ?_
            refine va_get (D := D) (ci := 1) (v := .ref ((A 1) 0)) (C := RX1) (T := TX1) (N := 9) hx hb hts hinX hown hK hP 0 rfl rfl 0 (by decide) lk1 (fun _ h9 => h9) rfl dX1_give_93 ?_
            refine lv_iload hx hb dX1_give_96 (lv_at hl 0 rfl) ?_
            refine qVN_i (As := [.int (atv 8 (xn 2) j5_54)]) (rest := []) ⟨hx, hb, hml, hown, hts⟩ hK hN hA hP hD hS (c_X0_hasBidder l D cI (A 1) (atv 8 (xn 2) j5_54) xn (f_X0_hasBidder (atv 8 (xn 2) j5_54) xn) rfl) ⟨va_cnB 1 hts gX1_give_X0_hasBidder_n59 rfl rfl rfl (nW.m hN 13 rfl) lk2 hd_X0_hasBidder.2 ⟨Nat.le_of_ble_eq_true rfl, Nat.le_of_ble_eq_true rfl⟩, lk11, lk12⟩ (va_recv hK hP (ci := 0) (q0 := 1) rfl rfl) (bq_X1_X0_n A cI xx_54 xn xm_54 xk) rfl hl.1 rfl (Nat.le_of_ble_eq_true rfl) dX1_give_98 ⟨Nat.le_of_ble_eq_true rfl, Nat.le_of_ble_eq_true rfl⟩ (fun H locs hP hD hS => ?_)
            refine lv_if_eq (tgt := 161) hx hb dX1_give_101 (by decide) (fun c7 => ?_) (fun c7 => ?_)
            · have hf := hT hf c7
              refine lv_iinc (v := (j5_54 + (1 : Int32))) (lv' := [(5, .int (j5_54 + (1 : Int32))), (6, .int (atv 8 (xn 2) j5_54)), (0, .ref ((A 0) 0)), (1, .int j1), (3, .int j3_54), (4, .int j4_54)]) hx hb dX1_give_161 hl (k := 5) rfl rfl (by decide) rfl (fun ls hl => ?_)
              refine lv_goto (tgt := 54) hx hb dX1_give_164 (by decide) ?_
              exact (hWW _ _ _).mp (ih _ _ _ _ _ _ _ _ hf hP hD hS (lv_sub hl [2, 3, 4, 5, 0] rfl))
            · have hf := hF hf c7
              refine lv_aload_n hx hb dX1_give_104 rfl (lv_at hl 1 rfl) ?_
              refine va_get (D := D) (ci := 1) (v := .ref ((A 2) 0)) (C := RX1) (T := TX1) (N := 9) hx hb hts hinX hown hK hP 0 rfl rfl 1 (by decide) lk0 (fun _ h9 => h9) rfl dX1_give_105 ?_
              refine lv_aload_n hx hb dX1_give_108 rfl (lv_at hl 1 rfl) ?_
              refine va_get (D := D) (ci := 1) (v := .ref ((A 1) 0)) (C := RX1) (T := TX1) (N := 9) hx hb hts hinX hown hK hP 0 rfl rfl 0 (by decide) lk1 (fun _ h9 => h9) rfl dX1_give_109 ?_
              obtain ⟨v8, hev8, hf⟩ := bS hf
              refine qVN_v (ws' := (wX A cI xx_54 xn v8 xk)) (As := [.ref ((A 1) 0)]) (rest := []) ⟨hx, hb, hml, hown, hts⟩ hK hN hA hP hD hS (c_X0_become l D cI (A 2) (A 1) xm_54 xn v8 hev8) ⟨va_cnB 1 hts gX1_give_X0_become_n47 rfl rfl rfl (nW.m hN 1 rfl) lk2 hd_X0_become.2 ⟨Nat.le_of_ble_eq_true rfl, Nat.le_of_ble_eq_true rfl⟩, lk3, lk4⟩ (va_recv hK hP (ci := 0) (q0 := 12) rfl rfl) (bp_X1_HH_mn_h A cI xx_54 xn xm_54 xk v8) rfl hl.1 rfl (Nat.le_of_ble_eq_true rfl) dX1_give_112 ⟨Nat.le_of_ble_eq_true rfl, Nat.le_of_ble_eq_true rfl⟩ (fun H locs hP hD hS => ?_)
              have hP : va_P D vwCl (wX A cI xx_54 xn v8 xk) H := hP
              refine lv_aload_n hx hb dX1_give_115 rfl (lv_at hl 1 rfl) ?_
              refine va_get (D := D) (ci := 1) (v := .ref ((A 2) 0)) (C := RX1) (T := TX1) (N := 9) hx hb hts hinX hown hK hP 0 rfl rfl 1 (by decide) lk0 (fun _ h9 => h9) rfl dX1_give_116 ?_
              refine va_getN (D := D) (ci := 0) (v := .ref ((A 2) 5)) (C := RX0) (T := TX0) (N := 13) hx hb hts hinH hown hK hP 12 rfl rfl 7 (by decide) (nW.f hN 7 rfl) (fun _ h9 => h9) rfl dX1_give_119 ?_
              refine lv_iload hx hb dX1_give_122 (lv_at hl 5 rfl) ?_
              refine lv_iload hx hb dX1_give_124 (lv_at hl 0 rfl) ?_
              obtain ⟨xm_v9, exm_v9, hf⟩ := jnS hf
              refine qS_v (ws' := (wX A cI xx_54 xn xm_v9 xk)) (As := [.ref ((A 2) 5), .int j5_54, .int (atv 8 (xn 2) j5_54)]) (rest := []) ⟨hx, hb, hml, hown, hts⟩ hK hN hA hP hD hS (c_X1_put l D cI 8 (by decide) ((A 2) 5) (v8 4) j5_54 (atv 8 (xn 2) j5_54)) (va_cwS 3 hts gX1_give_X1_put rfl rfl rfl hd_X1_put.2 ⟨Nat.le_of_ble_eq_true rfl, Nat.le_of_ble_eq_true rfl⟩) ((bP_X1_m_4 A cI xx_54 xn v8 xk (ptv 8 (v8 4) j5_54 (atv 8 (xn 2) j5_54)) _ exm_v9)) rfl hl.1 rfl (Nat.le_of_ble_eq_true rfl) dX1_give_126 ⟨Nat.le_of_ble_eq_true rfl, Nat.le_of_ble_eq_true rfl⟩ (fun H locs hP hD hS => ?_)
              refine lv_aload_n hx hb dX1_give_129 rfl (lv_at hl 1 rfl) ?_
              refine va_get (D := D) (ci := 1) (v := .ref ((A 2) 0)) (C := RX1) (T := TX1) (N := 9) hx hb hts hinX hown hK hP 0 rfl rfl 1 (by decide) lk0 (fun _ h9 => h9) rfl dX1_give_130 ?_
              refine lv_iload_n hx hb dX1_give_133 rfl (lv_at hl 2 rfl) ?_
              refine lv_iconst (v := (1 : Int32)) hx hb dX1_give_134 (by decide) ?_
              obtain ⟨v10, hev10, hf⟩ := bS hf
              refine qVN_i (ws' := (wX A cI xx_54 xn v10.2 xk)) (As := [.int j1, .int (1 : Int32)]) (rest := []) ⟨hx, hb, hml, hown, hts⟩ hK hN hA hP hD hS (c_X0_goOn l D cI (A 2) j1 (1 : Int32) xm_v9 v10 hev10) ⟨va_cnB 2 hts gX1_give_X0_goOn_n97 rfl rfl rfl (nW.m hN 12 rfl) lk2 hd_X0_goOn.2 ⟨Nat.le_of_ble_eq_true rfl, Nat.le_of_ble_eq_true rfl⟩, lk5, lk6⟩ (va_recv hK hP (ci := 0) (q0 := 12) rfl rfl) (bp_X1_X0_m_h A cI xx_54 xn xm_v9 xk v10.2) rfl hl.1 rfl (Nat.le_of_ble_eq_true rfl) dX1_give_135 ⟨Nat.le_of_ble_eq_true rfl, Nat.le_of_ble_eq_true rfl⟩ (fun H locs hP hD hS => ?_)
              have hP : va_P D vwCl (wX A cI xx_54 xn v10.2 xk) H := hP
              refine lv_pop hx hb dX1_give_138 rfl ?_
              refine lv_aload_n hx hb dX1_give_139 rfl (lv_at hl 1 rfl) ?_
              refine va_get (D := D) (ci := 1) (v := .ref ((A 2) 0)) (C := RX1) (T := TX1) (N := 9) hx hb hts hinX hown hK hP 0 rfl rfl 1 (by decide) lk0 (fun _ h9 => h9) rfl dX1_give_140 ?_
              obtain ⟨v11, hev11, hf⟩ := bS hf
              refine qVN_i (As := []) (rest := []) ⟨hx, hb, hml, hown, hts⟩ hK hN hA hP hD hS (c_X0_allBelieved l D cI (A 2) v10.2 v11 hev11) ⟨va_cnB 0 hts gX1_give_X0_allBelieved_n174 rfl rfl rfl (nW.m hN 30 rfl) lk2 hd_X0_allBelieved.2 ⟨Nat.le_of_ble_eq_true rfl, Nat.le_of_ble_eq_true rfl⟩, lk7, lk8⟩ (va_recv hK hP (ci := 0) (q0 := 12) rfl rfl) (bq_X1_X0_m A cI xx_54 xn v10.2 xk) rfl hl.1 rfl (Nat.le_of_ble_eq_true rfl) dX1_give_143 ⟨Nat.le_of_ble_eq_true rfl, Nat.le_of_ble_eq_true rfl⟩ (fun H locs hP hD hS => ?_)
              refine lv_istore (lv' := [(7, .int v11), (6, .int (atv 8 (xn 2) j5_54)), (0, .ref ((A 0) 0)), (1, .int j1), (3, .int j3_54), (4, .int j4_54), (5, .int j5_54)]) hx hb dX1_give_146 hl (by decide) rfl (fun ls hl => ?_)
              refine lv_iload hx hb dX1_give_148 (lv_at hl 0 rfl) ?_
              refine lv_iload_n hx hb dX1_give_150 rfl (lv_at hl 4 rfl) ?_
              refine lv_icmp_le (tgt := 161) hx hb dX1_give_151 (by decide) (fun c12 => ?_) (fun c12 => ?_)
              · have hf := hT hf c12
                refine lv_iinc (v := (j5_54 + (1 : Int32))) (lv' := [(5, .int (j5_54 + (1 : Int32))), (7, .int v11), (6, .int (atv 8 (xn 2) j5_54)), (0, .ref ((A 0) 0)), (1, .int j1), (3, .int j3_54), (4, .int j4_54)]) hx hb dX1_give_161 hl (k := 6) rfl rfl (by decide) rfl (fun ls hl => ?_)
                refine lv_goto (tgt := 54) hx hb dX1_give_164 (by decide) ?_
                exact (hWW _ _ _).mp (ih _ _ _ _ _ _ _ _ hf hP hD hS (lv_sub hl [3, 4, 5, 6, 0] rfl))
              · have hf := hF hf c12
                refine lv_iload hx hb dX1_give_154 (lv_at hl 0 rfl) ?_
                refine lv_istore_n (lv' := [(3, .int v11), (7, .int v11), (6, .int (atv 8 (xn 2) j5_54)), (0, .ref ((A 0) 0)), (1, .int j1), (4, .int j4_54), (5, .int j5_54)]) hx hb dX1_give_156 rfl hl (by decide) rfl (fun ls hl => ?_)
                refine lv_iload hx hb dX1_give_157 (lv_at hl 6 rfl) ?_
                refine lv_istore (lv' := [(4, .int j5_54), (3, .int v11), (7, .int v11), (6, .int (atv 8 (xn 2) j5_54)), (0, .ref ((A 0) 0)), (1, .int j1), (5, .int j5_54)]) hx hb dX1_give_159 hl (by decide) rfl (fun ls hl => ?_)
                refine lv_iinc (v := (j5_54 + (1 : Int32))) (lv' := [(5, .int (j5_54 + (1 : Int32))), (4, .int j5_54), (3, .int v11), (7, .int v11), (6, .int (atv 8 (xn 2) j5_54)), (0, .ref ((A 0) 0)), (1, .int j1)]) hx hb dX1_give_161 hl (k := 6) rfl rfl (by decide) rfl (fun ls hl => ?_)
                refine lv_goto (tgt := 54) hx hb dX1_give_164 (by decide) ?_
                exact (hWW _ _ _).mp (ih _ _ _ _ _ _ _ _ hf hP hD hS (lv_sub hl [5, 6, 2, 1, 0] rfl))
    exact (hWW _ _ _).mp (P54 _ _ _ _ _ _ _ _ _ hf hP hD hS (lv_sub hl [4, 5, 2, 1, 0] rfl))
  · have hf := hF hf c1
    refine lv_aload_n hx hb dX1_give_12 rfl (lv_at hl 1 rfl) ?_
    refine lv_iload_n hx hb dX1_give_13 rfl (lv_at hl 0 rfl) ?_
    obtain ⟨v13, hev13, hf⟩ := bS hf
    refine qV_i (ws' := (wX A cI v13.2 xn xm xk)) (As := [.int (f_X1_beyond j1 (0 : Int32) (20 : Int32))]) (rest := []) ⟨hx, hb, hml, hown, hts⟩ hK hN hA hP hD hS (c_X1_refuse l D cI A (f_X1_beyond j1 (0 : Int32) (20 : Int32)) xx xn xm xk v13 hev13) (cwV 1 hts gX1_give_X1_refuse rfl rfl rfl hd_X1_refuse ⟨Nat.le_of_ble_eq_true rfl, Nat.le_of_ble_eq_true rfl⟩) (va_recv hK hP (ci := 1) (q0 := 0) rfl rfl) (bp_X1_X1_xnmk_x A cI xx xn xm xk v13.2) rfl hl.1 rfl (Nat.le_of_ble_eq_true rfl) dX1_give_14 ⟨Nat.le_of_ble_eq_true rfl, Nat.le_of_ble_eq_true rfl⟩ (fun H locs hP hD hS => ?_)
    have hP : va_P D vwCl (wX A cI v13.2 xn xm xk) H := hP
    obtain rfl := Option.some.inj hf
    exact W.iret (v := v13.1) hx hb hr (fun t ht hW => ⟨⟨v13.1, (), rfl, rfl, hPt ht hP⟩, hS.F ht⟩) hS.2.2 dX1_give_17
set_option maxHeartbeats 4000000 in
set_option maxRecDepth 100000 in
theorem c_X1_pool (l : Launch) (D : va_G) (cI : ClassId) (A : Nat → Nat → Nat) (j1 : Int32) (j2 : Int32) (xx : HS) (xn : HS) (xm : HS) (xk : HS) (out : Int32 × HS × HS) (hf : f_X1_pool j1 j2 xx xn xm xk = some out) : uI l D cI yX1_pool wsX1_pool ({ frames := 5, cells := 0, slots := 0, locals := 128 } : Room) [.ref ((A 0) 0), .int j1, .int j2] (wX A cI xx xn xm xk) (wX A cI out.2.1 xn out.2.2 xk) out.1 := by
  intro sz
  refine Met.ofW (cc := cX1_pool) (maxL := 8) (ret := (some .int)) (by decide) rfl ?_
  intro p e s m args below meth c s₁ Bd hml hv
  obtain ⟨rfl, hsz, hP, hK, hD0, hN⟩ := hv
  have hx := Bd.exec
  have hb := Bd.bytes
  have hr := Bd.returns
  have hts := atoms_spec (ws := wsX1_pool) Bd.pre
  have hown : s.vm.findClass RX1 = some m.cls := findClass_of_methodNamed Bd.named
  have hlocks := Bd.notSynchronized
  subst hsz
  have hD := hD0.self (sz := s.heap.size)
  generalize hAe : va_A (wX A cI xx xn xm xk) s.heap.size = G at hD ⊢
  have hA : ∀ q : Nat, s.heap.size ≤ q → G q := fun q h => by rw [← hAe]; exact Or.inr h
  have hS : va_S G s.heap s.heap [] := va_S.rf
  have hP : va_P D vwCl (wX A cI xx xn xm xk) s.heap := hP
  have hl := lv_entry ([.ref ((A 0) 0), .int j1, .int j2]) (n := 8) (Nat.le_of_ble_eq_true rfl)
  rw [lg_entry_eq]
  generalize (lg_sl ([.ref ((A 0) 0), .int j1, .int j2]) ++ List.replicate (8 - (lg_sl ([.ref ((A 0) 0), .int j1, .int j2])).length) Slot.unset).toArray = ls at hl ⊢
  have hl : lv_has ls 8 [(0, .ref ((A 0) 0)), (1, .int j1), (2, .int j2)] := hl
  have hinH : ∀ w ∈ wsX00, w ∈ wsX1_pool := by decide +kernel
  have hinX : ∀ w ∈ wsX10, w ∈ wsX1_pool := by decide +kernel
  have lk0 := hts (.fieldLink RX1 10 "LiesBoughtBack" "now" "LLiesBoughtBack$Hall;") (by decide +kernel)
  have lk1 := hts (.initialized RX0) (by decide +kernel)
  have lk2 := hts (.instanceMethod yX0_hasBidder) (by decide +kernel)
  have lk3 := hts (.selects RX0 yX0_hasBidder yX0_hasBidder) (by decide +kernel)
  have lk4 := hts (.fieldLink RX1 16 "LiesBoughtBack" "mind" "LLiesBoughtBack$Hall;") (by decide +kernel)
  have lk5 := hts (.instanceMethod yX0_become) (by decide +kernel)
  have lk6 := hts (.selects RX0 yX0_become yX0_become) (by decide +kernel)
  have lk7 := hts (.instanceMethod yX0_goOn) (by decide +kernel)
  have lk8 := hts (.selects RX0 yX0_goOn yX0_goOn) (by decide +kernel)
  have lk9 := hts (.instanceMethod yX0_heldBy) (by decide +kernel)
  have lk10 := hts (.selects RX0 yX0_heldBy yX0_heldBy) (by decide +kernel)
  have lk11 := hts (.instanceMethod yX0_pourPurse) (by decide +kernel)
  have lk12 := hts (.selects RX0 yX0_pourPurse yX0_pourPurse) (by decide +kernel)
  refine W_in ?_
  intro WW hWW
  refine (hWW _ _ _).mpr ?_
  unfold f_X1_pool at hf
  refine lv_aload_n hx hb dX1_pool_0 rfl (lv_at hl 0 rfl) ?_
  refine va_get (D := D) (ci := 1) (v := .ref ((A 1) 0)) (C := RX1) (T := TX1) (N := 9) hx hb hts hinX hown hK hP 0 rfl rfl 0 (by decide) lk0 (fun _ h9 => h9) rfl dX1_pool_1 ?_
  refine lv_iload_n hx hb dX1_pool_4 rfl (lv_at hl 1 rfl) ?_
  refine qVN_i (As := [.int j1]) (rest := []) ⟨hx, hb, hml, hown, hts⟩ hK hN hA hP hD hS (c_X0_hasBidder l D cI (A 1) j1 xn (f_X0_hasBidder j1 xn) rfl) ⟨va_cnB 1 hts gX1_pool_X0_hasBidder_n59 rfl rfl rfl (nW.m hN 13 rfl) lk1 hd_X0_hasBidder.2 ⟨Nat.le_of_ble_eq_true rfl, Nat.le_of_ble_eq_true rfl⟩, lk2, lk3⟩ (va_recv hK hP (ci := 0) (q0 := 1) rfl rfl) (bq_X1_X0_n A cI xx xn xm xk) rfl hl.1 rfl (Nat.le_of_ble_eq_true rfl) dX1_pool_5 ⟨Nat.le_of_ble_eq_true rfl, Nat.le_of_ble_eq_true rfl⟩ (fun H locs hP hD hS => ?_)
  refine lv_if_ne (tgt := 17) hx hb dX1_pool_8 (by decide) (fun c1 => ?_) (fun c1 => ?_)
  · have hf := hF hf c1
    refine lv_iload_n hx hb dX1_pool_17 rfl (lv_at hl 2 rfl) ?_
    refine lv_iconst (v := (0 : Int32)) hx hb dX1_pool_18 (by decide) ?_
    refine lv_bipush (v := (20 : Int32)) hx hb dX1_pool_19 (by decide) ?_
    refine qS_i (As := [.int j2, .int (0 : Int32), .int (20 : Int32)]) (rest := []) ⟨hx, hb, hml, hown, hts⟩ hK hN hA hP hD hS (c_X1_beyond l D cI j2 (0 : Int32) (20 : Int32) (f_X1_beyond j2 (0 : Int32) (20 : Int32)) rfl) (va_cwS 3 hts gX1_pool_X1_beyond rfl rfl rfl hd_X1_beyond.2 ⟨Nat.le_of_ble_eq_true rfl, Nat.le_of_ble_eq_true rfl⟩) Bp_e rfl hl.1 rfl (Nat.le_of_ble_eq_true rfl) dX1_pool_21 ⟨Nat.le_of_ble_eq_true rfl, Nat.le_of_ble_eq_true rfl⟩ (fun H locs hP hD hS => ?_)
    refine lv_istore_n (lv' := [(3, .int (f_X1_beyond j2 (0 : Int32) (20 : Int32))), (0, .ref ((A 0) 0)), (1, .int j1), (2, .int j2)]) hx hb dX1_pool_24 rfl hl (by decide) rfl (fun ls hl => ?_)
    refine lv_iload_n hx hb dX1_pool_25 rfl (lv_at hl 0 rfl) ?_
    refine lv_if_eq (tgt := 35) hx hb dX1_pool_26 (by decide) (fun c2 => ?_) (fun c2 => ?_)
    · have hf := hT hf c2
      refine lv_aload_n hx hb dX1_pool_35 rfl (lv_at hl 1 rfl) ?_
      refine va_get (D := D) (ci := 1) (v := .ref ((A 2) 0)) (C := RX1) (T := TX1) (N := 9) hx hb hts hinX hown hK hP 0 rfl rfl 1 (by decide) lk4 (fun _ h9 => h9) rfl dX1_pool_36 ?_
      refine lv_aload_n hx hb dX1_pool_39 rfl (lv_at hl 1 rfl) ?_
      refine va_get (D := D) (ci := 1) (v := .ref ((A 1) 0)) (C := RX1) (T := TX1) (N := 9) hx hb hts hinX hown hK hP 0 rfl rfl 0 (by decide) lk0 (fun _ h9 => h9) rfl dX1_pool_40 ?_
      obtain ⟨v3, hev3, hf⟩ := bS hf
      refine qVN_v (ws' := (wX A cI xx xn v3 xk)) (As := [.ref ((A 1) 0)]) (rest := []) ⟨hx, hb, hml, hown, hts⟩ hK hN hA hP hD hS (c_X0_become l D cI (A 2) (A 1) xm xn v3 hev3) ⟨va_cnB 1 hts gX1_pool_X0_become_n47 rfl rfl rfl (nW.m hN 1 rfl) lk1 hd_X0_become.2 ⟨Nat.le_of_ble_eq_true rfl, Nat.le_of_ble_eq_true rfl⟩, lk5, lk6⟩ (va_recv hK hP (ci := 0) (q0 := 12) rfl rfl) (bp_X1_HH_mn_h A cI xx xn xm xk v3) rfl hl.1 rfl (Nat.le_of_ble_eq_true rfl) dX1_pool_43 ⟨Nat.le_of_ble_eq_true rfl, Nat.le_of_ble_eq_true rfl⟩ (fun H locs hP hD hS => ?_)
      have hP : va_P D vwCl (wX A cI xx xn v3 xk) H := hP
      refine lv_aload_n hx hb dX1_pool_46 rfl (lv_at hl 1 rfl) ?_
      refine va_get (D := D) (ci := 1) (v := .ref ((A 2) 0)) (C := RX1) (T := TX1) (N := 9) hx hb hts hinX hown hK hP 0 rfl rfl 1 (by decide) lk4 (fun _ h9 => h9) rfl dX1_pool_47 ?_
      refine lv_iload_n hx hb dX1_pool_50 rfl (lv_at hl 3 rfl) ?_
      refine lv_iconst (v := (1 : Int32)) hx hb dX1_pool_51 (by decide) ?_
      obtain ⟨v4, hev4, hf⟩ := bS hf
      refine qVN_i (ws' := (wX A cI xx xn v4.2 xk)) (As := [.int j2, .int (1 : Int32)]) (rest := []) ⟨hx, hb, hml, hown, hts⟩ hK hN hA hP hD hS (c_X0_goOn l D cI (A 2) j2 (1 : Int32) v3 v4 hev4) ⟨va_cnB 2 hts gX1_pool_X0_goOn_n97 rfl rfl rfl (nW.m hN 12 rfl) lk1 hd_X0_goOn.2 ⟨Nat.le_of_ble_eq_true rfl, Nat.le_of_ble_eq_true rfl⟩, lk7, lk8⟩ (va_recv hK hP (ci := 0) (q0 := 12) rfl rfl) (bp_X1_X0_m_h A cI xx xn v3 xk v4.2) rfl hl.1 rfl (Nat.le_of_ble_eq_true rfl) dX1_pool_52 ⟨Nat.le_of_ble_eq_true rfl, Nat.le_of_ble_eq_true rfl⟩ (fun H locs hP hD hS => ?_)
      have hP : va_P D vwCl (wX A cI xx xn v4.2 xk) H := hP
      refine lv_pop hx hb dX1_pool_55 rfl ?_
      refine lv_aload_n hx hb dX1_pool_56 rfl (lv_at hl 1 rfl) ?_
      refine va_get (D := D) (ci := 1) (v := .ref ((A 2) 0)) (C := RX1) (T := TX1) (N := 9) hx hb hts hinX hown hK hP 0 rfl rfl 1 (by decide) lk4 (fun _ h9 => h9) rfl dX1_pool_57 ?_
      refine lv_iload_n hx hb dX1_pool_60 rfl (lv_at hl 2 rfl) ?_
      obtain ⟨v5, hev5, hf⟩ := bS hf
      refine qVN_i (As := [.int j1]) (rest := []) ⟨hx, hb, hml, hown, hts⟩ hK hN hA hP hD hS (c_X0_heldBy l D cI (A 2) j1 v4.2 v5 hev5) ⟨va_cnB 1 hts gX1_pool_X0_heldBy_n190 rfl rfl rfl (nW.m hN 33 rfl) lk1 hd_X0_heldBy.2 ⟨Nat.le_of_ble_eq_true rfl, Nat.le_of_ble_eq_true rfl⟩, lk9, lk10⟩ (va_recv hK hP (ci := 0) (q0 := 12) rfl rfl) (bq_X1_X0_m A cI xx xn v4.2 xk) rfl hl.1 rfl (Nat.le_of_ble_eq_true rfl) dX1_pool_61 ⟨Nat.le_of_ble_eq_true rfl, Nat.le_of_ble_eq_true rfl⟩ (fun H locs hP hD hS => ?_)
      refine lv_istore (lv' := [(4, .int v5), (3, .int (f_X1_beyond j2 (0 : Int32) (20 : Int32))), (0, .ref ((A 0) 0)), (1, .int j1), (2, .int j2)]) hx hb dX1_pool_64 hl (by decide) rfl (fun ls hl => ?_)
      refine lv_bipush (v := (-9 : Int32)) hx hb dX1_pool_66 (by decide) ?_
      refine lv_istore (lv' := [(5, .int (-9 : Int32)), (4, .int v5), (3, .int (f_X1_beyond j2 (0 : Int32) (20 : Int32))), (0, .ref ((A 0) 0)), (1, .int j1), (2, .int j2)]) hx hb dX1_pool_68 hl (by decide) rfl (fun ls hl => ?_)
      refine lv_iconst (v := (0 : Int32)) hx hb dX1_pool_70 (by decide) ?_
      refine lv_istore (lv' := [(6, .int (0 : Int32)), (5, .int (-9 : Int32)), (4, .int v5), (3, .int (f_X1_beyond j2 (0 : Int32) (20 : Int32))), (0, .ref ((A 0) 0)), (1, .int j1), (2, .int j2)]) hx hb dX1_pool_71 hl (by decide) rfl (fun ls hl => ?_)
      obtain ⟨K153, hK153, hf⟩ := jnS hf
      have J153 : ∀ (j5_153 : Int32) (xx_153 : HS) (xm_153 : HS) (H : Heap) (locs : List Loc) (ls : Array Slot), K153 j5_153 xx_153 xm_153 = some out → va_P D vwCl (wX A cI xx_153 xn xm_153 xk) H → va_D G (wX A cI xx_153 xn xm_153 xk) → va_S G s.heap H locs → lv_has ls 8 [(5, .int j5_153)] → WW H locs (F0 m 153 ls []) := by
        intro j5_153 xx_153 xm_153 H locs ls hf hP hD hS hl
        subst hK153
        refine (hWW _ _ _).mpr ?_
        refine lv_iload hx hb dX1_pool_153 (lv_at hl 0 rfl) ?_
        obtain rfl := Option.some.inj hf
        exact W.iret (v := j5_153) hx hb hr (fun t ht hW => ⟨⟨j5_153, (), rfl, rfl, hPt ht hP⟩, hS.F ht⟩) hS.2.2 dX1_pool_155
      have P73 : ∀ (n' : Nat) (j4_73 : Int32) (j5_73 : Int32) (j6_73 : Int32) (xx_73 : HS) (xm_73 : HS) (H : Heap) (locs : List Loc) (ls : Array Slot), L_X1_pool_73 j1 j2 xn xk K153 n' j4_73 j5_73 j6_73 xx_73 xm_73 = some out → va_P D vwCl (wX A cI xx_73 xn xm_73 xk) H → va_D G (wX A cI xx_73 xn xm_73 xk) → va_S G s.heap H locs → lv_has ls 8 [(0, .ref ((A 0) 0)), (1, .int j1), (2, .int j2), (4, .int j4_73), (5, .int j5_73), (6, .int j6_73)] → WW H locs (F0 m 73 ls []) := by
        intro n'
        induction n' with
        | zero => intro j4_73 j5_73 j6_73 xx_73 xm_73 H locs ls hf; exact absurd (show (none : Option (Int32 × HS × HS)) = some out from hf) (fun q => by cases q)
        | succ n' ih =>
          intro j4_73 j5_73 j6_73 xx_73 xm_73 H locs ls hf hP hD hS hl
          rw [L_X1_pool_73] at hf
          refine (hWW _ _ _).mpr ?_
          refine lv_iload hx hb dX1_pool_73 (lv_at hl 5 rfl) ?_
          refine lv_aload_n hx hb dX1_pool_75 rfl (lv_at hl 0 rfl) ?_
          refine va_get (D := D) (ci := 1) (v := .ref ((A 1) 0)) (C := RX1) (T := TX1) (N := 9) hx hb hts hinX hown hK hP 0 rfl rfl 0 (by decide) lk0 (fun _ h9 => h9) rfl dX1_pool_76 ?_
          refine va_getN (D := D) (ci := 0) (v := .int (xn 11 0)) (C := RX0) (T := TX0) (N := 13) hx hb hts hinH hown hK hP 1 rfl rfl 1 (by decide) (nW.f hN 1 rfl) (fun _ h9 => h9) rfl dX1_pool_79 ?_
          refine lv_icmp_ge (tgt := 153) hx hb dX1_pool_82 (by decide) (fun c6 => ?_) (fun c6 => ?_)
          · have hf := hT hf c6
            exact (hWW _ _ _).mp (J153 _ _ _ _ _ _ hf hP hD hS (lv_sub hl [4] rfl))
          · have hf := hF hf c6
            refine lv_iload hx hb dX1_pool_85 (lv_at hl 5 rfl) ?_
            refine lv_iload_n hx hb dX1_pool_87 rfl (lv_at hl 1 rfl) ?_
            refine lv_icmp_eq (tgt := 147) hx hb dX1_pool_88 (by decide) (fun c7 => ?_) (fun c7 => ?_)
            · have hf := hT hf c7
              refine lv_iinc (v := (j6_73 + (1 : Int32))) (lv' := [(6, .int (j6_73 + (1 : Int32))), (0, .ref ((A 0) 0)), (1, .int j1), (2, .int j2), (4, .int j4_73), (5, .int j5_73)]) hx hb dX1_pool_147 hl (k := 5) rfl rfl (by decide) rfl (fun ls hl => ?_)
              refine lv_goto (tgt := 73) hx hb dX1_pool_150 (by decide) ?_
              exact (hWW _ _ _).mp (ih _ _ _ _ _ _ _ _ hf hP hD hS (lv_sub hl [1, 2, 3, 4, 5, 0] rfl))
            · have hf := hF hf c7
              refine lv_aload_n hx hb dX1_pool_91 rfl (lv_at hl 0 rfl) ?_
              refine va_get (D := D) (ci := 1) (v := .ref ((A 2) 0)) (C := RX1) (T := TX1) (N := 9) hx hb hts hinX hown hK hP 0 rfl rfl 1 (by decide) lk4 (fun _ h9 => h9) rfl dX1_pool_92 ?_
              refine lv_aload_n hx hb dX1_pool_95 rfl (lv_at hl 0 rfl) ?_
              refine va_get (D := D) (ci := 1) (v := .ref ((A 1) 0)) (C := RX1) (T := TX1) (N := 9) hx hb hts hinX hown hK hP 0 rfl rfl 0 (by decide) lk0 (fun _ h9 => h9) rfl dX1_pool_96 ?_
              obtain ⟨v8, hev8, hf⟩ := bS hf
              refine qVN_v (ws' := (wX A cI xx_73 xn v8 xk)) (As := [.ref ((A 1) 0)]) (rest := []) ⟨hx, hb, hml, hown, hts⟩ hK hN hA hP hD hS (c_X0_become l D cI (A 2) (A 1) xm_73 xn v8 hev8) ⟨va_cnB 1 hts gX1_pool_X0_become_n47 rfl rfl rfl (nW.m hN 1 rfl) lk1 hd_X0_become.2 ⟨Nat.le_of_ble_eq_true rfl, Nat.le_of_ble_eq_true rfl⟩, lk5, lk6⟩ (va_recv hK hP (ci := 0) (q0 := 12) rfl rfl) (bp_X1_HH_mn_h A cI xx_73 xn xm_73 xk v8) rfl hl.1 rfl (Nat.le_of_ble_eq_true rfl) dX1_pool_99 ⟨Nat.le_of_ble_eq_true rfl, Nat.le_of_ble_eq_true rfl⟩ (fun H locs hP hD hS => ?_)
              have hP : va_P D vwCl (wX A cI xx_73 xn v8 xk) H := hP
              refine lv_aload_n hx hb dX1_pool_102 rfl (lv_at hl 0 rfl) ?_
              refine va_get (D := D) (ci := 1) (v := .ref ((A 2) 0)) (C := RX1) (T := TX1) (N := 9) hx hb hts hinX hown hK hP 0 rfl rfl 1 (by decide) lk4 (fun _ h9 => h9) rfl dX1_pool_103 ?_
              refine lv_iload hx hb dX1_pool_106 (lv_at hl 5 rfl) ?_
              refine lv_iload_n hx hb dX1_pool_108 rfl (lv_at hl 1 rfl) ?_
              obtain ⟨v9, hev9, hf⟩ := bS hf
              refine qVN_v (ws' := (wX A cI xx_73 xn v9 xk)) (As := [.int j6_73, .int j1]) (rest := []) ⟨hx, hb, hml, hown, hts⟩ hK hN hA hP hD hS (c_X0_pourPurse l D cI (A 2) j6_73 j1 v8 v9 hev9) ⟨va_cnB 2 hts gX1_pool_X0_pourPurse_n197 rfl rfl rfl (nW.m hN 35 rfl) lk1 hd_X0_pourPurse.2 ⟨Nat.le_of_ble_eq_true rfl, Nat.le_of_ble_eq_true rfl⟩, lk11, lk12⟩ (va_recv hK hP (ci := 0) (q0 := 12) rfl rfl) (bp_X1_X0_m_h A cI xx_73 xn v8 xk v9) rfl hl.1 rfl (Nat.le_of_ble_eq_true rfl) dX1_pool_109 ⟨Nat.le_of_ble_eq_true rfl, Nat.le_of_ble_eq_true rfl⟩ (fun H locs hP hD hS => ?_)
              have hP : va_P D vwCl (wX A cI xx_73 xn v9 xk) H := hP
              refine lv_aload_n hx hb dX1_pool_112 rfl (lv_at hl 0 rfl) ?_
              refine va_get (D := D) (ci := 1) (v := .ref ((A 2) 0)) (C := RX1) (T := TX1) (N := 9) hx hb hts hinX hown hK hP 0 rfl rfl 1 (by decide) lk4 (fun _ h9 => h9) rfl dX1_pool_113 ?_
              refine lv_iload_n hx hb dX1_pool_116 rfl (lv_at hl 2 rfl) ?_
              refine lv_iconst (v := (1 : Int32)) hx hb dX1_pool_117 (by decide) ?_
              obtain ⟨v10, hev10, hf⟩ := bS hf
              refine qVN_i (ws' := (wX A cI xx_73 xn v10.2 xk)) (As := [.int j2, .int (1 : Int32)]) (rest := []) ⟨hx, hb, hml, hown, hts⟩ hK hN hA hP hD hS (c_X0_goOn l D cI (A 2) j2 (1 : Int32) v9 v10 hev10) ⟨va_cnB 2 hts gX1_pool_X0_goOn_n97 rfl rfl rfl (nW.m hN 12 rfl) lk1 hd_X0_goOn.2 ⟨Nat.le_of_ble_eq_true rfl, Nat.le_of_ble_eq_true rfl⟩, lk7, lk8⟩ (va_recv hK hP (ci := 0) (q0 := 12) rfl rfl) (bp_X1_X0_m_h A cI xx_73 xn v9 xk v10.2) rfl hl.1 rfl (Nat.le_of_ble_eq_true rfl) dX1_pool_118 ⟨Nat.le_of_ble_eq_true rfl, Nat.le_of_ble_eq_true rfl⟩ (fun H locs hP hD hS => ?_)
              have hP : va_P D vwCl (wX A cI xx_73 xn v10.2 xk) H := hP
              refine lv_pop hx hb dX1_pool_121 rfl ?_
              refine lv_aload_n hx hb dX1_pool_122 rfl (lv_at hl 0 rfl) ?_
              refine va_get (D := D) (ci := 1) (v := .ref ((A 2) 0)) (C := RX1) (T := TX1) (N := 9) hx hb hts hinX hown hK hP 0 rfl rfl 1 (by decide) lk4 (fun _ h9 => h9) rfl dX1_pool_123 ?_
              refine lv_iload_n hx hb dX1_pool_126 rfl (lv_at hl 1 rfl) ?_
              obtain ⟨v11, hev11, hf⟩ := bS hf
              refine qVN_i (As := [.int j1]) (rest := []) ⟨hx, hb, hml, hown, hts⟩ hK hN hA hP hD hS (c_X0_heldBy l D cI (A 2) j1 v10.2 v11 hev11) ⟨va_cnB 1 hts gX1_pool_X0_heldBy_n190 rfl rfl rfl (nW.m hN 33 rfl) lk1 hd_X0_heldBy.2 ⟨Nat.le_of_ble_eq_true rfl, Nat.le_of_ble_eq_true rfl⟩, lk9, lk10⟩ (va_recv hK hP (ci := 0) (q0 := 12) rfl rfl) (bq_X1_X0_m A cI xx_73 xn v10.2 xk) rfl hl.1 rfl (Nat.le_of_ble_eq_true rfl) dX1_pool_127 ⟨Nat.le_of_ble_eq_true rfl, Nat.le_of_ble_eq_true rfl⟩ (fun H locs hP hD hS => ?_)
              refine lv_istore (lv' := [(7, .int v11), (0, .ref ((A 0) 0)), (1, .int j1), (2, .int j2), (4, .int j4_73), (5, .int j5_73), (6, .int j6_73)]) hx hb dX1_pool_130 hl (by decide) rfl (fun ls hl => ?_)
              refine lv_iload hx hb dX1_pool_132 (lv_at hl 0 rfl) ?_
              refine lv_iload hx hb dX1_pool_134 (lv_at hl 4 rfl) ?_
              refine lv_icmp_le (tgt := 147) hx hb dX1_pool_136 (by decide) (fun c12 => ?_) (fun c12 => ?_)
              · have hf := hT hf c12
                refine lv_iinc (v := (j6_73 + (1 : Int32))) (lv' := [(6, .int (j6_73 + (1 : Int32))), (7, .int v11), (0, .ref ((A 0) 0)), (1, .int j1), (2, .int j2), (4, .int j4_73), (5, .int j5_73)]) hx hb dX1_pool_147 hl (k := 6) rfl rfl (by decide) rfl (fun ls hl => ?_)
                refine lv_goto (tgt := 73) hx hb dX1_pool_150 (by decide) ?_
                exact (hWW _ _ _).mp (ih _ _ _ _ _ _ _ _ hf hP hD hS (lv_sub hl [2, 3, 4, 5, 6, 0] rfl))
              · have hf := hF hf c12
                refine lv_iload hx hb dX1_pool_139 (lv_at hl 0 rfl) ?_
                refine lv_istore (lv' := [(4, .int v11), (7, .int v11), (0, .ref ((A 0) 0)), (1, .int j1), (2, .int j2), (5, .int j5_73), (6, .int j6_73)]) hx hb dX1_pool_141 hl (by decide) rfl (fun ls hl => ?_)
                refine lv_iload hx hb dX1_pool_143 (lv_at hl 6 rfl) ?_
                refine lv_istore (lv' := [(5, .int j6_73), (4, .int v11), (7, .int v11), (0, .ref ((A 0) 0)), (1, .int j1), (2, .int j2), (6, .int j6_73)]) hx hb dX1_pool_145 hl (by decide) rfl (fun ls hl => ?_)
                refine lv_iinc (v := (j6_73 + (1 : Int32))) (lv' := [(6, .int (j6_73 + (1 : Int32))), (5, .int j6_73), (4, .int v11), (7, .int v11), (0, .ref ((A 0) 0)), (1, .int j1), (2, .int j2)]) hx hb dX1_pool_147 hl (k := 6) rfl rfl (by decide) rfl (fun ls hl => ?_)
                refine lv_goto (tgt := 73) hx hb dX1_pool_150 (by decide) ?_
                exact (hWW _ _ _).mp (ih _ _ _ _ _ _ _ _ hf hP hD hS (lv_sub hl [4, 5, 6, 2, 1, 0] rfl))
      exact (hWW _ _ _).mp (P73 _ _ _ _ _ _ _ _ _ hf hP hD hS (lv_sub hl [4, 5, 6, 2, 1, 0] rfl))
    · have hf := hF hf c2
      refine lv_aload_n hx hb dX1_pool_29 rfl (lv_at hl 1 rfl) ?_
      refine lv_iload_n hx hb dX1_pool_30 rfl (lv_at hl 0 rfl) ?_
      obtain ⟨v13, hev13, hf⟩ := bS hf
      refine qV_i (ws' := (wX A cI v13.2 xn xm xk)) (As := [.int (f_X1_beyond j2 (0 : Int32) (20 : Int32))]) (rest := []) ⟨hx, hb, hml, hown, hts⟩ hK hN hA hP hD hS (c_X1_refuse l D cI A (f_X1_beyond j2 (0 : Int32) (20 : Int32)) xx xn xm xk v13 hev13) (cwV 1 hts gX1_pool_X1_refuse rfl rfl rfl hd_X1_refuse ⟨Nat.le_of_ble_eq_true rfl, Nat.le_of_ble_eq_true rfl⟩) (va_recv hK hP (ci := 1) (q0 := 0) rfl rfl) (bp_X1_X1_xnmk_x A cI xx xn xm xk v13.2) rfl hl.1 rfl (Nat.le_of_ble_eq_true rfl) dX1_pool_31 ⟨Nat.le_of_ble_eq_true rfl, Nat.le_of_ble_eq_true rfl⟩ (fun H locs hP hD hS => ?_)
      have hP : va_P D vwCl (wX A cI v13.2 xn xm xk) H := hP
      obtain rfl := Option.some.inj hf
      exact W.iret (v := v13.1) hx hb hr (fun t ht hW => ⟨⟨v13.1, (), rfl, rfl, hPt ht hP⟩, hS.F ht⟩) hS.2.2 dX1_pool_34
  · have hf := hT hf c1
    refine lv_aload_n hx hb dX1_pool_11 rfl (lv_at hl 0 rfl) ?_
    refine lv_iconst (v := (-1 : Int32)) hx hb dX1_pool_12 (by decide) ?_
    obtain ⟨v14, hev14, hf⟩ := bS hf
    refine qV_i (ws' := (wX A cI v14.2 xn xm xk)) (As := [.int (-1 : Int32)]) (rest := []) ⟨hx, hb, hml, hown, hts⟩ hK hN hA hP hD hS (c_X1_refuse l D cI A (-1 : Int32) xx xn xm xk v14 hev14) (cwV 1 hts gX1_pool_X1_refuse rfl rfl rfl hd_X1_refuse ⟨Nat.le_of_ble_eq_true rfl, Nat.le_of_ble_eq_true rfl⟩) (va_recv hK hP (ci := 1) (q0 := 0) rfl rfl) (bp_X1_X1_xnmk_x A cI xx xn xm xk v14.2) rfl hl.1 rfl (Nat.le_of_ble_eq_true rfl) dX1_pool_13 ⟨Nat.le_of_ble_eq_true rfl, Nat.le_of_ble_eq_true rfl⟩ (fun H locs hP hD hS => ?_)
    have hP : va_P D vwCl (wX A cI v14.2 xn xm xk) H := hP
    obtain rfl := Option.some.inj hf
    exact W.iret (v := v14.1) hx hb hr (fun t ht hW => ⟨⟨v14.1, (), rfl, rfl, hPt ht hP⟩, hS.F ht⟩) hS.2.2 dX1_pool_16
set_option maxHeartbeats 4000000 in
set_option maxRecDepth 100000 in
theorem c_X1_stay (l : Launch) (D : va_G) (cI : ClassId) (A : Nat → Nat → Nat) (j1 : Int32) (xx : HS) (xn : HS) (xm : HS) (xk : HS) (out : Int32 × HS × HS) (hf : f_X1_stay j1 xx xn xm xk = some out) : uI l D cI yX1_stay wsX1_stay ({ frames := 5, cells := 0, slots := 0, locals := 128 } : Room) [.ref ((A 0) 0), .int j1] (wX A cI xx xn xm xk) (wX A cI out.2.1 xn out.2.2 xk) out.1 := by
  intro sz
  refine Met.ofW (cc := cX1_stay) (maxL := 6) (ret := (some .int)) (by decide) rfl ?_
  intro p e s m args below meth c s₁ Bd hml hv
  obtain ⟨rfl, hsz, hP, hK, hD0, hN⟩ := hv
  have hx := Bd.exec
  have hb := Bd.bytes
  have hr := Bd.returns
  have hts := atoms_spec (ws := wsX1_stay) Bd.pre
  have hown : s.vm.findClass RX1 = some m.cls := findClass_of_methodNamed Bd.named
  have hlocks := Bd.notSynchronized
  subst hsz
  have hD := hD0.self (sz := s.heap.size)
  generalize hAe : va_A (wX A cI xx xn xm xk) s.heap.size = G at hD ⊢
  have hA : ∀ q : Nat, s.heap.size ≤ q → G q := fun q h => by rw [← hAe]; exact Or.inr h
  have hS : va_S G s.heap s.heap [] := va_S.rf
  have hP : va_P D vwCl (wX A cI xx xn xm xk) s.heap := hP
  have hl := lv_entry ([.ref ((A 0) 0), .int j1]) (n := 6) (Nat.le_of_ble_eq_true rfl)
  rw [lg_entry_eq]
  generalize (lg_sl ([.ref ((A 0) 0), .int j1]) ++ List.replicate (6 - (lg_sl ([.ref ((A 0) 0), .int j1])).length) Slot.unset).toArray = ls at hl ⊢
  have hl : lv_has ls 6 [(0, .ref ((A 0) 0)), (1, .int j1)] := hl
  have hinH : ∀ w ∈ wsX00, w ∈ wsX1_stay := by decide +kernel
  have hinX : ∀ w ∈ wsX10, w ∈ wsX1_stay := by decide +kernel
  have lk0 := hts (.fieldLink RX1 10 "LiesBoughtBack" "now" "LLiesBoughtBack$Hall;") (by decide +kernel)
  have lk1 := hts (.fieldLink RX1 16 "LiesBoughtBack" "mind" "LLiesBoughtBack$Hall;") (by decide +kernel)
  have lk2 := hts (.initialized RX0) (by decide +kernel)
  have lk3 := hts (.instanceMethod yX0_become) (by decide +kernel)
  have lk4 := hts (.selects RX0 yX0_become yX0_become) (by decide +kernel)
  have lk5 := hts (.instanceMethod yX0_goOn) (by decide +kernel)
  have lk6 := hts (.selects RX0 yX0_goOn yX0_goOn) (by decide +kernel)
  refine W_in ?_
  intro WW hWW
  refine (hWW _ _ _).mpr ?_
  unfold f_X1_stay at hf
  refine lv_iload_n hx hb dX1_stay_0 rfl (lv_at hl 1 rfl) ?_
  refine lv_if_lt (tgt := 9) hx hb dX1_stay_1 (by decide) (fun c1 => ?_) (fun c1 => ?_)
  · have hf := hT hf c1
    refine lv_aload_n hx hb dX1_stay_9 rfl (lv_at hl 0 rfl) ?_
    refine lv_bipush (v := (-2 : Int32)) hx hb dX1_stay_10 (by decide) ?_
    obtain ⟨v2, hev2, hf⟩ := bS hf
    refine qV_i (ws' := (wX A cI v2.2 xn xm xk)) (As := [.int (-2 : Int32)]) (rest := []) ⟨hx, hb, hml, hown, hts⟩ hK hN hA hP hD hS (c_X1_refuse l D cI A (-2 : Int32) xx xn xm xk v2 hev2) (cwV 1 hts gX1_stay_X1_refuse rfl rfl rfl hd_X1_refuse ⟨Nat.le_of_ble_eq_true rfl, Nat.le_of_ble_eq_true rfl⟩) (va_recv hK hP (ci := 1) (q0 := 0) rfl rfl) (bp_X1_X1_xnmk_x A cI xx xn xm xk v2.2) rfl hl.1 rfl (Nat.le_of_ble_eq_true rfl) dX1_stay_12 ⟨Nat.le_of_ble_eq_true rfl, Nat.le_of_ble_eq_true rfl⟩ (fun H locs hP hD hS => ?_)
    have hP : va_P D vwCl (wX A cI v2.2 xn xm xk) H := hP
    obtain rfl := Option.some.inj hf
    exact W.iret (v := v2.1) hx hb hr (fun t ht hW => ⟨⟨v2.1, (), rfl, rfl, hPt ht hP⟩, hS.F ht⟩) hS.2.2 dX1_stay_15
  · have hf := hF hf c1
    refine lv_iload_n hx hb dX1_stay_4 rfl (lv_at hl 1 rfl) ?_
    refine lv_iconst (v := (1 : Int32)) hx hb dX1_stay_5 (by decide) ?_
    refine lv_icmp_le (tgt := 16) hx hb dX1_stay_6 (by decide) (fun c3 => ?_) (fun c3 => ?_)
    · have hf := hT hf c3
      refine lv_bipush (v := (-9 : Int32)) hx hb dX1_stay_16 (by decide) ?_
      refine lv_istore_n (lv' := [(2, .int (-9 : Int32)), (0, .ref ((A 0) 0)), (1, .int j1)]) hx hb dX1_stay_18 rfl hl (by decide) rfl (fun ls hl => ?_)
      refine lv_bipush (v := (-9 : Int32)) hx hb dX1_stay_19 (by decide) ?_
      refine lv_istore_n (lv' := [(3, .int (-9 : Int32)), (2, .int (-9 : Int32)), (0, .ref ((A 0) 0)), (1, .int j1)]) hx hb dX1_stay_21 rfl hl (by decide) rfl (fun ls hl => ?_)
      refine lv_iconst (v := (0 : Int32)) hx hb dX1_stay_22 (by decide) ?_
      refine lv_istore (lv' := [(4, .int (0 : Int32)), (3, .int (-9 : Int32)), (2, .int (-9 : Int32)), (0, .ref ((A 0) 0)), (1, .int j1)]) hx hb dX1_stay_23 hl (by decide) rfl (fun ls hl => ?_)
      obtain ⟨K96, hK96, hf⟩ := jnS hf
      have J96 : ∀ (j2_96 : Int32) (j3_96 : Int32) (xx_96 : HS) (xm_96 : HS) (H : Heap) (locs : List Loc) (ls : Array Slot), K96 j2_96 j3_96 xx_96 xm_96 = some out → va_P D vwCl (wX A cI xx_96 xn xm_96 xk) H → va_D G (wX A cI xx_96 xn xm_96 xk) → va_S G s.heap H locs → lv_has ls 6 [(1, .int j1), (2, .int j2_96), (3, .int j3_96)] → WW H locs (F0 m 96 ls []) := by
        intro j2_96 j3_96 xx_96 xm_96 H locs ls hf hP hD hS hl
        subst hK96
        refine (hWW _ _ _).mpr ?_
        refine lv_iload_n hx hb dX1_stay_96 rfl (lv_at hl 0 rfl) ?_
        refine lv_if_ne (tgt := 104) hx hb dX1_stay_97 (by decide) (fun c4 => ?_) (fun c4 => ?_)
        · have hf := hF hf c4
          refine lv_iload_n hx hb dX1_stay_104 rfl (lv_at hl 2 rfl) ?_
          obtain rfl := Option.some.inj hf
          exact W.iret (v := j3_96) hx hb hr (fun t ht hW => ⟨⟨j3_96, (), rfl, rfl, hPt ht hP⟩, hS.F ht⟩) hS.2.2 dX1_stay_105
        · have hf := hT hf c4
          refine lv_iload_n hx hb dX1_stay_100 rfl (lv_at hl 1 rfl) ?_
          refine lv_goto (tgt := 105) hx hb dX1_stay_101 (by decide) ?_
          obtain rfl := Option.some.inj hf
          exact W.iret (v := j2_96) hx hb hr (fun t ht hW => ⟨⟨j2_96, (), rfl, rfl, hPt ht hP⟩, hS.F ht⟩) hS.2.2 dX1_stay_105
      have P25 : ∀ (n' : Nat) (j2_25 : Int32) (j3_25 : Int32) (j4_25 : Int32) (xx_25 : HS) (xm_25 : HS) (H : Heap) (locs : List Loc) (ls : Array Slot), L_X1_stay_25 j1 xn xk K96 n' j2_25 j3_25 j4_25 xx_25 xm_25 = some out → va_P D vwCl (wX A cI xx_25 xn xm_25 xk) H → va_D G (wX A cI xx_25 xn xm_25 xk) → va_S G s.heap H locs → lv_has ls 6 [(0, .ref ((A 0) 0)), (1, .int j1), (2, .int j2_25), (3, .int j3_25), (4, .int j4_25)] → WW H locs (F0 m 25 ls []) := by
        intro n'
        induction n' with
        | zero => intro j2_25 j3_25 j4_25 xx_25 xm_25 H locs ls hf; exact absurd (show (none : Option (Int32 × HS × HS)) = some out from hf) (fun q => by cases q)
        | succ n' ih =>
          intro j2_25 j3_25 j4_25 xx_25 xm_25 H locs ls hf hP hD hS hl
          rw [L_X1_stay_25] at hf
          refine (hWW _ _ _).mpr ?_
          refine lv_iload hx hb dX1_stay_25 (lv_at hl 4 rfl) ?_
          refine lv_aload_n hx hb dX1_stay_27 rfl (lv_at hl 0 rfl) ?_
          refine va_get (D := D) (ci := 1) (v := .ref ((A 1) 0)) (C := RX1) (T := TX1) (N := 9) hx hb hts hinX hown hK hP 0 rfl rfl 0 (by decide) lk0 (fun _ h9 => h9) rfl dX1_stay_28 ?_
          refine va_getN (D := D) (ci := 0) (v := .int (xn 11 0)) (C := RX0) (T := TX0) (N := 13) hx hb hts hinH hown hK hP 1 rfl rfl 1 (by decide) (nW.f hN 1 rfl) (fun _ h9 => h9) rfl dX1_stay_31 ?_
          refine lv_icmp_ge (tgt := 96) hx hb dX1_stay_34 (by decide) (fun c5 => ?_) (fun c5 => ?_)
          · have hf := hT hf c5
            exact (hWW _ _ _).mp (J96 _ _ _ _ _ _ _ hf hP hD hS (lv_sub hl [1, 2, 3] rfl))
          · have hf := hF hf c5
            refine lv_aload_n hx hb dX1_stay_37 rfl (lv_at hl 0 rfl) ?_
            refine va_get (D := D) (ci := 1) (v := .ref ((A 2) 0)) (C := RX1) (T := TX1) (N := 9) hx hb hts hinX hown hK hP 0 rfl rfl 1 (by decide) lk1 (fun _ h9 => h9) rfl dX1_stay_38 ?_
            refine lv_aload_n hx hb dX1_stay_41 rfl (lv_at hl 0 rfl) ?_
            refine va_get (D := D) (ci := 1) (v := .ref ((A 1) 0)) (C := RX1) (T := TX1) (N := 9) hx hb hts hinX hown hK hP 0 rfl rfl 0 (by decide) lk0 (fun _ h9 => h9) rfl dX1_stay_42 ?_
            obtain ⟨v6, hev6, hf⟩ := bS hf
            refine qVN_v (ws' := (wX A cI xx_25 xn v6 xk)) (As := [.ref ((A 1) 0)]) (rest := []) ⟨hx, hb, hml, hown, hts⟩ hK hN hA hP hD hS (c_X0_become l D cI (A 2) (A 1) xm_25 xn v6 hev6) ⟨va_cnB 1 hts gX1_stay_X0_become_n47 rfl rfl rfl (nW.m hN 1 rfl) lk2 hd_X0_become.2 ⟨Nat.le_of_ble_eq_true rfl, Nat.le_of_ble_eq_true rfl⟩, lk3, lk4⟩ (va_recv hK hP (ci := 0) (q0 := 12) rfl rfl) (bp_X1_HH_mn_h A cI xx_25 xn xm_25 xk v6) rfl hl.1 rfl (Nat.le_of_ble_eq_true rfl) dX1_stay_45 ⟨Nat.le_of_ble_eq_true rfl, Nat.le_of_ble_eq_true rfl⟩ (fun H locs hP hD hS => ?_)
            have hP : va_P D vwCl (wX A cI xx_25 xn v6 xk) H := hP
            refine lv_aload_n hx hb dX1_stay_48 rfl (lv_at hl 0 rfl) ?_
            refine va_get (D := D) (ci := 1) (v := .ref ((A 2) 0)) (C := RX1) (T := TX1) (N := 9) hx hb hts hinX hown hK hP 0 rfl rfl 1 (by decide) lk1 (fun _ h9 => h9) rfl dX1_stay_49 ?_
            refine va_getN (D := D) (ci := 0) (v := .ref ((A 2) 9)) (C := RX0) (T := TX0) (N := 13) hx hb hts hinH hown hK hP 12 rfl rfl 11 (by decide) (nW.f hN 10 rfl) (fun _ h9 => h9) rfl dX1_stay_52 ?_
            refine lv_iload hx hb dX1_stay_55 (lv_at hl 4 rfl) ?_
            refine lv_iconst (v := (0 : Int32)) hx hb dX1_stay_57 (by decide) ?_
            obtain ⟨xm_v7, exm_v7, hf⟩ := jnS hf
            refine qS_v (ws' := (wX A cI xx_25 xn xm_v7 xk)) (As := [.ref ((A 2) 9), .int j4_25, .int (0 : Int32)]) (rest := []) ⟨hx, hb, hml, hown, hts⟩ hK hN hA hP hD hS (c_X1_put l D cI 6 (by decide) ((A 2) 9) (v6 8) j4_25 (0 : Int32)) (va_cwS 3 hts gX1_stay_X1_put rfl rfl rfl hd_X1_put.2 ⟨Nat.le_of_ble_eq_true rfl, Nat.le_of_ble_eq_true rfl⟩) ((bP_X1_m_8 A cI xx_25 xn v6 xk (ptv 6 (v6 8) j4_25 (0 : Int32)) _ exm_v7)) rfl hl.1 rfl (Nat.le_of_ble_eq_true rfl) dX1_stay_58 ⟨Nat.le_of_ble_eq_true rfl, Nat.le_of_ble_eq_true rfl⟩ (fun H locs hP hD hS => ?_)
            refine lv_aload_n hx hb dX1_stay_61 rfl (lv_at hl 0 rfl) ?_
            refine va_get (D := D) (ci := 1) (v := .ref ((A 2) 0)) (C := RX1) (T := TX1) (N := 9) hx hb hts hinX hown hK hP 0 rfl rfl 1 (by decide) lk1 (fun _ h9 => h9) rfl dX1_stay_62 ?_
            refine lv_iconst (v := (1 : Int32)) hx hb dX1_stay_65 (by decide) ?_
            refine lv_iconst (v := (1 : Int32)) hx hb dX1_stay_66 (by decide) ?_
            obtain ⟨v8, hev8, hf⟩ := bS hf
            refine qVN_i (ws' := (wX A cI xx_25 xn v8.2 xk)) (As := [.int (1 : Int32), .int (1 : Int32)]) (rest := []) ⟨hx, hb, hml, hown, hts⟩ hK hN hA hP hD hS (c_X0_goOn l D cI (A 2) (1 : Int32) (1 : Int32) xm_v7 v8 hev8) ⟨va_cnB 2 hts gX1_stay_X0_goOn_n97 rfl rfl rfl (nW.m hN 12 rfl) lk2 hd_X0_goOn.2 ⟨Nat.le_of_ble_eq_true rfl, Nat.le_of_ble_eq_true rfl⟩, lk5, lk6⟩ (va_recv hK hP (ci := 0) (q0 := 12) rfl rfl) (bp_X1_X0_m_h A cI xx_25 xn xm_v7 xk v8.2) rfl hl.1 rfl (Nat.le_of_ble_eq_true rfl) dX1_stay_67 ⟨Nat.le_of_ble_eq_true rfl, Nat.le_of_ble_eq_true rfl⟩ (fun H locs hP hD hS => ?_)
            have hP : va_P D vwCl (wX A cI xx_25 xn v8.2 xk) H := hP
            refine lv_istore (lv' := [(5, .int v8.1), (0, .ref ((A 0) 0)), (1, .int j1), (2, .int j2_25), (3, .int j3_25), (4, .int j4_25)]) hx hb dX1_stay_70 hl (by decide) rfl (fun ls hl => ?_)
            refine lv_iload_n hx hb dX1_stay_72 rfl (lv_at hl 3 rfl) ?_
            refine lv_bipush (v := (-9 : Int32)) hx hb dX1_stay_73 (by decide) ?_
            refine lv_icmp_eq (tgt := 84) hx hb dX1_stay_75 (by decide) (fun c9 => ?_) (fun c9 => ?_)
            · have hf := hT hf c9
              refine lv_iload hx hb dX1_stay_84 (lv_at hl 5 rfl) ?_
              refine lv_istore_n (lv' := [(2, .int j4_25), (5, .int v8.1), (0, .ref ((A 0) 0)), (1, .int j1), (3, .int j3_25), (4, .int j4_25)]) hx hb dX1_stay_86 rfl hl (by decide) rfl (fun ls hl => ?_)
              refine lv_iload hx hb dX1_stay_87 (lv_at hl 1 rfl) ?_
              refine lv_istore_n (lv' := [(3, .int v8.1), (2, .int j4_25), (5, .int v8.1), (0, .ref ((A 0) 0)), (1, .int j1), (4, .int j4_25)]) hx hb dX1_stay_89 rfl hl (by decide) rfl (fun ls hl => ?_)
              refine lv_iinc (v := (j4_25 + (1 : Int32))) (lv' := [(4, .int (j4_25 + (1 : Int32))), (3, .int v8.1), (2, .int j4_25), (5, .int v8.1), (0, .ref ((A 0) 0)), (1, .int j1)]) hx hb dX1_stay_90 hl (k := 5) rfl rfl (by decide) rfl (fun ls hl => ?_)
              refine lv_goto (tgt := 25) hx hb dX1_stay_93 (by decide) ?_
              exact (hWW _ _ _).mp (ih _ _ _ _ _ _ _ _ hf hP hD hS (lv_sub hl [4, 5, 2, 1, 0] rfl))
            · have hf := hF hf c9
              refine lv_iload hx hb dX1_stay_78 (lv_at hl 0 rfl) ?_
              refine lv_iload_n hx hb dX1_stay_80 rfl (lv_at hl 4 rfl) ?_
              refine lv_icmp_ge (tgt := 90) hx hb dX1_stay_81 (by decide) (fun c10 => ?_) (fun c10 => ?_)
              · have hf := hT hf c10
                refine lv_iinc (v := (j4_25 + (1 : Int32))) (lv' := [(4, .int (j4_25 + (1 : Int32))), (5, .int v8.1), (0, .ref ((A 0) 0)), (1, .int j1), (2, .int j2_25), (3, .int j3_25)]) hx hb dX1_stay_90 hl (k := 5) rfl rfl (by decide) rfl (fun ls hl => ?_)
                refine lv_goto (tgt := 25) hx hb dX1_stay_93 (by decide) ?_
                exact (hWW _ _ _).mp (ih _ _ _ _ _ _ _ _ hf hP hD hS (lv_sub hl [2, 3, 4, 5, 0] rfl))
              · have hf := hF hf c10
                refine lv_iload hx hb dX1_stay_84 (lv_at hl 5 rfl) ?_
                refine lv_istore_n (lv' := [(2, .int j4_25), (5, .int v8.1), (0, .ref ((A 0) 0)), (1, .int j1), (3, .int j3_25), (4, .int j4_25)]) hx hb dX1_stay_86 rfl hl (by decide) rfl (fun ls hl => ?_)
                refine lv_iload hx hb dX1_stay_87 (lv_at hl 1 rfl) ?_
                refine lv_istore_n (lv' := [(3, .int v8.1), (2, .int j4_25), (5, .int v8.1), (0, .ref ((A 0) 0)), (1, .int j1), (4, .int j4_25)]) hx hb dX1_stay_89 rfl hl (by decide) rfl (fun ls hl => ?_)
                refine lv_iinc (v := (j4_25 + (1 : Int32))) (lv' := [(4, .int (j4_25 + (1 : Int32))), (3, .int v8.1), (2, .int j4_25), (5, .int v8.1), (0, .ref ((A 0) 0)), (1, .int j1)]) hx hb dX1_stay_90 hl (k := 5) rfl rfl (by decide) rfl (fun ls hl => ?_)
                refine lv_goto (tgt := 25) hx hb dX1_stay_93 (by decide) ?_
                exact (hWW _ _ _).mp (ih _ _ _ _ _ _ _ _ hf hP hD hS (lv_sub hl [4, 5, 2, 1, 0] rfl))
      exact (hWW _ _ _).mp (P25 _ _ _ _ _ _ _ _ _ hf hP hD hS (lv_sub hl [3, 4, 2, 1, 0] rfl))
    · have hf := hF hf c3
      refine lv_aload_n hx hb dX1_stay_9 rfl (lv_at hl 0 rfl) ?_
      refine lv_bipush (v := (-2 : Int32)) hx hb dX1_stay_10 (by decide) ?_
      obtain ⟨v11, hev11, hf⟩ := bS hf
      refine qV_i (ws' := (wX A cI v11.2 xn xm xk)) (As := [.int (-2 : Int32)]) (rest := []) ⟨hx, hb, hml, hown, hts⟩ hK hN hA hP hD hS (c_X1_refuse l D cI A (-2 : Int32) xx xn xm xk v11 hev11) (cwV 1 hts gX1_stay_X1_refuse rfl rfl rfl hd_X1_refuse ⟨Nat.le_of_ble_eq_true rfl, Nat.le_of_ble_eq_true rfl⟩) (va_recv hK hP (ci := 1) (q0 := 0) rfl rfl) (bp_X1_X1_xnmk_x A cI xx xn xm xk v11.2) rfl hl.1 rfl (Nat.le_of_ble_eq_true rfl) dX1_stay_12 ⟨Nat.le_of_ble_eq_true rfl, Nat.le_of_ble_eq_true rfl⟩ (fun H locs hP hD hS => ?_)
      have hP : va_P D vwCl (wX A cI v11.2 xn xm xk) H := hP
      obtain rfl := Option.some.inj hf
      exact W.iret (v := v11.1) hx hb hr (fun t ht hW => ⟨⟨v11.1, (), rfl, rfl, hPt ht hP⟩, hS.F ht⟩) hS.2.2 dX1_stay_15
set_option maxHeartbeats 4000000 in
set_option maxRecDepth 100000 in
theorem c_X1_away (l : Launch) (D : va_G) (cI : ClassId) (j0 : Int32) (j1 : Int32) (out : Int32) (hf : f_X1_away j0 j1 = out) : uI l D cI yX1_away wsX1_away ({ frames := 0, cells := 0, slots := 0, locals := 0 } : Room) [.int j0, .int j1] [] [] out := by
  intro sz
  refine Met.ofW (cc := cX1_away) (maxL := 2) (ret := (some .int)) (by decide) rfl ?_
  intro p e s m args below meth c s₁ Bd hml hv
  obtain ⟨rfl, hsz, hP, hK, hD0, hN⟩ := hv
  have hx := Bd.exec
  have hb := Bd.bytes
  have hr := Bd.returns
  have hts := atoms_spec (ws := wsX1_away) Bd.pre
  have hown : s.vm.findClass RX1 = some m.cls := findClass_of_methodNamed Bd.named
  have hlocks := Bd.notSynchronized
  subst hsz
  have hD := hD0.self (sz := s.heap.size)
  generalize hAe : va_A [] s.heap.size = G at hD ⊢
  have hA : ∀ q : Nat, s.heap.size ≤ q → G q := fun q h => by rw [← hAe]; exact Or.inr h
  have hS : va_S G s.heap s.heap [] := va_S.rf
  have hP : va_P D vwCl [] s.heap := hP
  have hl := lv_entry ([.int j0, .int j1]) (n := 2) (Nat.le_of_ble_eq_true rfl)
  rw [lg_entry_eq]
  generalize (lg_sl ([.int j0, .int j1]) ++ List.replicate (2 - (lg_sl ([.int j0, .int j1])).length) Slot.unset).toArray = ls at hl ⊢
  have hl : lv_has ls 2 [(0, .int j0), (1, .int j1)] := hl
  refine W_in ?_
  intro WW hWW
  refine (hWW _ _ _).mpr ?_
  unfold f_X1_away at hf
  refine lv_iload_n hx hb dX1_away_0 rfl (lv_at hl 1 rfl) ?_
  refine lv_iconst (v := (1 : Int32)) hx hb dX1_away_1 (by decide) ?_
  refine lv_icmp_ne (tgt := 9) hx hb dX1_away_2 (by decide) (fun c1 => ?_) (fun c1 => ?_)
  · have hf := hF hf c1
    refine lv_iconst (v := (1 : Int32)) hx hb dX1_away_9 (by decide) ?_
    refine lv_iload_n hx hb dX1_away_10 rfl (lv_at hl 0 rfl) ?_
    refine lv_ishl hx hb dX1_away_11 ?_
    subst hf
    exact W.iret (v := ((1 : Int32) <<< (j0 &&& 31))) hx hb hr (fun t ht hW => ⟨⟨((1 : Int32) <<< (j0 &&& 31)), (), rfl, rfl, hPt ht hP⟩, hS.F ht⟩) hS.2.2 dX1_away_12
  · have hf := hT hf c1
    refine lv_iconst (v := (0 : Int32)) hx hb dX1_away_5 (by decide) ?_
    refine lv_goto (tgt := 12) hx hb dX1_away_6 (by decide) ?_
    subst hf
    exact W.iret (v := (0 : Int32)) hx hb hr (fun t ht hW => ⟨⟨(0 : Int32), (), rfl, rfl, hPt ht hP⟩, hS.F ht⟩) hS.2.2 dX1_away_12
set_option maxHeartbeats 4000000 in
set_option maxRecDepth 100000 in
theorem c_X1_two (l : Launch) (D : va_G) (cI : ClassId) (A : Nat → Nat → Nat) (j1 : Int32) (j2 : Int32) (j3 : Int32) (xx : HS) (xn : HS) (xm : HS) (xk : HS) (out : Int32 × HS) (hf : f_X1_two j1 j2 j3 xx xn xm xk = some out) : uI l D cI yX1_two wsX1_two ({ frames := 4, cells := 0, slots := 0, locals := 101 } : Room) [.ref ((A 0) 0), .int j1, .int j2, .int j3] (wX A cI xx xn xm xk) (wX A cI out.2 xn xm xk) out.1 := by
  intro sz
  refine Met.ofW (cc := cX1_two) (maxL := 8) (ret := (some .int)) (by decide) rfl ?_
  intro p e s m args below meth c s₁ Bd hml hv
  obtain ⟨rfl, hsz, hP, hK, hD0, hN⟩ := hv
  have hx := Bd.exec
  have hb := Bd.bytes
  have hr := Bd.returns
  have hts := atoms_spec (ws := wsX1_two) Bd.pre
  have hown : s.vm.findClass RX1 = some m.cls := findClass_of_methodNamed Bd.named
  have hlocks := Bd.notSynchronized
  subst hsz
  have hD := hD0.self (sz := s.heap.size)
  generalize hAe : va_A (wX A cI xx xn xm xk) s.heap.size = G at hD ⊢
  have hA : ∀ q : Nat, s.heap.size ≤ q → G q := fun q h => by rw [← hAe]; exact Or.inr h
  have hS : va_S G s.heap s.heap [] := va_S.rf
  have hP : va_P D vwCl (wX A cI xx xn xm xk) s.heap := hP
  have hl := lv_entry ([.ref ((A 0) 0), .int j1, .int j2, .int j3]) (n := 8) (Nat.le_of_ble_eq_true rfl)
  rw [lg_entry_eq]
  generalize (lg_sl ([.ref ((A 0) 0), .int j1, .int j2, .int j3]) ++ List.replicate (8 - (lg_sl ([.ref ((A 0) 0), .int j1, .int j2, .int j3])).length) Slot.unset).toArray = ls at hl ⊢
  have hl : lv_has ls 8 [(0, .ref ((A 0) 0)), (1, .int j1), (2, .int j2), (3, .int j3)] := hl
  have hinX : ∀ w ∈ wsX10, w ∈ wsX1_two := by decide +kernel
  have lk0 := hts (.fieldLink RX1 10 "LiesBoughtBack" "now" "LLiesBoughtBack$Hall;") (by decide +kernel)
  have lk1 := hts (.initialized RX0) (by decide +kernel)
  have lk2 := hts (.instanceMethod yX0_hasBidder) (by decide +kernel)
  have lk3 := hts (.selects RX0 yX0_hasBidder yX0_hasBidder) (by decide +kernel)
  have lk4 := hts (.instanceMethod yX0_hasCard) (by decide +kernel)
  have lk5 := hts (.selects RX0 yX0_hasCard yX0_hasCard) (by decide +kernel)
  have lk6 := hts (.instanceMethod yX0_inPile) (by decide +kernel)
  have lk7 := hts (.selects RX0 yX0_inPile yX0_inPile) (by decide +kernel)
  have lk8 := hts (.instanceMethod yX0_gain) (by decide +kernel)
  have lk9 := hts (.selects RX0 yX0_gain yX0_gain) (by decide +kernel)
  refine W_in ?_
  intro WW hWW
  refine (hWW _ _ _).mpr ?_
  unfold f_X1_two at hf
  refine lv_aload_n hx hb dX1_two_0 rfl (lv_at hl 0 rfl) ?_
  refine va_get (D := D) (ci := 1) (v := .ref ((A 1) 0)) (C := RX1) (T := TX1) (N := 9) hx hb hts hinX hown hK hP 0 rfl rfl 0 (by decide) lk0 (fun _ h9 => h9) rfl dX1_two_1 ?_
  refine lv_iload_n hx hb dX1_two_4 rfl (lv_at hl 1 rfl) ?_
  refine qVN_i (As := [.int j1]) (rest := []) ⟨hx, hb, hml, hown, hts⟩ hK hN hA hP hD hS (c_X0_hasBidder l D cI (A 1) j1 xn (f_X0_hasBidder j1 xn) rfl) ⟨va_cnB 1 hts gX1_two_X0_hasBidder_n59 rfl rfl rfl (nW.m hN 13 rfl) lk1 hd_X0_hasBidder.2 ⟨Nat.le_of_ble_eq_true rfl, Nat.le_of_ble_eq_true rfl⟩, lk2, lk3⟩ (va_recv hK hP (ci := 0) (q0 := 1) rfl rfl) (bq_X1_X0_n A cI xx xn xm xk) rfl hl.1 rfl (Nat.le_of_ble_eq_true rfl) dX1_two_5 ⟨Nat.le_of_ble_eq_true rfl, Nat.le_of_ble_eq_true rfl⟩ (fun H locs hP hD hS => ?_)
  refine lv_if_eq (tgt := 38) hx hb dX1_two_8 (by decide) (fun c1 => ?_) (fun c1 => ?_)
  · have hf := hT hf c1
    refine lv_aload_n hx hb dX1_two_38 rfl (lv_at hl 0 rfl) ?_
    refine lv_iconst (v := (-1 : Int32)) hx hb dX1_two_39 (by decide) ?_
    obtain ⟨v2, hev2, hf⟩ := bS hf
    refine qV_i (ws' := (wX A cI v2.2 xn xm xk)) (As := [.int (-1 : Int32)]) (rest := []) ⟨hx, hb, hml, hown, hts⟩ hK hN hA hP hD hS (c_X1_refuse l D cI A (-1 : Int32) xx xn xm xk v2 hev2) (cwV 1 hts gX1_two_X1_refuse rfl rfl rfl hd_X1_refuse ⟨Nat.le_of_ble_eq_true rfl, Nat.le_of_ble_eq_true rfl⟩) (va_recv hK hP (ci := 1) (q0 := 0) rfl rfl) (bp_X1_X1_xnmk_x A cI xx xn xm xk v2.2) rfl hl.1 rfl (Nat.le_of_ble_eq_true rfl) dX1_two_40 ⟨Nat.le_of_ble_eq_true rfl, Nat.le_of_ble_eq_true rfl⟩ (fun H locs hP hD hS => ?_)
    have hP : va_P D vwCl (wX A cI v2.2 xn xm xk) H := hP
    obtain rfl := Option.some.inj hf
    exact W.iret (v := v2.1) hx hb hr (fun t ht hW => ⟨⟨v2.1, (), rfl, rfl, hPt ht hP⟩, hS.F ht⟩) hS.2.2 dX1_two_43
  · have hf := hF hf c1
    refine lv_aload_n hx hb dX1_two_11 rfl (lv_at hl 0 rfl) ?_
    refine va_get (D := D) (ci := 1) (v := .ref ((A 1) 0)) (C := RX1) (T := TX1) (N := 9) hx hb hts hinX hown hK hP 0 rfl rfl 0 (by decide) lk0 (fun _ h9 => h9) rfl dX1_two_12 ?_
    refine lv_iload_n hx hb dX1_two_15 rfl (lv_at hl 2 rfl) ?_
    refine qVN_i (As := [.int j2]) (rest := []) ⟨hx, hb, hml, hown, hts⟩ hK hN hA hP hD hS (c_X0_hasBidder l D cI (A 1) j2 xn (f_X0_hasBidder j2 xn) rfl) ⟨va_cnB 1 hts gX1_two_X0_hasBidder_n59 rfl rfl rfl (nW.m hN 13 rfl) lk1 hd_X0_hasBidder.2 ⟨Nat.le_of_ble_eq_true rfl, Nat.le_of_ble_eq_true rfl⟩, lk2, lk3⟩ (va_recv hK hP (ci := 0) (q0 := 1) rfl rfl) (bq_X1_X0_n A cI xx xn xm xk) rfl hl.1 rfl (Nat.le_of_ble_eq_true rfl) dX1_two_16 ⟨Nat.le_of_ble_eq_true rfl, Nat.le_of_ble_eq_true rfl⟩ (fun H locs hP hD hS => ?_)
    refine lv_if_eq (tgt := 38) hx hb dX1_two_19 (by decide) (fun c3 => ?_) (fun c3 => ?_)
    · have hf := hT hf c3
      refine lv_aload_n hx hb dX1_two_38 rfl (lv_at hl 0 rfl) ?_
      refine lv_iconst (v := (-1 : Int32)) hx hb dX1_two_39 (by decide) ?_
      obtain ⟨v4, hev4, hf⟩ := bS hf
      refine qV_i (ws' := (wX A cI v4.2 xn xm xk)) (As := [.int (-1 : Int32)]) (rest := []) ⟨hx, hb, hml, hown, hts⟩ hK hN hA hP hD hS (c_X1_refuse l D cI A (-1 : Int32) xx xn xm xk v4 hev4) (cwV 1 hts gX1_two_X1_refuse rfl rfl rfl hd_X1_refuse ⟨Nat.le_of_ble_eq_true rfl, Nat.le_of_ble_eq_true rfl⟩) (va_recv hK hP (ci := 1) (q0 := 0) rfl rfl) (bp_X1_X1_xnmk_x A cI xx xn xm xk v4.2) rfl hl.1 rfl (Nat.le_of_ble_eq_true rfl) dX1_two_40 ⟨Nat.le_of_ble_eq_true rfl, Nat.le_of_ble_eq_true rfl⟩ (fun H locs hP hD hS => ?_)
      have hP : va_P D vwCl (wX A cI v4.2 xn xm xk) H := hP
      obtain rfl := Option.some.inj hf
      exact W.iret (v := v4.1) hx hb hr (fun t ht hW => ⟨⟨v4.1, (), rfl, rfl, hPt ht hP⟩, hS.F ht⟩) hS.2.2 dX1_two_43
    · have hf := hF hf c3
      refine lv_iload_n hx hb dX1_two_22 rfl (lv_at hl 1 rfl) ?_
      refine lv_iload_n hx hb dX1_two_23 rfl (lv_at hl 2 rfl) ?_
      refine lv_icmp_eq (tgt := 38) hx hb dX1_two_24 (by decide) (fun c5 => ?_) (fun c5 => ?_)
      · have hf := hT hf c5
        refine lv_aload_n hx hb dX1_two_38 rfl (lv_at hl 0 rfl) ?_
        refine lv_iconst (v := (-1 : Int32)) hx hb dX1_two_39 (by decide) ?_
        obtain ⟨v6, hev6, hf⟩ := bS hf
        refine qV_i (ws' := (wX A cI v6.2 xn xm xk)) (As := [.int (-1 : Int32)]) (rest := []) ⟨hx, hb, hml, hown, hts⟩ hK hN hA hP hD hS (c_X1_refuse l D cI A (-1 : Int32) xx xn xm xk v6 hev6) (cwV 1 hts gX1_two_X1_refuse rfl rfl rfl hd_X1_refuse ⟨Nat.le_of_ble_eq_true rfl, Nat.le_of_ble_eq_true rfl⟩) (va_recv hK hP (ci := 1) (q0 := 0) rfl rfl) (bp_X1_X1_xnmk_x A cI xx xn xm xk v6.2) rfl hl.1 rfl (Nat.le_of_ble_eq_true rfl) dX1_two_40 ⟨Nat.le_of_ble_eq_true rfl, Nat.le_of_ble_eq_true rfl⟩ (fun H locs hP hD hS => ?_)
        have hP : va_P D vwCl (wX A cI v6.2 xn xm xk) H := hP
        obtain rfl := Option.some.inj hf
        exact W.iret (v := v6.1) hx hb hr (fun t ht hW => ⟨⟨v6.1, (), rfl, rfl, hPt ht hP⟩, hS.F ht⟩) hS.2.2 dX1_two_43
      · have hf := hF hf c5
        refine lv_aload_n hx hb dX1_two_27 rfl (lv_at hl 0 rfl) ?_
        refine va_get (D := D) (ci := 1) (v := .ref ((A 1) 0)) (C := RX1) (T := TX1) (N := 9) hx hb hts hinX hown hK hP 0 rfl rfl 0 (by decide) lk0 (fun _ h9 => h9) rfl dX1_two_28 ?_
        refine lv_iload_n hx hb dX1_two_31 rfl (lv_at hl 3 rfl) ?_
        refine qVN_i (As := [.int j3]) (rest := []) ⟨hx, hb, hml, hown, hts⟩ hK hN hA hP hD hS (c_X0_hasCard l D cI (A 1) j3 xn (f_X0_hasCard j3 xn) rfl) ⟨va_cnB 1 hts gX1_two_X0_hasCard_n69 rfl rfl rfl (nW.m hN 14 rfl) lk1 hd_X0_hasCard.2 ⟨Nat.le_of_ble_eq_true rfl, Nat.le_of_ble_eq_true rfl⟩, lk4, lk5⟩ (va_recv hK hP (ci := 0) (q0 := 1) rfl rfl) (bq_X1_X0_n A cI xx xn xm xk) rfl hl.1 rfl (Nat.le_of_ble_eq_true rfl) dX1_two_32 ⟨Nat.le_of_ble_eq_true rfl, Nat.le_of_ble_eq_true rfl⟩ (fun H locs hP hD hS => ?_)
        refine lv_if_ne (tgt := 44) hx hb dX1_two_35 (by decide) (fun c7 => ?_) (fun c7 => ?_)
        · have hf := hF hf c7
          refine lv_aload_n hx hb dX1_two_44 rfl (lv_at hl 0 rfl) ?_
          refine va_get (D := D) (ci := 1) (v := .ref ((A 1) 0)) (C := RX1) (T := TX1) (N := 9) hx hb hts hinX hown hK hP 0 rfl rfl 0 (by decide) lk0 (fun _ h9 => h9) rfl dX1_two_45 ?_
          refine lv_iload_n hx hb dX1_two_48 rfl (lv_at hl 3 rfl) ?_
          refine qVN_i (As := [.int j3]) (rest := []) ⟨hx, hb, hml, hown, hts⟩ hK hN hA hP hD hS (c_X0_inPile l D cI (A 1) j3 xn (f_X0_inPile j3 xn) rfl) ⟨va_cnB 1 hts gX1_two_X0_inPile_n72 rfl rfl rfl (nW.m hN 15 rfl) lk1 hd_X0_inPile.2 ⟨Nat.le_of_ble_eq_true rfl, Nat.le_of_ble_eq_true rfl⟩, lk6, lk7⟩ (va_recv hK hP (ci := 0) (q0 := 1) rfl rfl) (bq_X1_X0_n A cI xx xn xm xk) rfl hl.1 rfl (Nat.le_of_ble_eq_true rfl) dX1_two_49 ⟨Nat.le_of_ble_eq_true rfl, Nat.le_of_ble_eq_true rfl⟩ (fun H locs hP hD hS => ?_)
          refine lv_if_ne (tgt := 62) hx hb dX1_two_52 (by decide) (fun c8 => ?_) (fun c8 => ?_)
          · have hf := hF hf c8
            refine lv_iconst (v := (0 : Int32)) hx hb dX1_two_62 (by decide) ?_
            refine lv_istore (lv' := [(4, .int (0 : Int32)), (0, .ref ((A 0) 0)), (1, .int j1), (2, .int j2), (3, .int j3)]) hx hb dX1_two_63 hl (by decide) rfl (fun ls hl => ?_)
            obtain ⟨K186, hK186, hf⟩ := jnS hf
            have J186 : ∀ (xx_186 : HS) (H : Heap) (locs : List Loc) (ls : Array Slot), K186 xx_186 = some out → va_P D vwCl (wX A cI xx_186 xn xm xk) H → va_D G (wX A cI xx_186 xn xm xk) → va_S G s.heap H locs → lv_has ls 8 [] → WW H locs (F0 m 186 ls []) := by
              intro xx_186 H locs ls hf hP hD hS hl
              subst hK186
              refine (hWW _ _ _).mpr ?_
              refine lv_bipush (v := (-9 : Int32)) hx hb dX1_two_186 (by decide) ?_
              obtain rfl := Option.some.inj hf
              exact W.iret (v := (-9 : Int32)) hx hb hr (fun t ht hW => ⟨⟨(-9 : Int32), (), rfl, rfl, hPt ht hP⟩, hS.F ht⟩) hS.2.2 dX1_two_188
            have P65 : ∀ (n' : Nat) (j4_65 : Int32) (xx_65 : HS) (H : Heap) (locs : List Loc) (ls : Array Slot), L_X1_two_65 j1 j2 j3 xn xm xk K186 n' j4_65 xx_65 = some out → va_P D vwCl (wX A cI xx_65 xn xm xk) H → va_D G (wX A cI xx_65 xn xm xk) → va_S G s.heap H locs → lv_has ls 8 [(0, .ref ((A 0) 0)), (1, .int j1), (2, .int j2), (3, .int j3), (4, .int j4_65)] → WW H locs (F0 m 65 ls []) := by
              intro n'
              induction n' with
              | zero => intro j4_65 xx_65 H locs ls hf; exact absurd (show (none : Option (Int32 × HS)) = some out from hf) (fun q => by cases q)
              | succ n' ih =>
                intro j4_65 xx_65 H locs ls hf hP hD hS hl
                rw [L_X1_two_65] at hf
                refine (hWW _ _ _).mpr ?_
                refine lv_iload hx hb dX1_two_65 (lv_at hl 4 rfl) ?_
                refine lv_iconst (v := (1 : Int32)) hx hb dX1_two_67 (by decide) ?_
                refine lv_icmp_gt (tgt := 186) hx hb dX1_two_68 (by decide) (fun c9 => ?_) (fun c9 => ?_)
                · have hf := hT hf c9
                  exact (hWW _ _ _).mp (J186 _ _ _ _ hf hP hD hS (lv_sub hl [] rfl))
                · have hf := hF hf c9
                  refine lv_iconst (v := (0 : Int32)) hx hb dX1_two_71 (by decide) ?_
                  refine lv_istore (lv' := [(5, .int (0 : Int32)), (0, .ref ((A 0) 0)), (1, .int j1), (2, .int j2), (3, .int j3), (4, .int j4_65)]) hx hb dX1_two_72 hl (by decide) rfl (fun ls hl => ?_)
                  obtain ⟨K180, hK180, hf⟩ := jnS hf
                  have J180 : ∀ (j4_180 : Int32) (xx_180 : HS) (H : Heap) (locs : List Loc) (ls : Array Slot), K180 j4_180 xx_180 = some out → va_P D vwCl (wX A cI xx_180 xn xm xk) H → va_D G (wX A cI xx_180 xn xm xk) → va_S G s.heap H locs → lv_has ls 8 [(0, .ref ((A 0) 0)), (1, .int j1), (2, .int j2), (3, .int j3), (4, .int j4_180)] → WW H locs (F0 m 180 ls []) := by
                    intro j4_180 xx_180 H locs ls hf hP hD hS hl
                    subst hK180
                    refine (hWW _ _ _).mpr ?_
                    refine lv_iinc (v := (j4_180 + (1 : Int32))) (lv' := [(4, .int (j4_180 + (1 : Int32))), (0, .ref ((A 0) 0)), (1, .int j1), (2, .int j2), (3, .int j3)]) hx hb dX1_two_180 hl (k := 4) rfl rfl (by decide) rfl (fun ls hl => ?_)
                    refine lv_goto (tgt := 65) hx hb dX1_two_183 (by decide) ?_
                    exact (hWW _ _ _).mp (ih _ _ _ _ _ hf hP hD hS (lv_sub hl [1, 2, 3, 4, 0] rfl))
                  have P74 : ∀ (n' : Nat) (j4_74 : Int32) (j5_74 : Int32) (xx_74 : HS) (H : Heap) (locs : List Loc) (ls : Array Slot), L_X1_two_74 j1 j2 j3 xn xm xk K180 n' j4_74 j5_74 xx_74 = some out → va_P D vwCl (wX A cI xx_74 xn xm xk) H → va_D G (wX A cI xx_74 xn xm xk) → va_S G s.heap H locs → lv_has ls 8 [(0, .ref ((A 0) 0)), (1, .int j1), (2, .int j2), (3, .int j3), (4, .int j4_74), (5, .int j5_74)] → WW H locs (F0 m 74 ls []) := by
                    intro n'
                    induction n' with
                    | zero => intro j4_74 j5_74 xx_74 H locs ls hf; exact absurd (show (none : Option (Int32 × HS)) = some out from hf) (fun q => by cases q)
                    | succ n' ih =>
                      intro j4_74 j5_74 xx_74 H locs ls hf hP hD hS hl
                      rw [L_X1_two_74] at hf
                      refine (hWW _ _ _).mpr ?_
                      refine lv_iload hx hb dX1_two_74 (lv_at hl 5 rfl) ?_
                      refine lv_iconst (v := (1 : Int32)) hx hb dX1_two_76 (by decide) ?_
                      refine lv_icmp_gt (tgt := 180) hx hb dX1_two_77 (by decide) (fun c10 => ?_) (fun c10 => ?_)
                      · have hf := hT hf c10
                        exact (hWW _ _ _).mp (J180 _ _ _ _ _ hf hP hD hS (lv_sub hl [0, 1, 2, 3, 4] rfl))
                      · have hf := hF hf c10
                        refine lv_iload_n hx hb dX1_two_80 rfl (lv_at hl 1 rfl) ?_
                        refine lv_iload hx hb dX1_two_81 (lv_at hl 4 rfl) ?_
                        refine qS_i (As := [.int j1, .int j4_74]) (rest := []) ⟨hx, hb, hml, hown, hts⟩ hK hN hA hP hD hS (c_X1_away l D cI j1 j4_74 (f_X1_away j1 j4_74) rfl) (va_cwS 2 hts gX1_two_X1_away rfl rfl rfl hd_X1_away.2 ⟨Nat.le_of_ble_eq_true rfl, Nat.le_of_ble_eq_true rfl⟩) Bp_e rfl hl.1 rfl (Nat.le_of_ble_eq_true rfl) dX1_two_83 ⟨Nat.le_of_ble_eq_true rfl, Nat.le_of_ble_eq_true rfl⟩ (fun H locs hP hD hS => ?_)
                        refine lv_iload_n hx hb dX1_two_86 rfl (lv_at hl 2 rfl) ?_
                        refine lv_iload hx hb dX1_two_87 (lv_at hl 5 rfl) ?_
                        refine qS_i (As := [.int j2, .int j5_74]) (rest := [.int (f_X1_away j1 j4_74)]) ⟨hx, hb, hml, hown, hts⟩ hK hN hA hP hD hS (c_X1_away l D cI j2 j5_74 (f_X1_away j2 j5_74) rfl) (va_cwS 2 hts gX1_two_X1_away rfl rfl rfl hd_X1_away.2 ⟨Nat.le_of_ble_eq_true rfl, Nat.le_of_ble_eq_true rfl⟩) Bp_e rfl hl.1 rfl (Nat.le_of_ble_eq_true rfl) dX1_two_89 ⟨Nat.le_of_ble_eq_true rfl, Nat.le_of_ble_eq_true rfl⟩ (fun H locs hP hD hS => ?_)
                        refine lv_ior hx hb dX1_two_92 ?_
                        refine lv_istore (lv' := [(6, .int ((f_X1_away j1 j4_74) ||| (f_X1_away j2 j5_74))), (0, .ref ((A 0) 0)), (1, .int j1), (2, .int j2), (3, .int j3), (4, .int j4_74), (5, .int j5_74)]) hx hb dX1_two_93 hl (by decide) rfl (fun ls hl => ?_)
                        refine lv_aload_n hx hb dX1_two_95 rfl (lv_at hl 1 rfl) ?_
                        refine va_get (D := D) (ci := 1) (v := .ref ((A 1) 0)) (C := RX1) (T := TX1) (N := 9) hx hb hts hinX hown hK hP 0 rfl rfl 0 (by decide) lk0 (fun _ h9 => h9) rfl dX1_two_96 ?_
                        refine lv_iload_n hx hb dX1_two_99 rfl (lv_at hl 2 rfl) ?_
                        refine lv_iload_n hx hb dX1_two_100 rfl (lv_at hl 4 rfl) ?_
                        refine lv_iload hx hb dX1_two_101 (lv_at hl 0 rfl) ?_
                        obtain ⟨v11, hev11, hf⟩ := bS hf
                        refine qVN_i (As := [.int j1, .int j3, .int ((f_X1_away j1 j4_74) ||| (f_X1_away j2 j5_74))]) (rest := []) ⟨hx, hb, hml, hown, hts⟩ hK hN hA hP hD hS (c_X0_gain l D cI (A 1) j1 j3 ((f_X1_away j1 j4_74) ||| (f_X1_away j2 j5_74)) xn v11 hev11) ⟨va_cnB 3 hts gX1_two_X0_gain_n204 rfl rfl rfl (nW.m hN 36 rfl) lk1 hd_X0_gain.2 ⟨Nat.le_of_ble_eq_true rfl, Nat.le_of_ble_eq_true rfl⟩, lk8, lk9⟩ (va_recv hK hP (ci := 0) (q0 := 1) rfl rfl) (bq_X1_X0_n A cI xx_74 xn xm xk) rfl hl.1 rfl (Nat.le_of_ble_eq_true rfl) dX1_two_103 ⟨Nat.le_of_ble_eq_true rfl, Nat.le_of_ble_eq_true rfl⟩ (fun H locs hP hD hS => ?_)
                        refine lv_aload_n hx hb dX1_two_106 rfl (lv_at hl 1 rfl) ?_
                        refine va_get (D := D) (ci := 1) (v := .ref ((A 1) 0)) (C := RX1) (T := TX1) (N := 9) hx hb hts hinX hown hK hP 0 rfl rfl 0 (by decide) lk0 (fun _ h9 => h9) rfl dX1_two_107 ?_
                        refine lv_iload_n hx hb dX1_two_110 rfl (lv_at hl 2 rfl) ?_
                        refine lv_iload_n hx hb dX1_two_111 rfl (lv_at hl 4 rfl) ?_
                        refine lv_iload hx hb dX1_two_112 (lv_at hl 0 rfl) ?_
                        refine lv_iconst (v := (1 : Int32)) hx hb dX1_two_114 (by decide) ?_
                        refine lv_iload_n hx hb dX1_two_115 rfl (lv_at hl 2 rfl) ?_
                        refine lv_ishl hx hb dX1_two_116 ?_
                        refine lv_ixor hx hb dX1_two_117 ?_
                        obtain ⟨v12, hev12, hf⟩ := bS hf
                        refine qVN_i (As := [.int j1, .int j3, .int (((f_X1_away j1 j4_74) ||| (f_X1_away j2 j5_74)) ^^^ ((1 : Int32) <<< (j1 &&& 31)))]) (rest := [.int v11]) ⟨hx, hb, hml, hown, hts⟩ hK hN hA hP hD hS (c_X0_gain l D cI (A 1) j1 j3 (((f_X1_away j1 j4_74) ||| (f_X1_away j2 j5_74)) ^^^ ((1 : Int32) <<< (j1 &&& 31))) xn v12 hev12) ⟨va_cnB 3 hts gX1_two_X0_gain_n204 rfl rfl rfl (nW.m hN 36 rfl) lk1 hd_X0_gain.2 ⟨Nat.le_of_ble_eq_true rfl, Nat.le_of_ble_eq_true rfl⟩, lk8, lk9⟩ (va_recv hK hP (ci := 0) (q0 := 1) rfl rfl) (bq_X1_X0_n A cI xx_74 xn xm xk) rfl hl.1 rfl (Nat.le_of_ble_eq_true rfl) dX1_two_118 ⟨Nat.le_of_ble_eq_true rfl, Nat.le_of_ble_eq_true rfl⟩ (fun H locs hP hD hS => ?_)
                        obtain ⟨K157, hK157, hf⟩ := jnS hf
                        have J157 : ∀ (j4_157 : Int32) (j5_157 : Int32) (xx_157 : HS) (H : Heap) (locs : List Loc) (ls : Array Slot), K157 j4_157 j5_157 xx_157 = some out → va_P D vwCl (wX A cI xx_157 xn xm xk) H → va_D G (wX A cI xx_157 xn xm xk) → va_S G s.heap H locs → lv_has ls 8 [(0, .ref ((A 0) 0)), (1, .int j1), (2, .int j2), (3, .int j3), (4, .int j4_157), (5, .int j5_157)] → WW H locs (F0 m 157 ls []) := by
                          intro j4_157 j5_157 xx_157 H locs ls hf hP hD hS hl
                          subst hK157
                          refine (hWW _ _ _).mpr ?_
                          refine lv_iconst (v := (0 : Int32)) hx hb dX1_two_157 (by decide) ?_
                          refine lv_istore (lv' := [(7, .int (0 : Int32)), (0, .ref ((A 0) 0)), (1, .int j1), (2, .int j2), (3, .int j3), (4, .int j4_157), (5, .int j5_157)]) hx hb dX1_two_158 hl (by decide) rfl (fun ls hl => ?_)
                          refine lv_iload hx hb dX1_two_160 (lv_at hl 0 rfl) ?_
                          refine lv_if_eq (tgt := 174) hx hb dX1_two_162 (by decide) (fun c13 => ?_) (fun c13 => ?_)
                          · refine lv_iinc (v := (j5_157 + (1 : Int32))) (lv' := [(5, .int (j5_157 + (1 : Int32))), (7, .int (0 : Int32)), (0, .ref ((A 0) 0)), (1, .int j1), (2, .int j2), (3, .int j3), (4, .int j4_157)]) hx hb dX1_two_174 hl (k := 6) rfl rfl (by decide) rfl (fun ls hl => ?_)
                            refine lv_goto (tgt := 74) hx hb dX1_two_177 (by decide) ?_
                            exact (hWW _ _ _).mp (ih _ _ _ _ _ _ hf hP hD hS (lv_sub hl [2, 3, 4, 5, 6, 0] rfl))
                          · exact absurd c13 (by decide)
                        refine lv_icmp_lt (tgt := 157) hx hb dX1_two_121 (by decide) (fun c14 => ?_) (fun c14 => ?_)
                        · have hf := hT hf c14
                          exact (hWW _ _ _).mp (J157 _ _ _ _ _ _ hf hP hD hS (lv_sub hl [1, 2, 3, 4, 5, 6] rfl))
                        · have hf := hF hf c14
                          refine lv_aload_n hx hb dX1_two_124 rfl (lv_at hl 1 rfl) ?_
                          refine va_get (D := D) (ci := 1) (v := .ref ((A 1) 0)) (C := RX1) (T := TX1) (N := 9) hx hb hts hinX hown hK hP 0 rfl rfl 0 (by decide) lk0 (fun _ h9 => h9) rfl dX1_two_125 ?_
                          refine lv_iload_n hx hb dX1_two_128 rfl (lv_at hl 3 rfl) ?_
                          refine lv_iload_n hx hb dX1_two_129 rfl (lv_at hl 4 rfl) ?_
                          refine lv_iload hx hb dX1_two_130 (lv_at hl 0 rfl) ?_
                          obtain ⟨v15, hev15, hf⟩ := bS hf
                          refine qVN_i (As := [.int j2, .int j3, .int ((f_X1_away j1 j4_74) ||| (f_X1_away j2 j5_74))]) (rest := []) ⟨hx, hb, hml, hown, hts⟩ hK hN hA hP hD hS (c_X0_gain l D cI (A 1) j2 j3 ((f_X1_away j1 j4_74) ||| (f_X1_away j2 j5_74)) xn v15 hev15) ⟨va_cnB 3 hts gX1_two_X0_gain_n204 rfl rfl rfl (nW.m hN 36 rfl) lk1 hd_X0_gain.2 ⟨Nat.le_of_ble_eq_true rfl, Nat.le_of_ble_eq_true rfl⟩, lk8, lk9⟩ (va_recv hK hP (ci := 0) (q0 := 1) rfl rfl) (bq_X1_X0_n A cI xx_74 xn xm xk) rfl hl.1 rfl (Nat.le_of_ble_eq_true rfl) dX1_two_132 ⟨Nat.le_of_ble_eq_true rfl, Nat.le_of_ble_eq_true rfl⟩ (fun H locs hP hD hS => ?_)
                          refine lv_aload_n hx hb dX1_two_135 rfl (lv_at hl 1 rfl) ?_
                          refine va_get (D := D) (ci := 1) (v := .ref ((A 1) 0)) (C := RX1) (T := TX1) (N := 9) hx hb hts hinX hown hK hP 0 rfl rfl 0 (by decide) lk0 (fun _ h9 => h9) rfl dX1_two_136 ?_
                          refine lv_iload_n hx hb dX1_two_139 rfl (lv_at hl 3 rfl) ?_
                          refine lv_iload_n hx hb dX1_two_140 rfl (lv_at hl 4 rfl) ?_
                          refine lv_iload hx hb dX1_two_141 (lv_at hl 0 rfl) ?_
                          refine lv_iconst (v := (1 : Int32)) hx hb dX1_two_143 (by decide) ?_
                          refine lv_iload_n hx hb dX1_two_144 rfl (lv_at hl 3 rfl) ?_
                          refine lv_ishl hx hb dX1_two_145 ?_
                          refine lv_ixor hx hb dX1_two_146 ?_
                          obtain ⟨v16, hev16, hf⟩ := bS hf
                          refine qVN_i (As := [.int j2, .int j3, .int (((f_X1_away j1 j4_74) ||| (f_X1_away j2 j5_74)) ^^^ ((1 : Int32) <<< (j2 &&& 31)))]) (rest := [.int v15]) ⟨hx, hb, hml, hown, hts⟩ hK hN hA hP hD hS (c_X0_gain l D cI (A 1) j2 j3 (((f_X1_away j1 j4_74) ||| (f_X1_away j2 j5_74)) ^^^ ((1 : Int32) <<< (j2 &&& 31))) xn v16 hev16) ⟨va_cnB 3 hts gX1_two_X0_gain_n204 rfl rfl rfl (nW.m hN 36 rfl) lk1 hd_X0_gain.2 ⟨Nat.le_of_ble_eq_true rfl, Nat.le_of_ble_eq_true rfl⟩, lk8, lk9⟩ (va_recv hK hP (ci := 0) (q0 := 1) rfl rfl) (bq_X1_X0_n A cI xx_74 xn xm xk) rfl hl.1 rfl (Nat.le_of_ble_eq_true rfl) dX1_two_147 ⟨Nat.le_of_ble_eq_true rfl, Nat.le_of_ble_eq_true rfl⟩ (fun H locs hP hD hS => ?_)
                          refine lv_icmp_lt (tgt := 157) hx hb dX1_two_150 (by decide) (fun c17 => ?_) (fun c17 => ?_)
                          · have hf := hT hf c17
                            exact (hWW _ _ _).mp (J157 _ _ _ _ _ _ hf hP hD hS (lv_sub hl [1, 2, 3, 4, 5, 6] rfl))
                          · have hf := hF hf c17
                            refine lv_iconst (v := (1 : Int32)) hx hb dX1_two_153 (by decide) ?_
                            refine lv_goto (tgt := 158) hx hb dX1_two_154 (by decide) ?_
                            refine lv_istore (lv' := [(7, .int (1 : Int32)), (6, .int ((f_X1_away j1 j4_74) ||| (f_X1_away j2 j5_74))), (0, .ref ((A 0) 0)), (1, .int j1), (2, .int j2), (3, .int j3), (4, .int j4_74), (5, .int j5_74)]) hx hb dX1_two_158 hl (by decide) rfl (fun ls hl => ?_)
                            refine lv_iload hx hb dX1_two_160 (lv_at hl 0 rfl) ?_
                            refine lv_if_eq (tgt := 174) hx hb dX1_two_162 (by decide) (fun c18 => ?_) (fun c18 => ?_)
                            · exact absurd c18 (by decide)
                            · refine lv_bipush (v := (10 : Int32)) hx hb dX1_two_165 (by decide) ?_
                              refine lv_iload hx hb dX1_two_167 (lv_at hl 6 rfl) ?_
                              refine lv_imul hx hb dX1_two_169 ?_
                              refine lv_iload hx hb dX1_two_170 (lv_at hl 7 rfl) ?_
                              refine lv_iadd hx hb dX1_two_172 ?_
                              obtain rfl := Option.some.inj hf
                              exact W.iret (v := (((10 : Int32) * j4_74) + j5_74)) hx hb hr (fun t ht hW => ⟨⟨(((10 : Int32) * j4_74) + j5_74), (), rfl, rfl, hPt ht hP⟩, hS.F ht⟩) hS.2.2 dX1_two_173
                  exact (hWW _ _ _).mp (P74 _ _ _ _ _ _ _ hf hP hD hS (lv_sub hl [1, 2, 3, 4, 5, 0] rfl))
            exact (hWW _ _ _).mp (P65 _ _ _ _ _ _ hf hP hD hS (lv_sub hl [1, 2, 3, 4, 0] rfl))
          · have hf := hT hf c8
            refine lv_aload_n hx hb dX1_two_55 rfl (lv_at hl 0 rfl) ?_
            refine lv_bipush (v := (-3 : Int32)) hx hb dX1_two_56 (by decide) ?_
            obtain ⟨v19, hev19, hf⟩ := bS hf
            refine qV_i (ws' := (wX A cI v19.2 xn xm xk)) (As := [.int (-3 : Int32)]) (rest := []) ⟨hx, hb, hml, hown, hts⟩ hK hN hA hP hD hS (c_X1_refuse l D cI A (-3 : Int32) xx xn xm xk v19 hev19) (cwV 1 hts gX1_two_X1_refuse rfl rfl rfl hd_X1_refuse ⟨Nat.le_of_ble_eq_true rfl, Nat.le_of_ble_eq_true rfl⟩) (va_recv hK hP (ci := 1) (q0 := 0) rfl rfl) (bp_X1_X1_xnmk_x A cI xx xn xm xk v19.2) rfl hl.1 rfl (Nat.le_of_ble_eq_true rfl) dX1_two_58 ⟨Nat.le_of_ble_eq_true rfl, Nat.le_of_ble_eq_true rfl⟩ (fun H locs hP hD hS => ?_)
            have hP : va_P D vwCl (wX A cI v19.2 xn xm xk) H := hP
            obtain rfl := Option.some.inj hf
            exact W.iret (v := v19.1) hx hb hr (fun t ht hW => ⟨⟨v19.1, (), rfl, rfl, hPt ht hP⟩, hS.F ht⟩) hS.2.2 dX1_two_61
        · have hf := hT hf c7
          refine lv_aload_n hx hb dX1_two_38 rfl (lv_at hl 0 rfl) ?_
          refine lv_iconst (v := (-1 : Int32)) hx hb dX1_two_39 (by decide) ?_
          obtain ⟨v20, hev20, hf⟩ := bS hf
          refine qV_i (ws' := (wX A cI v20.2 xn xm xk)) (As := [.int (-1 : Int32)]) (rest := []) ⟨hx, hb, hml, hown, hts⟩ hK hN hA hP hD hS (c_X1_refuse l D cI A (-1 : Int32) xx xn xm xk v20 hev20) (cwV 1 hts gX1_two_X1_refuse rfl rfl rfl hd_X1_refuse ⟨Nat.le_of_ble_eq_true rfl, Nat.le_of_ble_eq_true rfl⟩) (va_recv hK hP (ci := 1) (q0 := 0) rfl rfl) (bp_X1_X1_xnmk_x A cI xx xn xm xk v20.2) rfl hl.1 rfl (Nat.le_of_ble_eq_true rfl) dX1_two_40 ⟨Nat.le_of_ble_eq_true rfl, Nat.le_of_ble_eq_true rfl⟩ (fun H locs hP hD hS => ?_)
          have hP : va_P D vwCl (wX A cI v20.2 xn xm xk) H := hP
          obtain rfl := Option.some.inj hf
          exact W.iret (v := v20.1) hx hb hr (fun t ht hW => ⟨⟨v20.1, (), rfl, rfl, hPt ht hP⟩, hS.F ht⟩) hS.2.2 dX1_two_43
set_option maxHeartbeats 4000000 in
set_option maxRecDepth 100000 in
theorem c_X1_row (l : Launch) (D : va_G) (cI : ClassId) (A : Nat → Nat → Nat) (j1 : Int32) (xx : HS) (xn : HS) (xm : HS) (xk : HS) (out : Int32 × HS) (hf : f_X1_row j1 xx xn xm xk = some out) : uI l D cI yX1_row wsX1_row ({ frames := 2, cells := 0, slots := 0, locals := 43 } : Room) [.ref ((A 0) 0), .int j1] (wX A cI xx xn xm xk) (wX A cI out.2 xn xm xk) out.1 := by
  intro sz
  refine Met.ofW (cc := cX1_row) (maxL := 2) (ret := (some .int)) (by decide) rfl ?_
  intro p e s m args below meth c s₁ Bd hml hv
  obtain ⟨rfl, hsz, hP, hK, hD0, hN⟩ := hv
  have hx := Bd.exec
  have hb := Bd.bytes
  have hr := Bd.returns
  have hts := atoms_spec (ws := wsX1_row) Bd.pre
  have hown : s.vm.findClass RX1 = some m.cls := findClass_of_methodNamed Bd.named
  have hlocks := Bd.notSynchronized
  subst hsz
  have hD := hD0.self (sz := s.heap.size)
  generalize hAe : va_A (wX A cI xx xn xm xk) s.heap.size = G at hD ⊢
  have hA : ∀ q : Nat, s.heap.size ≤ q → G q := fun q h => by rw [← hAe]; exact Or.inr h
  have hS : va_S G s.heap s.heap [] := va_S.rf
  have hP : va_P D vwCl (wX A cI xx xn xm xk) s.heap := hP
  have hl := lv_entry ([.ref ((A 0) 0), .int j1]) (n := 2) (Nat.le_of_ble_eq_true rfl)
  rw [lg_entry_eq]
  generalize (lg_sl ([.ref ((A 0) 0), .int j1]) ++ List.replicate (2 - (lg_sl ([.ref ((A 0) 0), .int j1])).length) Slot.unset).toArray = ls at hl ⊢
  have hl : lv_has ls 2 [(0, .ref ((A 0) 0)), (1, .int j1)] := hl
  have hinX : ∀ w ∈ wsX10, w ∈ wsX1_row := by decide +kernel
  have lk0 := hts (.fieldLink RX1 177 "LiesBoughtBack" "numberCount" "I") (by decide +kernel)
  have lk1 := hts (.fieldLink RX1 26 "LiesBoughtBack" "numbers" "[I") (by decide +kernel)
  refine W_in ?_
  intro WW hWW
  refine (hWW _ _ _).mpr ?_
  unfold f_X1_row at hf
  refine lv_iload_n hx hb dX1_row_0 rfl (lv_at hl 1 rfl) ?_
  refine lv_if_ge (tgt := 11) hx hb dX1_row_1 (by decide) (fun c1 => ?_) (fun c1 => ?_)
  · have hf := hT hf c1
    refine lv_iload_n hx hb dX1_row_11 rfl (lv_at hl 1 rfl) ?_
    refine lv_bipush (v := (99 : Int32)) hx hb dX1_row_12 (by decide) ?_
    refine lv_icmp_gt (tgt := 26) hx hb dX1_row_14 (by decide) (fun c2 => ?_) (fun c2 => ?_)
    · have hf := hT hf c2
      refine lv_aload_n hx hb dX1_row_26 rfl (lv_at hl 0 rfl) ?_
      refine lv_bipush (v := (-6 : Int32)) hx hb dX1_row_27 (by decide) ?_
      obtain ⟨v3, hev3, hf⟩ := bS hf
      refine qV_i (ws' := (wX A cI v3.2 xn xm xk)) (As := [.int (-6 : Int32)]) (rest := []) ⟨hx, hb, hml, hown, hts⟩ hK hN hA hP hD hS (c_X1_refuse l D cI A (-6 : Int32) xx xn xm xk v3 hev3) (cwV 1 hts gX1_row_X1_refuse rfl rfl rfl hd_X1_refuse ⟨Nat.le_of_ble_eq_true rfl, Nat.le_of_ble_eq_true rfl⟩) (va_recv hK hP (ci := 1) (q0 := 0) rfl rfl) (bp_X1_X1_xnmk_x A cI xx xn xm xk v3.2) rfl hl.1 rfl (Nat.le_of_ble_eq_true rfl) dX1_row_29 ⟨Nat.le_of_ble_eq_true rfl, Nat.le_of_ble_eq_true rfl⟩ (fun H locs hP hD hS => ?_)
      have hP : va_P D vwCl (wX A cI v3.2 xn xm xk) H := hP
      obtain rfl := Option.some.inj hf
      exact W.iret (v := v3.1) hx hb hr (fun t ht hW => ⟨⟨v3.1, (), rfl, rfl, hPt ht hP⟩, hS.F ht⟩) hS.2.2 dX1_row_32
    · have hf := hF hf c2
      refine lv_aload_n hx hb dX1_row_17 rfl (lv_at hl 0 rfl) ?_
      refine va_get (D := D) (ci := 1) (v := .int (xx 5 0)) (C := RX1) (T := TX1) (N := 9) hx hb hts hinX hown hK hP 0 rfl rfl 7 (by decide) lk0 (fun _ h9 => h9) rfl dX1_row_18 ?_
      refine lv_bipush (v := (16 : Int32)) hx hb dX1_row_21 (by decide) ?_
      refine lv_icmp_lt (tgt := 33) hx hb dX1_row_23 (by decide) (fun c4 => ?_) (fun c4 => ?_)
      · have hf := hT hf c4
        refine lv_aload_n hx hb dX1_row_33 rfl (lv_at hl 0 rfl) ?_
        refine va_get (D := D) (ci := 1) (v := .ref ((A 0) 2)) (C := RX1) (T := TX1) (N := 9) hx hb hts hinX hown hK hP 0 rfl rfl 6 (by decide) lk1 (fun _ h9 => h9) rfl dX1_row_34 ?_
        refine lv_aload_n hx hb dX1_row_37 rfl (lv_at hl 0 rfl) ?_
        refine va_get (D := D) (ci := 1) (v := .int (xx 5 0)) (C := RX1) (T := TX1) (N := 9) hx hb hts hinX hown hK hP 0 rfl rfl 7 (by decide) lk0 (fun _ h9 => h9) rfl dX1_row_38 ?_
        refine lv_iload_n hx hb dX1_row_41 rfl (lv_at hl 1 rfl) ?_
        obtain ⟨xx_v5, exx_v5, hf⟩ := jnS hf
        refine qS_v (ws' := (wX A cI xx_v5 xn xm xk)) (As := [.ref ((A 0) 2), .int (xx 5 0), .int j1]) (rest := []) ⟨hx, hb, hml, hown, hts⟩ hK hN hA hP hD hS (c_X1_put l D cI 16 (by decide) ((A 0) 2) (xx 1) (xx 5 0) j1) (va_cwS 3 hts gX1_row_X1_put rfl rfl rfl hd_X1_put.2 ⟨Nat.le_of_ble_eq_true rfl, Nat.le_of_ble_eq_true rfl⟩) ((bP_X1_x_1 A cI xx xn xm xk (ptv 16 (xx 1) (xx 5 0) j1) _ exx_v5)) rfl hl.1 rfl (Nat.le_of_ble_eq_true rfl) dX1_row_42 ⟨Nat.le_of_ble_eq_true rfl, Nat.le_of_ble_eq_true rfl⟩ (fun H locs hP hD hS => ?_)
        refine lv_aload_n hx hb dX1_row_45 rfl (lv_at hl 0 rfl) ?_
        refine lv_dup hx hb dX1_row_46 rfl ?_
        refine va_get (D := D) (ci := 1) (v := .int (xx_v5 5 0)) (C := RX1) (T := TX1) (N := 9) hx hb hts hinX hown hK hP 0 rfl rfl 7 (by decide) lk0 (fun _ h9 => h9) rfl dX1_row_47 ?_
        refine lv_iconst (v := (1 : Int32)) hx hb dX1_row_50 (by decide) ?_
        refine lv_iadd hx hb dX1_row_51 ?_
        obtain ⟨xx_v6, exx_v6, hf⟩ := jnS hf
        refine va_put (D := D) (ci := 1) (v := .int ((xx_v5 5 0) + (1 : Int32))) (ty := .int) (C := RX1) (T := TX1) (N := 9) hx hb hts hinX tyX1 tyX1_ok nmX1 hown hK hP hD hS 0 rfl rfl 7 (by decide) lk0 (fun _ h9 => h9) rfl (by decide +kernel) rfl rfl (Nat.le_of_ble_eq_true rfl) dX1_row_52 (fun H locs hP hD hS => ?_)
        have hE : _ = (wX A cI xx_v6 xn xm xk) := ((sf_X1_x_5 A cI xx_v5 xn xm xk ((xx_v5 5 0) + (1 : Int32))).trans (congrArg (fun z => wX A cI z xn xm xk) exx_v6.symm))
        have hP : va_P D vwCl (wX A cI xx_v6 xn xm xk) H := hE ▸ hP
        have hD : va_D G (wX A cI xx_v6 xn xm xk) := hE ▸ hD
        refine lv_aload_n hx hb dX1_row_55 rfl (lv_at hl 0 rfl) ?_
        refine va_get (D := D) (ci := 1) (v := .int (xx_v6 5 0)) (C := RX1) (T := TX1) (N := 9) hx hb hts hinX hown hK hP 0 rfl rfl 7 (by decide) lk0 (fun _ h9 => h9) rfl dX1_row_56 ?_
        obtain rfl := Option.some.inj hf
        exact W.iret (v := (xx_v6 5 0)) hx hb hr (fun t ht hW => ⟨⟨(xx_v6 5 0), (), rfl, rfl, hPt ht hP⟩, hS.F ht⟩) hS.2.2 dX1_row_59
      · have hf := hF hf c4
        refine lv_aload_n hx hb dX1_row_26 rfl (lv_at hl 0 rfl) ?_
        refine lv_bipush (v := (-6 : Int32)) hx hb dX1_row_27 (by decide) ?_
        obtain ⟨v7, hev7, hf⟩ := bS hf
        refine qV_i (ws' := (wX A cI v7.2 xn xm xk)) (As := [.int (-6 : Int32)]) (rest := []) ⟨hx, hb, hml, hown, hts⟩ hK hN hA hP hD hS (c_X1_refuse l D cI A (-6 : Int32) xx xn xm xk v7 hev7) (cwV 1 hts gX1_row_X1_refuse rfl rfl rfl hd_X1_refuse ⟨Nat.le_of_ble_eq_true rfl, Nat.le_of_ble_eq_true rfl⟩) (va_recv hK hP (ci := 1) (q0 := 0) rfl rfl) (bp_X1_X1_xnmk_x A cI xx xn xm xk v7.2) rfl hl.1 rfl (Nat.le_of_ble_eq_true rfl) dX1_row_29 ⟨Nat.le_of_ble_eq_true rfl, Nat.le_of_ble_eq_true rfl⟩ (fun H locs hP hD hS => ?_)
        have hP : va_P D vwCl (wX A cI v7.2 xn xm xk) H := hP
        obtain rfl := Option.some.inj hf
        exact W.iret (v := v7.1) hx hb hr (fun t ht hW => ⟨⟨v7.1, (), rfl, rfl, hPt ht hP⟩, hS.F ht⟩) hS.2.2 dX1_row_32
  · have hf := hF hf c1
    refine lv_aload_n hx hb dX1_row_4 rfl (lv_at hl 0 rfl) ?_
    refine lv_bipush (v := (-4 : Int32)) hx hb dX1_row_5 (by decide) ?_
    obtain ⟨v8, hev8, hf⟩ := bS hf
    refine qV_i (ws' := (wX A cI v8.2 xn xm xk)) (As := [.int (-4 : Int32)]) (rest := []) ⟨hx, hb, hml, hown, hts⟩ hK hN hA hP hD hS (c_X1_refuse l D cI A (-4 : Int32) xx xn xm xk v8 hev8) (cwV 1 hts gX1_row_X1_refuse rfl rfl rfl hd_X1_refuse ⟨Nat.le_of_ble_eq_true rfl, Nat.le_of_ble_eq_true rfl⟩) (va_recv hK hP (ci := 1) (q0 := 0) rfl rfl) (bp_X1_X1_xnmk_x A cI xx xn xm xk v8.2) rfl hl.1 rfl (Nat.le_of_ble_eq_true rfl) dX1_row_7 ⟨Nat.le_of_ble_eq_true rfl, Nat.le_of_ble_eq_true rfl⟩ (fun H locs hP hD hS => ?_)
    have hP : va_P D vwCl (wX A cI v8.2 xn xm xk) H := hP
    obtain rfl := Option.some.inj hf
    exact W.iret (v := v8.1) hx hb hr (fun t ht hW => ⟨⟨v8.1, (), rfl, rfl, hPt ht hP⟩, hS.F ht⟩) hS.2.2 dX1_row_10
set_option maxHeartbeats 4000000 in
set_option maxRecDepth 100000 in
theorem c_X1_clear (l : Launch) (D : va_G) (cI : ClassId) (A : Nat → Nat → Nat) (xx : HS) (xn : HS) (xm : HS) (xk : HS) (out : Int32 × HS) (hf : f_X1_clear xx xn xm xk = some out) : uI l D cI yX1_clear wsX1_clear ({ frames := 0, cells := 0, slots := 0, locals := 0 } : Room) [.ref ((A 0) 0)] (wX A cI xx xn xm xk) (wX A cI out.2 xn xm xk) out.1 := by
  intro sz
  refine Met.ofW (cc := cX1_clear) (maxL := 2) (ret := (some .int)) (by decide) rfl ?_
  intro p e s m args below meth c s₁ Bd hml hv
  obtain ⟨rfl, hsz, hP, hK, hD0, hN⟩ := hv
  have hx := Bd.exec
  have hb := Bd.bytes
  have hr := Bd.returns
  have hts := atoms_spec (ws := wsX1_clear) Bd.pre
  have hown : s.vm.findClass RX1 = some m.cls := findClass_of_methodNamed Bd.named
  have hlocks := Bd.notSynchronized
  subst hsz
  have hD := hD0.self (sz := s.heap.size)
  generalize hAe : va_A (wX A cI xx xn xm xk) s.heap.size = G at hD ⊢
  have hA : ∀ q : Nat, s.heap.size ≤ q → G q := fun q h => by rw [← hAe]; exact Or.inr h
  have hS : va_S G s.heap s.heap [] := va_S.rf
  have hP : va_P D vwCl (wX A cI xx xn xm xk) s.heap := hP
  have hl := lv_entry ([.ref ((A 0) 0)]) (n := 2) (Nat.le_of_ble_eq_true rfl)
  rw [lg_entry_eq]
  generalize (lg_sl ([.ref ((A 0) 0)]) ++ List.replicate (2 - (lg_sl ([.ref ((A 0) 0)])).length) Slot.unset).toArray = ls at hl ⊢
  have hl : lv_has ls 2 [(0, .ref ((A 0) 0))] := hl
  have hinX : ∀ w ∈ wsX10, w ∈ wsX1_clear := by decide +kernel
  have lk0 := hts (.fieldLink RX1 177 "LiesBoughtBack" "numberCount" "I") (by decide +kernel)
  refine W_in ?_
  intro WW hWW
  refine (hWW _ _ _).mpr ?_
  unfold f_X1_clear at hf
  refine lv_aload_n hx hb dX1_clear_0 rfl (lv_at hl 0 rfl) ?_
  refine va_get (D := D) (ci := 1) (v := .int (xx 5 0)) (C := RX1) (T := TX1) (N := 9) hx hb hts hinX hown hK hP 0 rfl rfl 7 (by decide) lk0 (fun _ h9 => h9) rfl dX1_clear_1 ?_
  refine lv_istore_n (lv' := [(1, .int (xx 5 0)), (0, .ref ((A 0) 0))]) hx hb dX1_clear_4 rfl hl (by decide) rfl (fun ls hl => ?_)
  refine lv_aload_n hx hb dX1_clear_5 rfl (lv_at hl 1 rfl) ?_
  refine lv_iconst (v := (0 : Int32)) hx hb dX1_clear_6 (by decide) ?_
  obtain ⟨xx_v1, exx_v1, hf⟩ := jnS hf
  refine va_put (D := D) (ci := 1) (v := .int (0 : Int32)) (ty := .int) (C := RX1) (T := TX1) (N := 9) hx hb hts hinX tyX1 tyX1_ok nmX1 hown hK hP hD hS 0 rfl rfl 7 (by decide) lk0 (fun _ h9 => h9) rfl (by decide +kernel) rfl rfl (Nat.le_of_ble_eq_true rfl) dX1_clear_7 (fun H locs hP hD hS => ?_)
  have hE : _ = (wX A cI xx_v1 xn xm xk) := ((sf_X1_x_5 A cI xx xn xm xk (0 : Int32)).trans (congrArg (fun z => wX A cI z xn xm xk) exx_v1.symm))
  have hP : va_P D vwCl (wX A cI xx_v1 xn xm xk) H := hE ▸ hP
  have hD : va_D G (wX A cI xx_v1 xn xm xk) := hE ▸ hD
  refine lv_iload_n hx hb dX1_clear_10 rfl (lv_at hl 0 rfl) ?_
  obtain rfl := Option.some.inj hf
  exact W.iret (v := (xx 5 0)) hx hb hr (fun t ht hW => ⟨⟨(xx 5 0), (), rfl, rfl, hPt ht hP⟩, hS.F ht⟩) hS.2.2 dX1_clear_11
set_option maxHeartbeats 4000000 in
set_option maxRecDepth 100000 in
theorem c_X1_judge (l : Launch) (D : va_G) (cI : ClassId) (A : Nat → Nat → Nat) (xx : HS) (xn : HS) (xm : HS) (xk : HS) (out : Int32 × HS) (hf : f_X1_judge xx xn xm xk = some out) : uI l D cI yX1_judge wsX1_judge ({ frames := 2, cells := 0, slots := 0, locals := 44 } : Room) [.ref ((A 0) 0)] (wX A cI xx xn xm xk) (wX A cI out.2 xn xm xk) out.1 := by
  intro sz
  refine Met.ofW (cc := cX1_judge) (maxL := 3) (ret := (some .int)) (by decide) rfl ?_
  intro p e s m args below meth c s₁ Bd hml hv
  obtain ⟨rfl, hsz, hP, hK, hD0, hN⟩ := hv
  have hx := Bd.exec
  have hb := Bd.bytes
  have hr := Bd.returns
  have hts := atoms_spec (ws := wsX1_judge) Bd.pre
  have hown : s.vm.findClass RX1 = some m.cls := findClass_of_methodNamed Bd.named
  have hlocks := Bd.notSynchronized
  subst hsz
  have hD := hD0.self (sz := s.heap.size)
  generalize hAe : va_A (wX A cI xx xn xm xk) s.heap.size = G at hD ⊢
  have hA : ∀ q : Nat, s.heap.size ≤ q → G q := fun q h => by rw [← hAe]; exact Or.inr h
  have hS : va_S G s.heap s.heap [] := va_S.rf
  have hP : va_P D vwCl (wX A cI xx xn xm xk) s.heap := hP
  have hl := lv_entry ([.ref ((A 0) 0)]) (n := 3) (Nat.le_of_ble_eq_true rfl)
  rw [lg_entry_eq]
  generalize (lg_sl ([.ref ((A 0) 0)]) ++ List.replicate (3 - (lg_sl ([.ref ((A 0) 0)])).length) Slot.unset).toArray = ls at hl ⊢
  have hl : lv_has ls 3 [(0, .ref ((A 0) 0))] := hl
  have hinX : ∀ w ∈ wsX10, w ∈ wsX1_judge := by decide +kernel
  have lk0 := hts (.fieldLink RX1 177 "LiesBoughtBack" "numberCount" "I") (by decide +kernel)
  have lk1 := hts (.fieldLink RX1 10 "LiesBoughtBack" "now" "LLiesBoughtBack$Hall;") (by decide +kernel)
  have lk2 := hts (.initialized RX0) (by decide +kernel)
  have lk3 := hts (.instanceMethod yX0_hasCard) (by decide +kernel)
  have lk4 := hts (.selects RX0 yX0_hasCard yX0_hasCard) (by decide +kernel)
  have lk5 := hts (.instanceMethod yX0_worth) (by decide +kernel)
  have lk6 := hts (.selects RX0 yX0_worth yX0_worth) (by decide +kernel)
  have lk7 := hts (.fieldLink RX1 26 "LiesBoughtBack" "numbers" "[I") (by decide +kernel)
  refine W_in ?_
  intro WW hWW
  refine (hWW _ _ _).mpr ?_
  unfold f_X1_judge at hf
  refine lv_bipush (v := (-9 : Int32)) hx hb dX1_judge_0 (by decide) ?_
  refine lv_istore_n (lv' := [(1, .int (-9 : Int32)), (0, .ref ((A 0) 0))]) hx hb dX1_judge_2 rfl hl (by decide) rfl (fun ls hl => ?_)
  refine lv_iconst (v := (0 : Int32)) hx hb dX1_judge_3 (by decide) ?_
  refine lv_istore_n (lv' := [(2, .int (0 : Int32)), (1, .int (-9 : Int32)), (0, .ref ((A 0) 0))]) hx hb dX1_judge_4 rfl hl (by decide) rfl (fun ls hl => ?_)
  obtain ⟨K57, hK57, hf⟩ := jnS hf
  have J57 : ∀ (j1_57 : Int32) (xx_57 : HS) (H : Heap) (locs : List Loc) (ls : Array Slot), K57 j1_57 xx_57 = some out → va_P D vwCl (wX A cI xx_57 xn xm xk) H → va_D G (wX A cI xx_57 xn xm xk) → va_S G s.heap H locs → lv_has ls 3 [(0, .ref ((A 0) 0)), (1, .int j1_57)] → WW H locs (F0 m 57 ls []) := by
    intro j1_57 xx_57 H locs ls hf hP hD hS hl
    subst hK57
    refine (hWW _ _ _).mpr ?_
    refine lv_aload_n hx hb dX1_judge_57 rfl (lv_at hl 0 rfl) ?_
    refine lv_iconst (v := (0 : Int32)) hx hb dX1_judge_58 (by decide) ?_
    obtain ⟨xx_v1, exx_v1, hf⟩ := jnS hf
    refine va_put (D := D) (ci := 1) (v := .int (0 : Int32)) (ty := .int) (C := RX1) (T := TX1) (N := 9) hx hb hts hinX tyX1 tyX1_ok nmX1 hown hK hP hD hS 0 rfl rfl 7 (by decide) lk0 (fun _ h9 => h9) rfl (by decide +kernel) rfl rfl (Nat.le_of_ble_eq_true rfl) dX1_judge_59 (fun H locs hP hD hS => ?_)
    have hE : _ = (wX A cI xx_v1 xn xm xk) := ((sf_X1_x_5 A cI xx_57 xn xm xk (0 : Int32)).trans (congrArg (fun z => wX A cI z xn xm xk) exx_v1.symm))
    have hP : va_P D vwCl (wX A cI xx_v1 xn xm xk) H := hE ▸ hP
    have hD : va_D G (wX A cI xx_v1 xn xm xk) := hE ▸ hD
    refine lv_iload_n hx hb dX1_judge_62 rfl (lv_at hl 1 rfl) ?_
    obtain rfl := Option.some.inj hf
    exact W.iret (v := j1_57) hx hb hr (fun t ht hW => ⟨⟨j1_57, (), rfl, rfl, hPt ht hP⟩, hS.F ht⟩) hS.2.2 dX1_judge_63
  have P5 : ∀ (n' : Nat) (j1_5 : Int32) (j2_5 : Int32) (xx_5 : HS) (H : Heap) (locs : List Loc) (ls : Array Slot), L_X1_judge_5 xn xm xk K57 n' j1_5 j2_5 xx_5 = some out → va_P D vwCl (wX A cI xx_5 xn xm xk) H → va_D G (wX A cI xx_5 xn xm xk) → va_S G s.heap H locs → lv_has ls 3 [(0, .ref ((A 0) 0)), (1, .int j1_5), (2, .int j2_5)] → WW H locs (F0 m 5 ls []) := by
    intro n'
    induction n' with
    | zero => intro j1_5 j2_5 xx_5 H locs ls hf; exact absurd (show (none : Option (Int32 × HS)) = some out from hf) (fun q => by cases q)
    | succ n' ih =>
      intro j1_5 j2_5 xx_5 H locs ls hf hP hD hS hl
      rw [L_X1_judge_5] at hf
      refine (hWW _ _ _).mpr ?_
      refine lv_iload_n hx hb dX1_judge_5 rfl (lv_at hl 2 rfl) ?_
      refine lv_aload_n hx hb dX1_judge_6 rfl (lv_at hl 0 rfl) ?_
      refine va_get (D := D) (ci := 1) (v := .int (xx_5 5 0)) (C := RX1) (T := TX1) (N := 9) hx hb hts hinX hown hK hP 0 rfl rfl 7 (by decide) lk0 (fun _ h9 => h9) rfl dX1_judge_7 ?_
      refine lv_icmp_ge (tgt := 57) hx hb dX1_judge_10 (by decide) (fun c2 => ?_) (fun c2 => ?_)
      · have hf := hT hf c2
        exact (hWW _ _ _).mp (J57 _ _ _ _ _ hf hP hD hS (lv_sub hl [0, 1] rfl))
      · have hf := hF hf c2
        refine lv_iload_n hx hb dX1_judge_13 rfl (lv_at hl 1 rfl) ?_
        refine lv_bipush (v := (-9 : Int32)) hx hb dX1_judge_14 (by decide) ?_
        refine lv_icmp_ne (tgt := 57) hx hb dX1_judge_16 (by decide) (fun c3 => ?_) (fun c3 => ?_)
        · have hf := hF hf c3
          exact (hWW _ _ _).mp (J57 _ _ _ _ _ hf hP hD hS (lv_sub hl [0, 1] rfl))
        · have hf := hT hf c3
          refine lv_aload_n hx hb dX1_judge_19 rfl (lv_at hl 0 rfl) ?_
          refine va_get (D := D) (ci := 1) (v := .ref ((A 1) 0)) (C := RX1) (T := TX1) (N := 9) hx hb hts hinX hown hK hP 0 rfl rfl 0 (by decide) lk1 (fun _ h9 => h9) rfl dX1_judge_20 ?_
          refine lv_iload_n hx hb dX1_judge_23 rfl (lv_at hl 2 rfl) ?_
          refine qVN_i (As := [.int j2_5]) (rest := []) ⟨hx, hb, hml, hown, hts⟩ hK hN hA hP hD hS (c_X0_hasCard l D cI (A 1) j2_5 xn (f_X0_hasCard j2_5 xn) rfl) ⟨va_cnB 1 hts gX1_judge_X0_hasCard_n69 rfl rfl rfl (nW.m hN 14 rfl) lk2 hd_X0_hasCard.2 ⟨Nat.le_of_ble_eq_true rfl, Nat.le_of_ble_eq_true rfl⟩, lk3, lk4⟩ (va_recv hK hP (ci := 0) (q0 := 1) rfl rfl) (bq_X1_X0_n A cI xx_5 xn xm xk) rfl hl.1 rfl (Nat.le_of_ble_eq_true rfl) dX1_judge_24 ⟨Nat.le_of_ble_eq_true rfl, Nat.le_of_ble_eq_true rfl⟩ (fun H locs hP hD hS => ?_)
          refine lv_if_eq (tgt := 49) hx hb dX1_judge_27 (by decide) (fun c4 => ?_) (fun c4 => ?_)
          · have hf := hT hf c4
            refine lv_iload_n hx hb dX1_judge_49 rfl (lv_at hl 2 rfl) ?_
            refine lv_istore_n (lv' := [(1, .int j2_5), (0, .ref ((A 0) 0)), (2, .int j2_5)]) hx hb dX1_judge_50 rfl hl (by decide) rfl (fun ls hl => ?_)
            refine lv_iinc (v := (j2_5 + (1 : Int32))) (lv' := [(2, .int (j2_5 + (1 : Int32))), (1, .int j2_5), (0, .ref ((A 0) 0))]) hx hb dX1_judge_51 hl (k := 2) rfl rfl (by decide) rfl (fun ls hl => ?_)
            refine lv_goto (tgt := 5) hx hb dX1_judge_54 (by decide) ?_
            exact (hWW _ _ _).mp (ih _ _ _ _ _ _ hf hP hD hS (lv_sub hl [2, 1, 0] rfl))
          · have hf := hF hf c4
            refine lv_aload_n hx hb dX1_judge_30 rfl (lv_at hl 0 rfl) ?_
            refine va_get (D := D) (ci := 1) (v := .ref ((A 1) 0)) (C := RX1) (T := TX1) (N := 9) hx hb hts hinX hown hK hP 0 rfl rfl 0 (by decide) lk1 (fun _ h9 => h9) rfl dX1_judge_31 ?_
            refine lv_iload_n hx hb dX1_judge_34 rfl (lv_at hl 2 rfl) ?_
            refine qVN_i (As := [.int j2_5]) (rest := []) ⟨hx, hb, hml, hown, hts⟩ hK hN hA hP hD hS (c_X0_worth l D cI (A 1) j2_5 xn (f_X0_worth j2_5 xn) rfl) ⟨va_cnB 1 hts gX1_judge_X0_worth_n117 rfl rfl rfl (nW.m hN 19 rfl) lk2 hd_X0_worth.2 ⟨Nat.le_of_ble_eq_true rfl, Nat.le_of_ble_eq_true rfl⟩, lk5, lk6⟩ (va_recv hK hP (ci := 0) (q0 := 1) rfl rfl) (bq_X1_X0_n A cI xx_5 xn xm xk) rfl hl.1 rfl (Nat.le_of_ble_eq_true rfl) dX1_judge_35 ⟨Nat.le_of_ble_eq_true rfl, Nat.le_of_ble_eq_true rfl⟩ (fun H locs hP hD hS => ?_)
            refine lv_aload_n hx hb dX1_judge_38 rfl (lv_at hl 0 rfl) ?_
            refine va_get (D := D) (ci := 1) (v := .ref ((A 0) 2)) (C := RX1) (T := TX1) (N := 9) hx hb hts hinX hown hK hP 0 rfl rfl 6 (by decide) lk7 (fun _ h9 => h9) rfl dX1_judge_39 ?_
            refine lv_iload_n hx hb dX1_judge_42 rfl (lv_at hl 2 rfl) ?_
            refine qS_i (As := [.ref ((A 0) 2), .int j2_5]) (rest := [.int (f_X0_worth j2_5 xn)]) ⟨hx, hb, hml, hown, hts⟩ hK hN hA hP hD hS (c_X1_at l D cI 16 (by decide) ((A 0) 2) (xx_5 1) j2_5) (va_cwS 2 hts gX1_judge_X1_at rfl rfl rfl hd_X1_at.2 ⟨Nat.le_of_ble_eq_true rfl, Nat.le_of_ble_eq_true rfl⟩) (bA_X1_x_1 A cI xx_5 xn xm xk) rfl hl.1 rfl (Nat.le_of_ble_eq_true rfl) dX1_judge_43 ⟨Nat.le_of_ble_eq_true rfl, Nat.le_of_ble_eq_true rfl⟩ (fun H locs hP hD hS => ?_)
            refine lv_icmp_eq (tgt := 51) hx hb dX1_judge_46 (by decide) (fun c5 => ?_) (fun c5 => ?_)
            · have hf := hT hf c5
              refine lv_iinc (v := (j2_5 + (1 : Int32))) (lv' := [(2, .int (j2_5 + (1 : Int32))), (0, .ref ((A 0) 0)), (1, .int j1_5)]) hx hb dX1_judge_51 hl (k := 2) rfl rfl (by decide) rfl (fun ls hl => ?_)
              refine lv_goto (tgt := 5) hx hb dX1_judge_54 (by decide) ?_
              exact (hWW _ _ _).mp (ih _ _ _ _ _ _ hf hP hD hS (lv_sub hl [1, 2, 0] rfl))
            · have hf := hF hf c5
              refine lv_iload_n hx hb dX1_judge_49 rfl (lv_at hl 2 rfl) ?_
              refine lv_istore_n (lv' := [(1, .int j2_5), (0, .ref ((A 0) 0)), (2, .int j2_5)]) hx hb dX1_judge_50 rfl hl (by decide) rfl (fun ls hl => ?_)
              refine lv_iinc (v := (j2_5 + (1 : Int32))) (lv' := [(2, .int (j2_5 + (1 : Int32))), (1, .int j2_5), (0, .ref ((A 0) 0))]) hx hb dX1_judge_51 hl (k := 2) rfl rfl (by decide) rfl (fun ls hl => ?_)
              refine lv_goto (tgt := 5) hx hb dX1_judge_54 (by decide) ?_
              exact (hWW _ _ _).mp (ih _ _ _ _ _ _ hf hP hD hS (lv_sub hl [2, 1, 0] rfl))
  exact (hWW _ _ _).mp (P5 _ _ _ _ _ _ _ hf hP hD hS (lv_sub hl [2, 1, 0] rfl))
set_option maxHeartbeats 4000000 in
set_option maxRecDepth 100000 in
theorem c_X1_rowTellsHolders (l : Launch) (D : va_G) (cI : ClassId) (A : Nat → Nat → Nat) (xx : HS) (xn : HS) (xm : HS) (xk : HS) (out : Int32) (hf : f_X1_rowTellsHolders xx xn xm xk = some out) : uI l D cI yX1_rowTellsHolders wsX1_rowTellsHolders ({ frames := 2, cells := 0, slots := 0, locals := 42 } : Room) [.ref ((A 0) 0)] (wX A cI xx xn xm xk) (wX A cI xx xn xm xk) out := by
  intro sz
  refine Met.ofW (cc := cX1_rowTellsHolders) (maxL := 3) (ret := (some .boolean)) (by decide) rfl ?_
  intro p e s m args below meth c s₁ Bd hml hv
  obtain ⟨rfl, hsz, hP, hK, hD0, hN⟩ := hv
  have hx := Bd.exec
  have hb := Bd.bytes
  have hr := Bd.returns
  have hts := atoms_spec (ws := wsX1_rowTellsHolders) Bd.pre
  have hown : s.vm.findClass RX1 = some m.cls := findClass_of_methodNamed Bd.named
  have hlocks := Bd.notSynchronized
  subst hsz
  have hD := hD0.self (sz := s.heap.size)
  generalize hAe : va_A (wX A cI xx xn xm xk) s.heap.size = G at hD ⊢
  have hA : ∀ q : Nat, s.heap.size ≤ q → G q := fun q h => by rw [← hAe]; exact Or.inr h
  have hS : va_S G s.heap s.heap [] := va_S.rf
  have hP : va_P D vwCl (wX A cI xx xn xm xk) s.heap := hP
  have hl := lv_entry ([.ref ((A 0) 0)]) (n := 3) (Nat.le_of_ble_eq_true rfl)
  rw [lg_entry_eq]
  generalize (lg_sl ([.ref ((A 0) 0)]) ++ List.replicate (3 - (lg_sl ([.ref ((A 0) 0)])).length) Slot.unset).toArray = ls at hl ⊢
  have hl : lv_has ls 3 [(0, .ref ((A 0) 0))] := hl
  have hinH : ∀ w ∈ wsX00, w ∈ wsX1_rowTellsHolders := by decide +kernel
  have hinX : ∀ w ∈ wsX10, w ∈ wsX1_rowTellsHolders := by decide +kernel
  have lk0 := hts (.fieldLink RX1 177 "LiesBoughtBack" "numberCount" "I") (by decide +kernel)
  have lk1 := hts (.fieldLink RX1 16 "LiesBoughtBack" "mind" "LLiesBoughtBack$Hall;") (by decide +kernel)
  have lk2 := hts (.initialized RX0) (by decide +kernel)
  have lk3 := hts (.instanceMethod yX0_inPile) (by decide +kernel)
  have lk4 := hts (.selects RX0 yX0_inPile yX0_inPile) (by decide +kernel)
  have lk5 := hts (.instanceMethod yX0_hasCard) (by decide +kernel)
  have lk6 := hts (.selects RX0 yX0_hasCard yX0_hasCard) (by decide +kernel)
  have lk7 := hts (.fieldLink RX1 26 "LiesBoughtBack" "numbers" "[I") (by decide +kernel)
  refine W_in ?_
  intro WW hWW
  refine (hWW _ _ _).mpr ?_
  unfold f_X1_rowTellsHolders at hf
  refine lv_iconst (v := (0 : Int32)) hx hb dX1_rowTellsHolders_0 (by decide) ?_
  refine lv_istore_n (lv' := [(1, .int (0 : Int32)), (0, .ref ((A 0) 0))]) hx hb dX1_rowTellsHolders_1 rfl hl (by decide) rfl (fun ls hl => ?_)
  obtain ⟨K69, hK69, hf⟩ := jnS hf
  have J69 : ∀  (H : Heap) (locs : List Loc) (ls : Array Slot), K69 = some out → va_P D vwCl (wX A cI xx xn xm xk) H → va_D G (wX A cI xx xn xm xk) → va_S G s.heap H locs → lv_has ls 3 [] → WW H locs (F0 m 69 ls []) := by
    intro  H locs ls hf hP hD hS hl
    subst hK69
    refine (hWW _ _ _).mpr ?_
    refine lv_iconst (v := (1 : Int32)) hx hb dX1_rowTellsHolders_69 (by decide) ?_
    obtain rfl := Option.some.inj hf
    exact W.zret (ty := .boolean) (v := (1 : Int32)) hx hb hr rfl (fun t ht hW => ⟨⟨(1 : Int32), (), rfl, rfl, hPt ht hP⟩, hS.F ht⟩) hS.2.2 dX1_rowTellsHolders_70
  have P2 : ∀ (n' : Nat) (j1_2 : Int32) (H : Heap) (locs : List Loc) (ls : Array Slot), L_X1_rowTellsHolders_2 xx xn xm xk K69 n' j1_2 = some out → va_P D vwCl (wX A cI xx xn xm xk) H → va_D G (wX A cI xx xn xm xk) → va_S G s.heap H locs → lv_has ls 3 [(0, .ref ((A 0) 0)), (1, .int j1_2)] → WW H locs (F0 m 2 ls []) := by
    intro n'
    induction n' with
    | zero => intro j1_2 H locs ls hf; exact absurd (show (none : Option (Int32)) = some out from hf) (fun q => by cases q)
    | succ n' ih =>
      intro j1_2 H locs ls hf hP hD hS hl
      rw [L_X1_rowTellsHolders_2] at hf
      refine (hWW _ _ _).mpr ?_
      refine lv_iload_n hx hb dX1_rowTellsHolders_2 rfl (lv_at hl 1 rfl) ?_
      refine lv_aload_n hx hb dX1_rowTellsHolders_3 rfl (lv_at hl 0 rfl) ?_
      refine va_get (D := D) (ci := 1) (v := .int (xx 5 0)) (C := RX1) (T := TX1) (N := 9) hx hb hts hinX hown hK hP 0 rfl rfl 7 (by decide) lk0 (fun _ h9 => h9) rfl dX1_rowTellsHolders_4 ?_
      refine lv_icmp_ge (tgt := 69) hx hb dX1_rowTellsHolders_7 (by decide) (fun c1 => ?_) (fun c1 => ?_)
      · have hf := hT hf c1
        exact (hWW _ _ _).mp (J69  _ _ _ hf hP hD hS (lv_sub hl [] rfl))
      · have hf := hF hf c1
        refine lv_aload_n hx hb dX1_rowTellsHolders_10 rfl (lv_at hl 0 rfl) ?_
        refine va_get (D := D) (ci := 1) (v := .ref ((A 2) 0)) (C := RX1) (T := TX1) (N := 9) hx hb hts hinX hown hK hP 0 rfl rfl 1 (by decide) lk1 (fun _ h9 => h9) rfl dX1_rowTellsHolders_11 ?_
        refine lv_iload_n hx hb dX1_rowTellsHolders_14 rfl (lv_at hl 1 rfl) ?_
        refine qVN_i (As := [.int j1_2]) (rest := []) ⟨hx, hb, hml, hown, hts⟩ hK hN hA hP hD hS (c_X0_inPile l D cI (A 2) j1_2 xm (f_X0_inPile j1_2 xm) rfl) ⟨va_cnB 1 hts gX1_rowTellsHolders_X0_inPile_n72 rfl rfl rfl (nW.m hN 15 rfl) lk2 hd_X0_inPile.2 ⟨Nat.le_of_ble_eq_true rfl, Nat.le_of_ble_eq_true rfl⟩, lk3, lk4⟩ (va_recv hK hP (ci := 0) (q0 := 12) rfl rfl) (bq_X1_X0_m A cI xx xn xm xk) rfl hl.1 rfl (Nat.le_of_ble_eq_true rfl) dX1_rowTellsHolders_15 ⟨Nat.le_of_ble_eq_true rfl, Nat.le_of_ble_eq_true rfl⟩ (fun H locs hP hD hS => ?_)
        refine lv_if_eq (tgt := 26) hx hb dX1_rowTellsHolders_18 (by decide) (fun c2 => ?_) (fun c2 => ?_)
        · have hf := hT hf c2
          refine lv_aload_n hx hb dX1_rowTellsHolders_26 rfl (lv_at hl 0 rfl) ?_
          refine va_get (D := D) (ci := 1) (v := .ref ((A 2) 0)) (C := RX1) (T := TX1) (N := 9) hx hb hts hinX hown hK hP 0 rfl rfl 1 (by decide) lk1 (fun _ h9 => h9) rfl dX1_rowTellsHolders_27 ?_
          refine va_getN (D := D) (ci := 0) (v := .ref ((A 2) 5)) (C := RX0) (T := TX0) (N := 13) hx hb hts hinH hown hK hP 12 rfl rfl 7 (by decide) (nW.f hN 7 rfl) (fun _ h9 => h9) rfl dX1_rowTellsHolders_30 ?_
          refine lv_iload_n hx hb dX1_rowTellsHolders_33 rfl (lv_at hl 1 rfl) ?_
          refine qS_i (As := [.ref ((A 2) 5), .int j1_2]) (rest := []) ⟨hx, hb, hml, hown, hts⟩ hK hN hA hP hD hS (c_X1_at l D cI 8 (by decide) ((A 2) 5) (xm 4) j1_2) (va_cwS 2 hts gX1_rowTellsHolders_X1_at rfl rfl rfl hd_X1_at.2 ⟨Nat.le_of_ble_eq_true rfl, Nat.le_of_ble_eq_true rfl⟩) (bA_X1_m_4 A cI xx xn xm xk) rfl hl.1 rfl (Nat.le_of_ble_eq_true rfl) dX1_rowTellsHolders_34 ⟨Nat.le_of_ble_eq_true rfl, Nat.le_of_ble_eq_true rfl⟩ (fun H locs hP hD hS => ?_)
          refine lv_istore_n (lv' := [(2, .int (atv 8 (xm 4) j1_2)), (0, .ref ((A 0) 0)), (1, .int j1_2)]) hx hb dX1_rowTellsHolders_37 rfl hl (by decide) rfl (fun ls hl => ?_)
          refine lv_aload_n hx hb dX1_rowTellsHolders_38 rfl (lv_at hl 1 rfl) ?_
          refine va_get (D := D) (ci := 1) (v := .ref ((A 2) 0)) (C := RX1) (T := TX1) (N := 9) hx hb hts hinX hown hK hP 0 rfl rfl 1 (by decide) lk1 (fun _ h9 => h9) rfl dX1_rowTellsHolders_39 ?_
          refine lv_iload_n hx hb dX1_rowTellsHolders_42 rfl (lv_at hl 2 rfl) ?_
          refine qVN_i (As := [.int j1_2]) (rest := []) ⟨hx, hb, hml, hown, hts⟩ hK hN hA hP hD hS (c_X0_hasCard l D cI (A 2) j1_2 xm (f_X0_hasCard j1_2 xm) rfl) ⟨va_cnB 1 hts gX1_rowTellsHolders_X0_hasCard_n69 rfl rfl rfl (nW.m hN 14 rfl) lk2 hd_X0_hasCard.2 ⟨Nat.le_of_ble_eq_true rfl, Nat.le_of_ble_eq_true rfl⟩, lk5, lk6⟩ (va_recv hK hP (ci := 0) (q0 := 12) rfl rfl) (bq_X1_X0_m A cI xx xn xm xk) rfl hl.1 rfl (Nat.le_of_ble_eq_true rfl) dX1_rowTellsHolders_43 ⟨Nat.le_of_ble_eq_true rfl, Nat.le_of_ble_eq_true rfl⟩ (fun H locs hP hD hS => ?_)
          refine lv_if_eq (tgt := 61) hx hb dX1_rowTellsHolders_46 (by decide) (fun c3 => ?_) (fun c3 => ?_)
          · have hf := hT hf c3
            refine lv_iconst (v := (0 : Int32)) hx hb dX1_rowTellsHolders_61 (by decide) ?_
            obtain rfl := Option.some.inj hf
            exact W.zret (ty := .boolean) (v := (0 : Int32)) hx hb hr rfl (fun t ht hW => ⟨⟨(0 : Int32), (), rfl, rfl, hPt ht hP⟩, hS.F ht⟩) hS.2.2 dX1_rowTellsHolders_62
          · have hf := hF hf c3
            refine lv_aload_n hx hb dX1_rowTellsHolders_49 rfl (lv_at hl 1 rfl) ?_
            refine va_get (D := D) (ci := 1) (v := .ref ((A 0) 2)) (C := RX1) (T := TX1) (N := 9) hx hb hts hinX hown hK hP 0 rfl rfl 6 (by decide) lk7 (fun _ h9 => h9) rfl dX1_rowTellsHolders_50 ?_
            refine lv_iload_n hx hb dX1_rowTellsHolders_53 rfl (lv_at hl 2 rfl) ?_
            refine qS_i (As := [.ref ((A 0) 2), .int j1_2]) (rest := []) ⟨hx, hb, hml, hown, hts⟩ hK hN hA hP hD hS (c_X1_at l D cI 16 (by decide) ((A 0) 2) (xx 1) j1_2) (va_cwS 2 hts gX1_rowTellsHolders_X1_at rfl rfl rfl hd_X1_at.2 ⟨Nat.le_of_ble_eq_true rfl, Nat.le_of_ble_eq_true rfl⟩) (bA_X1_x_1 A cI xx xn xm xk) rfl hl.1 rfl (Nat.le_of_ble_eq_true rfl) dX1_rowTellsHolders_54 ⟨Nat.le_of_ble_eq_true rfl, Nat.le_of_ble_eq_true rfl⟩ (fun H locs hP hD hS => ?_)
            refine lv_iload_n hx hb dX1_rowTellsHolders_57 rfl (lv_at hl 0 rfl) ?_
            refine lv_icmp_eq (tgt := 63) hx hb dX1_rowTellsHolders_58 (by decide) (fun c4 => ?_) (fun c4 => ?_)
            · have hf := hT hf c4
              refine lv_iinc (v := (j1_2 + (1 : Int32))) (lv' := [(1, .int (j1_2 + (1 : Int32))), (2, .int (atv 8 (xm 4) j1_2)), (0, .ref ((A 0) 0))]) hx hb dX1_rowTellsHolders_63 hl (k := 2) rfl rfl (by decide) rfl (fun ls hl => ?_)
              refine lv_goto (tgt := 2) hx hb dX1_rowTellsHolders_66 (by decide) ?_
              exact (hWW _ _ _).mp (ih _ _ _ _ hf hP hD hS (lv_sub hl [2, 0] rfl))
            · have hf := hF hf c4
              refine lv_iconst (v := (0 : Int32)) hx hb dX1_rowTellsHolders_61 (by decide) ?_
              obtain rfl := Option.some.inj hf
              exact W.zret (ty := .boolean) (v := (0 : Int32)) hx hb hr rfl (fun t ht hW => ⟨⟨(0 : Int32), (), rfl, rfl, hPt ht hP⟩, hS.F ht⟩) hS.2.2 dX1_rowTellsHolders_62
        · have hf := hF hf c2
          refine lv_bipush (v := (9 : Int32)) hx hb dX1_rowTellsHolders_21 (by decide) ?_
          refine lv_goto (tgt := 37) hx hb dX1_rowTellsHolders_23 (by decide) ?_
          refine lv_istore_n (lv' := [(2, .int (9 : Int32)), (0, .ref ((A 0) 0)), (1, .int j1_2)]) hx hb dX1_rowTellsHolders_37 rfl hl (by decide) rfl (fun ls hl => ?_)
          refine lv_aload_n hx hb dX1_rowTellsHolders_38 rfl (lv_at hl 1 rfl) ?_
          refine va_get (D := D) (ci := 1) (v := .ref ((A 2) 0)) (C := RX1) (T := TX1) (N := 9) hx hb hts hinX hown hK hP 0 rfl rfl 1 (by decide) lk1 (fun _ h9 => h9) rfl dX1_rowTellsHolders_39 ?_
          refine lv_iload_n hx hb dX1_rowTellsHolders_42 rfl (lv_at hl 2 rfl) ?_
          refine qVN_i (As := [.int j1_2]) (rest := []) ⟨hx, hb, hml, hown, hts⟩ hK hN hA hP hD hS (c_X0_hasCard l D cI (A 2) j1_2 xm (f_X0_hasCard j1_2 xm) rfl) ⟨va_cnB 1 hts gX1_rowTellsHolders_X0_hasCard_n69 rfl rfl rfl (nW.m hN 14 rfl) lk2 hd_X0_hasCard.2 ⟨Nat.le_of_ble_eq_true rfl, Nat.le_of_ble_eq_true rfl⟩, lk5, lk6⟩ (va_recv hK hP (ci := 0) (q0 := 12) rfl rfl) (bq_X1_X0_m A cI xx xn xm xk) rfl hl.1 rfl (Nat.le_of_ble_eq_true rfl) dX1_rowTellsHolders_43 ⟨Nat.le_of_ble_eq_true rfl, Nat.le_of_ble_eq_true rfl⟩ (fun H locs hP hD hS => ?_)
          refine lv_if_eq (tgt := 61) hx hb dX1_rowTellsHolders_46 (by decide) (fun c5 => ?_) (fun c5 => ?_)
          · have hf := hT hf c5
            refine lv_iconst (v := (0 : Int32)) hx hb dX1_rowTellsHolders_61 (by decide) ?_
            obtain rfl := Option.some.inj hf
            exact W.zret (ty := .boolean) (v := (0 : Int32)) hx hb hr rfl (fun t ht hW => ⟨⟨(0 : Int32), (), rfl, rfl, hPt ht hP⟩, hS.F ht⟩) hS.2.2 dX1_rowTellsHolders_62
          · have hf := hF hf c5
            refine lv_aload_n hx hb dX1_rowTellsHolders_49 rfl (lv_at hl 1 rfl) ?_
            refine va_get (D := D) (ci := 1) (v := .ref ((A 0) 2)) (C := RX1) (T := TX1) (N := 9) hx hb hts hinX hown hK hP 0 rfl rfl 6 (by decide) lk7 (fun _ h9 => h9) rfl dX1_rowTellsHolders_50 ?_
            refine lv_iload_n hx hb dX1_rowTellsHolders_53 rfl (lv_at hl 2 rfl) ?_
            refine qS_i (As := [.ref ((A 0) 2), .int j1_2]) (rest := []) ⟨hx, hb, hml, hown, hts⟩ hK hN hA hP hD hS (c_X1_at l D cI 16 (by decide) ((A 0) 2) (xx 1) j1_2) (va_cwS 2 hts gX1_rowTellsHolders_X1_at rfl rfl rfl hd_X1_at.2 ⟨Nat.le_of_ble_eq_true rfl, Nat.le_of_ble_eq_true rfl⟩) (bA_X1_x_1 A cI xx xn xm xk) rfl hl.1 rfl (Nat.le_of_ble_eq_true rfl) dX1_rowTellsHolders_54 ⟨Nat.le_of_ble_eq_true rfl, Nat.le_of_ble_eq_true rfl⟩ (fun H locs hP hD hS => ?_)
            refine lv_iload_n hx hb dX1_rowTellsHolders_57 rfl (lv_at hl 0 rfl) ?_
            refine lv_icmp_eq (tgt := 63) hx hb dX1_rowTellsHolders_58 (by decide) (fun c6 => ?_) (fun c6 => ?_)
            · have hf := hT hf c6
              refine lv_iinc (v := (j1_2 + (1 : Int32))) (lv' := [(1, .int (j1_2 + (1 : Int32))), (2, .int (9 : Int32)), (0, .ref ((A 0) 0))]) hx hb dX1_rowTellsHolders_63 hl (k := 2) rfl rfl (by decide) rfl (fun ls hl => ?_)
              refine lv_goto (tgt := 2) hx hb dX1_rowTellsHolders_66 (by decide) ?_
              exact (hWW _ _ _).mp (ih _ _ _ _ hf hP hD hS (lv_sub hl [2, 0] rfl))
            · have hf := hF hf c6
              refine lv_iconst (v := (0 : Int32)) hx hb dX1_rowTellsHolders_61 (by decide) ?_
              obtain rfl := Option.some.inj hf
              exact W.zret (ty := .boolean) (v := (0 : Int32)) hx hb hr rfl (fun t ht hW => ⟨⟨(0 : Int32), (), rfl, rfl, hPt ht hP⟩, hS.F ht⟩) hS.2.2 dX1_rowTellsHolders_62
  exact (hWW _ _ _).mp (P2 _ _ _ _ _ hf hP hD hS (lv_sub hl [1, 0] rfl))
set_option maxHeartbeats 4000000 in
set_option maxRecDepth 100000 in
theorem c_X1_whoTold (l : Launch) (D : va_G) (cI : ClassId) (A : Nat → Nat → Nat) (j1 : Int32) (j2 : Int32) (xx : HS) (xn : HS) (xm : HS) (xk : HS) (out : Int32 × HS × HS) (hf : f_X1_whoTold j1 j2 xx xn xm xk = some out) : uI l D cI yX1_whoTold wsX1_whoTold ({ frames := 5, cells := 0, slots := 0, locals := 128 } : Room) [.ref ((A 0) 0), .int j1, .int j2] (wX A cI xx xn xm xk) (wX A cI out.2.1 xn out.2.2 xk) out.1 := by
  intro sz
  refine Met.ofW (cc := cX1_whoTold) (maxL := 5) (ret := (some .int)) (by decide) rfl ?_
  intro p e s m args below meth c s₁ Bd hml hv
  obtain ⟨rfl, hsz, hP, hK, hD0, hN⟩ := hv
  have hx := Bd.exec
  have hb := Bd.bytes
  have hr := Bd.returns
  have hts := atoms_spec (ws := wsX1_whoTold) Bd.pre
  have hown : s.vm.findClass RX1 = some m.cls := findClass_of_methodNamed Bd.named
  have hlocks := Bd.notSynchronized
  subst hsz
  have hD := hD0.self (sz := s.heap.size)
  generalize hAe : va_A (wX A cI xx xn xm xk) s.heap.size = G at hD ⊢
  have hA : ∀ q : Nat, s.heap.size ≤ q → G q := fun q h => by rw [← hAe]; exact Or.inr h
  have hS : va_S G s.heap s.heap [] := va_S.rf
  have hP : va_P D vwCl (wX A cI xx xn xm xk) s.heap := hP
  have hl := lv_entry ([.ref ((A 0) 0), .int j1, .int j2]) (n := 5) (Nat.le_of_ble_eq_true rfl)
  rw [lg_entry_eq]
  generalize (lg_sl ([.ref ((A 0) 0), .int j1, .int j2]) ++ List.replicate (5 - (lg_sl ([.ref ((A 0) 0), .int j1, .int j2])).length) Slot.unset).toArray = ls at hl ⊢
  have hl : lv_has ls 5 [(0, .ref ((A 0) 0)), (1, .int j1), (2, .int j2)] := hl
  have hinH : ∀ w ∈ wsX00, w ∈ wsX1_whoTold := by decide +kernel
  have hinX : ∀ w ∈ wsX10, w ∈ wsX1_whoTold := by decide +kernel
  have lk0 := hts (.fieldLink RX1 10 "LiesBoughtBack" "now" "LLiesBoughtBack$Hall;") (by decide +kernel)
  have lk1 := hts (.initialized RX0) (by decide +kernel)
  have lk2 := hts (.instanceMethod yX0_hasCard) (by decide +kernel)
  have lk3 := hts (.selects RX0 yX0_hasCard yX0_hasCard) (by decide +kernel)
  have lk4 := hts (.fieldLink RX1 16 "LiesBoughtBack" "mind" "LLiesBoughtBack$Hall;") (by decide +kernel)
  have lk5 := hts (.instanceMethod yX0_become) (by decide +kernel)
  have lk6 := hts (.selects RX0 yX0_become yX0_become) (by decide +kernel)
  have lk7 := hts (.instanceMethod yX0_goOn) (by decide +kernel)
  have lk8 := hts (.selects RX0 yX0_goOn yX0_goOn) (by decide +kernel)
  refine W_in ?_
  intro WW hWW
  refine (hWW _ _ _).mpr ?_
  unfold f_X1_whoTold at hf
  refine lv_aload_n hx hb dX1_whoTold_0 rfl (lv_at hl 0 rfl) ?_
  refine va_get (D := D) (ci := 1) (v := .ref ((A 1) 0)) (C := RX1) (T := TX1) (N := 9) hx hb hts hinX hown hK hP 0 rfl rfl 0 (by decide) lk0 (fun _ h9 => h9) rfl dX1_whoTold_1 ?_
  refine lv_iload_n hx hb dX1_whoTold_4 rfl (lv_at hl 1 rfl) ?_
  refine qVN_i (As := [.int j1]) (rest := []) ⟨hx, hb, hml, hown, hts⟩ hK hN hA hP hD hS (c_X0_hasCard l D cI (A 1) j1 xn (f_X0_hasCard j1 xn) rfl) ⟨va_cnB 1 hts gX1_whoTold_X0_hasCard_n69 rfl rfl rfl (nW.m hN 14 rfl) lk1 hd_X0_hasCard.2 ⟨Nat.le_of_ble_eq_true rfl, Nat.le_of_ble_eq_true rfl⟩, lk2, lk3⟩ (va_recv hK hP (ci := 0) (q0 := 1) rfl rfl) (bq_X1_X0_n A cI xx xn xm xk) rfl hl.1 rfl (Nat.le_of_ble_eq_true rfl) dX1_whoTold_5 ⟨Nat.le_of_ble_eq_true rfl, Nat.le_of_ble_eq_true rfl⟩ (fun H locs hP hD hS => ?_)
  refine lv_if_ne (tgt := 17) hx hb dX1_whoTold_8 (by decide) (fun c1 => ?_) (fun c1 => ?_)
  · have hf := hF hf c1
    refine lv_iload_n hx hb dX1_whoTold_17 rfl (lv_at hl 2 rfl) ?_
    refine lv_if_lt (tgt := 26) hx hb dX1_whoTold_18 (by decide) (fun c2 => ?_) (fun c2 => ?_)
    · have hf := hT hf c2
      refine lv_aload_n hx hb dX1_whoTold_26 rfl (lv_at hl 0 rfl) ?_
      refine lv_bipush (v := (-2 : Int32)) hx hb dX1_whoTold_27 (by decide) ?_
      obtain ⟨v3, hev3, hf⟩ := bS hf
      refine qV_i (ws' := (wX A cI v3.2 xn xm xk)) (As := [.int (-2 : Int32)]) (rest := []) ⟨hx, hb, hml, hown, hts⟩ hK hN hA hP hD hS (c_X1_refuse l D cI A (-2 : Int32) xx xn xm xk v3 hev3) (cwV 1 hts gX1_whoTold_X1_refuse rfl rfl rfl hd_X1_refuse ⟨Nat.le_of_ble_eq_true rfl, Nat.le_of_ble_eq_true rfl⟩) (va_recv hK hP (ci := 1) (q0 := 0) rfl rfl) (bp_X1_X1_xnmk_x A cI xx xn xm xk v3.2) rfl hl.1 rfl (Nat.le_of_ble_eq_true rfl) dX1_whoTold_29 ⟨Nat.le_of_ble_eq_true rfl, Nat.le_of_ble_eq_true rfl⟩ (fun H locs hP hD hS => ?_)
      have hP : va_P D vwCl (wX A cI v3.2 xn xm xk) H := hP
      obtain rfl := Option.some.inj hf
      exact W.iret (v := v3.1) hx hb hr (fun t ht hW => ⟨⟨v3.1, (), rfl, rfl, hPt ht hP⟩, hS.F ht⟩) hS.2.2 dX1_whoTold_32
    · have hf := hF hf c2
      refine lv_iload_n hx hb dX1_whoTold_21 rfl (lv_at hl 2 rfl) ?_
      refine lv_iconst (v := (1 : Int32)) hx hb dX1_whoTold_22 (by decide) ?_
      refine lv_icmp_le (tgt := 33) hx hb dX1_whoTold_23 (by decide) (fun c4 => ?_) (fun c4 => ?_)
      · have hf := hT hf c4
        refine lv_iconst (v := (0 : Int32)) hx hb dX1_whoTold_33 (by decide) ?_
        refine lv_istore_n (lv' := [(3, .int (0 : Int32)), (0, .ref ((A 0) 0)), (1, .int j1), (2, .int j2)]) hx hb dX1_whoTold_34 rfl hl (by decide) rfl (fun ls hl => ?_)
        refine lv_iconst (v := (0 : Int32)) hx hb dX1_whoTold_35 (by decide) ?_
        refine lv_istore (lv' := [(4, .int (0 : Int32)), (3, .int (0 : Int32)), (0, .ref ((A 0) 0)), (1, .int j1), (2, .int j2)]) hx hb dX1_whoTold_36 hl (by decide) rfl (fun ls hl => ?_)
        obtain ⟨K113, hK113, hf⟩ := jnS hf
        have J113 : ∀ (j3_113 : Int32) (xx_113 : HS) (xm_113 : HS) (H : Heap) (locs : List Loc) (ls : Array Slot), K113 j3_113 xx_113 xm_113 = some out → va_P D vwCl (wX A cI xx_113 xn xm_113 xk) H → va_D G (wX A cI xx_113 xn xm_113 xk) → va_S G s.heap H locs → lv_has ls 5 [(3, .int j3_113)] → WW H locs (F0 m 113 ls []) := by
          intro j3_113 xx_113 xm_113 H locs ls hf hP hD hS hl
          subst hK113
          refine (hWW _ _ _).mpr ?_
          refine lv_iload_n hx hb dX1_whoTold_113 rfl (lv_at hl 0 rfl) ?_
          obtain rfl := Option.some.inj hf
          exact W.iret (v := j3_113) hx hb hr (fun t ht hW => ⟨⟨j3_113, (), rfl, rfl, hPt ht hP⟩, hS.F ht⟩) hS.2.2 dX1_whoTold_114
        have P38 : ∀ (n' : Nat) (j3_38 : Int32) (j4_38 : Int32) (xx_38 : HS) (xm_38 : HS) (H : Heap) (locs : List Loc) (ls : Array Slot), L_X1_whoTold_38 j1 j2 xn xk K113 n' j3_38 j4_38 xx_38 xm_38 = some out → va_P D vwCl (wX A cI xx_38 xn xm_38 xk) H → va_D G (wX A cI xx_38 xn xm_38 xk) → va_S G s.heap H locs → lv_has ls 5 [(0, .ref ((A 0) 0)), (1, .int j1), (2, .int j2), (3, .int j3_38), (4, .int j4_38)] → WW H locs (F0 m 38 ls []) := by
          intro n'
          induction n' with
          | zero => intro j3_38 j4_38 xx_38 xm_38 H locs ls hf; exact absurd (show (none : Option (Int32 × HS × HS)) = some out from hf) (fun q => by cases q)
          | succ n' ih =>
            intro j3_38 j4_38 xx_38 xm_38 H locs ls hf hP hD hS hl
            rw [L_X1_whoTold_38] at hf
            refine (hWW _ _ _).mpr ?_
            refine lv_iload hx hb dX1_whoTold_38 (lv_at hl 4 rfl) ?_
            refine lv_bipush (v := (6 : Int32)) hx hb dX1_whoTold_40 (by decide) ?_
            refine lv_icmp_ge (tgt := 113) hx hb dX1_whoTold_42 (by decide) (fun c5 => ?_) (fun c5 => ?_)
            · have hf := hT hf c5
              exact (hWW _ _ _).mp (J113 _ _ _ _ _ _ hf hP hD hS (lv_sub hl [3] rfl))
            · have hf := hF hf c5
              refine lv_aload_n hx hb dX1_whoTold_45 rfl (lv_at hl 0 rfl) ?_
              refine va_get (D := D) (ci := 1) (v := .ref ((A 2) 0)) (C := RX1) (T := TX1) (N := 9) hx hb hts hinX hown hK hP 0 rfl rfl 1 (by decide) lk4 (fun _ h9 => h9) rfl dX1_whoTold_46 ?_
              refine lv_aload_n hx hb dX1_whoTold_49 rfl (lv_at hl 0 rfl) ?_
              refine va_get (D := D) (ci := 1) (v := .ref ((A 1) 0)) (C := RX1) (T := TX1) (N := 9) hx hb hts hinX hown hK hP 0 rfl rfl 0 (by decide) lk0 (fun _ h9 => h9) rfl dX1_whoTold_50 ?_
              obtain ⟨v6, hev6, hf⟩ := bS hf
              refine qVN_v (ws' := (wX A cI xx_38 xn v6 xk)) (As := [.ref ((A 1) 0)]) (rest := []) ⟨hx, hb, hml, hown, hts⟩ hK hN hA hP hD hS (c_X0_become l D cI (A 2) (A 1) xm_38 xn v6 hev6) ⟨va_cnB 1 hts gX1_whoTold_X0_become_n47 rfl rfl rfl (nW.m hN 1 rfl) lk1 hd_X0_become.2 ⟨Nat.le_of_ble_eq_true rfl, Nat.le_of_ble_eq_true rfl⟩, lk5, lk6⟩ (va_recv hK hP (ci := 0) (q0 := 12) rfl rfl) (bp_X1_HH_mn_h A cI xx_38 xn xm_38 xk v6) rfl hl.1 rfl (Nat.le_of_ble_eq_true rfl) dX1_whoTold_53 ⟨Nat.le_of_ble_eq_true rfl, Nat.le_of_ble_eq_true rfl⟩ (fun H locs hP hD hS => ?_)
              have hP : va_P D vwCl (wX A cI xx_38 xn v6 xk) H := hP
              refine lv_iload_n hx hb dX1_whoTold_56 rfl (lv_at hl 2 rfl) ?_
              refine lv_if_ne (tgt := 70) hx hb dX1_whoTold_57 (by decide) (fun c7 => ?_) (fun c7 => ?_)
              · have hf := hF hf c7
                refine lv_aload_n hx hb dX1_whoTold_70 rfl (lv_at hl 0 rfl) ?_
                refine va_get (D := D) (ci := 1) (v := .ref ((A 2) 0)) (C := RX1) (T := TX1) (N := 9) hx hb hts hinX hown hK hP 0 rfl rfl 1 (by decide) lk4 (fun _ h9 => h9) rfl dX1_whoTold_71 ?_
                refine va_getN (D := D) (ci := 0) (v := .ref ((A 2) 1)) (C := RX0) (T := TX0) (N := 13) hx hb hts hinH hown hK hP 12 rfl rfl 3 (by decide) (nW.f hN 3 rfl) (fun _ h9 => h9) rfl dX1_whoTold_74 ?_
                refine lv_iload_n hx hb dX1_whoTold_77 rfl (lv_at hl 1 rfl) ?_
                refine lv_iload hx hb dX1_whoTold_78 (lv_at hl 4 rfl) ?_
                obtain ⟨xm_v8, exm_v8, hf⟩ := jnS hf
                refine qS_v (ws' := (wX A cI xx_38 xn xm_v8 xk)) (As := [.ref ((A 2) 1), .int j1, .int j4_38]) (rest := []) ⟨hx, hb, hml, hown, hts⟩ hK hN hA hP hD hS (c_X1_put l D cI 8 (by decide) ((A 2) 1) (v6 0) j1 j4_38) (va_cwS 3 hts gX1_whoTold_X1_put rfl rfl rfl hd_X1_put.2 ⟨Nat.le_of_ble_eq_true rfl, Nat.le_of_ble_eq_true rfl⟩) ((bP_X1_m_0 A cI xx_38 xn v6 xk (ptv 8 (v6 0) j1 j4_38) _ exm_v8)) rfl hl.1 rfl (Nat.le_of_ble_eq_true rfl) dX1_whoTold_80 ⟨Nat.le_of_ble_eq_true rfl, Nat.le_of_ble_eq_true rfl⟩ (fun H locs hP hD hS => ?_)
                refine lv_aload_n hx hb dX1_whoTold_83 rfl (lv_at hl 0 rfl) ?_
                refine va_get (D := D) (ci := 1) (v := .ref ((A 2) 0)) (C := RX1) (T := TX1) (N := 9) hx hb hts hinX hown hK hP 0 rfl rfl 1 (by decide) lk4 (fun _ h9 => h9) rfl dX1_whoTold_84 ?_
                refine lv_iconst (v := (1 : Int32)) hx hb dX1_whoTold_87 (by decide) ?_
                refine lv_iconst (v := (1 : Int32)) hx hb dX1_whoTold_88 (by decide) ?_
                obtain ⟨v9, hev9, hf⟩ := bS hf
                refine qVN_i (ws' := (wX A cI xx_38 xn v9.2 xk)) (As := [.int (1 : Int32), .int (1 : Int32)]) (rest := []) ⟨hx, hb, hml, hown, hts⟩ hK hN hA hP hD hS (c_X0_goOn l D cI (A 2) (1 : Int32) (1 : Int32) xm_v8 v9 hev9) ⟨va_cnB 2 hts gX1_whoTold_X0_goOn_n97 rfl rfl rfl (nW.m hN 12 rfl) lk1 hd_X0_goOn.2 ⟨Nat.le_of_ble_eq_true rfl, Nat.le_of_ble_eq_true rfl⟩, lk7, lk8⟩ (va_recv hK hP (ci := 0) (q0 := 12) rfl rfl) (bp_X1_X0_m_h A cI xx_38 xn xm_v8 xk v9.2) rfl hl.1 rfl (Nat.le_of_ble_eq_true rfl) dX1_whoTold_89 ⟨Nat.le_of_ble_eq_true rfl, Nat.le_of_ble_eq_true rfl⟩ (fun H locs hP hD hS => ?_)
                have hP : va_P D vwCl (wX A cI xx_38 xn v9.2 xk) H := hP
                refine lv_pop hx hb dX1_whoTold_92 rfl ?_
                refine lv_aload_n hx hb dX1_whoTold_93 rfl (lv_at hl 0 rfl) ?_
                obtain ⟨v10, hev10, hf⟩ := bS hf
                refine qV_i (As := []) (rest := []) ⟨hx, hb, hml, hown, hts⟩ hK hN hA hP hD hS (c_X1_rowTellsHolders l D cI A xx_38 xn v9.2 xk v10 hev10) (cwV 0 hts gX1_whoTold_X1_rowTellsHolders rfl rfl rfl hd_X1_rowTellsHolders ⟨Nat.le_of_ble_eq_true rfl, Nat.le_of_ble_eq_true rfl⟩) (va_recv hK hP (ci := 1) (q0 := 0) rfl rfl) (bq_X1_X1_xnmk A cI xx_38 xn v9.2 xk) rfl hl.1 rfl (Nat.le_of_ble_eq_true rfl) dX1_whoTold_94 ⟨Nat.le_of_ble_eq_true rfl, Nat.le_of_ble_eq_true rfl⟩ (fun H locs hP hD hS => ?_)
                refine lv_if_eq (tgt := 107) hx hb dX1_whoTold_97 (by decide) (fun c11 => ?_) (fun c11 => ?_)
                · have hf := hT hf c11
                  refine lv_iinc (v := (j4_38 + (1 : Int32))) (lv' := [(4, .int (j4_38 + (1 : Int32))), (0, .ref ((A 0) 0)), (1, .int j1), (2, .int j2), (3, .int j3_38)]) hx hb dX1_whoTold_107 hl (k := 4) rfl rfl (by decide) rfl (fun ls hl => ?_)
                  refine lv_goto (tgt := 38) hx hb dX1_whoTold_110 (by decide) ?_
                  exact (hWW _ _ _).mp (ih _ _ _ _ _ _ _ hf hP hD hS (lv_sub hl [1, 2, 3, 4, 0] rfl))
                · have hf := hF hf c11
                  refine lv_iload_n hx hb dX1_whoTold_100 rfl (lv_at hl 3 rfl) ?_
                  refine lv_iconst (v := (1 : Int32)) hx hb dX1_whoTold_101 (by decide) ?_
                  refine lv_iload hx hb dX1_whoTold_102 (lv_at hl 4 rfl) ?_
                  refine lv_ishl hx hb dX1_whoTold_104 ?_
                  refine lv_ior hx hb dX1_whoTold_105 ?_
                  refine lv_istore_n (lv' := [(3, .int (j3_38 ||| ((1 : Int32) <<< (j4_38 &&& 31)))), (0, .ref ((A 0) 0)), (1, .int j1), (2, .int j2), (4, .int j4_38)]) hx hb dX1_whoTold_106 rfl hl (by decide) rfl (fun ls hl => ?_)
                  refine lv_iinc (v := (j4_38 + (1 : Int32))) (lv' := [(4, .int (j4_38 + (1 : Int32))), (3, .int (j3_38 ||| ((1 : Int32) <<< (j4_38 &&& 31)))), (0, .ref ((A 0) 0)), (1, .int j1), (2, .int j2)]) hx hb dX1_whoTold_107 hl (k := 4) rfl rfl (by decide) rfl (fun ls hl => ?_)
                  refine lv_goto (tgt := 38) hx hb dX1_whoTold_110 (by decide) ?_
                  exact (hWW _ _ _).mp (ih _ _ _ _ _ _ _ hf hP hD hS (lv_sub hl [2, 3, 4, 1, 0] rfl))
              · have hf := hT hf c7
                refine lv_aload_n hx hb dX1_whoTold_60 rfl (lv_at hl 0 rfl) ?_
                refine va_get (D := D) (ci := 1) (v := .ref ((A 2) 0)) (C := RX1) (T := TX1) (N := 9) hx hb hts hinX hown hK hP 0 rfl rfl 1 (by decide) lk4 (fun _ h9 => h9) rfl dX1_whoTold_61 ?_
                refine va_getN (D := D) (ci := 0) (v := .ref ((A 2) 3)) (C := RX0) (T := TX0) (N := 13) hx hb hts hinH hown hK hP 12 rfl rfl 5 (by decide) (nW.f hN 5 rfl) (fun _ h9 => h9) rfl dX1_whoTold_64 ?_
                refine lv_goto (tgt := 77) hx hb dX1_whoTold_67 (by decide) ?_
                refine lv_iload_n hx hb dX1_whoTold_77 rfl (lv_at hl 1 rfl) ?_
                refine lv_iload hx hb dX1_whoTold_78 (lv_at hl 4 rfl) ?_
                obtain ⟨xm_v12, exm_v12, hf⟩ := jnS hf
                refine qS_v (ws' := (wX A cI xx_38 xn xm_v12 xk)) (As := [.ref ((A 2) 3), .int j1, .int j4_38]) (rest := []) ⟨hx, hb, hml, hown, hts⟩ hK hN hA hP hD hS (c_X1_put l D cI 8 (by decide) ((A 2) 3) (v6 2) j1 j4_38) (va_cwS 3 hts gX1_whoTold_X1_put rfl rfl rfl hd_X1_put.2 ⟨Nat.le_of_ble_eq_true rfl, Nat.le_of_ble_eq_true rfl⟩) ((bP_X1_m_2 A cI xx_38 xn v6 xk (ptv 8 (v6 2) j1 j4_38) _ exm_v12)) rfl hl.1 rfl (Nat.le_of_ble_eq_true rfl) dX1_whoTold_80 ⟨Nat.le_of_ble_eq_true rfl, Nat.le_of_ble_eq_true rfl⟩ (fun H locs hP hD hS => ?_)
                refine lv_aload_n hx hb dX1_whoTold_83 rfl (lv_at hl 0 rfl) ?_
                refine va_get (D := D) (ci := 1) (v := .ref ((A 2) 0)) (C := RX1) (T := TX1) (N := 9) hx hb hts hinX hown hK hP 0 rfl rfl 1 (by decide) lk4 (fun _ h9 => h9) rfl dX1_whoTold_84 ?_
                refine lv_iconst (v := (1 : Int32)) hx hb dX1_whoTold_87 (by decide) ?_
                refine lv_iconst (v := (1 : Int32)) hx hb dX1_whoTold_88 (by decide) ?_
                obtain ⟨v13, hev13, hf⟩ := bS hf
                refine qVN_i (ws' := (wX A cI xx_38 xn v13.2 xk)) (As := [.int (1 : Int32), .int (1 : Int32)]) (rest := []) ⟨hx, hb, hml, hown, hts⟩ hK hN hA hP hD hS (c_X0_goOn l D cI (A 2) (1 : Int32) (1 : Int32) xm_v12 v13 hev13) ⟨va_cnB 2 hts gX1_whoTold_X0_goOn_n97 rfl rfl rfl (nW.m hN 12 rfl) lk1 hd_X0_goOn.2 ⟨Nat.le_of_ble_eq_true rfl, Nat.le_of_ble_eq_true rfl⟩, lk7, lk8⟩ (va_recv hK hP (ci := 0) (q0 := 12) rfl rfl) (bp_X1_X0_m_h A cI xx_38 xn xm_v12 xk v13.2) rfl hl.1 rfl (Nat.le_of_ble_eq_true rfl) dX1_whoTold_89 ⟨Nat.le_of_ble_eq_true rfl, Nat.le_of_ble_eq_true rfl⟩ (fun H locs hP hD hS => ?_)
                have hP : va_P D vwCl (wX A cI xx_38 xn v13.2 xk) H := hP
                refine lv_pop hx hb dX1_whoTold_92 rfl ?_
                refine lv_aload_n hx hb dX1_whoTold_93 rfl (lv_at hl 0 rfl) ?_
                obtain ⟨v14, hev14, hf⟩ := bS hf
                refine qV_i (As := []) (rest := []) ⟨hx, hb, hml, hown, hts⟩ hK hN hA hP hD hS (c_X1_rowTellsHolders l D cI A xx_38 xn v13.2 xk v14 hev14) (cwV 0 hts gX1_whoTold_X1_rowTellsHolders rfl rfl rfl hd_X1_rowTellsHolders ⟨Nat.le_of_ble_eq_true rfl, Nat.le_of_ble_eq_true rfl⟩) (va_recv hK hP (ci := 1) (q0 := 0) rfl rfl) (bq_X1_X1_xnmk A cI xx_38 xn v13.2 xk) rfl hl.1 rfl (Nat.le_of_ble_eq_true rfl) dX1_whoTold_94 ⟨Nat.le_of_ble_eq_true rfl, Nat.le_of_ble_eq_true rfl⟩ (fun H locs hP hD hS => ?_)
                refine lv_if_eq (tgt := 107) hx hb dX1_whoTold_97 (by decide) (fun c15 => ?_) (fun c15 => ?_)
                · have hf := hT hf c15
                  refine lv_iinc (v := (j4_38 + (1 : Int32))) (lv' := [(4, .int (j4_38 + (1 : Int32))), (0, .ref ((A 0) 0)), (1, .int j1), (2, .int j2), (3, .int j3_38)]) hx hb dX1_whoTold_107 hl (k := 4) rfl rfl (by decide) rfl (fun ls hl => ?_)
                  refine lv_goto (tgt := 38) hx hb dX1_whoTold_110 (by decide) ?_
                  exact (hWW _ _ _).mp (ih _ _ _ _ _ _ _ hf hP hD hS (lv_sub hl [1, 2, 3, 4, 0] rfl))
                · have hf := hF hf c15
                  refine lv_iload_n hx hb dX1_whoTold_100 rfl (lv_at hl 3 rfl) ?_
                  refine lv_iconst (v := (1 : Int32)) hx hb dX1_whoTold_101 (by decide) ?_
                  refine lv_iload hx hb dX1_whoTold_102 (lv_at hl 4 rfl) ?_
                  refine lv_ishl hx hb dX1_whoTold_104 ?_
                  refine lv_ior hx hb dX1_whoTold_105 ?_
                  refine lv_istore_n (lv' := [(3, .int (j3_38 ||| ((1 : Int32) <<< (j4_38 &&& 31)))), (0, .ref ((A 0) 0)), (1, .int j1), (2, .int j2), (4, .int j4_38)]) hx hb dX1_whoTold_106 rfl hl (by decide) rfl (fun ls hl => ?_)
                  refine lv_iinc (v := (j4_38 + (1 : Int32))) (lv' := [(4, .int (j4_38 + (1 : Int32))), (3, .int (j3_38 ||| ((1 : Int32) <<< (j4_38 &&& 31)))), (0, .ref ((A 0) 0)), (1, .int j1), (2, .int j2)]) hx hb dX1_whoTold_107 hl (k := 4) rfl rfl (by decide) rfl (fun ls hl => ?_)
                  refine lv_goto (tgt := 38) hx hb dX1_whoTold_110 (by decide) ?_
                  exact (hWW _ _ _).mp (ih _ _ _ _ _ _ _ hf hP hD hS (lv_sub hl [2, 3, 4, 1, 0] rfl))
        exact (hWW _ _ _).mp (P38 _ _ _ _ _ _ _ _ hf hP hD hS (lv_sub hl [2, 3, 4, 1, 0] rfl))
      · have hf := hF hf c4
        refine lv_aload_n hx hb dX1_whoTold_26 rfl (lv_at hl 0 rfl) ?_
        refine lv_bipush (v := (-2 : Int32)) hx hb dX1_whoTold_27 (by decide) ?_
        obtain ⟨v16, hev16, hf⟩ := bS hf
        refine qV_i (ws' := (wX A cI v16.2 xn xm xk)) (As := [.int (-2 : Int32)]) (rest := []) ⟨hx, hb, hml, hown, hts⟩ hK hN hA hP hD hS (c_X1_refuse l D cI A (-2 : Int32) xx xn xm xk v16 hev16) (cwV 1 hts gX1_whoTold_X1_refuse rfl rfl rfl hd_X1_refuse ⟨Nat.le_of_ble_eq_true rfl, Nat.le_of_ble_eq_true rfl⟩) (va_recv hK hP (ci := 1) (q0 := 0) rfl rfl) (bp_X1_X1_xnmk_x A cI xx xn xm xk v16.2) rfl hl.1 rfl (Nat.le_of_ble_eq_true rfl) dX1_whoTold_29 ⟨Nat.le_of_ble_eq_true rfl, Nat.le_of_ble_eq_true rfl⟩ (fun H locs hP hD hS => ?_)
        have hP : va_P D vwCl (wX A cI v16.2 xn xm xk) H := hP
        obtain rfl := Option.some.inj hf
        exact W.iret (v := v16.1) hx hb hr (fun t ht hW => ⟨⟨v16.1, (), rfl, rfl, hPt ht hP⟩, hS.F ht⟩) hS.2.2 dX1_whoTold_32
  · have hf := hT hf c1
    refine lv_aload_n hx hb dX1_whoTold_11 rfl (lv_at hl 0 rfl) ?_
    refine lv_iconst (v := (-1 : Int32)) hx hb dX1_whoTold_12 (by decide) ?_
    obtain ⟨v17, hev17, hf⟩ := bS hf
    refine qV_i (ws' := (wX A cI v17.2 xn xm xk)) (As := [.int (-1 : Int32)]) (rest := []) ⟨hx, hb, hml, hown, hts⟩ hK hN hA hP hD hS (c_X1_refuse l D cI A (-1 : Int32) xx xn xm xk v17 hev17) (cwV 1 hts gX1_whoTold_X1_refuse rfl rfl rfl hd_X1_refuse ⟨Nat.le_of_ble_eq_true rfl, Nat.le_of_ble_eq_true rfl⟩) (va_recv hK hP (ci := 1) (q0 := 0) rfl rfl) (bp_X1_X1_xnmk_x A cI xx xn xm xk v17.2) rfl hl.1 rfl (Nat.le_of_ble_eq_true rfl) dX1_whoTold_13 ⟨Nat.le_of_ble_eq_true rfl, Nat.le_of_ble_eq_true rfl⟩ (fun H locs hP hD hS => ?_)
    have hP : va_P D vwCl (wX A cI v17.2 xn xm xk) H := hP
    obtain rfl := Option.some.inj hf
    exact W.iret (v := v17.1) hx hb hr (fun t ht hW => ⟨⟨v17.1, (), rfl, rfl, hPt ht hP⟩, hS.F ht⟩) hS.2.2 dX1_whoTold_16
set_option maxHeartbeats 4000000 in
set_option maxRecDepth 100000 in
theorem c_X1_image (l : Launch) (D : va_G) (cI : ClassId) (A : Nat → Nat → Nat) (xx : HS) (xn : HS) (xm : HS) (xk : HS) (out : Int32 × HS × HS) (hf : f_X1_image xx xn xm xk = some out) : uI l D cI yX1_image wsX1_image ({ frames := 3, cells := 0, slots := 0, locals := 65 } : Room) [.ref ((A 0) 0)] (wX A cI xx xn xm xk) (wX A cI out.2.1 xn xm out.2.2) out.1 := by
  intro sz
  refine Met.ofW (cc := cX1_image) (maxL := 1) (ret := (some .int)) (by decide) rfl ?_
  intro p e s m args below meth c s₁ Bd hml hv
  obtain ⟨rfl, hsz, hP, hK, hD0, hN⟩ := hv
  have hx := Bd.exec
  have hb := Bd.bytes
  have hr := Bd.returns
  have hts := atoms_spec (ws := wsX1_image) Bd.pre
  have hown : s.vm.findClass RX1 = some m.cls := findClass_of_methodNamed Bd.named
  have hlocks := Bd.notSynchronized
  subst hsz
  have hD := hD0.self (sz := s.heap.size)
  generalize hAe : va_A (wX A cI xx xn xm xk) s.heap.size = G at hD ⊢
  have hA : ∀ q : Nat, s.heap.size ≤ q → G q := fun q h => by rw [← hAe]; exact Or.inr h
  have hS : va_S G s.heap s.heap [] := va_S.rf
  have hP : va_P D vwCl (wX A cI xx xn xm xk) s.heap := hP
  have hl := lv_entry ([.ref ((A 0) 0)]) (n := 1) (Nat.le_of_ble_eq_true rfl)
  rw [lg_entry_eq]
  generalize (lg_sl ([.ref ((A 0) 0)]) ++ List.replicate (1 - (lg_sl ([.ref ((A 0) 0)])).length) Slot.unset).toArray = ls at hl ⊢
  have hl : lv_has ls 1 [(0, .ref ((A 0) 0))] := hl
  have hinH : ∀ w ∈ wsX00, w ∈ wsX1_image := by decide +kernel
  have hinX : ∀ w ∈ wsX10, w ∈ wsX1_image := by decide +kernel
  have lk0 := hts (.fieldLink RX1 19 "LiesBoughtBack" "kept" "LLiesBoughtBack$Hall;") (by decide +kernel)
  have lk1 := hts (.fieldLink RX1 10 "LiesBoughtBack" "now" "LLiesBoughtBack$Hall;") (by decide +kernel)
  have lk2 := hts (.initialized RX0) (by decide +kernel)
  have lk3 := hts (.instanceMethod yX0_become) (by decide +kernel)
  have lk4 := hts (.selects RX0 yX0_become yX0_become) (by decide +kernel)
  have lk5 := hts (.fieldLink RX1 211 "LiesBoughtBack" "taken" "Z") (by decide +kernel)
  refine W_in ?_
  intro WW hWW
  refine (hWW _ _ _).mpr ?_
  unfold f_X1_image at hf
  refine lv_aload_n hx hb dX1_image_0 rfl (lv_at hl 0 rfl) ?_
  refine va_get (D := D) (ci := 1) (v := .ref ((A 3) 0)) (C := RX1) (T := TX1) (N := 9) hx hb hts hinX hown hK hP 0 rfl rfl 2 (by decide) lk0 (fun _ h9 => h9) rfl dX1_image_1 ?_
  refine lv_aload_n hx hb dX1_image_4 rfl (lv_at hl 0 rfl) ?_
  refine va_get (D := D) (ci := 1) (v := .ref ((A 1) 0)) (C := RX1) (T := TX1) (N := 9) hx hb hts hinX hown hK hP 0 rfl rfl 0 (by decide) lk1 (fun _ h9 => h9) rfl dX1_image_5 ?_
  obtain ⟨v1, hev1, hf⟩ := bS hf
  refine qVN_v (ws' := (wX A cI xx xn xm v1)) (As := [.ref ((A 1) 0)]) (rest := []) ⟨hx, hb, hml, hown, hts⟩ hK hN hA hP hD hS (c_X0_become l D cI (A 3) (A 1) xk xn v1 hev1) ⟨va_cnB 1 hts gX1_image_X0_become_n47 rfl rfl rfl (nW.m hN 1 rfl) lk2 hd_X0_become.2 ⟨Nat.le_of_ble_eq_true rfl, Nat.le_of_ble_eq_true rfl⟩, lk3, lk4⟩ (va_recv hK hP (ci := 0) (q0 := 23) rfl rfl) (bp_X1_HH_kn_h A cI xx xn xm xk v1) rfl hl.1 rfl (Nat.le_of_ble_eq_true rfl) dX1_image_8 ⟨Nat.le_of_ble_eq_true rfl, Nat.le_of_ble_eq_true rfl⟩ (fun H locs hP hD hS => ?_)
  have hP : va_P D vwCl (wX A cI xx xn xm v1) H := hP
  refine lv_aload_n hx hb dX1_image_11 rfl (lv_at hl 0 rfl) ?_
  refine lv_iconst (v := (1 : Int32)) hx hb dX1_image_12 (by decide) ?_
  obtain ⟨xx_v2, exx_v2, hf⟩ := jnS hf
  refine va_put (D := D) (ci := 1) (v := .int (1 : Int32)) (ty := .boolean) (C := RX1) (T := TX1) (N := 9) hx hb hts hinX tyX1 tyX1_ok nmX1 hown hK hP hD hS 0 rfl rfl 3 (by decide) lk5 (fun _ h9 => h9) rfl (by decide +kernel) rfl rfl (Nat.le_of_ble_eq_true rfl) dX1_image_13 (fun H locs hP hD hS => ?_)
  have hE : _ = (wX A cI xx_v2 xn xm v1) := ((sf_X1_x_3 A cI xx xn xm v1 (1 : Int32)).trans (congrArg (fun z => wX A cI z xn xm v1) exx_v2.symm))
  have hP : va_P D vwCl (wX A cI xx_v2 xn xm v1) H := hE ▸ hP
  have hD : va_D G (wX A cI xx_v2 xn xm v1) := hE ▸ hD
  refine lv_aload_n hx hb dX1_image_16 rfl (lv_at hl 0 rfl) ?_
  refine va_get (D := D) (ci := 1) (v := .ref ((A 1) 0)) (C := RX1) (T := TX1) (N := 9) hx hb hts hinX hown hK hP 0 rfl rfl 0 (by decide) lk1 (fun _ h9 => h9) rfl dX1_image_17 ?_
  refine va_getN (D := D) (ci := 0) (v := .int (xn 12 0)) (C := RX0) (T := TX0) (N := 13) hx hb hts hinH hown hK hP 1 rfl rfl 2 (by decide) (nW.f hN 2 rfl) (fun _ h9 => h9) rfl dX1_image_20 ?_
  obtain rfl := Option.some.inj hf
  exact W.iret (v := (xn 12 0)) hx hb hr (fun t ht hW => ⟨⟨(xn 12 0), (), rfl, rfl, hPt ht hP⟩, hS.F ht⟩) hS.2.2 dX1_image_23
set_option maxHeartbeats 4000000 in
set_option maxRecDepth 100000 in
theorem c_X1_on (l : Launch) (D : va_G) (cI : ClassId) (A : Nat → Nat → Nat) (xx : HS) (xn : HS) (xm : HS) (xk : HS) (out : Int32 × HS × HS) (hf : f_X1_on xx xn xm xk = some out) : uI l D cI yX1_on wsX1_on ({ frames := 3, cells := 0, slots := 0, locals := 65 } : Room) [.ref ((A 0) 0)] (wX A cI xx xn xm xk) (wX A cI out.2.1 out.2.2 xm xk) out.1 := by
  intro sz
  refine Met.ofW (cc := cX1_on) (maxL := 1) (ret := (some .int)) (by decide) rfl ?_
  intro p e s m args below meth c s₁ Bd hml hv
  obtain ⟨rfl, hsz, hP, hK, hD0, hN⟩ := hv
  have hx := Bd.exec
  have hb := Bd.bytes
  have hr := Bd.returns
  have hts := atoms_spec (ws := wsX1_on) Bd.pre
  have hown : s.vm.findClass RX1 = some m.cls := findClass_of_methodNamed Bd.named
  have hlocks := Bd.notSynchronized
  subst hsz
  have hD := hD0.self (sz := s.heap.size)
  generalize hAe : va_A (wX A cI xx xn xm xk) s.heap.size = G at hD ⊢
  have hA : ∀ q : Nat, s.heap.size ≤ q → G q := fun q h => by rw [← hAe]; exact Or.inr h
  have hS : va_S G s.heap s.heap [] := va_S.rf
  have hP : va_P D vwCl (wX A cI xx xn xm xk) s.heap := hP
  have hl := lv_entry ([.ref ((A 0) 0)]) (n := 1) (Nat.le_of_ble_eq_true rfl)
  rw [lg_entry_eq]
  generalize (lg_sl ([.ref ((A 0) 0)]) ++ List.replicate (1 - (lg_sl ([.ref ((A 0) 0)])).length) Slot.unset).toArray = ls at hl ⊢
  have hl : lv_has ls 1 [(0, .ref ((A 0) 0))] := hl
  have hinH : ∀ w ∈ wsX00, w ∈ wsX1_on := by decide +kernel
  have hinX : ∀ w ∈ wsX10, w ∈ wsX1_on := by decide +kernel
  have lk0 := hts (.fieldLink RX1 211 "LiesBoughtBack" "taken" "Z") (by decide +kernel)
  have lk1 := hts (.fieldLink RX1 10 "LiesBoughtBack" "now" "LLiesBoughtBack$Hall;") (by decide +kernel)
  have lk2 := hts (.fieldLink RX1 19 "LiesBoughtBack" "kept" "LLiesBoughtBack$Hall;") (by decide +kernel)
  have lk3 := hts (.initialized RX0) (by decide +kernel)
  have lk4 := hts (.instanceMethod yX0_become) (by decide +kernel)
  have lk5 := hts (.selects RX0 yX0_become yX0_become) (by decide +kernel)
  refine W_in ?_
  intro WW hWW
  refine (hWW _ _ _).mpr ?_
  unfold f_X1_on at hf
  refine lv_aload_n hx hb dX1_on_0 rfl (lv_at hl 0 rfl) ?_
  refine va_get (D := D) (ci := 1) (v := .int (xx 3 0)) (C := RX1) (T := TX1) (N := 9) hx hb hts hinX hown hK hP 0 rfl rfl 3 (by decide) lk0 (fun _ h9 => h9) rfl dX1_on_1 ?_
  refine lv_if_ne (tgt := 14) hx hb dX1_on_4 (by decide) (fun c1 => ?_) (fun c1 => ?_)
  · have hf := hF hf c1
    refine lv_aload_n hx hb dX1_on_14 rfl (lv_at hl 0 rfl) ?_
    refine va_get (D := D) (ci := 1) (v := .ref ((A 1) 0)) (C := RX1) (T := TX1) (N := 9) hx hb hts hinX hown hK hP 0 rfl rfl 0 (by decide) lk1 (fun _ h9 => h9) rfl dX1_on_15 ?_
    refine lv_aload_n hx hb dX1_on_18 rfl (lv_at hl 0 rfl) ?_
    refine va_get (D := D) (ci := 1) (v := .ref ((A 3) 0)) (C := RX1) (T := TX1) (N := 9) hx hb hts hinX hown hK hP 0 rfl rfl 2 (by decide) lk2 (fun _ h9 => h9) rfl dX1_on_19 ?_
    obtain ⟨v2, hev2, hf⟩ := bS hf
    refine qVN_v (ws' := (wX A cI xx v2 xm xk)) (As := [.ref ((A 3) 0)]) (rest := []) ⟨hx, hb, hml, hown, hts⟩ hK hN hA hP hD hS (c_X0_become l D cI (A 1) (A 3) xn xk v2 hev2) ⟨va_cnB 1 hts gX1_on_X0_become_n47 rfl rfl rfl (nW.m hN 1 rfl) lk3 hd_X0_become.2 ⟨Nat.le_of_ble_eq_true rfl, Nat.le_of_ble_eq_true rfl⟩, lk4, lk5⟩ (va_recv hK hP (ci := 0) (q0 := 1) rfl rfl) (bp_X1_HH_nk_h A cI xx xn xm xk v2) rfl hl.1 rfl (Nat.le_of_ble_eq_true rfl) dX1_on_22 ⟨Nat.le_of_ble_eq_true rfl, Nat.le_of_ble_eq_true rfl⟩ (fun H locs hP hD hS => ?_)
    have hP : va_P D vwCl (wX A cI xx v2 xm xk) H := hP
    refine lv_aload_n hx hb dX1_on_25 rfl (lv_at hl 0 rfl) ?_
    refine va_get (D := D) (ci := 1) (v := .ref ((A 1) 0)) (C := RX1) (T := TX1) (N := 9) hx hb hts hinX hown hK hP 0 rfl rfl 0 (by decide) lk1 (fun _ h9 => h9) rfl dX1_on_26 ?_
    refine va_getN (D := D) (ci := 0) (v := .int (v2 12 0)) (C := RX0) (T := TX0) (N := 13) hx hb hts hinH hown hK hP 1 rfl rfl 2 (by decide) (nW.f hN 2 rfl) (fun _ h9 => h9) rfl dX1_on_29 ?_
    obtain rfl := Option.some.inj hf
    exact W.iret (v := (v2 12 0)) hx hb hr (fun t ht hW => ⟨⟨(v2 12 0), (), rfl, rfl, hPt ht hP⟩, hS.F ht⟩) hS.2.2 dX1_on_32
  · have hf := hT hf c1
    refine lv_aload_n hx hb dX1_on_7 rfl (lv_at hl 0 rfl) ?_
    refine lv_bipush (v := (-3 : Int32)) hx hb dX1_on_8 (by decide) ?_
    obtain ⟨v3, hev3, hf⟩ := bS hf
    refine qV_i (ws' := (wX A cI v3.2 xn xm xk)) (As := [.int (-3 : Int32)]) (rest := []) ⟨hx, hb, hml, hown, hts⟩ hK hN hA hP hD hS (c_X1_refuse l D cI A (-3 : Int32) xx xn xm xk v3 hev3) (cwV 1 hts gX1_on_X1_refuse rfl rfl rfl hd_X1_refuse ⟨Nat.le_of_ble_eq_true rfl, Nat.le_of_ble_eq_true rfl⟩) (va_recv hK hP (ci := 1) (q0 := 0) rfl rfl) (bp_X1_X1_xnmk_x A cI xx xn xm xk v3.2) rfl hl.1 rfl (Nat.le_of_ble_eq_true rfl) dX1_on_10 ⟨Nat.le_of_ble_eq_true rfl, Nat.le_of_ble_eq_true rfl⟩ (fun H locs hP hD hS => ?_)
    have hP : va_P D vwCl (wX A cI v3.2 xn xm xk) H := hP
    obtain rfl := Option.some.inj hf
    exact W.iret (v := v3.1) hx hb hr (fun t ht hW => ⟨⟨v3.1, (), rfl, rfl, hPt ht hP⟩, hS.F ht⟩) hS.2.2 dX1_on_13
set_option maxHeartbeats 4000000 in
set_option maxRecDepth 100000 in
theorem c_X1_number (l : Launch) (D : va_G) (cI : ClassId) (A : Nat → Nat → Nat) (j1 : Int32) (j2 : Int32) (xx : HS) (xn : HS) (xm : HS) (xk : HS) (out : Int32) (hf : f_X1_number j1 j2 xx xn xm xk = some out) : uI l D cI yX1_number wsX1_number ({ frames := 1, cells := 0, slots := 0, locals := 21 } : Room) [.ref ((A 0) 0), .int j1, .int j2] (wX A cI xx xn xm xk) (wX A cI xx xn xm xk) out := by
  intro sz
  refine Met.ofW (cc := cX1_number) (maxL := 5) (ret := (some .int)) (by decide) rfl ?_
  intro p e s m args below meth c s₁ Bd hml hv
  obtain ⟨rfl, hsz, hP, hK, hD0, hN⟩ := hv
  have hx := Bd.exec
  have hb := Bd.bytes
  have hr := Bd.returns
  have hts := atoms_spec (ws := wsX1_number) Bd.pre
  have hown : s.vm.findClass RX1 = some m.cls := findClass_of_methodNamed Bd.named
  have hlocks := Bd.notSynchronized
  subst hsz
  have hD := hD0.self (sz := s.heap.size)
  generalize hAe : va_A (wX A cI xx xn xm xk) s.heap.size = G at hD ⊢
  have hA : ∀ q : Nat, s.heap.size ≤ q → G q := fun q h => by rw [← hAe]; exact Or.inr h
  have hS : va_S G s.heap s.heap [] := va_S.rf
  have hP : va_P D vwCl (wX A cI xx xn xm xk) s.heap := hP
  have hl := lv_entry ([.ref ((A 0) 0), .int j1, .int j2]) (n := 5) (Nat.le_of_ble_eq_true rfl)
  rw [lg_entry_eq]
  generalize (lg_sl ([.ref ((A 0) 0), .int j1, .int j2]) ++ List.replicate (5 - (lg_sl ([.ref ((A 0) 0), .int j1, .int j2])).length) Slot.unset).toArray = ls at hl ⊢
  have hl : lv_has ls 5 [(0, .ref ((A 0) 0)), (1, .int j1), (2, .int j2)] := hl
  have hinX : ∀ w ∈ wsX10, w ∈ wsX1_number := by decide +kernel
  have lk0 := hts (.fieldLink RX1 22 "LiesBoughtBack" "letters" "[I") (by decide +kernel)
  refine W_in ?_
  intro WW hWW
  refine (hWW _ _ _).mpr ?_
  unfold f_X1_number at hf
  refine lv_iconst (v := (0 : Int32)) hx hb dX1_number_0 (by decide) ?_
  refine lv_istore_n (lv' := [(3, .int (0 : Int32)), (0, .ref ((A 0) 0)), (1, .int j1), (2, .int j2)]) hx hb dX1_number_1 rfl hl (by decide) rfl (fun ls hl => ?_)
  refine lv_iconst (v := (0 : Int32)) hx hb dX1_number_2 (by decide) ?_
  refine lv_istore (lv' := [(4, .int (0 : Int32)), (3, .int (0 : Int32)), (0, .ref ((A 0) 0)), (1, .int j1), (2, .int j2)]) hx hb dX1_number_3 hl (by decide) rfl (fun ls hl => ?_)
  obtain ⟨K37, hK37, hf⟩ := jnS hf
  have J37 : ∀ (j3_37 : Int32) (H : Heap) (locs : List Loc) (ls : Array Slot), K37 j3_37 = some out → va_P D vwCl (wX A cI xx xn xm xk) H → va_D G (wX A cI xx xn xm xk) → va_S G s.heap H locs → lv_has ls 5 [(3, .int j3_37)] → WW H locs (F0 m 37 ls []) := by
    intro j3_37 H locs ls hf hP hD hS hl
    subst hK37
    refine (hWW _ _ _).mpr ?_
    refine lv_iload_n hx hb dX1_number_37 rfl (lv_at hl 0 rfl) ?_
    obtain rfl := Option.some.inj hf
    exact W.iret (v := j3_37) hx hb hr (fun t ht hW => ⟨⟨j3_37, (), rfl, rfl, hPt ht hP⟩, hS.F ht⟩) hS.2.2 dX1_number_38
  have P5 : ∀ (n' : Nat) (j3_5 : Int32) (j4_5 : Int32) (H : Heap) (locs : List Loc) (ls : Array Slot), L_X1_number_5 j1 j2 xx xn xm xk K37 n' j3_5 j4_5 = some out → va_P D vwCl (wX A cI xx xn xm xk) H → va_D G (wX A cI xx xn xm xk) → va_S G s.heap H locs → lv_has ls 5 [(0, .ref ((A 0) 0)), (1, .int j1), (2, .int j2), (3, .int j3_5), (4, .int j4_5)] → WW H locs (F0 m 5 ls []) := by
    intro n'
    induction n' with
    | zero => intro j3_5 j4_5 H locs ls hf; exact absurd (show (none : Option (Int32)) = some out from hf) (fun q => by cases q)
    | succ n' ih =>
      intro j3_5 j4_5 H locs ls hf hP hD hS hl
      rw [L_X1_number_5] at hf
      refine (hWW _ _ _).mpr ?_
      refine lv_iload hx hb dX1_number_5 (lv_at hl 4 rfl) ?_
      refine lv_iload_n hx hb dX1_number_7 rfl (lv_at hl 2 rfl) ?_
      refine lv_icmp_ge (tgt := 37) hx hb dX1_number_8 (by decide) (fun c1 => ?_) (fun c1 => ?_)
      · have hf := hT hf c1
        exact (hWW _ _ _).mp (J37 _ _ _ _ hf hP hD hS (lv_sub hl [3] rfl))
      · have hf := hF hf c1
        refine lv_bipush (v := (10 : Int32)) hx hb dX1_number_11 (by decide) ?_
        refine lv_iload_n hx hb dX1_number_13 rfl (lv_at hl 3 rfl) ?_
        refine lv_imul hx hb dX1_number_14 ?_
        refine lv_aload_n hx hb dX1_number_15 rfl (lv_at hl 0 rfl) ?_
        refine va_get (D := D) (ci := 1) (v := .ref ((A 0) 1)) (C := RX1) (T := TX1) (N := 9) hx hb hts hinX hown hK hP 0 rfl rfl 4 (by decide) lk0 (fun _ h9 => h9) rfl dX1_number_16 ?_
        refine lv_iload_n hx hb dX1_number_19 rfl (lv_at hl 1 rfl) ?_
        refine lv_iload hx hb dX1_number_20 (lv_at hl 4 rfl) ?_
        refine lv_iadd hx hb dX1_number_22 ?_
        refine qS_i (As := [.ref ((A 0) 1), .int (j1 + j4_5)]) (rest := [.int ((10 : Int32) * j3_5)]) ⟨hx, hb, hml, hown, hts⟩ hK hN hA hP hD hS (c_X1_at l D cI 96 (by decide) ((A 0) 1) (xx 0) (j1 + j4_5)) (va_cwS 2 hts gX1_number_X1_at rfl rfl rfl hd_X1_at.2 ⟨Nat.le_of_ble_eq_true rfl, Nat.le_of_ble_eq_true rfl⟩) (bA_X1_x_0 A cI xx xn xm xk) rfl hl.1 rfl (Nat.le_of_ble_eq_true rfl) dX1_number_23 ⟨Nat.le_of_ble_eq_true rfl, Nat.le_of_ble_eq_true rfl⟩ (fun H locs hP hD hS => ?_)
        refine lv_iadd hx hb dX1_number_26 ?_
        refine lv_bipush (v := (48 : Int32)) hx hb dX1_number_27 (by decide) ?_
        refine lv_isub hx hb dX1_number_29 ?_
        refine lv_istore_n (lv' := [(3, .int ((((10 : Int32) * j3_5) + (atv 96 (xx 0) (j1 + j4_5))) - (48 : Int32))), (0, .ref ((A 0) 0)), (1, .int j1), (2, .int j2), (4, .int j4_5)]) hx hb dX1_number_30 rfl hl (by decide) rfl (fun ls hl => ?_)
        refine lv_iinc (v := (j4_5 + (1 : Int32))) (lv' := [(4, .int (j4_5 + (1 : Int32))), (3, .int ((((10 : Int32) * j3_5) + (atv 96 (xx 0) (j1 + j4_5))) - (48 : Int32))), (0, .ref ((A 0) 0)), (1, .int j1), (2, .int j2)]) hx hb dX1_number_31 hl (k := 4) rfl rfl (by decide) rfl (fun ls hl => ?_)
        refine lv_goto (tgt := 5) hx hb dX1_number_34 (by decide) ?_
        exact (hWW _ _ _).mp (ih _ _ _ _ _ hf hP hD hS (lv_sub hl [2, 3, 4, 1, 0] rfl))
  exact (hWW _ _ _).mp (P5 _ _ _ _ _ _ hf hP hD hS (lv_sub hl [2, 3, 4, 1, 0] rfl))
