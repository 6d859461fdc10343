set_option maxHeartbeats 4000000 in
set_option maxRecDepth 100000 in
theorem c_X2_passes_5 (l : Launch) (D : va_G) (cI : ClassId) (A : Nat → Nat) (tt : HS) (out : HS) (hf : f_X2_passes_5 tt = some out) : uV l D cI yX2_passes wsX2_passes ({ frames := 0, cells := 0, slots := 0, locals := 0 } : Room) [.ref (A 0), .ref (A 6)] (wM A cI tt) (wM A cI out) := by
  intro sz
  refine Met.ofW (cc := cX2_passes) (maxL := 3) (ret := none) (by decide) rfl ?_
  intro p e s m args below meth c s₁ Bd hml hv
  obtain ⟨rfl, hsz, hP, hK, hD0, hN⟩ := hv
  have hx := Bd.exec
  have hb := Bd.bytes
  have hr := Bd.returns
  have hts := atoms_spec (ws := wsX2_passes) Bd.pre
  have hown : s.vm.findClass RX2 = some m.cls := findClass_of_methodNamed Bd.named
  have hlocks := Bd.notSynchronized
  subst hsz
  have hD := hD0.self (sz := s.heap.size)
  generalize hAe : va_A (wM A cI tt) s.heap.size = G at hD ⊢
  have hA : ∀ q : Nat, s.heap.size ≤ q → G q := fun q h => by rw [← hAe]; exact Or.inr h
  have hS : va_S G s.heap s.heap [] := va_S.rf
  have hP : va_P D vwCl (wM A cI tt) s.heap := hP
  have hl := lv_entry ([.ref (A 0), .ref (A 6)]) (n := 3) (Nat.le_of_ble_eq_true rfl)
  rw [lg_entry_eq]
  generalize (lg_sl ([.ref (A 0), .ref (A 6)]) ++ List.replicate (3 - (lg_sl ([.ref (A 0), .ref (A 6)])).length) Slot.unset).toArray = ls at hl ⊢
  have hl : lv_has ls 3 [(0, .ref (A 0)), (1, .ref (A 6))] := hl
  have hinM : ∀ w ∈ wsX20, w ∈ wsX2_passes := by decide +kernel
  have lk0 := hts (.fieldLink RX2 159 "LiesBoughtBackModel" "isKeeping" "Z") (by decide +kernel)
  have lk1 := hts (.fieldLink RX2 55 "LiesBoughtBackModel" "kept" "[I") (by decide +kernel)
  have lk2 := hts (.fieldLink RX2 163 "LiesBoughtBackModel" "cursor" "I") (by decide +kernel)
  refine W_in ?_
  intro WW hWW
  refine (hWW _ _ _).mpr ?_
  unfold f_X2_passes_5 at hf
  refine lv_iconst (v := (0 : Int32)) hx hb dX2_passes_0 (by decide) ?_
  refine lv_istore_n (lv' := [(2, .int (0 : Int32)), (0, .ref (A 0)), (1, .ref (A 6))]) hx hb dX2_passes_1 rfl hl (by decide) rfl (fun ls hl => ?_)
  obtain ⟨K58, hK58, hf⟩ := jnS hf
  have J58 : ∀ (tt_58 : HS) (H : Heap) (locs : List Loc) (ls : Array Slot), K58 tt_58 = some out → va_P D vwCl (wM A cI tt_58) H → va_D G (wM A cI tt_58) → va_S G s.heap H locs → lv_has ls 3 [] → WW H locs (F0 m 58 ls []) := by
    intro tt_58 H locs ls hf hP hD hS hl
    subst hK58
    refine (hWW _ _ _).mpr ?_
    obtain rfl := Option.some.inj hf
    exact W.vret hx hb hr (fun t ht hW => ⟨⟨(), rfl, trivial, hPt ht hP⟩, hS.F ht⟩) hS.2.2 dX2_passes_58
  have P2 : ∀ (n' : Nat) (j2_2 : Int32) (tt_2 : HS) (H : Heap) (locs : List Loc) (ls : Array Slot), L_X2_passes_5_2  K58 n' j2_2 tt_2 = some out → va_P D vwCl (wM A cI tt_2) H → va_D G (wM A cI tt_2) → va_S G s.heap H locs → lv_has ls 3 [(0, .ref (A 0)), (1, .ref (A 6)), (2, .int j2_2)] → WW H locs (F0 m 2 ls []) := by
    intro n'
    induction n' with
    | zero => intro j2_2 tt_2 H locs ls hf; exact absurd (show (none : Option (HS)) = some out from hf) (fun q => by cases q)
    | succ n' ih =>
      intro j2_2 tt_2 H locs ls hf hP hD hS hl
      rw [L_X2_passes_5_2] at hf
      refine (hWW _ _ _).mpr ?_
      refine lv_iload_n hx hb dX2_passes_2 rfl (lv_at hl 2 rfl) ?_
      refine lv_aload_n hx hb dX2_passes_3 rfl (lv_at hl 1 rfl) ?_
      refine va_alen hx hb hK hP 6 0 rfl rfl (v := (8 : Int32)) rfl dX2_passes_4 ?_
      refine lv_icmp_ge (tgt := 58) hx hb dX2_passes_5 (by decide) (fun c1 => ?_) (fun c1 => ?_)
      · have hf := hT hf c1
        exact (hWW _ _ _).mp (J58 _ _ _ _ hf hP hD hS (lv_sub hl [] rfl))
      · have hf := hF hf c1
        refine lv_aload_n hx hb dX2_passes_8 rfl (lv_at hl 0 rfl) ?_
        refine va_get (D := D) (ci := 2) (v := .int (tt_2 27 0)) (C := RX2) (T := TX2) (N := 31) hx hb hts hinM hown hK hP 0 rfl rfl 23 (by decide) lk0 (fun _ h9 => h9) rfl dX2_passes_9 ?_
        refine lv_if_eq (tgt := 30) hx hb dX2_passes_12 (by decide) (fun c2 => ?_) (fun c2 => ?_)
        · have hf := hT hf c2
          refine lv_aload_n hx hb dX2_passes_30 rfl (lv_at hl 1 rfl) ?_
          refine lv_iload_n hx hb dX2_passes_31 rfl (lv_at hl 2 rfl) ?_
          refine lv_aload_n hx hb dX2_passes_32 rfl (lv_at hl 0 rfl) ?_
          refine va_get (D := D) (ci := 2) (v := .ref (A 16)) (C := RX2) (T := TX2) (N := 31) hx hb hts hinM hown hK hP 0 rfl rfl 21 (by decide) lk1 (fun _ h9 => h9) rfl dX2_passes_33 ?_
          refine lv_aload_n hx hb dX2_passes_36 rfl (lv_at hl 0 rfl) ?_
          refine va_get (D := D) (ci := 2) (v := .int (tt_2 28 0)) (C := RX2) (T := TX2) (N := 31) hx hb hts hinM hown hK hP 0 rfl rfl 24 (by decide) lk2 (fun _ h9 => h9) rfl dX2_passes_37 ?_
          obtain ⟨v3, he, hf⟩ := bS hf
          refine x_iald hx hb hK hP 16 (n := 225) rfl he dX2_passes_40 ?_
          obtain ⟨v4, he, hf⟩ := bS hf
          obtain ⟨tt_v5, ett_v5, hf⟩ := jnS hf
          refine x_iast (ws' := (wM A cI tt_v5)) hx hb hK hP hD hS 6 (n := 8) rfl he ((sa_X2_t_5 A cI tt_2 v4).trans (congrArg (fun z => wM A cI z) ett_v5.symm)) dX2_passes_41 (fun H locs hP hD hS => ?_)
          refine lv_aload_n hx hb dX2_passes_42 rfl (lv_at hl 0 rfl) ?_
          refine lv_dup hx hb dX2_passes_43 rfl ?_
          refine va_get (D := D) (ci := 2) (v := .int (tt_v5 28 0)) (C := RX2) (T := TX2) (N := 31) hx hb hts hinM hown hK hP 0 rfl rfl 24 (by decide) lk2 (fun _ h9 => h9) rfl dX2_passes_44 ?_
          refine lv_iconst (v := (1 : Int32)) hx hb dX2_passes_47 (by decide) ?_
          refine lv_iadd hx hb dX2_passes_48 ?_
          obtain ⟨tt_v6, ett_v6, hf⟩ := jnS hf
          refine va_put (D := D) (ci := 2) (v := .int ((tt_v5 28 0) + (1 : Int32))) (ty := .int) (C := RX2) (T := TX2) (N := 31) hx hb hts hinM tyX2 tyX2_ok nmX2 hown hK hP hD hS 0 rfl rfl 24 (by decide) lk2 (fun _ h9 => h9) rfl (by decide +kernel) rfl rfl (Nat.le_of_ble_eq_true rfl) dX2_passes_49 (fun H locs hP hD hS => ?_)
          have hE : _ = (wM A cI tt_v6) := ((sf_X2_t_28 A cI tt_v5 ((tt_v5 28 0) + (1 : Int32))).trans (congrArg (fun z => wM A cI z) ett_v6.symm))
          have hP : va_P D vwCl (wM A cI tt_v6) H := hE ▸ hP
          have hD : va_D G (wM A cI tt_v6) := hE ▸ hD
          refine lv_iinc (v := (j2_2 + (1 : Int32))) (lv' := [(2, .int (j2_2 + (1 : Int32))), (0, .ref (A 0)), (1, .ref (A 6))]) hx hb dX2_passes_52 hl (k := 2) rfl rfl (by decide) rfl (fun ls hl => ?_)
          refine lv_goto (tgt := 2) hx hb dX2_passes_55 (by decide) ?_
          exact (hWW _ _ _).mp (ih _ _ _ _ _ hf hP hD hS (lv_sub hl [1, 2, 0] rfl))
        · have hf := hF hf c2
          refine lv_aload_n hx hb dX2_passes_15 rfl (lv_at hl 0 rfl) ?_
          refine va_get (D := D) (ci := 2) (v := .ref (A 16)) (C := RX2) (T := TX2) (N := 31) hx hb hts hinM hown hK hP 0 rfl rfl 21 (by decide) lk1 (fun _ h9 => h9) rfl dX2_passes_16 ?_
          refine lv_aload_n hx hb dX2_passes_19 rfl (lv_at hl 0 rfl) ?_
          refine va_get (D := D) (ci := 2) (v := .int (tt_2 28 0)) (C := RX2) (T := TX2) (N := 31) hx hb hts hinM hown hK hP 0 rfl rfl 24 (by decide) lk2 (fun _ h9 => h9) rfl dX2_passes_20 ?_
          refine lv_aload_n hx hb dX2_passes_23 rfl (lv_at hl 1 rfl) ?_
          refine lv_iload_n hx hb dX2_passes_24 rfl (lv_at hl 2 rfl) ?_
          obtain ⟨v7, he, hf⟩ := bS hf
          refine x_iald hx hb hK hP 6 (n := 8) rfl he dX2_passes_25 ?_
          obtain ⟨v8, he, hf⟩ := bS hf
          obtain ⟨tt_v9, ett_v9, hf⟩ := jnS hf
          refine x_iast (ws' := (wM A cI tt_v9)) hx hb hK hP hD hS 16 (n := 225) rfl he ((sa_X2_t_15 A cI tt_2 v8).trans (congrArg (fun z => wM A cI z) ett_v9.symm)) dX2_passes_26 (fun H locs hP hD hS => ?_)
          refine lv_goto (tgt := 42) hx hb dX2_passes_27 (by decide) ?_
          refine lv_aload_n hx hb dX2_passes_42 rfl (lv_at hl 0 rfl) ?_
          refine lv_dup hx hb dX2_passes_43 rfl ?_
          refine va_get (D := D) (ci := 2) (v := .int (tt_v9 28 0)) (C := RX2) (T := TX2) (N := 31) hx hb hts hinM hown hK hP 0 rfl rfl 24 (by decide) lk2 (fun _ h9 => h9) rfl dX2_passes_44 ?_
          refine lv_iconst (v := (1 : Int32)) hx hb dX2_passes_47 (by decide) ?_
          refine lv_iadd hx hb dX2_passes_48 ?_
          obtain ⟨tt_v10, ett_v10, hf⟩ := jnS hf
          refine va_put (D := D) (ci := 2) (v := .int ((tt_v9 28 0) + (1 : Int32))) (ty := .int) (C := RX2) (T := TX2) (N := 31) hx hb hts hinM tyX2 tyX2_ok nmX2 hown hK hP hD hS 0 rfl rfl 24 (by decide) lk2 (fun _ h9 => h9) rfl (by decide +kernel) rfl rfl (Nat.le_of_ble_eq_true rfl) dX2_passes_49 (fun H locs hP hD hS => ?_)
          have hE : _ = (wM A cI tt_v10) := ((sf_X2_t_28 A cI tt_v9 ((tt_v9 28 0) + (1 : Int32))).trans (congrArg (fun z => wM A cI z) ett_v10.symm))
          have hP : va_P D vwCl (wM A cI tt_v10) H := hE ▸ hP
          have hD : va_D G (wM A cI tt_v10) := hE ▸ hD
          refine lv_iinc (v := (j2_2 + (1 : Int32))) (lv' := [(2, .int (j2_2 + (1 : Int32))), (0, .ref (A 0)), (1, .ref (A 6))]) hx hb dX2_passes_52 hl (k := 2) rfl rfl (by decide) rfl (fun ls hl => ?_)
          refine lv_goto (tgt := 2) hx hb dX2_passes_55 (by decide) ?_
          exact (hWW _ _ _).mp (ih _ _ _ _ _ hf hP hD hS (lv_sub hl [1, 2, 0] rfl))
  exact (hWW _ _ _).mp (P2 _ _ _ _ _ _ hf hP hD hS (lv_sub hl [1, 2, 0] rfl))
set_option maxHeartbeats 4000000 in
set_option maxRecDepth 100000 in
theorem c_X2_passes_6 (l : Launch) (D : va_G) (cI : ClassId) (A : Nat → Nat) (tt : HS) (out : HS) (hf : f_X2_passes_6 tt = some out) : uV l D cI yX2_passes wsX2_passes ({ frames := 0, cells := 0, slots := 0, locals := 0 } : Room) [.ref (A 0), .ref (A 7)] (wM A cI tt) (wM A cI out) := by
  intro sz
  refine Met.ofW (cc := cX2_passes) (maxL := 3) (ret := none) (by decide) rfl ?_
  intro p e s m args below meth c s₁ Bd hml hv
  obtain ⟨rfl, hsz, hP, hK, hD0, hN⟩ := hv
  have hx := Bd.exec
  have hb := Bd.bytes
  have hr := Bd.returns
  have hts := atoms_spec (ws := wsX2_passes) Bd.pre
  have hown : s.vm.findClass RX2 = some m.cls := findClass_of_methodNamed Bd.named
  have hlocks := Bd.notSynchronized
  subst hsz
  have hD := hD0.self (sz := s.heap.size)
  generalize hAe : va_A (wM A cI tt) s.heap.size = G at hD ⊢
  have hA : ∀ q : Nat, s.heap.size ≤ q → G q := fun q h => by rw [← hAe]; exact Or.inr h
  have hS : va_S G s.heap s.heap [] := va_S.rf
  have hP : va_P D vwCl (wM A cI tt) s.heap := hP
  have hl := lv_entry ([.ref (A 0), .ref (A 7)]) (n := 3) (Nat.le_of_ble_eq_true rfl)
  rw [lg_entry_eq]
  generalize (lg_sl ([.ref (A 0), .ref (A 7)]) ++ List.replicate (3 - (lg_sl ([.ref (A 0), .ref (A 7)])).length) Slot.unset).toArray = ls at hl ⊢
  have hl : lv_has ls 3 [(0, .ref (A 0)), (1, .ref (A 7))] := hl
  have hinM : ∀ w ∈ wsX20, w ∈ wsX2_passes := by decide +kernel
  have lk0 := hts (.fieldLink RX2 159 "LiesBoughtBackModel" "isKeeping" "Z") (by decide +kernel)
  have lk1 := hts (.fieldLink RX2 55 "LiesBoughtBackModel" "kept" "[I") (by decide +kernel)
  have lk2 := hts (.fieldLink RX2 163 "LiesBoughtBackModel" "cursor" "I") (by decide +kernel)
  refine W_in ?_
  intro WW hWW
  refine (hWW _ _ _).mpr ?_
  unfold f_X2_passes_6 at hf
  refine lv_iconst (v := (0 : Int32)) hx hb dX2_passes_0 (by decide) ?_
  refine lv_istore_n (lv' := [(2, .int (0 : Int32)), (0, .ref (A 0)), (1, .ref (A 7))]) hx hb dX2_passes_1 rfl hl (by decide) rfl (fun ls hl => ?_)
  obtain ⟨K58, hK58, hf⟩ := jnS hf
  have J58 : ∀ (tt_58 : HS) (H : Heap) (locs : List Loc) (ls : Array Slot), K58 tt_58 = some out → va_P D vwCl (wM A cI tt_58) H → va_D G (wM A cI tt_58) → va_S G s.heap H locs → lv_has ls 3 [] → WW H locs (F0 m 58 ls []) := by
    intro tt_58 H locs ls hf hP hD hS hl
    subst hK58
    refine (hWW _ _ _).mpr ?_
    obtain rfl := Option.some.inj hf
    exact W.vret hx hb hr (fun t ht hW => ⟨⟨(), rfl, trivial, hPt ht hP⟩, hS.F ht⟩) hS.2.2 dX2_passes_58
  have P2 : ∀ (n' : Nat) (j2_2 : Int32) (tt_2 : HS) (H : Heap) (locs : List Loc) (ls : Array Slot), L_X2_passes_6_2  K58 n' j2_2 tt_2 = some out → va_P D vwCl (wM A cI tt_2) H → va_D G (wM A cI tt_2) → va_S G s.heap H locs → lv_has ls 3 [(0, .ref (A 0)), (1, .ref (A 7)), (2, .int j2_2)] → WW H locs (F0 m 2 ls []) := by
    intro n'
    induction n' with
    | zero => intro j2_2 tt_2 H locs ls hf; exact absurd (show (none : Option (HS)) = some out from hf) (fun q => by cases q)
    | succ n' ih =>
      intro j2_2 tt_2 H locs ls hf hP hD hS hl
      rw [L_X2_passes_6_2] at hf
      refine (hWW _ _ _).mpr ?_
      refine lv_iload_n hx hb dX2_passes_2 rfl (lv_at hl 2 rfl) ?_
      refine lv_aload_n hx hb dX2_passes_3 rfl (lv_at hl 1 rfl) ?_
      refine va_alen hx hb hK hP 7 0 rfl rfl (v := (8 : Int32)) rfl dX2_passes_4 ?_
      refine lv_icmp_ge (tgt := 58) hx hb dX2_passes_5 (by decide) (fun c1 => ?_) (fun c1 => ?_)
      · have hf := hT hf c1
        exact (hWW _ _ _).mp (J58 _ _ _ _ hf hP hD hS (lv_sub hl [] rfl))
      · have hf := hF hf c1
        refine lv_aload_n hx hb dX2_passes_8 rfl (lv_at hl 0 rfl) ?_
        refine va_get (D := D) (ci := 2) (v := .int (tt_2 27 0)) (C := RX2) (T := TX2) (N := 31) hx hb hts hinM hown hK hP 0 rfl rfl 23 (by decide) lk0 (fun _ h9 => h9) rfl dX2_passes_9 ?_
        refine lv_if_eq (tgt := 30) hx hb dX2_passes_12 (by decide) (fun c2 => ?_) (fun c2 => ?_)
        · have hf := hT hf c2
          refine lv_aload_n hx hb dX2_passes_30 rfl (lv_at hl 1 rfl) ?_
          refine lv_iload_n hx hb dX2_passes_31 rfl (lv_at hl 2 rfl) ?_
          refine lv_aload_n hx hb dX2_passes_32 rfl (lv_at hl 0 rfl) ?_
          refine va_get (D := D) (ci := 2) (v := .ref (A 16)) (C := RX2) (T := TX2) (N := 31) hx hb hts hinM hown hK hP 0 rfl rfl 21 (by decide) lk1 (fun _ h9 => h9) rfl dX2_passes_33 ?_
          refine lv_aload_n hx hb dX2_passes_36 rfl (lv_at hl 0 rfl) ?_
          refine va_get (D := D) (ci := 2) (v := .int (tt_2 28 0)) (C := RX2) (T := TX2) (N := 31) hx hb hts hinM hown hK hP 0 rfl rfl 24 (by decide) lk2 (fun _ h9 => h9) rfl dX2_passes_37 ?_
          obtain ⟨v3, he, hf⟩ := bS hf
          refine x_iald hx hb hK hP 16 (n := 225) rfl he dX2_passes_40 ?_
          obtain ⟨v4, he, hf⟩ := bS hf
          obtain ⟨tt_v5, ett_v5, hf⟩ := jnS hf
          refine x_iast (ws' := (wM A cI tt_v5)) hx hb hK hP hD hS 7 (n := 8) rfl he ((sa_X2_t_6 A cI tt_2 v4).trans (congrArg (fun z => wM A cI z) ett_v5.symm)) dX2_passes_41 (fun H locs hP hD hS => ?_)
          refine lv_aload_n hx hb dX2_passes_42 rfl (lv_at hl 0 rfl) ?_
          refine lv_dup hx hb dX2_passes_43 rfl ?_
          refine va_get (D := D) (ci := 2) (v := .int (tt_v5 28 0)) (C := RX2) (T := TX2) (N := 31) hx hb hts hinM hown hK hP 0 rfl rfl 24 (by decide) lk2 (fun _ h9 => h9) rfl dX2_passes_44 ?_
          refine lv_iconst (v := (1 : Int32)) hx hb dX2_passes_47 (by decide) ?_
          refine lv_iadd hx hb dX2_passes_48 ?_
          obtain ⟨tt_v6, ett_v6, hf⟩ := jnS hf
          refine va_put (D := D) (ci := 2) (v := .int ((tt_v5 28 0) + (1 : Int32))) (ty := .int) (C := RX2) (T := TX2) (N := 31) hx hb hts hinM tyX2 tyX2_ok nmX2 hown hK hP hD hS 0 rfl rfl 24 (by decide) lk2 (fun _ h9 => h9) rfl (by decide +kernel) rfl rfl (Nat.le_of_ble_eq_true rfl) dX2_passes_49 (fun H locs hP hD hS => ?_)
          have hE : _ = (wM A cI tt_v6) := ((sf_X2_t_28 A cI tt_v5 ((tt_v5 28 0) + (1 : Int32))).trans (congrArg (fun z => wM A cI z) ett_v6.symm))
          have hP : va_P D vwCl (wM A cI tt_v6) H := hE ▸ hP
          have hD : va_D G (wM A cI tt_v6) := hE ▸ hD
          refine lv_iinc (v := (j2_2 + (1 : Int32))) (lv' := [(2, .int (j2_2 + (1 : Int32))), (0, .ref (A 0)), (1, .ref (A 7))]) hx hb dX2_passes_52 hl (k := 2) rfl rfl (by decide) rfl (fun ls hl => ?_)
          refine lv_goto (tgt := 2) hx hb dX2_passes_55 (by decide) ?_
          exact (hWW _ _ _).mp (ih _ _ _ _ _ hf hP hD hS (lv_sub hl [1, 2, 0] rfl))
        · have hf := hF hf c2
          refine lv_aload_n hx hb dX2_passes_15 rfl (lv_at hl 0 rfl) ?_
          refine va_get (D := D) (ci := 2) (v := .ref (A 16)) (C := RX2) (T := TX2) (N := 31) hx hb hts hinM hown hK hP 0 rfl rfl 21 (by decide) lk1 (fun _ h9 => h9) rfl dX2_passes_16 ?_
          refine lv_aload_n hx hb dX2_passes_19 rfl (lv_at hl 0 rfl) ?_
          refine va_get (D := D) (ci := 2) (v := .int (tt_2 28 0)) (C := RX2) (T := TX2) (N := 31) hx hb hts hinM hown hK hP 0 rfl rfl 24 (by decide) lk2 (fun _ h9 => h9) rfl dX2_passes_20 ?_
          refine lv_aload_n hx hb dX2_passes_23 rfl (lv_at hl 1 rfl) ?_
          refine lv_iload_n hx hb dX2_passes_24 rfl (lv_at hl 2 rfl) ?_
          obtain ⟨v7, he, hf⟩ := bS hf
          refine x_iald hx hb hK hP 7 (n := 8) rfl he dX2_passes_25 ?_
          obtain ⟨v8, he, hf⟩ := bS hf
          obtain ⟨tt_v9, ett_v9, hf⟩ := jnS hf
          refine x_iast (ws' := (wM A cI tt_v9)) hx hb hK hP hD hS 16 (n := 225) rfl he ((sa_X2_t_15 A cI tt_2 v8).trans (congrArg (fun z => wM A cI z) ett_v9.symm)) dX2_passes_26 (fun H locs hP hD hS => ?_)
          refine lv_goto (tgt := 42) hx hb dX2_passes_27 (by decide) ?_
          refine lv_aload_n hx hb dX2_passes_42 rfl (lv_at hl 0 rfl) ?_
          refine lv_dup hx hb dX2_passes_43 rfl ?_
          refine va_get (D := D) (ci := 2) (v := .int (tt_v9 28 0)) (C := RX2) (T := TX2) (N := 31) hx hb hts hinM hown hK hP 0 rfl rfl 24 (by decide) lk2 (fun _ h9 => h9) rfl dX2_passes_44 ?_
          refine lv_iconst (v := (1 : Int32)) hx hb dX2_passes_47 (by decide) ?_
          refine lv_iadd hx hb dX2_passes_48 ?_
          obtain ⟨tt_v10, ett_v10, hf⟩ := jnS hf
          refine va_put (D := D) (ci := 2) (v := .int ((tt_v9 28 0) + (1 : Int32))) (ty := .int) (C := RX2) (T := TX2) (N := 31) hx hb hts hinM tyX2 tyX2_ok nmX2 hown hK hP hD hS 0 rfl rfl 24 (by decide) lk2 (fun _ h9 => h9) rfl (by decide +kernel) rfl rfl (Nat.le_of_ble_eq_true rfl) dX2_passes_49 (fun H locs hP hD hS => ?_)
          have hE : _ = (wM A cI tt_v10) := ((sf_X2_t_28 A cI tt_v9 ((tt_v9 28 0) + (1 : Int32))).trans (congrArg (fun z => wM A cI z) ett_v10.symm))
          have hP : va_P D vwCl (wM A cI tt_v10) H := hE ▸ hP
          have hD : va_D G (wM A cI tt_v10) := hE ▸ hD
          refine lv_iinc (v := (j2_2 + (1 : Int32))) (lv' := [(2, .int (j2_2 + (1 : Int32))), (0, .ref (A 0)), (1, .ref (A 7))]) hx hb dX2_passes_52 hl (k := 2) rfl rfl (by decide) rfl (fun ls hl => ?_)
          refine lv_goto (tgt := 2) hx hb dX2_passes_55 (by decide) ?_
          exact (hWW _ _ _).mp (ih _ _ _ _ _ hf hP hD hS (lv_sub hl [1, 2, 0] rfl))
  exact (hWW _ _ _).mp (P2 _ _ _ _ _ _ hf hP hD hS (lv_sub hl [1, 2, 0] rfl))
set_option maxHeartbeats 4000000 in
set_option maxRecDepth 100000 in
theorem c_X2_passes_7 (l : Launch) (D : va_G) (cI : ClassId) (A : Nat → Nat) (tt : HS) (out : HS) (hf : f_X2_passes_7 tt = some out) : uV l D cI yX2_passes wsX2_passes ({ frames := 0, cells := 0, slots := 0, locals := 0 } : Room) [.ref (A 0), .ref (A 8)] (wM A cI tt) (wM A cI out) := by
  intro sz
  refine Met.ofW (cc := cX2_passes) (maxL := 3) (ret := none) (by decide) rfl ?_
  intro p e s m args below meth c s₁ Bd hml hv
  obtain ⟨rfl, hsz, hP, hK, hD0, hN⟩ := hv
  have hx := Bd.exec
  have hb := Bd.bytes
  have hr := Bd.returns
  have hts := atoms_spec (ws := wsX2_passes) Bd.pre
  have hown : s.vm.findClass RX2 = some m.cls := findClass_of_methodNamed Bd.named
  have hlocks := Bd.notSynchronized
  subst hsz
  have hD := hD0.self (sz := s.heap.size)
  generalize hAe : va_A (wM A cI tt) s.heap.size = G at hD ⊢
  have hA : ∀ q : Nat, s.heap.size ≤ q → G q := fun q h => by rw [← hAe]; exact Or.inr h
  have hS : va_S G s.heap s.heap [] := va_S.rf
  have hP : va_P D vwCl (wM A cI tt) s.heap := hP
  have hl := lv_entry ([.ref (A 0), .ref (A 8)]) (n := 3) (Nat.le_of_ble_eq_true rfl)
  rw [lg_entry_eq]
  generalize (lg_sl ([.ref (A 0), .ref (A 8)]) ++ List.replicate (3 - (lg_sl ([.ref (A 0), .ref (A 8)])).length) Slot.unset).toArray = ls at hl ⊢
  have hl : lv_has ls 3 [(0, .ref (A 0)), (1, .ref (A 8))] := hl
  have hinM : ∀ w ∈ wsX20, w ∈ wsX2_passes := by decide +kernel
  have lk0 := hts (.fieldLink RX2 159 "LiesBoughtBackModel" "isKeeping" "Z") (by decide +kernel)
  have lk1 := hts (.fieldLink RX2 55 "LiesBoughtBackModel" "kept" "[I") (by decide +kernel)
  have lk2 := hts (.fieldLink RX2 163 "LiesBoughtBackModel" "cursor" "I") (by decide +kernel)
  refine W_in ?_
  intro WW hWW
  refine (hWW _ _ _).mpr ?_
  unfold f_X2_passes_7 at hf
  refine lv_iconst (v := (0 : Int32)) hx hb dX2_passes_0 (by decide) ?_
  refine lv_istore_n (lv' := [(2, .int (0 : Int32)), (0, .ref (A 0)), (1, .ref (A 8))]) hx hb dX2_passes_1 rfl hl (by decide) rfl (fun ls hl => ?_)
  obtain ⟨K58, hK58, hf⟩ := jnS hf
  have J58 : ∀ (tt_58 : HS) (H : Heap) (locs : List Loc) (ls : Array Slot), K58 tt_58 = some out → va_P D vwCl (wM A cI tt_58) H → va_D G (wM A cI tt_58) → va_S G s.heap H locs → lv_has ls 3 [] → WW H locs (F0 m 58 ls []) := by
    intro tt_58 H locs ls hf hP hD hS hl
    subst hK58
    refine (hWW _ _ _).mpr ?_
    obtain rfl := Option.some.inj hf
    exact W.vret hx hb hr (fun t ht hW => ⟨⟨(), rfl, trivial, hPt ht hP⟩, hS.F ht⟩) hS.2.2 dX2_passes_58
  have P2 : ∀ (n' : Nat) (j2_2 : Int32) (tt_2 : HS) (H : Heap) (locs : List Loc) (ls : Array Slot), L_X2_passes_7_2  K58 n' j2_2 tt_2 = some out → va_P D vwCl (wM A cI tt_2) H → va_D G (wM A cI tt_2) → va_S G s.heap H locs → lv_has ls 3 [(0, .ref (A 0)), (1, .ref (A 8)), (2, .int j2_2)] → WW H locs (F0 m 2 ls []) := by
    intro n'
    induction n' with
    | zero => intro j2_2 tt_2 H locs ls hf; exact absurd (show (none : Option (HS)) = some out from hf) (fun q => by cases q)
    | succ n' ih =>
      intro j2_2 tt_2 H locs ls hf hP hD hS hl
      rw [L_X2_passes_7_2] at hf
      refine (hWW _ _ _).mpr ?_
      refine lv_iload_n hx hb dX2_passes_2 rfl (lv_at hl 2 rfl) ?_
      refine lv_aload_n hx hb dX2_passes_3 rfl (lv_at hl 1 rfl) ?_
      refine va_alen hx hb hK hP 8 0 rfl rfl (v := (6 : Int32)) rfl dX2_passes_4 ?_
      refine lv_icmp_ge (tgt := 58) hx hb dX2_passes_5 (by decide) (fun c1 => ?_) (fun c1 => ?_)
      · have hf := hT hf c1
        exact (hWW _ _ _).mp (J58 _ _ _ _ hf hP hD hS (lv_sub hl [] rfl))
      · have hf := hF hf c1
        refine lv_aload_n hx hb dX2_passes_8 rfl (lv_at hl 0 rfl) ?_
        refine va_get (D := D) (ci := 2) (v := .int (tt_2 27 0)) (C := RX2) (T := TX2) (N := 31) hx hb hts hinM hown hK hP 0 rfl rfl 23 (by decide) lk0 (fun _ h9 => h9) rfl dX2_passes_9 ?_
        refine lv_if_eq (tgt := 30) hx hb dX2_passes_12 (by decide) (fun c2 => ?_) (fun c2 => ?_)
        · have hf := hT hf c2
          refine lv_aload_n hx hb dX2_passes_30 rfl (lv_at hl 1 rfl) ?_
          refine lv_iload_n hx hb dX2_passes_31 rfl (lv_at hl 2 rfl) ?_
          refine lv_aload_n hx hb dX2_passes_32 rfl (lv_at hl 0 rfl) ?_
          refine va_get (D := D) (ci := 2) (v := .ref (A 16)) (C := RX2) (T := TX2) (N := 31) hx hb hts hinM hown hK hP 0 rfl rfl 21 (by decide) lk1 (fun _ h9 => h9) rfl dX2_passes_33 ?_
          refine lv_aload_n hx hb dX2_passes_36 rfl (lv_at hl 0 rfl) ?_
          refine va_get (D := D) (ci := 2) (v := .int (tt_2 28 0)) (C := RX2) (T := TX2) (N := 31) hx hb hts hinM hown hK hP 0 rfl rfl 24 (by decide) lk2 (fun _ h9 => h9) rfl dX2_passes_37 ?_
          obtain ⟨v3, he, hf⟩ := bS hf
          refine x_iald hx hb hK hP 16 (n := 225) rfl he dX2_passes_40 ?_
          obtain ⟨v4, he, hf⟩ := bS hf
          obtain ⟨tt_v5, ett_v5, hf⟩ := jnS hf
          refine x_iast (ws' := (wM A cI tt_v5)) hx hb hK hP hD hS 8 (n := 6) rfl he ((sa_X2_t_7 A cI tt_2 v4).trans (congrArg (fun z => wM A cI z) ett_v5.symm)) dX2_passes_41 (fun H locs hP hD hS => ?_)
          refine lv_aload_n hx hb dX2_passes_42 rfl (lv_at hl 0 rfl) ?_
          refine lv_dup hx hb dX2_passes_43 rfl ?_
          refine va_get (D := D) (ci := 2) (v := .int (tt_v5 28 0)) (C := RX2) (T := TX2) (N := 31) hx hb hts hinM hown hK hP 0 rfl rfl 24 (by decide) lk2 (fun _ h9 => h9) rfl dX2_passes_44 ?_
          refine lv_iconst (v := (1 : Int32)) hx hb dX2_passes_47 (by decide) ?_
          refine lv_iadd hx hb dX2_passes_48 ?_
          obtain ⟨tt_v6, ett_v6, hf⟩ := jnS hf
          refine va_put (D := D) (ci := 2) (v := .int ((tt_v5 28 0) + (1 : Int32))) (ty := .int) (C := RX2) (T := TX2) (N := 31) hx hb hts hinM tyX2 tyX2_ok nmX2 hown hK hP hD hS 0 rfl rfl 24 (by decide) lk2 (fun _ h9 => h9) rfl (by decide +kernel) rfl rfl (Nat.le_of_ble_eq_true rfl) dX2_passes_49 (fun H locs hP hD hS => ?_)
          have hE : _ = (wM A cI tt_v6) := ((sf_X2_t_28 A cI tt_v5 ((tt_v5 28 0) + (1 : Int32))).trans (congrArg (fun z => wM A cI z) ett_v6.symm))
          have hP : va_P D vwCl (wM A cI tt_v6) H := hE ▸ hP
          have hD : va_D G (wM A cI tt_v6) := hE ▸ hD
          refine lv_iinc (v := (j2_2 + (1 : Int32))) (lv' := [(2, .int (j2_2 + (1 : Int32))), (0, .ref (A 0)), (1, .ref (A 8))]) hx hb dX2_passes_52 hl (k := 2) rfl rfl (by decide) rfl (fun ls hl => ?_)
          refine lv_goto (tgt := 2) hx hb dX2_passes_55 (by decide) ?_
          exact (hWW _ _ _).mp (ih _ _ _ _ _ hf hP hD hS (lv_sub hl [1, 2, 0] rfl))
        · have hf := hF hf c2
          refine lv_aload_n hx hb dX2_passes_15 rfl (lv_at hl 0 rfl) ?_
          refine va_get (D := D) (ci := 2) (v := .ref (A 16)) (C := RX2) (T := TX2) (N := 31) hx hb hts hinM hown hK hP 0 rfl rfl 21 (by decide) lk1 (fun _ h9 => h9) rfl dX2_passes_16 ?_
          refine lv_aload_n hx hb dX2_passes_19 rfl (lv_at hl 0 rfl) ?_
          refine va_get (D := D) (ci := 2) (v := .int (tt_2 28 0)) (C := RX2) (T := TX2) (N := 31) hx hb hts hinM hown hK hP 0 rfl rfl 24 (by decide) lk2 (fun _ h9 => h9) rfl dX2_passes_20 ?_
          refine lv_aload_n hx hb dX2_passes_23 rfl (lv_at hl 1 rfl) ?_
          refine lv_iload_n hx hb dX2_passes_24 rfl (lv_at hl 2 rfl) ?_
          obtain ⟨v7, he, hf⟩ := bS hf
          refine x_iald hx hb hK hP 8 (n := 6) rfl he dX2_passes_25 ?_
          obtain ⟨v8, he, hf⟩ := bS hf
          obtain ⟨tt_v9, ett_v9, hf⟩ := jnS hf
          refine x_iast (ws' := (wM A cI tt_v9)) hx hb hK hP hD hS 16 (n := 225) rfl he ((sa_X2_t_15 A cI tt_2 v8).trans (congrArg (fun z => wM A cI z) ett_v9.symm)) dX2_passes_26 (fun H locs hP hD hS => ?_)
          refine lv_goto (tgt := 42) hx hb dX2_passes_27 (by decide) ?_
          refine lv_aload_n hx hb dX2_passes_42 rfl (lv_at hl 0 rfl) ?_
          refine lv_dup hx hb dX2_passes_43 rfl ?_
          refine va_get (D := D) (ci := 2) (v := .int (tt_v9 28 0)) (C := RX2) (T := TX2) (N := 31) hx hb hts hinM hown hK hP 0 rfl rfl 24 (by decide) lk2 (fun _ h9 => h9) rfl dX2_passes_44 ?_
          refine lv_iconst (v := (1 : Int32)) hx hb dX2_passes_47 (by decide) ?_
          refine lv_iadd hx hb dX2_passes_48 ?_
          obtain ⟨tt_v10, ett_v10, hf⟩ := jnS hf
          refine va_put (D := D) (ci := 2) (v := .int ((tt_v9 28 0) + (1 : Int32))) (ty := .int) (C := RX2) (T := TX2) (N := 31) hx hb hts hinM tyX2 tyX2_ok nmX2 hown hK hP hD hS 0 rfl rfl 24 (by decide) lk2 (fun _ h9 => h9) rfl (by decide +kernel) rfl rfl (Nat.le_of_ble_eq_true rfl) dX2_passes_49 (fun H locs hP hD hS => ?_)
          have hE : _ = (wM A cI tt_v10) := ((sf_X2_t_28 A cI tt_v9 ((tt_v9 28 0) + (1 : Int32))).trans (congrArg (fun z => wM A cI z) ett_v10.symm))
          have hP : va_P D vwCl (wM A cI tt_v10) H := hE ▸ hP
          have hD : va_D G (wM A cI tt_v10) := hE ▸ hD
          refine lv_iinc (v := (j2_2 + (1 : Int32))) (lv' := [(2, .int (j2_2 + (1 : Int32))), (0, .ref (A 0)), (1, .ref (A 8))]) hx hb dX2_passes_52 hl (k := 2) rfl rfl (by decide) rfl (fun ls hl => ?_)
          refine lv_goto (tgt := 2) hx hb dX2_passes_55 (by decide) ?_
          exact (hWW _ _ _).mp (ih _ _ _ _ _ hf hP hD hS (lv_sub hl [1, 2, 0] rfl))
  exact (hWW _ _ _).mp (P2 _ _ _ _ _ _ hf hP hD hS (lv_sub hl [1, 2, 0] rfl))
set_option maxHeartbeats 4000000 in
set_option maxRecDepth 100000 in
theorem c_X2_passes_8 (l : Launch) (D : va_G) (cI : ClassId) (A : Nat → Nat) (tt : HS) (out : HS) (hf : f_X2_passes_8 tt = some out) : uV l D cI yX2_passes wsX2_passes ({ frames := 0, cells := 0, slots := 0, locals := 0 } : Room) [.ref (A 0), .ref (A 9)] (wM A cI tt) (wM A cI out) := by
  intro sz
  refine Met.ofW (cc := cX2_passes) (maxL := 3) (ret := none) (by decide) rfl ?_
  intro p e s m args below meth c s₁ Bd hml hv
  obtain ⟨rfl, hsz, hP, hK, hD0, hN⟩ := hv
  have hx := Bd.exec
  have hb := Bd.bytes
  have hr := Bd.returns
  have hts := atoms_spec (ws := wsX2_passes) Bd.pre
  have hown : s.vm.findClass RX2 = some m.cls := findClass_of_methodNamed Bd.named
  have hlocks := Bd.notSynchronized
  subst hsz
  have hD := hD0.self (sz := s.heap.size)
  generalize hAe : va_A (wM A cI tt) s.heap.size = G at hD ⊢
  have hA : ∀ q : Nat, s.heap.size ≤ q → G q := fun q h => by rw [← hAe]; exact Or.inr h
  have hS : va_S G s.heap s.heap [] := va_S.rf
  have hP : va_P D vwCl (wM A cI tt) s.heap := hP
  have hl := lv_entry ([.ref (A 0), .ref (A 9)]) (n := 3) (Nat.le_of_ble_eq_true rfl)
  rw [lg_entry_eq]
  generalize (lg_sl ([.ref (A 0), .ref (A 9)]) ++ List.replicate (3 - (lg_sl ([.ref (A 0), .ref (A 9)])).length) Slot.unset).toArray = ls at hl ⊢
  have hl : lv_has ls 3 [(0, .ref (A 0)), (1, .ref (A 9))] := hl
  have hinM : ∀ w ∈ wsX20, w ∈ wsX2_passes := by decide +kernel
  have lk0 := hts (.fieldLink RX2 159 "LiesBoughtBackModel" "isKeeping" "Z") (by decide +kernel)
  have lk1 := hts (.fieldLink RX2 55 "LiesBoughtBackModel" "kept" "[I") (by decide +kernel)
  have lk2 := hts (.fieldLink RX2 163 "LiesBoughtBackModel" "cursor" "I") (by decide +kernel)
  refine W_in ?_
  intro WW hWW
  refine (hWW _ _ _).mpr ?_
  unfold f_X2_passes_8 at hf
  refine lv_iconst (v := (0 : Int32)) hx hb dX2_passes_0 (by decide) ?_
  refine lv_istore_n (lv' := [(2, .int (0 : Int32)), (0, .ref (A 0)), (1, .ref (A 9))]) hx hb dX2_passes_1 rfl hl (by decide) rfl (fun ls hl => ?_)
  obtain ⟨K58, hK58, hf⟩ := jnS hf
  have J58 : ∀ (tt_58 : HS) (H : Heap) (locs : List Loc) (ls : Array Slot), K58 tt_58 = some out → va_P D vwCl (wM A cI tt_58) H → va_D G (wM A cI tt_58) → va_S G s.heap H locs → lv_has ls 3 [] → WW H locs (F0 m 58 ls []) := by
    intro tt_58 H locs ls hf hP hD hS hl
    subst hK58
    refine (hWW _ _ _).mpr ?_
    obtain rfl := Option.some.inj hf
    exact W.vret hx hb hr (fun t ht hW => ⟨⟨(), rfl, trivial, hPt ht hP⟩, hS.F ht⟩) hS.2.2 dX2_passes_58
  have P2 : ∀ (n' : Nat) (j2_2 : Int32) (tt_2 : HS) (H : Heap) (locs : List Loc) (ls : Array Slot), L_X2_passes_8_2  K58 n' j2_2 tt_2 = some out → va_P D vwCl (wM A cI tt_2) H → va_D G (wM A cI tt_2) → va_S G s.heap H locs → lv_has ls 3 [(0, .ref (A 0)), (1, .ref (A 9)), (2, .int j2_2)] → WW H locs (F0 m 2 ls []) := by
    intro n'
    induction n' with
    | zero => intro j2_2 tt_2 H locs ls hf; exact absurd (show (none : Option (HS)) = some out from hf) (fun q => by cases q)
    | succ n' ih =>
      intro j2_2 tt_2 H locs ls hf hP hD hS hl
      rw [L_X2_passes_8_2] at hf
      refine (hWW _ _ _).mpr ?_
      refine lv_iload_n hx hb dX2_passes_2 rfl (lv_at hl 2 rfl) ?_
      refine lv_aload_n hx hb dX2_passes_3 rfl (lv_at hl 1 rfl) ?_
      refine va_alen hx hb hK hP 9 0 rfl rfl (v := (6 : Int32)) rfl dX2_passes_4 ?_
      refine lv_icmp_ge (tgt := 58) hx hb dX2_passes_5 (by decide) (fun c1 => ?_) (fun c1 => ?_)
      · have hf := hT hf c1
        exact (hWW _ _ _).mp (J58 _ _ _ _ hf hP hD hS (lv_sub hl [] rfl))
      · have hf := hF hf c1
        refine lv_aload_n hx hb dX2_passes_8 rfl (lv_at hl 0 rfl) ?_
        refine va_get (D := D) (ci := 2) (v := .int (tt_2 27 0)) (C := RX2) (T := TX2) (N := 31) hx hb hts hinM hown hK hP 0 rfl rfl 23 (by decide) lk0 (fun _ h9 => h9) rfl dX2_passes_9 ?_
        refine lv_if_eq (tgt := 30) hx hb dX2_passes_12 (by decide) (fun c2 => ?_) (fun c2 => ?_)
        · have hf := hT hf c2
          refine lv_aload_n hx hb dX2_passes_30 rfl (lv_at hl 1 rfl) ?_
          refine lv_iload_n hx hb dX2_passes_31 rfl (lv_at hl 2 rfl) ?_
          refine lv_aload_n hx hb dX2_passes_32 rfl (lv_at hl 0 rfl) ?_
          refine va_get (D := D) (ci := 2) (v := .ref (A 16)) (C := RX2) (T := TX2) (N := 31) hx hb hts hinM hown hK hP 0 rfl rfl 21 (by decide) lk1 (fun _ h9 => h9) rfl dX2_passes_33 ?_
          refine lv_aload_n hx hb dX2_passes_36 rfl (lv_at hl 0 rfl) ?_
          refine va_get (D := D) (ci := 2) (v := .int (tt_2 28 0)) (C := RX2) (T := TX2) (N := 31) hx hb hts hinM hown hK hP 0 rfl rfl 24 (by decide) lk2 (fun _ h9 => h9) rfl dX2_passes_37 ?_
          obtain ⟨v3, he, hf⟩ := bS hf
          refine x_iald hx hb hK hP 16 (n := 225) rfl he dX2_passes_40 ?_
          obtain ⟨v4, he, hf⟩ := bS hf
          obtain ⟨tt_v5, ett_v5, hf⟩ := jnS hf
          refine x_iast (ws' := (wM A cI tt_v5)) hx hb hK hP hD hS 9 (n := 6) rfl he ((sa_X2_t_8 A cI tt_2 v4).trans (congrArg (fun z => wM A cI z) ett_v5.symm)) dX2_passes_41 (fun H locs hP hD hS => ?_)
          refine lv_aload_n hx hb dX2_passes_42 rfl (lv_at hl 0 rfl) ?_
          refine lv_dup hx hb dX2_passes_43 rfl ?_
          refine va_get (D := D) (ci := 2) (v := .int (tt_v5 28 0)) (C := RX2) (T := TX2) (N := 31) hx hb hts hinM hown hK hP 0 rfl rfl 24 (by decide) lk2 (fun _ h9 => h9) rfl dX2_passes_44 ?_
          refine lv_iconst (v := (1 : Int32)) hx hb dX2_passes_47 (by decide) ?_
          refine lv_iadd hx hb dX2_passes_48 ?_
          obtain ⟨tt_v6, ett_v6, hf⟩ := jnS hf
          refine va_put (D := D) (ci := 2) (v := .int ((tt_v5 28 0) + (1 : Int32))) (ty := .int) (C := RX2) (T := TX2) (N := 31) hx hb hts hinM tyX2 tyX2_ok nmX2 hown hK hP hD hS 0 rfl rfl 24 (by decide) lk2 (fun _ h9 => h9) rfl (by decide +kernel) rfl rfl (Nat.le_of_ble_eq_true rfl) dX2_passes_49 (fun H locs hP hD hS => ?_)
          have hE : _ = (wM A cI tt_v6) := ((sf_X2_t_28 A cI tt_v5 ((tt_v5 28 0) + (1 : Int32))).trans (congrArg (fun z => wM A cI z) ett_v6.symm))
          have hP : va_P D vwCl (wM A cI tt_v6) H := hE ▸ hP
          have hD : va_D G (wM A cI tt_v6) := hE ▸ hD
          refine lv_iinc (v := (j2_2 + (1 : Int32))) (lv' := [(2, .int (j2_2 + (1 : Int32))), (0, .ref (A 0)), (1, .ref (A 9))]) hx hb dX2_passes_52 hl (k := 2) rfl rfl (by decide) rfl (fun ls hl => ?_)
          refine lv_goto (tgt := 2) hx hb dX2_passes_55 (by decide) ?_
          exact (hWW _ _ _).mp (ih _ _ _ _ _ hf hP hD hS (lv_sub hl [1, 2, 0] rfl))
        · have hf := hF hf c2
          refine lv_aload_n hx hb dX2_passes_15 rfl (lv_at hl 0 rfl) ?_
          refine va_get (D := D) (ci := 2) (v := .ref (A 16)) (C := RX2) (T := TX2) (N := 31) hx hb hts hinM hown hK hP 0 rfl rfl 21 (by decide) lk1 (fun _ h9 => h9) rfl dX2_passes_16 ?_
          refine lv_aload_n hx hb dX2_passes_19 rfl (lv_at hl 0 rfl) ?_
          refine va_get (D := D) (ci := 2) (v := .int (tt_2 28 0)) (C := RX2) (T := TX2) (N := 31) hx hb hts hinM hown hK hP 0 rfl rfl 24 (by decide) lk2 (fun _ h9 => h9) rfl dX2_passes_20 ?_
          refine lv_aload_n hx hb dX2_passes_23 rfl (lv_at hl 1 rfl) ?_
          refine lv_iload_n hx hb dX2_passes_24 rfl (lv_at hl 2 rfl) ?_
          obtain ⟨v7, he, hf⟩ := bS hf
          refine x_iald hx hb hK hP 9 (n := 6) rfl he dX2_passes_25 ?_
          obtain ⟨v8, he, hf⟩ := bS hf
          obtain ⟨tt_v9, ett_v9, hf⟩ := jnS hf
          refine x_iast (ws' := (wM A cI tt_v9)) hx hb hK hP hD hS 16 (n := 225) rfl he ((sa_X2_t_15 A cI tt_2 v8).trans (congrArg (fun z => wM A cI z) ett_v9.symm)) dX2_passes_26 (fun H locs hP hD hS => ?_)
          refine lv_goto (tgt := 42) hx hb dX2_passes_27 (by decide) ?_
          refine lv_aload_n hx hb dX2_passes_42 rfl (lv_at hl 0 rfl) ?_
          refine lv_dup hx hb dX2_passes_43 rfl ?_
          refine va_get (D := D) (ci := 2) (v := .int (tt_v9 28 0)) (C := RX2) (T := TX2) (N := 31) hx hb hts hinM hown hK hP 0 rfl rfl 24 (by decide) lk2 (fun _ h9 => h9) rfl dX2_passes_44 ?_
          refine lv_iconst (v := (1 : Int32)) hx hb dX2_passes_47 (by decide) ?_
          refine lv_iadd hx hb dX2_passes_48 ?_
          obtain ⟨tt_v10, ett_v10, hf⟩ := jnS hf
          refine va_put (D := D) (ci := 2) (v := .int ((tt_v9 28 0) + (1 : Int32))) (ty := .int) (C := RX2) (T := TX2) (N := 31) hx hb hts hinM tyX2 tyX2_ok nmX2 hown hK hP hD hS 0 rfl rfl 24 (by decide) lk2 (fun _ h9 => h9) rfl (by decide +kernel) rfl rfl (Nat.le_of_ble_eq_true rfl) dX2_passes_49 (fun H locs hP hD hS => ?_)
          have hE : _ = (wM A cI tt_v10) := ((sf_X2_t_28 A cI tt_v9 ((tt_v9 28 0) + (1 : Int32))).trans (congrArg (fun z => wM A cI z) ett_v10.symm))
          have hP : va_P D vwCl (wM A cI tt_v10) H := hE ▸ hP
          have hD : va_D G (wM A cI tt_v10) := hE ▸ hD
          refine lv_iinc (v := (j2_2 + (1 : Int32))) (lv' := [(2, .int (j2_2 + (1 : Int32))), (0, .ref (A 0)), (1, .ref (A 9))]) hx hb dX2_passes_52 hl (k := 2) rfl rfl (by decide) rfl (fun ls hl => ?_)
          refine lv_goto (tgt := 2) hx hb dX2_passes_55 (by decide) ?_
          exact (hWW _ _ _).mp (ih _ _ _ _ _ hf hP hD hS (lv_sub hl [1, 2, 0] rfl))
  exact (hWW _ _ _).mp (P2 _ _ _ _ _ _ hf hP hD hS (lv_sub hl [1, 2, 0] rfl))
set_option maxHeartbeats 4000000 in
set_option maxRecDepth 100000 in
theorem c_X2_passes_9 (l : Launch) (D : va_G) (cI : ClassId) (A : Nat → Nat) (tt : HS) (out : HS) (hf : f_X2_passes_9 tt = some out) : uV l D cI yX2_passes wsX2_passes ({ frames := 0, cells := 0, slots := 0, locals := 0 } : Room) [.ref (A 0), .ref (A 10)] (wM A cI tt) (wM A cI out) := by
  intro sz
  refine Met.ofW (cc := cX2_passes) (maxL := 3) (ret := none) (by decide) rfl ?_
  intro p e s m args below meth c s₁ Bd hml hv
  obtain ⟨rfl, hsz, hP, hK, hD0, hN⟩ := hv
  have hx := Bd.exec
  have hb := Bd.bytes
  have hr := Bd.returns
  have hts := atoms_spec (ws := wsX2_passes) Bd.pre
  have hown : s.vm.findClass RX2 = some m.cls := findClass_of_methodNamed Bd.named
  have hlocks := Bd.notSynchronized
  subst hsz
  have hD := hD0.self (sz := s.heap.size)
  generalize hAe : va_A (wM A cI tt) s.heap.size = G at hD ⊢
  have hA : ∀ q : Nat, s.heap.size ≤ q → G q := fun q h => by rw [← hAe]; exact Or.inr h
  have hS : va_S G s.heap s.heap [] := va_S.rf
  have hP : va_P D vwCl (wM A cI tt) s.heap := hP
  have hl := lv_entry ([.ref (A 0), .ref (A 10)]) (n := 3) (Nat.le_of_ble_eq_true rfl)
  rw [lg_entry_eq]
  generalize (lg_sl ([.ref (A 0), .ref (A 10)]) ++ List.replicate (3 - (lg_sl ([.ref (A 0), .ref (A 10)])).length) Slot.unset).toArray = ls at hl ⊢
  have hl : lv_has ls 3 [(0, .ref (A 0)), (1, .ref (A 10))] := hl
  have hinM : ∀ w ∈ wsX20, w ∈ wsX2_passes := by decide +kernel
  have lk0 := hts (.fieldLink RX2 159 "LiesBoughtBackModel" "isKeeping" "Z") (by decide +kernel)
  have lk1 := hts (.fieldLink RX2 55 "LiesBoughtBackModel" "kept" "[I") (by decide +kernel)
  have lk2 := hts (.fieldLink RX2 163 "LiesBoughtBackModel" "cursor" "I") (by decide +kernel)
  refine W_in ?_
  intro WW hWW
  refine (hWW _ _ _).mpr ?_
  unfold f_X2_passes_9 at hf
  refine lv_iconst (v := (0 : Int32)) hx hb dX2_passes_0 (by decide) ?_
  refine lv_istore_n (lv' := [(2, .int (0 : Int32)), (0, .ref (A 0)), (1, .ref (A 10))]) hx hb dX2_passes_1 rfl hl (by decide) rfl (fun ls hl => ?_)
  obtain ⟨K58, hK58, hf⟩ := jnS hf
  have J58 : ∀ (tt_58 : HS) (H : Heap) (locs : List Loc) (ls : Array Slot), K58 tt_58 = some out → va_P D vwCl (wM A cI tt_58) H → va_D G (wM A cI tt_58) → va_S G s.heap H locs → lv_has ls 3 [] → WW H locs (F0 m 58 ls []) := by
    intro tt_58 H locs ls hf hP hD hS hl
    subst hK58
    refine (hWW _ _ _).mpr ?_
    obtain rfl := Option.some.inj hf
    exact W.vret hx hb hr (fun t ht hW => ⟨⟨(), rfl, trivial, hPt ht hP⟩, hS.F ht⟩) hS.2.2 dX2_passes_58
  have P2 : ∀ (n' : Nat) (j2_2 : Int32) (tt_2 : HS) (H : Heap) (locs : List Loc) (ls : Array Slot), L_X2_passes_9_2  K58 n' j2_2 tt_2 = some out → va_P D vwCl (wM A cI tt_2) H → va_D G (wM A cI tt_2) → va_S G s.heap H locs → lv_has ls 3 [(0, .ref (A 0)), (1, .ref (A 10)), (2, .int j2_2)] → WW H locs (F0 m 2 ls []) := by
    intro n'
    induction n' with
    | zero => intro j2_2 tt_2 H locs ls hf; exact absurd (show (none : Option (HS)) = some out from hf) (fun q => by cases q)
    | succ n' ih =>
      intro j2_2 tt_2 H locs ls hf hP hD hS hl
      rw [L_X2_passes_9_2] at hf
      refine (hWW _ _ _).mpr ?_
      refine lv_iload_n hx hb dX2_passes_2 rfl (lv_at hl 2 rfl) ?_
      refine lv_aload_n hx hb dX2_passes_3 rfl (lv_at hl 1 rfl) ?_
      refine va_alen hx hb hK hP 10 0 rfl rfl (v := (6 : Int32)) rfl dX2_passes_4 ?_
      refine lv_icmp_ge (tgt := 58) hx hb dX2_passes_5 (by decide) (fun c1 => ?_) (fun c1 => ?_)
      · have hf := hT hf c1
        exact (hWW _ _ _).mp (J58 _ _ _ _ hf hP hD hS (lv_sub hl [] rfl))
      · have hf := hF hf c1
        refine lv_aload_n hx hb dX2_passes_8 rfl (lv_at hl 0 rfl) ?_
        refine va_get (D := D) (ci := 2) (v := .int (tt_2 27 0)) (C := RX2) (T := TX2) (N := 31) hx hb hts hinM hown hK hP 0 rfl rfl 23 (by decide) lk0 (fun _ h9 => h9) rfl dX2_passes_9 ?_
        refine lv_if_eq (tgt := 30) hx hb dX2_passes_12 (by decide) (fun c2 => ?_) (fun c2 => ?_)
        · have hf := hT hf c2
          refine lv_aload_n hx hb dX2_passes_30 rfl (lv_at hl 1 rfl) ?_
          refine lv_iload_n hx hb dX2_passes_31 rfl (lv_at hl 2 rfl) ?_
          refine lv_aload_n hx hb dX2_passes_32 rfl (lv_at hl 0 rfl) ?_
          refine va_get (D := D) (ci := 2) (v := .ref (A 16)) (C := RX2) (T := TX2) (N := 31) hx hb hts hinM hown hK hP 0 rfl rfl 21 (by decide) lk1 (fun _ h9 => h9) rfl dX2_passes_33 ?_
          refine lv_aload_n hx hb dX2_passes_36 rfl (lv_at hl 0 rfl) ?_
          refine va_get (D := D) (ci := 2) (v := .int (tt_2 28 0)) (C := RX2) (T := TX2) (N := 31) hx hb hts hinM hown hK hP 0 rfl rfl 24 (by decide) lk2 (fun _ h9 => h9) rfl dX2_passes_37 ?_
          obtain ⟨v3, he, hf⟩ := bS hf
          refine x_iald hx hb hK hP 16 (n := 225) rfl he dX2_passes_40 ?_
          obtain ⟨v4, he, hf⟩ := bS hf
          obtain ⟨tt_v5, ett_v5, hf⟩ := jnS hf
          refine x_iast (ws' := (wM A cI tt_v5)) hx hb hK hP hD hS 10 (n := 6) rfl he ((sa_X2_t_9 A cI tt_2 v4).trans (congrArg (fun z => wM A cI z) ett_v5.symm)) dX2_passes_41 (fun H locs hP hD hS => ?_)
          refine lv_aload_n hx hb dX2_passes_42 rfl (lv_at hl 0 rfl) ?_
          refine lv_dup hx hb dX2_passes_43 rfl ?_
          refine va_get (D := D) (ci := 2) (v := .int (tt_v5 28 0)) (C := RX2) (T := TX2) (N := 31) hx hb hts hinM hown hK hP 0 rfl rfl 24 (by decide) lk2 (fun _ h9 => h9) rfl dX2_passes_44 ?_
          refine lv_iconst (v := (1 : Int32)) hx hb dX2_passes_47 (by decide) ?_
          refine lv_iadd hx hb dX2_passes_48 ?_
          obtain ⟨tt_v6, ett_v6, hf⟩ := jnS hf
          refine va_put (D := D) (ci := 2) (v := .int ((tt_v5 28 0) + (1 : Int32))) (ty := .int) (C := RX2) (T := TX2) (N := 31) hx hb hts hinM tyX2 tyX2_ok nmX2 hown hK hP hD hS 0 rfl rfl 24 (by decide) lk2 (fun _ h9 => h9) rfl (by decide +kernel) rfl rfl (Nat.le_of_ble_eq_true rfl) dX2_passes_49 (fun H locs hP hD hS => ?_)
          have hE : _ = (wM A cI tt_v6) := ((sf_X2_t_28 A cI tt_v5 ((tt_v5 28 0) + (1 : Int32))).trans (congrArg (fun z => wM A cI z) ett_v6.symm))
          have hP : va_P D vwCl (wM A cI tt_v6) H := hE ▸ hP
          have hD : va_D G (wM A cI tt_v6) := hE ▸ hD
          refine lv_iinc (v := (j2_2 + (1 : Int32))) (lv' := [(2, .int (j2_2 + (1 : Int32))), (0, .ref (A 0)), (1, .ref (A 10))]) hx hb dX2_passes_52 hl (k := 2) rfl rfl (by decide) rfl (fun ls hl => ?_)
          refine lv_goto (tgt := 2) hx hb dX2_passes_55 (by decide) ?_
          exact (hWW _ _ _).mp (ih _ _ _ _ _ hf hP hD hS (lv_sub hl [1, 2, 0] rfl))
        · have hf := hF hf c2
          refine lv_aload_n hx hb dX2_passes_15 rfl (lv_at hl 0 rfl) ?_
          refine va_get (D := D) (ci := 2) (v := .ref (A 16)) (C := RX2) (T := TX2) (N := 31) hx hb hts hinM hown hK hP 0 rfl rfl 21 (by decide) lk1 (fun _ h9 => h9) rfl dX2_passes_16 ?_
          refine lv_aload_n hx hb dX2_passes_19 rfl (lv_at hl 0 rfl) ?_
          refine va_get (D := D) (ci := 2) (v := .int (tt_2 28 0)) (C := RX2) (T := TX2) (N := 31) hx hb hts hinM hown hK hP 0 rfl rfl 24 (by decide) lk2 (fun _ h9 => h9) rfl dX2_passes_20 ?_
          refine lv_aload_n hx hb dX2_passes_23 rfl (lv_at hl 1 rfl) ?_
          refine lv_iload_n hx hb dX2_passes_24 rfl (lv_at hl 2 rfl) ?_
          obtain ⟨v7, he, hf⟩ := bS hf
          refine x_iald hx hb hK hP 10 (n := 6) rfl he dX2_passes_25 ?_
          obtain ⟨v8, he, hf⟩ := bS hf
          obtain ⟨tt_v9, ett_v9, hf⟩ := jnS hf
          refine x_iast (ws' := (wM A cI tt_v9)) hx hb hK hP hD hS 16 (n := 225) rfl he ((sa_X2_t_15 A cI tt_2 v8).trans (congrArg (fun z => wM A cI z) ett_v9.symm)) dX2_passes_26 (fun H locs hP hD hS => ?_)
          refine lv_goto (tgt := 42) hx hb dX2_passes_27 (by decide) ?_
          refine lv_aload_n hx hb dX2_passes_42 rfl (lv_at hl 0 rfl) ?_
          refine lv_dup hx hb dX2_passes_43 rfl ?_
          refine va_get (D := D) (ci := 2) (v := .int (tt_v9 28 0)) (C := RX2) (T := TX2) (N := 31) hx hb hts hinM hown hK hP 0 rfl rfl 24 (by decide) lk2 (fun _ h9 => h9) rfl dX2_passes_44 ?_
          refine lv_iconst (v := (1 : Int32)) hx hb dX2_passes_47 (by decide) ?_
          refine lv_iadd hx hb dX2_passes_48 ?_
          obtain ⟨tt_v10, ett_v10, hf⟩ := jnS hf
          refine va_put (D := D) (ci := 2) (v := .int ((tt_v9 28 0) + (1 : Int32))) (ty := .int) (C := RX2) (T := TX2) (N := 31) hx hb hts hinM tyX2 tyX2_ok nmX2 hown hK hP hD hS 0 rfl rfl 24 (by decide) lk2 (fun _ h9 => h9) rfl (by decide +kernel) rfl rfl (Nat.le_of_ble_eq_true rfl) dX2_passes_49 (fun H locs hP hD hS => ?_)
          have hE : _ = (wM A cI tt_v10) := ((sf_X2_t_28 A cI tt_v9 ((tt_v9 28 0) + (1 : Int32))).trans (congrArg (fun z => wM A cI z) ett_v10.symm))
          have hP : va_P D vwCl (wM A cI tt_v10) H := hE ▸ hP
          have hD : va_D G (wM A cI tt_v10) := hE ▸ hD
          refine lv_iinc (v := (j2_2 + (1 : Int32))) (lv' := [(2, .int (j2_2 + (1 : Int32))), (0, .ref (A 0)), (1, .ref (A 10))]) hx hb dX2_passes_52 hl (k := 2) rfl rfl (by decide) rfl (fun ls hl => ?_)
          refine lv_goto (tgt := 2) hx hb dX2_passes_55 (by decide) ?_
          exact (hWW _ _ _).mp (ih _ _ _ _ _ hf hP hD hS (lv_sub hl [1, 2, 0] rfl))
  exact (hWW _ _ _).mp (P2 _ _ _ _ _ _ hf hP hD hS (lv_sub hl [1, 2, 0] rfl))
set_option maxHeartbeats 4000000 in
set_option maxRecDepth 100000 in
theorem c_X2_passes_10 (l : Launch) (D : va_G) (cI : ClassId) (A : Nat → Nat) (tt : HS) (out : HS) (hf : f_X2_passes_10 tt = some out) : uV l D cI yX2_passes wsX2_passes ({ frames := 0, cells := 0, slots := 0, locals := 0 } : Room) [.ref (A 0), .ref (A 11)] (wM A cI tt) (wM A cI out) := by
  intro sz
  refine Met.ofW (cc := cX2_passes) (maxL := 3) (ret := none) (by decide) rfl ?_
  intro p e s m args below meth c s₁ Bd hml hv
  obtain ⟨rfl, hsz, hP, hK, hD0, hN⟩ := hv
  have hx := Bd.exec
  have hb := Bd.bytes
  have hr := Bd.returns
  have hts := atoms_spec (ws := wsX2_passes) Bd.pre
  have hown : s.vm.findClass RX2 = some m.cls := findClass_of_methodNamed Bd.named
  have hlocks := Bd.notSynchronized
  subst hsz
  have hD := hD0.self (sz := s.heap.size)
  generalize hAe : va_A (wM A cI tt) s.heap.size = G at hD ⊢
  have hA : ∀ q : Nat, s.heap.size ≤ q → G q := fun q h => by rw [← hAe]; exact Or.inr h
  have hS : va_S G s.heap s.heap [] := va_S.rf
  have hP : va_P D vwCl (wM A cI tt) s.heap := hP
  have hl := lv_entry ([.ref (A 0), .ref (A 11)]) (n := 3) (Nat.le_of_ble_eq_true rfl)
  rw [lg_entry_eq]
  generalize (lg_sl ([.ref (A 0), .ref (A 11)]) ++ List.replicate (3 - (lg_sl ([.ref (A 0), .ref (A 11)])).length) Slot.unset).toArray = ls at hl ⊢
  have hl : lv_has ls 3 [(0, .ref (A 0)), (1, .ref (A 11))] := hl
  have hinM : ∀ w ∈ wsX20, w ∈ wsX2_passes := by decide +kernel
  have lk0 := hts (.fieldLink RX2 159 "LiesBoughtBackModel" "isKeeping" "Z") (by decide +kernel)
  have lk1 := hts (.fieldLink RX2 55 "LiesBoughtBackModel" "kept" "[I") (by decide +kernel)
  have lk2 := hts (.fieldLink RX2 163 "LiesBoughtBackModel" "cursor" "I") (by decide +kernel)
  refine W_in ?_
  intro WW hWW
  refine (hWW _ _ _).mpr ?_
  unfold f_X2_passes_10 at hf
  refine lv_iconst (v := (0 : Int32)) hx hb dX2_passes_0 (by decide) ?_
  refine lv_istore_n (lv' := [(2, .int (0 : Int32)), (0, .ref (A 0)), (1, .ref (A 11))]) hx hb dX2_passes_1 rfl hl (by decide) rfl (fun ls hl => ?_)
  obtain ⟨K58, hK58, hf⟩ := jnS hf
  have J58 : ∀ (tt_58 : HS) (H : Heap) (locs : List Loc) (ls : Array Slot), K58 tt_58 = some out → va_P D vwCl (wM A cI tt_58) H → va_D G (wM A cI tt_58) → va_S G s.heap H locs → lv_has ls 3 [] → WW H locs (F0 m 58 ls []) := by
    intro tt_58 H locs ls hf hP hD hS hl
    subst hK58
    refine (hWW _ _ _).mpr ?_
    obtain rfl := Option.some.inj hf
    exact W.vret hx hb hr (fun t ht hW => ⟨⟨(), rfl, trivial, hPt ht hP⟩, hS.F ht⟩) hS.2.2 dX2_passes_58
  have P2 : ∀ (n' : Nat) (j2_2 : Int32) (tt_2 : HS) (H : Heap) (locs : List Loc) (ls : Array Slot), L_X2_passes_10_2  K58 n' j2_2 tt_2 = some out → va_P D vwCl (wM A cI tt_2) H → va_D G (wM A cI tt_2) → va_S G s.heap H locs → lv_has ls 3 [(0, .ref (A 0)), (1, .ref (A 11)), (2, .int j2_2)] → WW H locs (F0 m 2 ls []) := by
    intro n'
    induction n' with
    | zero => intro j2_2 tt_2 H locs ls hf; exact absurd (show (none : Option (HS)) = some out from hf) (fun q => by cases q)
    | succ n' ih =>
      intro j2_2 tt_2 H locs ls hf hP hD hS hl
      rw [L_X2_passes_10_2] at hf
      refine (hWW _ _ _).mpr ?_
      refine lv_iload_n hx hb dX2_passes_2 rfl (lv_at hl 2 rfl) ?_
      refine lv_aload_n hx hb dX2_passes_3 rfl (lv_at hl 1 rfl) ?_
      refine va_alen hx hb hK hP 11 0 rfl rfl (v := (6 : Int32)) rfl dX2_passes_4 ?_
      refine lv_icmp_ge (tgt := 58) hx hb dX2_passes_5 (by decide) (fun c1 => ?_) (fun c1 => ?_)
      · have hf := hT hf c1
        exact (hWW _ _ _).mp (J58 _ _ _ _ hf hP hD hS (lv_sub hl [] rfl))
      · have hf := hF hf c1
        refine lv_aload_n hx hb dX2_passes_8 rfl (lv_at hl 0 rfl) ?_
        refine va_get (D := D) (ci := 2) (v := .int (tt_2 27 0)) (C := RX2) (T := TX2) (N := 31) hx hb hts hinM hown hK hP 0 rfl rfl 23 (by decide) lk0 (fun _ h9 => h9) rfl dX2_passes_9 ?_
        refine lv_if_eq (tgt := 30) hx hb dX2_passes_12 (by decide) (fun c2 => ?_) (fun c2 => ?_)
        · have hf := hT hf c2
          refine lv_aload_n hx hb dX2_passes_30 rfl (lv_at hl 1 rfl) ?_
          refine lv_iload_n hx hb dX2_passes_31 rfl (lv_at hl 2 rfl) ?_
          refine lv_aload_n hx hb dX2_passes_32 rfl (lv_at hl 0 rfl) ?_
          refine va_get (D := D) (ci := 2) (v := .ref (A 16)) (C := RX2) (T := TX2) (N := 31) hx hb hts hinM hown hK hP 0 rfl rfl 21 (by decide) lk1 (fun _ h9 => h9) rfl dX2_passes_33 ?_
          refine lv_aload_n hx hb dX2_passes_36 rfl (lv_at hl 0 rfl) ?_
          refine va_get (D := D) (ci := 2) (v := .int (tt_2 28 0)) (C := RX2) (T := TX2) (N := 31) hx hb hts hinM hown hK hP 0 rfl rfl 24 (by decide) lk2 (fun _ h9 => h9) rfl dX2_passes_37 ?_
          obtain ⟨v3, he, hf⟩ := bS hf
          refine x_iald hx hb hK hP 16 (n := 225) rfl he dX2_passes_40 ?_
          obtain ⟨v4, he, hf⟩ := bS hf
          obtain ⟨tt_v5, ett_v5, hf⟩ := jnS hf
          refine x_iast (ws' := (wM A cI tt_v5)) hx hb hK hP hD hS 11 (n := 6) rfl he ((sa_X2_t_10 A cI tt_2 v4).trans (congrArg (fun z => wM A cI z) ett_v5.symm)) dX2_passes_41 (fun H locs hP hD hS => ?_)
          refine lv_aload_n hx hb dX2_passes_42 rfl (lv_at hl 0 rfl) ?_
          refine lv_dup hx hb dX2_passes_43 rfl ?_
          refine va_get (D := D) (ci := 2) (v := .int (tt_v5 28 0)) (C := RX2) (T := TX2) (N := 31) hx hb hts hinM hown hK hP 0 rfl rfl 24 (by decide) lk2 (fun _ h9 => h9) rfl dX2_passes_44 ?_
          refine lv_iconst (v := (1 : Int32)) hx hb dX2_passes_47 (by decide) ?_
          refine lv_iadd hx hb dX2_passes_48 ?_
          obtain ⟨tt_v6, ett_v6, hf⟩ := jnS hf
          refine va_put (D := D) (ci := 2) (v := .int ((tt_v5 28 0) + (1 : Int32))) (ty := .int) (C := RX2) (T := TX2) (N := 31) hx hb hts hinM tyX2 tyX2_ok nmX2 hown hK hP hD hS 0 rfl rfl 24 (by decide) lk2 (fun _ h9 => h9) rfl (by decide +kernel) rfl rfl (Nat.le_of_ble_eq_true rfl) dX2_passes_49 (fun H locs hP hD hS => ?_)
          have hE : _ = (wM A cI tt_v6) := ((sf_X2_t_28 A cI tt_v5 ((tt_v5 28 0) + (1 : Int32))).trans (congrArg (fun z => wM A cI z) ett_v6.symm))
          have hP : va_P D vwCl (wM A cI tt_v6) H := hE ▸ hP
          have hD : va_D G (wM A cI tt_v6) := hE ▸ hD
          refine lv_iinc (v := (j2_2 + (1 : Int32))) (lv' := [(2, .int (j2_2 + (1 : Int32))), (0, .ref (A 0)), (1, .ref (A 11))]) hx hb dX2_passes_52 hl (k := 2) rfl rfl (by decide) rfl (fun ls hl => ?_)
          refine lv_goto (tgt := 2) hx hb dX2_passes_55 (by decide) ?_
          exact (hWW _ _ _).mp (ih _ _ _ _ _ hf hP hD hS (lv_sub hl [1, 2, 0] rfl))
        · have hf := hF hf c2
          refine lv_aload_n hx hb dX2_passes_15 rfl (lv_at hl 0 rfl) ?_
          refine va_get (D := D) (ci := 2) (v := .ref (A 16)) (C := RX2) (T := TX2) (N := 31) hx hb hts hinM hown hK hP 0 rfl rfl 21 (by decide) lk1 (fun _ h9 => h9) rfl dX2_passes_16 ?_
          refine lv_aload_n hx hb dX2_passes_19 rfl (lv_at hl 0 rfl) ?_
          refine va_get (D := D) (ci := 2) (v := .int (tt_2 28 0)) (C := RX2) (T := TX2) (N := 31) hx hb hts hinM hown hK hP 0 rfl rfl 24 (by decide) lk2 (fun _ h9 => h9) rfl dX2_passes_20 ?_
          refine lv_aload_n hx hb dX2_passes_23 rfl (lv_at hl 1 rfl) ?_
          refine lv_iload_n hx hb dX2_passes_24 rfl (lv_at hl 2 rfl) ?_
          obtain ⟨v7, he, hf⟩ := bS hf
          refine x_iald hx hb hK hP 11 (n := 6) rfl he dX2_passes_25 ?_
          obtain ⟨v8, he, hf⟩ := bS hf
          obtain ⟨tt_v9, ett_v9, hf⟩ := jnS hf
          refine x_iast (ws' := (wM A cI tt_v9)) hx hb hK hP hD hS 16 (n := 225) rfl he ((sa_X2_t_15 A cI tt_2 v8).trans (congrArg (fun z => wM A cI z) ett_v9.symm)) dX2_passes_26 (fun H locs hP hD hS => ?_)
          refine lv_goto (tgt := 42) hx hb dX2_passes_27 (by decide) ?_
          refine lv_aload_n hx hb dX2_passes_42 rfl (lv_at hl 0 rfl) ?_
          refine lv_dup hx hb dX2_passes_43 rfl ?_
          refine va_get (D := D) (ci := 2) (v := .int (tt_v9 28 0)) (C := RX2) (T := TX2) (N := 31) hx hb hts hinM hown hK hP 0 rfl rfl 24 (by decide) lk2 (fun _ h9 => h9) rfl dX2_passes_44 ?_
          refine lv_iconst (v := (1 : Int32)) hx hb dX2_passes_47 (by decide) ?_
          refine lv_iadd hx hb dX2_passes_48 ?_
          obtain ⟨tt_v10, ett_v10, hf⟩ := jnS hf
          refine va_put (D := D) (ci := 2) (v := .int ((tt_v9 28 0) + (1 : Int32))) (ty := .int) (C := RX2) (T := TX2) (N := 31) hx hb hts hinM tyX2 tyX2_ok nmX2 hown hK hP hD hS 0 rfl rfl 24 (by decide) lk2 (fun _ h9 => h9) rfl (by decide +kernel) rfl rfl (Nat.le_of_ble_eq_true rfl) dX2_passes_49 (fun H locs hP hD hS => ?_)
          have hE : _ = (wM A cI tt_v10) := ((sf_X2_t_28 A cI tt_v9 ((tt_v9 28 0) + (1 : Int32))).trans (congrArg (fun z => wM A cI z) ett_v10.symm))
          have hP : va_P D vwCl (wM A cI tt_v10) H := hE ▸ hP
          have hD : va_D G (wM A cI tt_v10) := hE ▸ hD
          refine lv_iinc (v := (j2_2 + (1 : Int32))) (lv' := [(2, .int (j2_2 + (1 : Int32))), (0, .ref (A 0)), (1, .ref (A 11))]) hx hb dX2_passes_52 hl (k := 2) rfl rfl (by decide) rfl (fun ls hl => ?_)
          refine lv_goto (tgt := 2) hx hb dX2_passes_55 (by decide) ?_
          exact (hWW _ _ _).mp (ih _ _ _ _ _ hf hP hD hS (lv_sub hl [1, 2, 0] rfl))
  exact (hWW _ _ _).mp (P2 _ _ _ _ _ _ hf hP hD hS (lv_sub hl [1, 2, 0] rfl))
set_option maxHeartbeats 4000000 in
set_option maxRecDepth 100000 in
theorem c_X2_passOne (l : Launch) (D : va_G) (cI : ClassId) (A : Nat → Nat) (j1 : Int32) (tt : HS) (out : Int32 × HS) (hf : f_X2_passOne j1 tt = some out) : uI l D cI yX2_passOne wsX2_passOne ({ frames := 0, cells := 0, slots := 0, locals := 0 } : Room) [.ref (A 0), .int j1] (wM A cI tt) (wM A cI out.2) out.1 := by
  intro sz
  refine Met.ofW (cc := cX2_passOne) (maxL := 3) (ret := (some .int)) (by decide) rfl ?_
  intro p e s m args below meth c s₁ Bd hml hv
  obtain ⟨rfl, hsz, hP, hK, hD0, hN⟩ := hv
  have hx := Bd.exec
  have hb := Bd.bytes
  have hr := Bd.returns
  have hts := atoms_spec (ws := wsX2_passOne) Bd.pre
  have hown : s.vm.findClass RX2 = some m.cls := findClass_of_methodNamed Bd.named
  have hlocks := Bd.notSynchronized
  subst hsz
  have hD := hD0.self (sz := s.heap.size)
  generalize hAe : va_A (wM A cI tt) s.heap.size = G at hD ⊢
  have hA : ∀ q : Nat, s.heap.size ≤ q → G q := fun q h => by rw [← hAe]; exact Or.inr h
  have hS : va_S G s.heap s.heap [] := va_S.rf
  have hP : va_P D vwCl (wM A cI tt) s.heap := hP
  have hl := lv_entry ([.ref (A 0), .int j1]) (n := 3) (Nat.le_of_ble_eq_true rfl)
  rw [lg_entry_eq]
  generalize (lg_sl ([.ref (A 0), .int j1]) ++ List.replicate (3 - (lg_sl ([.ref (A 0), .int j1])).length) Slot.unset).toArray = ls at hl ⊢
  have hl : lv_has ls 3 [(0, .ref (A 0)), (1, .int j1)] := hl
  have hinM : ∀ w ∈ wsX20, w ∈ wsX2_passOne := by decide +kernel
  have lk0 := hts (.fieldLink RX2 159 "LiesBoughtBackModel" "isKeeping" "Z") (by decide +kernel)
  have lk1 := hts (.fieldLink RX2 55 "LiesBoughtBackModel" "kept" "[I") (by decide +kernel)
  have lk2 := hts (.fieldLink RX2 163 "LiesBoughtBackModel" "cursor" "I") (by decide +kernel)
  refine W_in ?_
  intro WW hWW
  refine (hWW _ _ _).mpr ?_
  unfold f_X2_passOne at hf
  refine lv_aload_n hx hb dX2_passOne_0 rfl (lv_at hl 0 rfl) ?_
  refine va_get (D := D) (ci := 2) (v := .int (tt 27 0)) (C := RX2) (T := TX2) (N := 31) hx hb hts hinM hown hK hP 0 rfl rfl 23 (by decide) lk0 (fun _ h9 => h9) rfl dX2_passOne_1 ?_
  refine lv_if_eq (tgt := 11) hx hb dX2_passOne_4 (by decide) (fun c1 => ?_) (fun c1 => ?_)
  · have hf := hT hf c1
    refine lv_aload_n hx hb dX2_passOne_11 rfl (lv_at hl 0 rfl) ?_
    refine va_get (D := D) (ci := 2) (v := .ref (A 16)) (C := RX2) (T := TX2) (N := 31) hx hb hts hinM hown hK hP 0 rfl rfl 21 (by decide) lk1 (fun _ h9 => h9) rfl dX2_passOne_12 ?_
    refine lv_aload_n hx hb dX2_passOne_15 rfl (lv_at hl 0 rfl) ?_
    refine va_get (D := D) (ci := 2) (v := .int (tt 28 0)) (C := RX2) (T := TX2) (N := 31) hx hb hts hinM hown hK hP 0 rfl rfl 24 (by decide) lk2 (fun _ h9 => h9) rfl dX2_passOne_16 ?_
    obtain ⟨v2, he, hf⟩ := bS hf
    refine x_iald hx hb hK hP 16 (n := 225) rfl he dX2_passOne_19 ?_
    refine lv_istore_n (lv' := [(2, .int v2), (0, .ref (A 0)), (1, .int j1)]) hx hb dX2_passOne_20 rfl hl (by decide) rfl (fun ls hl => ?_)
    refine lv_aload_n hx hb dX2_passOne_21 rfl (lv_at hl 1 rfl) ?_
    refine va_get (D := D) (ci := 2) (v := .int (tt 27 0)) (C := RX2) (T := TX2) (N := 31) hx hb hts hinM hown hK hP 0 rfl rfl 23 (by decide) lk0 (fun _ h9 => h9) rfl dX2_passOne_22 ?_
    refine lv_if_eq (tgt := 38) hx hb dX2_passOne_25 (by decide) (fun c3 => ?_) (fun c3 => ?_)
    · have hf := hT hf c3
      refine lv_aload_n hx hb dX2_passOne_38 rfl (lv_at hl 1 rfl) ?_
      refine lv_dup hx hb dX2_passOne_39 rfl ?_
      refine va_get (D := D) (ci := 2) (v := .int (tt 28 0)) (C := RX2) (T := TX2) (N := 31) hx hb hts hinM hown hK hP 0 rfl rfl 24 (by decide) lk2 (fun _ h9 => h9) rfl dX2_passOne_40 ?_
      refine lv_iconst (v := (1 : Int32)) hx hb dX2_passOne_43 (by decide) ?_
      refine lv_iadd hx hb dX2_passOne_44 ?_
      obtain ⟨tt_v4, ett_v4, hf⟩ := jnS hf
      refine va_put (D := D) (ci := 2) (v := .int ((tt 28 0) + (1 : Int32))) (ty := .int) (C := RX2) (T := TX2) (N := 31) hx hb hts hinM tyX2 tyX2_ok nmX2 hown hK hP hD hS 0 rfl rfl 24 (by decide) lk2 (fun _ h9 => h9) rfl (by decide +kernel) rfl rfl (Nat.le_of_ble_eq_true rfl) dX2_passOne_45 (fun H locs hP hD hS => ?_)
      have hE : _ = (wM A cI tt_v4) := ((sf_X2_t_28 A cI tt ((tt 28 0) + (1 : Int32))).trans (congrArg (fun z => wM A cI z) ett_v4.symm))
      have hP : va_P D vwCl (wM A cI tt_v4) H := hE ▸ hP
      have hD : va_D G (wM A cI tt_v4) := hE ▸ hD
      refine lv_iload_n hx hb dX2_passOne_48 rfl (lv_at hl 0 rfl) ?_
      obtain rfl := Option.some.inj hf
      exact W.iret (v := v2) hx hb hr (fun t ht hW => ⟨⟨v2, (), rfl, rfl, hPt ht hP⟩, hS.F ht⟩) hS.2.2 dX2_passOne_49
    · have hf := hF hf c3
      refine lv_aload_n hx hb dX2_passOne_28 rfl (lv_at hl 1 rfl) ?_
      refine va_get (D := D) (ci := 2) (v := .ref (A 16)) (C := RX2) (T := TX2) (N := 31) hx hb hts hinM hown hK hP 0 rfl rfl 21 (by decide) lk1 (fun _ h9 => h9) rfl dX2_passOne_29 ?_
      refine lv_aload_n hx hb dX2_passOne_32 rfl (lv_at hl 1 rfl) ?_
      refine va_get (D := D) (ci := 2) (v := .int (tt 28 0)) (C := RX2) (T := TX2) (N := 31) hx hb hts hinM hown hK hP 0 rfl rfl 24 (by decide) lk2 (fun _ h9 => h9) rfl dX2_passOne_33 ?_
      refine lv_iload_n hx hb dX2_passOne_36 rfl (lv_at hl 2 rfl) ?_
      obtain ⟨v5, he, hf⟩ := bS hf
      obtain ⟨tt_v6, ett_v6, hf⟩ := jnS hf
      refine x_iast (ws' := (wM A cI tt_v6)) hx hb hK hP hD hS 16 (n := 225) rfl he ((sa_X2_t_15 A cI tt v5).trans (congrArg (fun z => wM A cI z) ett_v6.symm)) dX2_passOne_37 (fun H locs hP hD hS => ?_)
      refine lv_aload_n hx hb dX2_passOne_38 rfl (lv_at hl 1 rfl) ?_
      refine lv_dup hx hb dX2_passOne_39 rfl ?_
      refine va_get (D := D) (ci := 2) (v := .int (tt_v6 28 0)) (C := RX2) (T := TX2) (N := 31) hx hb hts hinM hown hK hP 0 rfl rfl 24 (by decide) lk2 (fun _ h9 => h9) rfl dX2_passOne_40 ?_
      refine lv_iconst (v := (1 : Int32)) hx hb dX2_passOne_43 (by decide) ?_
      refine lv_iadd hx hb dX2_passOne_44 ?_
      obtain ⟨tt_v7, ett_v7, hf⟩ := jnS hf
      refine va_put (D := D) (ci := 2) (v := .int ((tt_v6 28 0) + (1 : Int32))) (ty := .int) (C := RX2) (T := TX2) (N := 31) hx hb hts hinM tyX2 tyX2_ok nmX2 hown hK hP hD hS 0 rfl rfl 24 (by decide) lk2 (fun _ h9 => h9) rfl (by decide +kernel) rfl rfl (Nat.le_of_ble_eq_true rfl) dX2_passOne_45 (fun H locs hP hD hS => ?_)
      have hE : _ = (wM A cI tt_v7) := ((sf_X2_t_28 A cI tt_v6 ((tt_v6 28 0) + (1 : Int32))).trans (congrArg (fun z => wM A cI z) ett_v7.symm))
      have hP : va_P D vwCl (wM A cI tt_v7) H := hE ▸ hP
      have hD : va_D G (wM A cI tt_v7) := hE ▸ hD
      refine lv_iload_n hx hb dX2_passOne_48 rfl (lv_at hl 0 rfl) ?_
      obtain rfl := Option.some.inj hf
      exact W.iret (v := v2) hx hb hr (fun t ht hW => ⟨⟨v2, (), rfl, rfl, hPt ht hP⟩, hS.F ht⟩) hS.2.2 dX2_passOne_49
  · have hf := hF hf c1
    refine lv_iload_n hx hb dX2_passOne_7 rfl (lv_at hl 1 rfl) ?_
    refine lv_goto (tgt := 20) hx hb dX2_passOne_8 (by decide) ?_
    refine lv_istore_n (lv' := [(2, .int j1), (0, .ref (A 0)), (1, .int j1)]) hx hb dX2_passOne_20 rfl hl (by decide) rfl (fun ls hl => ?_)
    refine lv_aload_n hx hb dX2_passOne_21 rfl (lv_at hl 1 rfl) ?_
    refine va_get (D := D) (ci := 2) (v := .int (tt 27 0)) (C := RX2) (T := TX2) (N := 31) hx hb hts hinM hown hK hP 0 rfl rfl 23 (by decide) lk0 (fun _ h9 => h9) rfl dX2_passOne_22 ?_
    refine lv_if_eq (tgt := 38) hx hb dX2_passOne_25 (by decide) (fun c8 => ?_) (fun c8 => ?_)
    · have hf := hT hf c8
      refine lv_aload_n hx hb dX2_passOne_38 rfl (lv_at hl 1 rfl) ?_
      refine lv_dup hx hb dX2_passOne_39 rfl ?_
      refine va_get (D := D) (ci := 2) (v := .int (tt 28 0)) (C := RX2) (T := TX2) (N := 31) hx hb hts hinM hown hK hP 0 rfl rfl 24 (by decide) lk2 (fun _ h9 => h9) rfl dX2_passOne_40 ?_
      refine lv_iconst (v := (1 : Int32)) hx hb dX2_passOne_43 (by decide) ?_
      refine lv_iadd hx hb dX2_passOne_44 ?_
      obtain ⟨tt_v9, ett_v9, hf⟩ := jnS hf
      refine va_put (D := D) (ci := 2) (v := .int ((tt 28 0) + (1 : Int32))) (ty := .int) (C := RX2) (T := TX2) (N := 31) hx hb hts hinM tyX2 tyX2_ok nmX2 hown hK hP hD hS 0 rfl rfl 24 (by decide) lk2 (fun _ h9 => h9) rfl (by decide +kernel) rfl rfl (Nat.le_of_ble_eq_true rfl) dX2_passOne_45 (fun H locs hP hD hS => ?_)
      have hE : _ = (wM A cI tt_v9) := ((sf_X2_t_28 A cI tt ((tt 28 0) + (1 : Int32))).trans (congrArg (fun z => wM A cI z) ett_v9.symm))
      have hP : va_P D vwCl (wM A cI tt_v9) H := hE ▸ hP
      have hD : va_D G (wM A cI tt_v9) := hE ▸ hD
      refine lv_iload_n hx hb dX2_passOne_48 rfl (lv_at hl 0 rfl) ?_
      obtain rfl := Option.some.inj hf
      exact W.iret (v := j1) hx hb hr (fun t ht hW => ⟨⟨j1, (), rfl, rfl, hPt ht hP⟩, hS.F ht⟩) hS.2.2 dX2_passOne_49
    · have hf := hF hf c8
      refine lv_aload_n hx hb dX2_passOne_28 rfl (lv_at hl 1 rfl) ?_
      refine va_get (D := D) (ci := 2) (v := .ref (A 16)) (C := RX2) (T := TX2) (N := 31) hx hb hts hinM hown hK hP 0 rfl rfl 21 (by decide) lk1 (fun _ h9 => h9) rfl dX2_passOne_29 ?_
      refine lv_aload_n hx hb dX2_passOne_32 rfl (lv_at hl 1 rfl) ?_
      refine va_get (D := D) (ci := 2) (v := .int (tt 28 0)) (C := RX2) (T := TX2) (N := 31) hx hb hts hinM hown hK hP 0 rfl rfl 24 (by decide) lk2 (fun _ h9 => h9) rfl dX2_passOne_33 ?_
      refine lv_iload_n hx hb dX2_passOne_36 rfl (lv_at hl 2 rfl) ?_
      obtain ⟨v10, he, hf⟩ := bS hf
      obtain ⟨tt_v11, ett_v11, hf⟩ := jnS hf
      refine x_iast (ws' := (wM A cI tt_v11)) hx hb hK hP hD hS 16 (n := 225) rfl he ((sa_X2_t_15 A cI tt v10).trans (congrArg (fun z => wM A cI z) ett_v11.symm)) dX2_passOne_37 (fun H locs hP hD hS => ?_)
      refine lv_aload_n hx hb dX2_passOne_38 rfl (lv_at hl 1 rfl) ?_
      refine lv_dup hx hb dX2_passOne_39 rfl ?_
      refine va_get (D := D) (ci := 2) (v := .int (tt_v11 28 0)) (C := RX2) (T := TX2) (N := 31) hx hb hts hinM hown hK hP 0 rfl rfl 24 (by decide) lk2 (fun _ h9 => h9) rfl dX2_passOne_40 ?_
      refine lv_iconst (v := (1 : Int32)) hx hb dX2_passOne_43 (by decide) ?_
      refine lv_iadd hx hb dX2_passOne_44 ?_
      obtain ⟨tt_v12, ett_v12, hf⟩ := jnS hf
      refine va_put (D := D) (ci := 2) (v := .int ((tt_v11 28 0) + (1 : Int32))) (ty := .int) (C := RX2) (T := TX2) (N := 31) hx hb hts hinM tyX2 tyX2_ok nmX2 hown hK hP hD hS 0 rfl rfl 24 (by decide) lk2 (fun _ h9 => h9) rfl (by decide +kernel) rfl rfl (Nat.le_of_ble_eq_true rfl) dX2_passOne_45 (fun H locs hP hD hS => ?_)
      have hE : _ = (wM A cI tt_v12) := ((sf_X2_t_28 A cI tt_v11 ((tt_v11 28 0) + (1 : Int32))).trans (congrArg (fun z => wM A cI z) ett_v12.symm))
      have hP : va_P D vwCl (wM A cI tt_v12) H := hE ▸ hP
      have hD : va_D G (wM A cI tt_v12) := hE ▸ hD
      refine lv_iload_n hx hb dX2_passOne_48 rfl (lv_at hl 0 rfl) ?_
      obtain rfl := Option.some.inj hf
      exact W.iret (v := j1) hx hb hr (fun t ht hW => ⟨⟨j1, (), rfl, rfl, hPt ht hP⟩, hS.F ht⟩) hS.2.2 dX2_passOne_49
set_option maxHeartbeats 4000000 in
set_option maxRecDepth 100000 in
theorem c_X2_passesAll (l : Launch) (D : va_G) (cI : ClassId) (A : Nat → Nat) (j1 : Int32) (j2 : Int32) (tt : HS) (out : HS) (hf : f_X2_passesAll j1 j2 tt = some out) : uV l D cI yX2_passesAll wsX2_passesAll ({ frames := 1, cells := 0, slots := 0, locals := 22 } : Room) [.ref (A 0), .int j1, .int j2] (wM A cI tt) (wM A cI out) := by
  intro sz
  refine Met.ofW (cc := cX2_passesAll) (maxL := 3) (ret := none) (by decide) rfl ?_
  intro p e s m args below meth c s₁ Bd hml hv
  obtain ⟨rfl, hsz, hP, hK, hD0, hN⟩ := hv
  have hx := Bd.exec
  have hb := Bd.bytes
  have hr := Bd.returns
  have hts := atoms_spec (ws := wsX2_passesAll) Bd.pre
  have hown : s.vm.findClass RX2 = some m.cls := findClass_of_methodNamed Bd.named
  have hlocks := Bd.notSynchronized
  subst hsz
  have hD := hD0.self (sz := s.heap.size)
  generalize hAe : va_A (wM A cI tt) s.heap.size = G at hD ⊢
  have hA : ∀ q : Nat, s.heap.size ≤ q → G q := fun q h => by rw [← hAe]; exact Or.inr h
  have hS : va_S G s.heap s.heap [] := va_S.rf
  have hP : va_P D vwCl (wM A cI tt) s.heap := hP
  have hl := lv_entry ([.ref (A 0), .int j1, .int j2]) (n := 3) (Nat.le_of_ble_eq_true rfl)
  rw [lg_entry_eq]
  generalize (lg_sl ([.ref (A 0), .int j1, .int j2]) ++ List.replicate (3 - (lg_sl ([.ref (A 0), .int j1, .int j2])).length) Slot.unset).toArray = ls at hl ⊢
  have hl : lv_has ls 3 [(0, .ref (A 0)), (1, .int j1), (2, .int j2)] := hl
  have hinM : ∀ w ∈ wsX20, w ∈ wsX2_passesAll := by decide +kernel
  have lk0 := hts (.fieldLink RX2 163 "LiesBoughtBackModel" "cursor" "I") (by decide +kernel)
  have lk1 := hts (.fieldLink RX2 159 "LiesBoughtBackModel" "isKeeping" "Z") (by decide +kernel)
  have lk2 := hts (.fieldLink RX2 13 "LiesBoughtBackModel" "sort" "[I") (by decide +kernel)
  have lk3 := hts (.fieldLink RX2 16 "LiesBoughtBackModel" "size" "[I") (by decide +kernel)
  have lk4 := hts (.fieldLink RX2 19 "LiesBoughtBackModel" "teller" "[I") (by decide +kernel)
  have lk5 := hts (.fieldLink RX2 22 "LiesBoughtBackModel" "age" "[I") (by decide +kernel)
  have lk6 := hts (.fieldLink RX2 25 "LiesBoughtBackModel" "holder" "[I") (by decide +kernel)
  have lk7 := hts (.fieldLink RX2 28 "LiesBoughtBackModel" "order" "[I") (by decide +kernel)
  have lk8 := hts (.fieldLink RX2 31 "LiesBoughtBackModel" "kind" "[I") (by decide +kernel)
  have lk9 := hts (.fieldLink RX2 34 "LiesBoughtBackModel" "figure" "[I") (by decide +kernel)
  have lk10 := hts (.fieldLink RX2 37 "LiesBoughtBackModel" "purse" "[I") (by decide +kernel)
  have lk11 := hts (.fieldLink RX2 40 "LiesBoughtBackModel" "belief" "[I") (by decide +kernel)
  have lk12 := hts (.fieldLink RX2 67 "LiesBoughtBackModel" "cards" "I") (by decide +kernel)
  have lk13 := hts (.fieldLink RX2 73 "LiesBoughtBackModel" "bidders" "I") (by decide +kernel)
  have lk14 := hts (.fieldLink RX2 129 "LiesBoughtBackModel" "month" "I") (by decide +kernel)
  refine W_in ?_
  intro WW hWW
  refine (hWW _ _ _).mpr ?_
  unfold f_X2_passesAll at hf
  refine lv_aload_n hx hb dX2_passesAll_0 rfl (lv_at hl 0 rfl) ?_
  refine lv_bipush (v := (75 : Int32)) hx hb dX2_passesAll_1 (by decide) ?_
  refine lv_iload_n hx hb dX2_passesAll_3 rfl (lv_at hl 1 rfl) ?_
  refine lv_imul hx hb dX2_passesAll_4 ?_
  obtain ⟨tt_v1, ett_v1, hf⟩ := jnS hf
  refine va_put (D := D) (ci := 2) (v := .int ((75 : Int32) * j1)) (ty := .int) (C := RX2) (T := TX2) (N := 31) hx hb hts hinM tyX2 tyX2_ok nmX2 hown hK hP hD hS 0 rfl rfl 24 (by decide) lk0 (fun _ h9 => h9) rfl (by decide +kernel) rfl rfl (Nat.le_of_ble_eq_true rfl) dX2_passesAll_5 (fun H locs hP hD hS => ?_)
  have hE : _ = (wM A cI tt_v1) := ((sf_X2_t_28 A cI tt ((75 : Int32) * j1)).trans (congrArg (fun z => wM A cI z) ett_v1.symm))
  have hP : va_P D vwCl (wM A cI tt_v1) H := hE ▸ hP
  have hD : va_D G (wM A cI tt_v1) := hE ▸ hD
  refine lv_aload_n hx hb dX2_passesAll_8 rfl (lv_at hl 0 rfl) ?_
  refine lv_iload_n hx hb dX2_passesAll_9 rfl (lv_at hl 2 rfl) ?_
  have hft : fits .boolean (.int j2) = true := by
    unfold nb at hf
    split at hf
    next q => rcases q with q | q <;> (rw [q]; decide)
    next => cases hf
  obtain ⟨hnb, hf⟩ := nbS hf
  obtain ⟨tt_v2, ett_v2, hf⟩ := jnS hf
  refine va_put (D := D) (ci := 2) (v := .int j2) (ty := .boolean) (C := RX2) (T := TX2) (N := 31) hx hb hts hinM tyX2 tyX2_ok nmX2 hown hK hP hD hS 0 rfl rfl 23 (by decide) lk1 (fun _ h9 => h9) rfl (by decide +kernel) hnb hft (Nat.le_of_ble_eq_true rfl) dX2_passesAll_10 (fun H locs hP hD hS => ?_)
  have hE : _ = (wM A cI tt_v2) := ((sf_X2_t_27 A cI tt_v1 j2).trans (congrArg (fun z => wM A cI z) ett_v2.symm))
  have hP : va_P D vwCl (wM A cI tt_v2) H := hE ▸ hP
  have hD : va_D G (wM A cI tt_v2) := hE ▸ hD
  refine lv_aload_n hx hb dX2_passesAll_13 rfl (lv_at hl 0 rfl) ?_
  refine lv_aload_n hx hb dX2_passesAll_14 rfl (lv_at hl 0 rfl) ?_
  refine va_get (D := D) (ci := 2) (v := .ref (A 2)) (C := RX2) (T := TX2) (N := 31) hx hb hts hinM hown hK hP 0 rfl rfl 1 (by decide) lk2 (fun _ h9 => h9) rfl dX2_passesAll_15 ?_
  obtain ⟨v3, hev3, hf⟩ := bS hf
  refine qV_v (ws' := (wM A cI v3)) (As := [.ref (A 2)]) (rest := []) ⟨hx, hb, hml, hown, hts⟩ hK hN hA hP hD hS (c_X2_passes_1 l D cI A tt_v2 v3 hev3) (cwV 1 hts gX2_passesAll_X2_passes rfl rfl rfl hd_X2_passes ⟨Nat.le_of_ble_eq_true rfl, Nat.le_of_ble_eq_true rfl⟩) (va_recv hK hP (ci := 2) (q0 := 0) rfl rfl) (bp_X2_X2_t_t A cI tt_v2 v3) rfl hl.1 rfl (Nat.le_of_ble_eq_true rfl) dX2_passesAll_18 ⟨Nat.le_of_ble_eq_true rfl, Nat.le_of_ble_eq_true rfl⟩ (fun H locs hP hD hS => ?_)
  have hP : va_P D vwCl (wM A cI v3) H := hP
  refine lv_aload_n hx hb dX2_passesAll_21 rfl (lv_at hl 0 rfl) ?_
  refine lv_aload_n hx hb dX2_passesAll_22 rfl (lv_at hl 0 rfl) ?_
  refine va_get (D := D) (ci := 2) (v := .ref (A 3)) (C := RX2) (T := TX2) (N := 31) hx hb hts hinM hown hK hP 0 rfl rfl 2 (by decide) lk3 (fun _ h9 => h9) rfl dX2_passesAll_23 ?_
  obtain ⟨v4, hev4, hf⟩ := bS hf
  refine qV_v (ws' := (wM A cI v4)) (As := [.ref (A 3)]) (rest := []) ⟨hx, hb, hml, hown, hts⟩ hK hN hA hP hD hS (c_X2_passes_2 l D cI A v3 v4 hev4) (cwV 1 hts gX2_passesAll_X2_passes rfl rfl rfl hd_X2_passes ⟨Nat.le_of_ble_eq_true rfl, Nat.le_of_ble_eq_true rfl⟩) (va_recv hK hP (ci := 2) (q0 := 0) rfl rfl) (bp_X2_X2_t_t A cI v3 v4) rfl hl.1 rfl (Nat.le_of_ble_eq_true rfl) dX2_passesAll_26 ⟨Nat.le_of_ble_eq_true rfl, Nat.le_of_ble_eq_true rfl⟩ (fun H locs hP hD hS => ?_)
  have hP : va_P D vwCl (wM A cI v4) H := hP
  refine lv_aload_n hx hb dX2_passesAll_29 rfl (lv_at hl 0 rfl) ?_
  refine lv_aload_n hx hb dX2_passesAll_30 rfl (lv_at hl 0 rfl) ?_
  refine va_get (D := D) (ci := 2) (v := .ref (A 4)) (C := RX2) (T := TX2) (N := 31) hx hb hts hinM hown hK hP 0 rfl rfl 3 (by decide) lk4 (fun _ h9 => h9) rfl dX2_passesAll_31 ?_
  obtain ⟨v5, hev5, hf⟩ := bS hf
  refine qV_v (ws' := (wM A cI v5)) (As := [.ref (A 4)]) (rest := []) ⟨hx, hb, hml, hown, hts⟩ hK hN hA hP hD hS (c_X2_passes_3 l D cI A v4 v5 hev5) (cwV 1 hts gX2_passesAll_X2_passes rfl rfl rfl hd_X2_passes ⟨Nat.le_of_ble_eq_true rfl, Nat.le_of_ble_eq_true rfl⟩) (va_recv hK hP (ci := 2) (q0 := 0) rfl rfl) (bp_X2_X2_t_t A cI v4 v5) rfl hl.1 rfl (Nat.le_of_ble_eq_true rfl) dX2_passesAll_34 ⟨Nat.le_of_ble_eq_true rfl, Nat.le_of_ble_eq_true rfl⟩ (fun H locs hP hD hS => ?_)
  have hP : va_P D vwCl (wM A cI v5) H := hP
  refine lv_aload_n hx hb dX2_passesAll_37 rfl (lv_at hl 0 rfl) ?_
  refine lv_aload_n hx hb dX2_passesAll_38 rfl (lv_at hl 0 rfl) ?_
  refine va_get (D := D) (ci := 2) (v := .ref (A 5)) (C := RX2) (T := TX2) (N := 31) hx hb hts hinM hown hK hP 0 rfl rfl 4 (by decide) lk5 (fun _ h9 => h9) rfl dX2_passesAll_39 ?_
  obtain ⟨v6, hev6, hf⟩ := bS hf
  refine qV_v (ws' := (wM A cI v6)) (As := [.ref (A 5)]) (rest := []) ⟨hx, hb, hml, hown, hts⟩ hK hN hA hP hD hS (c_X2_passes_4 l D cI A v5 v6 hev6) (cwV 1 hts gX2_passesAll_X2_passes rfl rfl rfl hd_X2_passes ⟨Nat.le_of_ble_eq_true rfl, Nat.le_of_ble_eq_true rfl⟩) (va_recv hK hP (ci := 2) (q0 := 0) rfl rfl) (bp_X2_X2_t_t A cI v5 v6) rfl hl.1 rfl (Nat.le_of_ble_eq_true rfl) dX2_passesAll_42 ⟨Nat.le_of_ble_eq_true rfl, Nat.le_of_ble_eq_true rfl⟩ (fun H locs hP hD hS => ?_)
  have hP : va_P D vwCl (wM A cI v6) H := hP
  refine lv_aload_n hx hb dX2_passesAll_45 rfl (lv_at hl 0 rfl) ?_
  refine lv_aload_n hx hb dX2_passesAll_46 rfl (lv_at hl 0 rfl) ?_
  refine va_get (D := D) (ci := 2) (v := .ref (A 6)) (C := RX2) (T := TX2) (N := 31) hx hb hts hinM hown hK hP 0 rfl rfl 5 (by decide) lk6 (fun _ h9 => h9) rfl dX2_passesAll_47 ?_
  obtain ⟨v7, hev7, hf⟩ := bS hf
  refine qV_v (ws' := (wM A cI v7)) (As := [.ref (A 6)]) (rest := []) ⟨hx, hb, hml, hown, hts⟩ hK hN hA hP hD hS (c_X2_passes_5 l D cI A v6 v7 hev7) (cwV 1 hts gX2_passesAll_X2_passes rfl rfl rfl hd_X2_passes ⟨Nat.le_of_ble_eq_true rfl, Nat.le_of_ble_eq_true rfl⟩) (va_recv hK hP (ci := 2) (q0 := 0) rfl rfl) (bp_X2_X2_t_t A cI v6 v7) rfl hl.1 rfl (Nat.le_of_ble_eq_true rfl) dX2_passesAll_50 ⟨Nat.le_of_ble_eq_true rfl, Nat.le_of_ble_eq_true rfl⟩ (fun H locs hP hD hS => ?_)
  have hP : va_P D vwCl (wM A cI v7) H := hP
  refine lv_aload_n hx hb dX2_passesAll_53 rfl (lv_at hl 0 rfl) ?_
  refine lv_aload_n hx hb dX2_passesAll_54 rfl (lv_at hl 0 rfl) ?_
  refine va_get (D := D) (ci := 2) (v := .ref (A 7)) (C := RX2) (T := TX2) (N := 31) hx hb hts hinM hown hK hP 0 rfl rfl 6 (by decide) lk7 (fun _ h9 => h9) rfl dX2_passesAll_55 ?_
  obtain ⟨v8, hev8, hf⟩ := bS hf
  refine qV_v (ws' := (wM A cI v8)) (As := [.ref (A 7)]) (rest := []) ⟨hx, hb, hml, hown, hts⟩ hK hN hA hP hD hS (c_X2_passes_6 l D cI A v7 v8 hev8) (cwV 1 hts gX2_passesAll_X2_passes rfl rfl rfl hd_X2_passes ⟨Nat.le_of_ble_eq_true rfl, Nat.le_of_ble_eq_true rfl⟩) (va_recv hK hP (ci := 2) (q0 := 0) rfl rfl) (bp_X2_X2_t_t A cI v7 v8) rfl hl.1 rfl (Nat.le_of_ble_eq_true rfl) dX2_passesAll_58 ⟨Nat.le_of_ble_eq_true rfl, Nat.le_of_ble_eq_true rfl⟩ (fun H locs hP hD hS => ?_)
  have hP : va_P D vwCl (wM A cI v8) H := hP
  refine lv_aload_n hx hb dX2_passesAll_61 rfl (lv_at hl 0 rfl) ?_
  refine lv_aload_n hx hb dX2_passesAll_62 rfl (lv_at hl 0 rfl) ?_
  refine va_get (D := D) (ci := 2) (v := .ref (A 8)) (C := RX2) (T := TX2) (N := 31) hx hb hts hinM hown hK hP 0 rfl rfl 7 (by decide) lk8 (fun _ h9 => h9) rfl dX2_passesAll_63 ?_
  obtain ⟨v9, hev9, hf⟩ := bS hf
  refine qV_v (ws' := (wM A cI v9)) (As := [.ref (A 8)]) (rest := []) ⟨hx, hb, hml, hown, hts⟩ hK hN hA hP hD hS (c_X2_passes_7 l D cI A v8 v9 hev9) (cwV 1 hts gX2_passesAll_X2_passes rfl rfl rfl hd_X2_passes ⟨Nat.le_of_ble_eq_true rfl, Nat.le_of_ble_eq_true rfl⟩) (va_recv hK hP (ci := 2) (q0 := 0) rfl rfl) (bp_X2_X2_t_t A cI v8 v9) rfl hl.1 rfl (Nat.le_of_ble_eq_true rfl) dX2_passesAll_66 ⟨Nat.le_of_ble_eq_true rfl, Nat.le_of_ble_eq_true rfl⟩ (fun H locs hP hD hS => ?_)
  have hP : va_P D vwCl (wM A cI v9) H := hP
  refine lv_aload_n hx hb dX2_passesAll_69 rfl (lv_at hl 0 rfl) ?_
  refine lv_aload_n hx hb dX2_passesAll_70 rfl (lv_at hl 0 rfl) ?_
  refine va_get (D := D) (ci := 2) (v := .ref (A 9)) (C := RX2) (T := TX2) (N := 31) hx hb hts hinM hown hK hP 0 rfl rfl 8 (by decide) lk9 (fun _ h9 => h9) rfl dX2_passesAll_71 ?_
  obtain ⟨v10, hev10, hf⟩ := bS hf
  refine qV_v (ws' := (wM A cI v10)) (As := [.ref (A 9)]) (rest := []) ⟨hx, hb, hml, hown, hts⟩ hK hN hA hP hD hS (c_X2_passes_8 l D cI A v9 v10 hev10) (cwV 1 hts gX2_passesAll_X2_passes rfl rfl rfl hd_X2_passes ⟨Nat.le_of_ble_eq_true rfl, Nat.le_of_ble_eq_true rfl⟩) (va_recv hK hP (ci := 2) (q0 := 0) rfl rfl) (bp_X2_X2_t_t A cI v9 v10) rfl hl.1 rfl (Nat.le_of_ble_eq_true rfl) dX2_passesAll_74 ⟨Nat.le_of_ble_eq_true rfl, Nat.le_of_ble_eq_true rfl⟩ (fun H locs hP hD hS => ?_)
  have hP : va_P D vwCl (wM A cI v10) H := hP
  refine lv_aload_n hx hb dX2_passesAll_77 rfl (lv_at hl 0 rfl) ?_
  refine lv_aload_n hx hb dX2_passesAll_78 rfl (lv_at hl 0 rfl) ?_
  refine va_get (D := D) (ci := 2) (v := .ref (A 10)) (C := RX2) (T := TX2) (N := 31) hx hb hts hinM hown hK hP 0 rfl rfl 9 (by decide) lk10 (fun _ h9 => h9) rfl dX2_passesAll_79 ?_
  obtain ⟨v11, hev11, hf⟩ := bS hf
  refine qV_v (ws' := (wM A cI v11)) (As := [.ref (A 10)]) (rest := []) ⟨hx, hb, hml, hown, hts⟩ hK hN hA hP hD hS (c_X2_passes_9 l D cI A v10 v11 hev11) (cwV 1 hts gX2_passesAll_X2_passes rfl rfl rfl hd_X2_passes ⟨Nat.le_of_ble_eq_true rfl, Nat.le_of_ble_eq_true rfl⟩) (va_recv hK hP (ci := 2) (q0 := 0) rfl rfl) (bp_X2_X2_t_t A cI v10 v11) rfl hl.1 rfl (Nat.le_of_ble_eq_true rfl) dX2_passesAll_82 ⟨Nat.le_of_ble_eq_true rfl, Nat.le_of_ble_eq_true rfl⟩ (fun H locs hP hD hS => ?_)
  have hP : va_P D vwCl (wM A cI v11) H := hP
  refine lv_aload_n hx hb dX2_passesAll_85 rfl (lv_at hl 0 rfl) ?_
  refine lv_aload_n hx hb dX2_passesAll_86 rfl (lv_at hl 0 rfl) ?_
  refine va_get (D := D) (ci := 2) (v := .ref (A 11)) (C := RX2) (T := TX2) (N := 31) hx hb hts hinM hown hK hP 0 rfl rfl 10 (by decide) lk11 (fun _ h9 => h9) rfl dX2_passesAll_87 ?_
  obtain ⟨v12, hev12, hf⟩ := bS hf
  refine qV_v (ws' := (wM A cI v12)) (As := [.ref (A 11)]) (rest := []) ⟨hx, hb, hml, hown, hts⟩ hK hN hA hP hD hS (c_X2_passes_10 l D cI A v11 v12 hev12) (cwV 1 hts gX2_passesAll_X2_passes rfl rfl rfl hd_X2_passes ⟨Nat.le_of_ble_eq_true rfl, Nat.le_of_ble_eq_true rfl⟩) (va_recv hK hP (ci := 2) (q0 := 0) rfl rfl) (bp_X2_X2_t_t A cI v11 v12) rfl hl.1 rfl (Nat.le_of_ble_eq_true rfl) dX2_passesAll_90 ⟨Nat.le_of_ble_eq_true rfl, Nat.le_of_ble_eq_true rfl⟩ (fun H locs hP hD hS => ?_)
  have hP : va_P D vwCl (wM A cI v12) H := hP
  refine lv_aload_n hx hb dX2_passesAll_93 rfl (lv_at hl 0 rfl) ?_
  refine lv_aload_n hx hb dX2_passesAll_94 rfl (lv_at hl 0 rfl) ?_
  refine lv_aload_n hx hb dX2_passesAll_95 rfl (lv_at hl 0 rfl) ?_
  refine va_get (D := D) (ci := 2) (v := .int (v12 20 0)) (C := RX2) (T := TX2) (N := 31) hx hb hts hinM hown hK hP 0 rfl rfl 11 (by decide) lk12 (fun _ h9 => h9) rfl dX2_passesAll_96 ?_
  obtain ⟨v13, hev13, hf⟩ := bS hf
  refine qV_i (ws' := (wM A cI v13.2)) (As := [.int (v12 20 0)]) (rest := [.ref (A 0)]) ⟨hx, hb, hml, hown, hts⟩ hK hN hA hP hD hS (c_X2_passOne l D cI A (v12 20 0) v12 v13 hev13) (cwV 1 hts gX2_passesAll_X2_passOne rfl rfl rfl hd_X2_passOne ⟨Nat.le_of_ble_eq_true rfl, Nat.le_of_ble_eq_true rfl⟩) (va_recv hK hP (ci := 2) (q0 := 0) rfl rfl) (bp_X2_X2_t_t A cI v12 v13.2) rfl hl.1 rfl (Nat.le_of_ble_eq_true rfl) dX2_passesAll_99 ⟨Nat.le_of_ble_eq_true rfl, Nat.le_of_ble_eq_true rfl⟩ (fun H locs hP hD hS => ?_)
  have hP : va_P D vwCl (wM A cI v13.2) H := hP
  obtain ⟨tt_v14, ett_v14, hf⟩ := jnS hf
  refine va_put (D := D) (ci := 2) (v := .int v13.1) (ty := .int) (C := RX2) (T := TX2) (N := 31) hx hb hts hinM tyX2 tyX2_ok nmX2 hown hK hP hD hS 0 rfl rfl 11 (by decide) lk12 (fun _ h9 => h9) rfl (by decide +kernel) rfl rfl (Nat.le_of_ble_eq_true rfl) dX2_passesAll_102 (fun H locs hP hD hS => ?_)
  have hE : _ = (wM A cI tt_v14) := ((sf_X2_t_20 A cI v13.2 v13.1).trans (congrArg (fun z => wM A cI z) ett_v14.symm))
  have hP : va_P D vwCl (wM A cI tt_v14) H := hE ▸ hP
  have hD : va_D G (wM A cI tt_v14) := hE ▸ hD
  refine lv_aload_n hx hb dX2_passesAll_105 rfl (lv_at hl 0 rfl) ?_
  refine lv_aload_n hx hb dX2_passesAll_106 rfl (lv_at hl 0 rfl) ?_
  refine lv_aload_n hx hb dX2_passesAll_107 rfl (lv_at hl 0 rfl) ?_
  refine va_get (D := D) (ci := 2) (v := .int (tt_v14 21 0)) (C := RX2) (T := TX2) (N := 31) hx hb hts hinM hown hK hP 0 rfl rfl 12 (by decide) lk13 (fun _ h9 => h9) rfl dX2_passesAll_108 ?_
  obtain ⟨v15, hev15, hf⟩ := bS hf
  refine qV_i (ws' := (wM A cI v15.2)) (As := [.int (tt_v14 21 0)]) (rest := [.ref (A 0)]) ⟨hx, hb, hml, hown, hts⟩ hK hN hA hP hD hS (c_X2_passOne l D cI A (tt_v14 21 0) tt_v14 v15 hev15) (cwV 1 hts gX2_passesAll_X2_passOne rfl rfl rfl hd_X2_passOne ⟨Nat.le_of_ble_eq_true rfl, Nat.le_of_ble_eq_true rfl⟩) (va_recv hK hP (ci := 2) (q0 := 0) rfl rfl) (bp_X2_X2_t_t A cI tt_v14 v15.2) rfl hl.1 rfl (Nat.le_of_ble_eq_true rfl) dX2_passesAll_111 ⟨Nat.le_of_ble_eq_true rfl, Nat.le_of_ble_eq_true rfl⟩ (fun H locs hP hD hS => ?_)
  have hP : va_P D vwCl (wM A cI v15.2) H := hP
  obtain ⟨tt_v16, ett_v16, hf⟩ := jnS hf
  refine va_put (D := D) (ci := 2) (v := .int v15.1) (ty := .int) (C := RX2) (T := TX2) (N := 31) hx hb hts hinM tyX2 tyX2_ok nmX2 hown hK hP hD hS 0 rfl rfl 12 (by decide) lk13 (fun _ h9 => h9) rfl (by decide +kernel) rfl rfl (Nat.le_of_ble_eq_true rfl) dX2_passesAll_114 (fun H locs hP hD hS => ?_)
  have hE : _ = (wM A cI tt_v16) := ((sf_X2_t_21 A cI v15.2 v15.1).trans (congrArg (fun z => wM A cI z) ett_v16.symm))
  have hP : va_P D vwCl (wM A cI tt_v16) H := hE ▸ hP
  have hD : va_D G (wM A cI tt_v16) := hE ▸ hD
  refine lv_aload_n hx hb dX2_passesAll_117 rfl (lv_at hl 0 rfl) ?_
  refine lv_aload_n hx hb dX2_passesAll_118 rfl (lv_at hl 0 rfl) ?_
  refine lv_aload_n hx hb dX2_passesAll_119 rfl (lv_at hl 0 rfl) ?_
  refine va_get (D := D) (ci := 2) (v := .int (tt_v16 22 0)) (C := RX2) (T := TX2) (N := 31) hx hb hts hinM hown hK hP 0 rfl rfl 13 (by decide) lk14 (fun _ h9 => h9) rfl dX2_passesAll_120 ?_
  obtain ⟨v17, hev17, hf⟩ := bS hf
  refine qV_i (ws' := (wM A cI v17.2)) (As := [.int (tt_v16 22 0)]) (rest := [.ref (A 0)]) ⟨hx, hb, hml, hown, hts⟩ hK hN hA hP hD hS (c_X2_passOne l D cI A (tt_v16 22 0) tt_v16 v17 hev17) (cwV 1 hts gX2_passesAll_X2_passOne rfl rfl rfl hd_X2_passOne ⟨Nat.le_of_ble_eq_true rfl, Nat.le_of_ble_eq_true rfl⟩) (va_recv hK hP (ci := 2) (q0 := 0) rfl rfl) (bp_X2_X2_t_t A cI tt_v16 v17.2) rfl hl.1 rfl (Nat.le_of_ble_eq_true rfl) dX2_passesAll_123 ⟨Nat.le_of_ble_eq_true rfl, Nat.le_of_ble_eq_true rfl⟩ (fun H locs hP hD hS => ?_)
  have hP : va_P D vwCl (wM A cI v17.2) H := hP
  obtain ⟨tt_v18, ett_v18, hf⟩ := jnS hf
  refine va_put (D := D) (ci := 2) (v := .int v17.1) (ty := .int) (C := RX2) (T := TX2) (N := 31) hx hb hts hinM tyX2 tyX2_ok nmX2 hown hK hP hD hS 0 rfl rfl 13 (by decide) lk14 (fun _ h9 => h9) rfl (by decide +kernel) rfl rfl (Nat.le_of_ble_eq_true rfl) dX2_passesAll_126 (fun H locs hP hD hS => ?_)
  have hE : _ = (wM A cI tt_v18) := ((sf_X2_t_22 A cI v17.2 v17.1).trans (congrArg (fun z => wM A cI z) ett_v18.symm))
  have hP : va_P D vwCl (wM A cI tt_v18) H := hE ▸ hP
  have hD : va_D G (wM A cI tt_v18) := hE ▸ hD
  obtain rfl := Option.some.inj hf
  exact W.vret hx hb hr (fun t ht hW => ⟨⟨(), rfl, trivial, hPt ht hP⟩, hS.F ht⟩) hS.2.2 dX2_passesAll_129
set_option maxHeartbeats 4000000 in
set_option maxRecDepth 100000 in
theorem c_X2_hall (l : Launch) (D : va_G) (cI : ClassId) (A : Nat → Nat) (tt : HS) (out : Int32 × HS) (hf : f_X2_hall tt = some out) : uI l D cI yX2_hall wsX2_hall ({ frames := 11, cells := 0, slots := 0, locals := 247 } : Room) [.ref (A 0)] (wM A cI tt) (wM A cI out.2) out.1 := by
  intro sz
  refine Met.ofW (cc := cX2_hall) (maxL := 3) (ret := (some .int)) (by decide) rfl ?_
  intro p e s m args below meth c s₁ Bd hml hv
  obtain ⟨rfl, hsz, hP, hK, hD0, hN⟩ := hv
  have hx := Bd.exec
  have hb := Bd.bytes
  have hr := Bd.returns
  have hts := atoms_spec (ws := wsX2_hall) Bd.pre
  have hown : s.vm.findClass RX2 = some m.cls := findClass_of_methodNamed Bd.named
  have hlocks := Bd.notSynchronized
  subst hsz
  have hD := hD0.self (sz := s.heap.size)
  generalize hAe : va_A (wM A cI tt) s.heap.size = G at hD ⊢
  have hA : ∀ q : Nat, s.heap.size ≤ q → G q := fun q h => by rw [← hAe]; exact Or.inr h
  have hS : va_S G s.heap s.heap [] := va_S.rf
  have hP : va_P D vwCl (wM A cI tt) s.heap := hP
  have hl := lv_entry ([.ref (A 0)]) (n := 3) (Nat.le_of_ble_eq_true rfl)
  rw [lg_entry_eq]
  generalize (lg_sl ([.ref (A 0)]) ++ List.replicate (3 - (lg_sl ([.ref (A 0)])).length) Slot.unset).toArray = ls at hl ⊢
  have hl : lv_has ls 3 [(0, .ref (A 0))] := hl
  have hinM : ∀ w ∈ wsX20, w ∈ wsX2_hall := by decide +kernel
  have lk0 := hts (.fieldLink RX2 87 "LiesBoughtBackModel" "at" "I") (by decide +kernel)
  have lk1 := hts (.fieldLink RX2 112 "LiesBoughtBackModel" "statements" "I") (by decide +kernel)
  have lk2 := hts (.fieldLink RX2 80 "LiesBoughtBackModel" "taped" "I") (by decide +kernel)
  have lk3 := hts (.fieldLink RX2 49 "LiesBoughtBackModel" "letterAt" "[I") (by decide +kernel)
  refine W_in ?_
  intro WW hWW
  refine (hWW _ _ _).mpr ?_
  unfold f_X2_hall at hf
  refine lv_aload_n hx hb dX2_hall_0 rfl (lv_at hl 0 rfl) ?_
  refine lv_iconst (v := (0 : Int32)) hx hb dX2_hall_1 (by decide) ?_
  obtain ⟨tt_v1, ett_v1, hf⟩ := jnS hf
  refine va_put (D := D) (ci := 2) (v := .int (0 : Int32)) (ty := .int) (C := RX2) (T := TX2) (N := 31) hx hb hts hinM tyX2 tyX2_ok nmX2 hown hK hP hD hS 0 rfl rfl 19 (by decide) lk0 (fun _ h9 => h9) rfl (by decide +kernel) rfl rfl (Nat.le_of_ble_eq_true rfl) dX2_hall_2 (fun H locs hP hD hS => ?_)
  have hE : _ = (wM A cI tt_v1) := ((sf_X2_t_24 A cI tt (0 : Int32)).trans (congrArg (fun z => wM A cI z) ett_v1.symm))
  have hP : va_P D vwCl (wM A cI tt_v1) H := hE ▸ hP
  have hD : va_D G (wM A cI tt_v1) := hE ▸ hD
  refine lv_aload_n hx hb dX2_hall_5 rfl (lv_at hl 0 rfl) ?_
  refine lv_iconst (v := (0 : Int32)) hx hb dX2_hall_6 (by decide) ?_
  obtain ⟨tt_v2, ett_v2, hf⟩ := jnS hf
  refine va_put (D := D) (ci := 2) (v := .int (0 : Int32)) (ty := .int) (C := RX2) (T := TX2) (N := 31) hx hb hts hinM tyX2 tyX2_ok nmX2 hown hK hP hD hS 0 rfl rfl 20 (by decide) lk1 (fun _ h9 => h9) rfl (by decide +kernel) rfl rfl (Nat.le_of_ble_eq_true rfl) dX2_hall_7 (fun H locs hP hD hS => ?_)
  have hE : _ = (wM A cI tt_v2) := ((sf_X2_t_25 A cI tt_v1 (0 : Int32)).trans (congrArg (fun z => wM A cI z) ett_v2.symm))
  have hP : va_P D vwCl (wM A cI tt_v2) H := hE ▸ hP
  have hD : va_D G (wM A cI tt_v2) := hE ▸ hD
  refine lv_iconst (v := (1 : Int32)) hx hb dX2_hall_10 (by decide) ?_
  refine lv_istore_n (lv' := [(1, .int (1 : Int32)), (0, .ref (A 0))]) hx hb dX2_hall_11 rfl hl (by decide) rfl (fun ls hl => ?_)
  obtain ⟨K60, hK60, hf⟩ := jnS hf
  have J60 : ∀ (j1_60 : Int32) (tt_60 : HS) (H : Heap) (locs : List Loc) (ls : Array Slot), K60 j1_60 tt_60 = some out → va_P D vwCl (wM A cI tt_60) H → va_D G (wM A cI tt_60) → va_S G s.heap H locs → lv_has ls 3 [(0, .ref (A 0)), (1, .int j1_60)] → WW H locs (F0 m 60 ls []) := by
    intro j1_60 tt_60 H locs ls hf hP hD hS hl
    subst hK60
    refine (hWW _ _ _).mpr ?_
    refine lv_aload_n hx hb dX2_hall_60 rfl (lv_at hl 0 rfl) ?_
    refine lv_iconst (v := (0 : Int32)) hx hb dX2_hall_61 (by decide) ?_
    obtain ⟨tt_v3, ett_v3, hf⟩ := jnS hf
    refine va_put (D := D) (ci := 2) (v := .int (0 : Int32)) (ty := .int) (C := RX2) (T := TX2) (N := 31) hx hb hts hinM tyX2 tyX2_ok nmX2 hown hK hP hD hS 0 rfl rfl 18 (by decide) lk2 (fun _ h9 => h9) rfl (by decide +kernel) rfl rfl (Nat.le_of_ble_eq_true rfl) dX2_hall_62 (fun H locs hP hD hS => ?_)
    have hE : _ = (wM A cI tt_v3) := ((sf_X2_t_23 A cI tt_60 (0 : Int32)).trans (congrArg (fun z => wM A cI z) ett_v3.symm))
    have hP : va_P D vwCl (wM A cI tt_v3) H := hE ▸ hP
    have hD : va_D G (wM A cI tt_v3) := hE ▸ hD
    refine lv_iload_n hx hb dX2_hall_65 rfl (lv_at hl 1 rfl) ?_
    refine lv_if_ne (tgt := 78) hx hb dX2_hall_66 (by decide) (fun c4 => ?_) (fun c4 => ?_)
    · have hf := hF hf c4
      refine lv_aload_n hx hb dX2_hall_78 rfl (lv_at hl 0 rfl) ?_
      refine lv_iconst (v := (1 : Int32)) hx hb dX2_hall_79 (by decide) ?_
      refine lv_iconst (v := (1 : Int32)) hx hb dX2_hall_80 (by decide) ?_
      obtain ⟨v5, hev5, hf⟩ := bS hf
      refine qV_v (ws' := (wM A cI v5)) (As := [.int (1 : Int32), .int (1 : Int32)]) (rest := []) ⟨hx, hb, hml, hown, hts⟩ hK hN hA hP hD hS (c_X2_passesAll l D cI A (1 : Int32) (1 : Int32) tt_v3 v5 hev5) (cwV 2 hts gX2_hall_X2_passesAll rfl rfl rfl hd_X2_passesAll ⟨Nat.le_of_ble_eq_true rfl, Nat.le_of_ble_eq_true rfl⟩) (va_recv hK hP (ci := 2) (q0 := 0) rfl rfl) (bp_X2_X2_t_t A cI tt_v3 v5) rfl hl.1 rfl (Nat.le_of_ble_eq_true rfl) dX2_hall_81 ⟨Nat.le_of_ble_eq_true rfl, Nat.le_of_ble_eq_true rfl⟩ (fun H locs hP hD hS => ?_)
      have hP : va_P D vwCl (wM A cI v5) H := hP
      refine lv_iconst (v := (0 : Int32)) hx hb dX2_hall_84 (by decide) ?_
      refine lv_istore_n (lv' := [(2, .int (0 : Int32)), (0, .ref (A 0)), (1, .int j1_60)]) hx hb dX2_hall_85 rfl hl (by decide) rfl (fun ls hl => ?_)
      obtain ⟨K128, hK128, hf⟩ := jnS hf
      have J128 : ∀ (tt_128 : HS) (H : Heap) (locs : List Loc) (ls : Array Slot), K128 tt_128 = some out → va_P D vwCl (wM A cI tt_128) H → va_D G (wM A cI tt_128) → va_S G s.heap H locs → lv_has ls 3 [(0, .ref (A 0))] → WW H locs (F0 m 128 ls []) := by
        intro tt_128 H locs ls hf hP hD hS hl
        subst hK128
        refine (hWW _ _ _).mpr ?_
        refine lv_aload_n hx hb dX2_hall_128 rfl (lv_at hl 0 rfl) ?_
        refine va_get (D := D) (ci := 2) (v := .int (tt_128 25 0)) (C := RX2) (T := TX2) (N := 31) hx hb hts hinM hown hK hP 0 rfl rfl 20 (by decide) lk1 (fun _ h9 => h9) rfl dX2_hall_129 ?_
        obtain rfl := Option.some.inj hf
        exact W.iret (v := (tt_128 25 0)) hx hb hr (fun t ht hW => ⟨⟨(tt_128 25 0), (), rfl, rfl, hPt ht hP⟩, hS.F ht⟩) hS.2.2 dX2_hall_132
      have P86 : ∀ (n' : Nat) (j2_86 : Int32) (tt_86 : HS) (H : Heap) (locs : List Loc) (ls : Array Slot), L_X2_hall_86  K128 n' j2_86 tt_86 = some out → va_P D vwCl (wM A cI tt_86) H → va_D G (wM A cI tt_86) → va_S G s.heap H locs → lv_has ls 3 [(0, .ref (A 0)), (2, .int j2_86)] → WW H locs (F0 m 86 ls []) := by
        intro n'
        induction n' with
        | zero => intro j2_86 tt_86 H locs ls hf; exact absurd (show (none : Option (Int32 × HS)) = some out from hf) (fun q => by cases q)
        | succ n' ih =>
          intro j2_86 tt_86 H locs ls hf hP hD hS hl
          rw [L_X2_hall_86] at hf
          refine (hWW _ _ _).mpr ?_
          refine lv_iload_n hx hb dX2_hall_86 rfl (lv_at hl 1 rfl) ?_
          refine lv_aload_n hx hb dX2_hall_87 rfl (lv_at hl 0 rfl) ?_
          refine va_get (D := D) (ci := 2) (v := .int (tt_86 25 0)) (C := RX2) (T := TX2) (N := 31) hx hb hts hinM hown hK hP 0 rfl rfl 20 (by decide) lk1 (fun _ h9 => h9) rfl dX2_hall_88 ?_
          refine lv_icmp_ge (tgt := 128) hx hb dX2_hall_91 (by decide) (fun c6 => ?_) (fun c6 => ?_)
          · have hf := hT hf c6
            exact (hWW _ _ _).mp (J128 _ _ _ _ hf hP hD hS (lv_sub hl [0] rfl))
          · have hf := hF hf c6
            refine lv_aload_n hx hb dX2_hall_94 rfl (lv_at hl 0 rfl) ?_
            refine lv_iload_n hx hb dX2_hall_95 rfl (lv_at hl 1 rfl) ?_
            obtain ⟨v7, hev7, hf⟩ := bS hf
            refine qV_i (ws' := (wM A cI v7.2)) (As := [.int j2_86]) (rest := []) ⟨hx, hb, hml, hown, hts⟩ hK hN hA hP hD hS (c_X2_comes l D cI A j2_86 tt_86 v7 hev7) (cwV 1 hts gX2_hall_X2_comes rfl rfl rfl hd_X2_comes ⟨Nat.le_of_ble_eq_true rfl, Nat.le_of_ble_eq_true rfl⟩) (va_recv hK hP (ci := 2) (q0 := 0) rfl rfl) (bp_X2_X2_t_t A cI tt_86 v7.2) rfl hl.1 rfl (Nat.le_of_ble_eq_true rfl) dX2_hall_96 ⟨Nat.le_of_ble_eq_true rfl, Nat.le_of_ble_eq_true rfl⟩ (fun H locs hP hD hS => ?_)
            have hP : va_P D vwCl (wM A cI v7.2) H := hP
            refine lv_if_eq (tgt := 105) hx hb dX2_hall_99 (by decide) (fun c8 => ?_) (fun c8 => ?_)
            · have hf := hT hf c8
              refine lv_aload_n hx hb dX2_hall_105 rfl (lv_at hl 0 rfl) ?_
              refine lv_iconst (v := (1 : Int32)) hx hb dX2_hall_106 (by decide) ?_
              refine lv_iconst (v := (0 : Int32)) hx hb dX2_hall_107 (by decide) ?_
              obtain ⟨v9, hev9, hf⟩ := bS hf
              refine qV_v (ws' := (wM A cI v9)) (As := [.int (1 : Int32), .int (0 : Int32)]) (rest := []) ⟨hx, hb, hml, hown, hts⟩ hK hN hA hP hD hS (c_X2_passesAll l D cI A (1 : Int32) (0 : Int32) v7.2 v9 hev9) (cwV 2 hts gX2_hall_X2_passesAll rfl rfl rfl hd_X2_passesAll ⟨Nat.le_of_ble_eq_true rfl, Nat.le_of_ble_eq_true rfl⟩) (va_recv hK hP (ci := 2) (q0 := 0) rfl rfl) (bp_X2_X2_t_t A cI v7.2 v9) rfl hl.1 rfl (Nat.le_of_ble_eq_true rfl) dX2_hall_108 ⟨Nat.le_of_ble_eq_true rfl, Nat.le_of_ble_eq_true rfl⟩ (fun H locs hP hD hS => ?_)
              have hP : va_P D vwCl (wM A cI v9) H := hP
              refine lv_sipush (v := (-2000 : Int32)) hx hb dX2_hall_111 (by decide) ?_
              refine lv_aload_n hx hb dX2_hall_114 rfl (lv_at hl 0 rfl) ?_
              refine va_get (D := D) (ci := 2) (v := .ref (A 14)) (C := RX2) (T := TX2) (N := 31) hx hb hts hinM hown hK hP 0 rfl rfl 16 (by decide) lk3 (fun _ h9 => h9) rfl dX2_hall_115 ?_
              refine lv_iload_n hx hb dX2_hall_118 rfl (lv_at hl 1 rfl) ?_
              obtain ⟨v10, he, hf⟩ := bS hf
              refine x_iald hx hb hK hP 14 (n := 48) rfl he dX2_hall_119 ?_
              refine lv_isub hx hb dX2_hall_120 ?_
              obtain rfl := Option.some.inj hf
              exact W.iret (v := ((-2000 : Int32) - v10)) hx hb hr (fun t ht hW => ⟨⟨((-2000 : Int32) - v10), (), rfl, rfl, hPt ht hP⟩, hS.F ht⟩) hS.2.2 dX2_hall_121
            · have hf := hF hf c8
              refine lv_goto (tgt := 122) hx hb dX2_hall_102 (by decide) ?_
              refine lv_iinc (v := (j2_86 + (1 : Int32))) (lv' := [(2, .int (j2_86 + (1 : Int32))), (0, .ref (A 0))]) hx hb dX2_hall_122 hl (k := 1) rfl rfl (by decide) rfl (fun ls hl => ?_)
              refine lv_goto (tgt := 86) hx hb dX2_hall_125 (by decide) ?_
              exact (hWW _ _ _).mp (ih _ _ _ _ _ hf hP hD hS (lv_sub hl [1, 0] rfl))
      exact (hWW _ _ _).mp (P86 _ _ _ _ _ _ hf hP hD hS (lv_sub hl [1, 0] rfl))
    · have hf := hT hf c4
      refine lv_sipush (v := (-1000 : Int32)) hx hb dX2_hall_69 (by decide) ?_
      refine lv_aload_n hx hb dX2_hall_72 rfl (lv_at hl 0 rfl) ?_
      refine va_get (D := D) (ci := 2) (v := .int (tt_v3 24 0)) (C := RX2) (T := TX2) (N := 31) hx hb hts hinM hown hK hP 0 rfl rfl 19 (by decide) lk0 (fun _ h9 => h9) rfl dX2_hall_73 ?_
      refine lv_isub hx hb dX2_hall_76 ?_
      obtain rfl := Option.some.inj hf
      exact W.iret (v := ((-1000 : Int32) - (tt_v3 24 0))) hx hb hr (fun t ht hW => ⟨⟨((-1000 : Int32) - (tt_v3 24 0)), (), rfl, rfl, hPt ht hP⟩, hS.F ht⟩) hS.2.2 dX2_hall_77
  have P12 : ∀ (n' : Nat) (j1_12 : Int32) (tt_12 : HS) (H : Heap) (locs : List Loc) (ls : Array Slot), L_X2_hall_12  K60 n' j1_12 tt_12 = some out → va_P D vwCl (wM A cI tt_12) H → va_D G (wM A cI tt_12) → va_S G s.heap H locs → lv_has ls 3 [(0, .ref (A 0)), (1, .int j1_12)] → WW H locs (F0 m 12 ls []) := by
    intro n'
    induction n' with
    | zero => intro j1_12 tt_12 H locs ls hf; exact absurd (show (none : Option (Int32 × HS)) = some out from hf) (fun q => by cases q)
    | succ n' ih =>
      intro j1_12 tt_12 H locs ls hf hP hD hS hl
      rw [L_X2_hall_12] at hf
      refine (hWW _ _ _).mpr ?_
      refine lv_iload_n hx hb dX2_hall_12 rfl (lv_at hl 1 rfl) ?_
      refine lv_if_eq (tgt := 60) hx hb dX2_hall_13 (by decide) (fun c11 => ?_) (fun c11 => ?_)
      · have hf := hT hf c11
        exact (hWW _ _ _).mp (J60 _ _ _ _ _ hf hP hD hS (lv_sub hl [0, 1] rfl))
      · have hf := hF hf c11
        refine lv_aload_n hx hb dX2_hall_16 rfl (lv_at hl 0 rfl) ?_
        refine va_get (D := D) (ci := 2) (v := .int (tt_12 24 0)) (C := RX2) (T := TX2) (N := 31) hx hb hts hinM hown hK hP 0 rfl rfl 19 (by decide) lk0 (fun _ h9 => h9) rfl dX2_hall_17 ?_
        refine lv_aload_n hx hb dX2_hall_20 rfl (lv_at hl 0 rfl) ?_
        refine va_get (D := D) (ci := 2) (v := .int (tt_12 23 0)) (C := RX2) (T := TX2) (N := 31) hx hb hts hinM hown hK hP 0 rfl rfl 18 (by decide) lk2 (fun _ h9 => h9) rfl dX2_hall_21 ?_
        obtain ⟨K34, hK34, hf⟩ := jnS hf
        have J34 : ∀ (tt_34 : HS) (H : Heap) (locs : List Loc) (ls : Array Slot), K34 tt_34 = some out → va_P D vwCl (wM A cI tt_34) H → va_D G (wM A cI tt_34) → va_S G s.heap H locs → lv_has ls 3 [(0, .ref (A 0))] → WW H locs (F0 m 34 ls []) := by
          intro tt_34 H locs ls hf hP hD hS hl
          subst hK34
          refine (hWW _ _ _).mpr ?_
          refine lv_aload_n hx hb dX2_hall_34 rfl (lv_at hl 0 rfl) ?_
          obtain ⟨v12, hev12, hf⟩ := bS hf
          refine qV_i (ws' := (wM A cI v12.2)) (As := []) (rest := []) ⟨hx, hb, hml, hown, hts⟩ hK hN hA hP hD hS (c_X2_statement l D cI A tt_34 v12 hev12) (cwV 0 hts gX2_hall_X2_statement rfl rfl rfl hd_X2_statement ⟨Nat.le_of_ble_eq_true rfl, Nat.le_of_ble_eq_true rfl⟩) (va_recv hK hP (ci := 2) (q0 := 0) rfl rfl) (bp_X2_X2_t_t A cI tt_34 v12.2) rfl hl.1 rfl (Nat.le_of_ble_eq_true rfl) dX2_hall_35 ⟨Nat.le_of_ble_eq_true rfl, Nat.le_of_ble_eq_true rfl⟩ (fun H locs hP hD hS => ?_)
          have hP : va_P D vwCl (wM A cI v12.2) H := hP
          refine lv_istore_n (lv' := [(1, .int v12.1), (0, .ref (A 0))]) hx hb dX2_hall_38 rfl hl (by decide) rfl (fun ls hl => ?_)
          refine lv_aload_n hx hb dX2_hall_39 rfl (lv_at hl 1 rfl) ?_
          refine lv_dup hx hb dX2_hall_40 rfl ?_
          refine va_get (D := D) (ci := 2) (v := .int (v12.2 25 0)) (C := RX2) (T := TX2) (N := 31) hx hb hts hinM hown hK hP 0 rfl rfl 20 (by decide) lk1 (fun _ h9 => h9) rfl dX2_hall_41 ?_
          refine lv_iload_n hx hb dX2_hall_44 rfl (lv_at hl 0 rfl) ?_
          refine lv_if_eq (tgt := 52) hx hb dX2_hall_45 (by decide) (fun c13 => ?_) (fun c13 => ?_)
          · have hf := hT hf c13
            refine lv_iconst (v := (0 : Int32)) hx hb dX2_hall_52 (by decide) ?_
            refine lv_iadd hx hb dX2_hall_53 ?_
            obtain ⟨tt_v14, ett_v14, hf⟩ := jnS hf
            refine va_put (D := D) (ci := 2) (v := .int ((v12.2 25 0) + (0 : Int32))) (ty := .int) (C := RX2) (T := TX2) (N := 31) hx hb hts hinM tyX2 tyX2_ok nmX2 hown hK hP hD hS 0 rfl rfl 20 (by decide) lk1 (fun _ h9 => h9) rfl (by decide +kernel) rfl rfl (Nat.le_of_ble_eq_true rfl) dX2_hall_54 (fun H locs hP hD hS => ?_)
            have hE : _ = (wM A cI tt_v14) := ((sf_X2_t_25 A cI v12.2 ((v12.2 25 0) + (0 : Int32))).trans (congrArg (fun z => wM A cI z) ett_v14.symm))
            have hP : va_P D vwCl (wM A cI tt_v14) H := hE ▸ hP
            have hD : va_D G (wM A cI tt_v14) := hE ▸ hD
            refine lv_goto (tgt := 12) hx hb dX2_hall_57 (by decide) ?_
            exact (hWW _ _ _).mp (ih _ _ _ _ _ hf hP hD hS (lv_sub hl [1, 0] rfl))
          · have hf := hF hf c13
            refine lv_iconst (v := (1 : Int32)) hx hb dX2_hall_48 (by decide) ?_
            refine lv_goto (tgt := 53) hx hb dX2_hall_49 (by decide) ?_
            refine lv_iadd hx hb dX2_hall_53 ?_
            obtain ⟨tt_v15, ett_v15, hf⟩ := jnS hf
            refine va_put (D := D) (ci := 2) (v := .int ((v12.2 25 0) + (1 : Int32))) (ty := .int) (C := RX2) (T := TX2) (N := 31) hx hb hts hinM tyX2 tyX2_ok nmX2 hown hK hP hD hS 0 rfl rfl 20 (by decide) lk1 (fun _ h9 => h9) rfl (by decide +kernel) rfl rfl (Nat.le_of_ble_eq_true rfl) dX2_hall_54 (fun H locs hP hD hS => ?_)
            have hE : _ = (wM A cI tt_v15) := ((sf_X2_t_25 A cI v12.2 ((v12.2 25 0) + (1 : Int32))).trans (congrArg (fun z => wM A cI z) ett_v15.symm))
            have hP : va_P D vwCl (wM A cI tt_v15) H := hE ▸ hP
            have hD : va_D G (wM A cI tt_v15) := hE ▸ hD
            refine lv_goto (tgt := 12) hx hb dX2_hall_57 (by decide) ?_
            exact (hWW _ _ _).mp (ih _ _ _ _ _ hf hP hD hS (lv_sub hl [1, 0] rfl))
        refine lv_icmp_lt (tgt := 34) hx hb dX2_hall_24 (by decide) (fun c16 => ?_) (fun c16 => ?_)
        · have hf := hT hf c16
          exact (hWW _ _ _).mp (J34 _ _ _ _ hf hP hD hS (lv_sub hl [0] rfl))
        · have hf := hF hf c16
          refine lv_aload_n hx hb dX2_hall_27 rfl (lv_at hl 0 rfl) ?_
          refine va_get (D := D) (ci := 2) (v := .int (tt_12 25 0)) (C := RX2) (T := TX2) (N := 31) hx hb hts hinM hown hK hP 0 rfl rfl 20 (by decide) lk1 (fun _ h9 => h9) rfl dX2_hall_28 ?_
          refine lv_if_ne (tgt := 60) hx hb dX2_hall_31 (by decide) (fun c17 => ?_) (fun c17 => ?_)
          · have hf := hF hf c17
            exact (hWW _ _ _).mp (J60 _ _ _ _ _ hf hP hD hS (lv_sub hl [0, 1] rfl))
          · have hf := hT hf c17
            exact (hWW _ _ _).mp (J34 _ _ _ _ hf hP hD hS (lv_sub hl [0] rfl))
  exact (hWW _ _ _).mp (P12 _ _ _ _ _ _ hf hP hD hS (lv_sub hl [1, 0] rfl))
set_option maxHeartbeats 4000000 in
set_option maxRecDepth 100000 in
theorem c_X2_thinks (l : Launch) (D : va_G) (cI : ClassId) (A : Nat → Nat) (tt : HS) (out : HS) (hf : f_X2_thinks tt = some out) : uV l D cI yX2_thinks wsX2_thinks ({ frames := 2, cells := 0, slots := 0, locals := 44 } : Room) [.ref (A 0)] (wM A cI tt) (wM A cI out) := by
  intro sz
  refine Met.ofW (cc := cX2_thinks) (maxL := 1) (ret := none) (by decide) rfl ?_
  intro p e s m args below meth c s₁ Bd hml hv
  obtain ⟨rfl, hsz, hP, hK, hD0, hN⟩ := hv
  have hx := Bd.exec
  have hb := Bd.bytes
  have hr := Bd.returns
  have hts := atoms_spec (ws := wsX2_thinks) Bd.pre
  have hown : s.vm.findClass RX2 = some m.cls := findClass_of_methodNamed Bd.named
  have hlocks := Bd.notSynchronized
  subst hsz
  have hD := hD0.self (sz := s.heap.size)
  generalize hAe : va_A (wM A cI tt) s.heap.size = G at hD ⊢
  have hA : ∀ q : Nat, s.heap.size ≤ q → G q := fun q h => by rw [← hAe]; exact Or.inr h
  have hS : va_S G s.heap s.heap [] := va_S.rf
  have hP : va_P D vwCl (wM A cI tt) s.heap := hP
  have hl := lv_entry ([.ref (A 0)]) (n := 1) (Nat.le_of_ble_eq_true rfl)
  rw [lg_entry_eq]
  generalize (lg_sl ([.ref (A 0)]) ++ List.replicate (1 - (lg_sl ([.ref (A 0)])).length) Slot.unset).toArray = ls at hl ⊢
  have hl : lv_has ls 1 [(0, .ref (A 0))] := hl
  refine W_in ?_
  intro WW hWW
  refine (hWW _ _ _).mpr ?_
  unfold f_X2_thinks at hf
  refine lv_aload_n hx hb dX2_thinks_0 rfl (lv_at hl 0 rfl) ?_
  refine lv_iconst (v := (2 : Int32)) hx hb dX2_thinks_1 (by decide) ?_
  refine lv_iconst (v := (1 : Int32)) hx hb dX2_thinks_2 (by decide) ?_
  obtain ⟨v1, hev1, hf⟩ := bS hf
  refine qV_v (ws' := (wM A cI v1)) (As := [.int (2 : Int32), .int (1 : Int32)]) (rest := []) ⟨hx, hb, hml, hown, hts⟩ hK hN hA hP hD hS (c_X2_passesAll l D cI A (2 : Int32) (1 : Int32) tt v1 hev1) (cwV 2 hts gX2_thinks_X2_passesAll rfl rfl rfl hd_X2_passesAll ⟨Nat.le_of_ble_eq_true rfl, Nat.le_of_ble_eq_true rfl⟩) (va_recv hK hP (ci := 2) (q0 := 0) rfl rfl) (bp_X2_X2_t_t A cI tt v1) rfl hl.1 rfl (Nat.le_of_ble_eq_true rfl) dX2_thinks_3 ⟨Nat.le_of_ble_eq_true rfl, Nat.le_of_ble_eq_true rfl⟩ (fun H locs hP hD hS => ?_)
  have hP : va_P D vwCl (wM A cI v1) H := hP
  obtain rfl := Option.some.inj hf
  exact W.vret hx hb hr (fun t ht hW => ⟨⟨(), rfl, trivial, hPt ht hP⟩, hS.F ht⟩) hS.2.2 dX2_thinks_6
set_option maxHeartbeats 4000000 in
set_option maxRecDepth 100000 in
theorem c_X2_forgets (l : Launch) (D : va_G) (cI : ClassId) (A : Nat → Nat) (tt : HS) (out : HS) (hf : f_X2_forgets tt = some out) : uV l D cI yX2_forgets wsX2_forgets ({ frames := 2, cells := 0, slots := 0, locals := 44 } : Room) [.ref (A 0)] (wM A cI tt) (wM A cI out) := by
  intro sz
  refine Met.ofW (cc := cX2_forgets) (maxL := 1) (ret := none) (by decide) rfl ?_
  intro p e s m args below meth c s₁ Bd hml hv
  obtain ⟨rfl, hsz, hP, hK, hD0, hN⟩ := hv
  have hx := Bd.exec
  have hb := Bd.bytes
  have hr := Bd.returns
  have hts := atoms_spec (ws := wsX2_forgets) Bd.pre
  have hown : s.vm.findClass RX2 = some m.cls := findClass_of_methodNamed Bd.named
  have hlocks := Bd.notSynchronized
  subst hsz
  have hD := hD0.self (sz := s.heap.size)
  generalize hAe : va_A (wM A cI tt) s.heap.size = G at hD ⊢
  have hA : ∀ q : Nat, s.heap.size ≤ q → G q := fun q h => by rw [← hAe]; exact Or.inr h
  have hS : va_S G s.heap s.heap [] := va_S.rf
  have hP : va_P D vwCl (wM A cI tt) s.heap := hP
  have hl := lv_entry ([.ref (A 0)]) (n := 1) (Nat.le_of_ble_eq_true rfl)
  rw [lg_entry_eq]
  generalize (lg_sl ([.ref (A 0)]) ++ List.replicate (1 - (lg_sl ([.ref (A 0)])).length) Slot.unset).toArray = ls at hl ⊢
  have hl : lv_has ls 1 [(0, .ref (A 0))] := hl
  refine W_in ?_
  intro WW hWW
  refine (hWW _ _ _).mpr ?_
  unfold f_X2_forgets at hf
  refine lv_aload_n hx hb dX2_forgets_0 rfl (lv_at hl 0 rfl) ?_
  refine lv_iconst (v := (2 : Int32)) hx hb dX2_forgets_1 (by decide) ?_
  refine lv_iconst (v := (0 : Int32)) hx hb dX2_forgets_2 (by decide) ?_
  obtain ⟨v1, hev1, hf⟩ := bS hf
  refine qV_v (ws' := (wM A cI v1)) (As := [.int (2 : Int32), .int (0 : Int32)]) (rest := []) ⟨hx, hb, hml, hown, hts⟩ hK hN hA hP hD hS (c_X2_passesAll l D cI A (2 : Int32) (0 : Int32) tt v1 hev1) (cwV 2 hts gX2_forgets_X2_passesAll rfl rfl rfl hd_X2_passesAll ⟨Nat.le_of_ble_eq_true rfl, Nat.le_of_ble_eq_true rfl⟩) (va_recv hK hP (ci := 2) (q0 := 0) rfl rfl) (bp_X2_X2_t_t A cI tt v1) rfl hl.1 rfl (Nat.le_of_ble_eq_true rfl) dX2_forgets_3 ⟨Nat.le_of_ble_eq_true rfl, Nat.le_of_ble_eq_true rfl⟩ (fun H locs hP hD hS => ?_)
  have hP : va_P D vwCl (wM A cI v1) H := hP
  obtain rfl := Option.some.inj hf
  exact W.vret hx hb hr (fun t ht hW => ⟨⟨(), rfl, trivial, hPt ht hP⟩, hS.F ht⟩) hS.2.2 dX2_forgets_6
set_option maxHeartbeats 4000000 in
set_option maxRecDepth 100000 in
theorem c_X2_changes (l : Launch) (D : va_G) (cI : ClassId) (A : Nat → Nat) (tt : HS) (out : HS) (hf : f_X2_changes tt = some out) : uV l D cI yX2_changes wsX2_changes ({ frames := 2, cells := 0, slots := 0, locals := 44 } : Room) [.ref (A 0)] (wM A cI tt) (wM A cI out) := by
  intro sz
  refine Met.ofW (cc := cX2_changes) (maxL := 1) (ret := none) (by decide) rfl ?_
  intro p e s m args below meth c s₁ Bd hml hv
  obtain ⟨rfl, hsz, hP, hK, hD0, hN⟩ := hv
  have hx := Bd.exec
  have hb := Bd.bytes
  have hr := Bd.returns
  have hts := atoms_spec (ws := wsX2_changes) Bd.pre
  have hown : s.vm.findClass RX2 = some m.cls := findClass_of_methodNamed Bd.named
  have hlocks := Bd.notSynchronized
  subst hsz
  have hD := hD0.self (sz := s.heap.size)
  generalize hAe : va_A (wM A cI tt) s.heap.size = G at hD ⊢
  have hA : ∀ q : Nat, s.heap.size ≤ q → G q := fun q h => by rw [← hAe]; exact Or.inr h
  have hS : va_S G s.heap s.heap [] := va_S.rf
  have hP : va_P D vwCl (wM A cI tt) s.heap := hP
  have hl := lv_entry ([.ref (A 0)]) (n := 1) (Nat.le_of_ble_eq_true rfl)
  rw [lg_entry_eq]
  generalize (lg_sl ([.ref (A 0)]) ++ List.replicate (1 - (lg_sl ([.ref (A 0)])).length) Slot.unset).toArray = ls at hl ⊢
  have hl : lv_has ls 1 [(0, .ref (A 0))] := hl
  refine W_in ?_
  intro WW hWW
  refine (hWW _ _ _).mpr ?_
  unfold f_X2_changes at hf
  refine lv_aload_n hx hb dX2_changes_0 rfl (lv_at hl 0 rfl) ?_
  refine lv_iconst (v := (1 : Int32)) hx hb dX2_changes_1 (by decide) ?_
  refine lv_iconst (v := (1 : Int32)) hx hb dX2_changes_2 (by decide) ?_
  obtain ⟨v1, hev1, hf⟩ := bS hf
  refine qV_v (ws' := (wM A cI v1)) (As := [.int (1 : Int32), .int (1 : Int32)]) (rest := []) ⟨hx, hb, hml, hown, hts⟩ hK hN hA hP hD hS (c_X2_passesAll l D cI A (1 : Int32) (1 : Int32) tt v1 hev1) (cwV 2 hts gX2_changes_X2_passesAll rfl rfl rfl hd_X2_passesAll ⟨Nat.le_of_ble_eq_true rfl, Nat.le_of_ble_eq_true rfl⟩) (va_recv hK hP (ci := 2) (q0 := 0) rfl rfl) (bp_X2_X2_t_t A cI tt v1) rfl hl.1 rfl (Nat.le_of_ble_eq_true rfl) dX2_changes_3 ⟨Nat.le_of_ble_eq_true rfl, Nat.le_of_ble_eq_true rfl⟩ (fun H locs hP hD hS => ?_)
  have hP : va_P D vwCl (wM A cI v1) H := hP
  obtain rfl := Option.some.inj hf
  exact W.vret hx hb hr (fun t ht hW => ⟨⟨(), rfl, trivial, hPt ht hP⟩, hS.F ht⟩) hS.2.2 dX2_changes_6
set_option maxHeartbeats 4000000 in
set_option maxRecDepth 100000 in
theorem c_X2_changesBack (l : Launch) (D : va_G) (cI : ClassId) (A : Nat → Nat) (tt : HS) (out : HS) (hf : f_X2_changesBack tt = some out) : uV l D cI yX2_changesBack wsX2_changesBack ({ frames := 2, cells := 0, slots := 0, locals := 44 } : Room) [.ref (A 0)] (wM A cI tt) (wM A cI out) := by
  intro sz
  refine Met.ofW (cc := cX2_changesBack) (maxL := 1) (ret := none) (by decide) rfl ?_
  intro p e s m args below meth c s₁ Bd hml hv
  obtain ⟨rfl, hsz, hP, hK, hD0, hN⟩ := hv
  have hx := Bd.exec
  have hb := Bd.bytes
  have hr := Bd.returns
  have hts := atoms_spec (ws := wsX2_changesBack) Bd.pre
  have hown : s.vm.findClass RX2 = some m.cls := findClass_of_methodNamed Bd.named
  have hlocks := Bd.notSynchronized
  subst hsz
  have hD := hD0.self (sz := s.heap.size)
  generalize hAe : va_A (wM A cI tt) s.heap.size = G at hD ⊢
  have hA : ∀ q : Nat, s.heap.size ≤ q → G q := fun q h => by rw [← hAe]; exact Or.inr h
  have hS : va_S G s.heap s.heap [] := va_S.rf
  have hP : va_P D vwCl (wM A cI tt) s.heap := hP
  have hl := lv_entry ([.ref (A 0)]) (n := 1) (Nat.le_of_ble_eq_true rfl)
  rw [lg_entry_eq]
  generalize (lg_sl ([.ref (A 0)]) ++ List.replicate (1 - (lg_sl ([.ref (A 0)])).length) Slot.unset).toArray = ls at hl ⊢
  have hl : lv_has ls 1 [(0, .ref (A 0))] := hl
  refine W_in ?_
  intro WW hWW
  refine (hWW _ _ _).mpr ?_
  unfold f_X2_changesBack at hf
  refine lv_aload_n hx hb dX2_changesBack_0 rfl (lv_at hl 0 rfl) ?_
  refine lv_iconst (v := (1 : Int32)) hx hb dX2_changesBack_1 (by decide) ?_
  refine lv_iconst (v := (0 : Int32)) hx hb dX2_changesBack_2 (by decide) ?_
  obtain ⟨v1, hev1, hf⟩ := bS hf
  refine qV_v (ws' := (wM A cI v1)) (As := [.int (1 : Int32), .int (0 : Int32)]) (rest := []) ⟨hx, hb, hml, hown, hts⟩ hK hN hA hP hD hS (c_X2_passesAll l D cI A (1 : Int32) (0 : Int32) tt v1 hev1) (cwV 2 hts gX2_changesBack_X2_passesAll rfl rfl rfl hd_X2_passesAll ⟨Nat.le_of_ble_eq_true rfl, Nat.le_of_ble_eq_true rfl⟩) (va_recv hK hP (ci := 2) (q0 := 0) rfl rfl) (bp_X2_X2_t_t A cI tt v1) rfl hl.1 rfl (Nat.le_of_ble_eq_true rfl) dX2_changesBack_3 ⟨Nat.le_of_ble_eq_true rfl, Nat.le_of_ble_eq_true rfl⟩ (fun H locs hP hD hS => ?_)
  have hP : va_P D vwCl (wM A cI v1) H := hP
  obtain rfl := Option.some.inj hf
  exact W.vret hx hb hr (fun t ht hW => ⟨⟨(), rfl, trivial, hPt ht hP⟩, hS.F ht⟩) hS.2.2 dX2_changesBack_6
set_option maxHeartbeats 4000000 in
set_option maxRecDepth 100000 in
theorem c_X2_image (l : Launch) (D : va_G) (cI : ClassId) (A : Nat → Nat) (tt : HS) (out : Int32 × HS) (hf : f_X2_image tt = some out) : uI l D cI yX2_image wsX2_image ({ frames := 2, cells := 0, slots := 0, locals := 44 } : Room) [.ref (A 0)] (wM A cI tt) (wM A cI out.2) out.1 := by
  intro sz
  refine Met.ofW (cc := cX2_image) (maxL := 1) (ret := (some .int)) (by decide) rfl ?_
  intro p e s m args below meth c s₁ Bd hml hv
  obtain ⟨rfl, hsz, hP, hK, hD0, hN⟩ := hv
  have hx := Bd.exec
  have hb := Bd.bytes
  have hr := Bd.returns
  have hts := atoms_spec (ws := wsX2_image) Bd.pre
  have hown : s.vm.findClass RX2 = some m.cls := findClass_of_methodNamed Bd.named
  have hlocks := Bd.notSynchronized
  subst hsz
  have hD := hD0.self (sz := s.heap.size)
  generalize hAe : va_A (wM A cI tt) s.heap.size = G at hD ⊢
  have hA : ∀ q : Nat, s.heap.size ≤ q → G q := fun q h => by rw [← hAe]; exact Or.inr h
  have hS : va_S G s.heap s.heap [] := va_S.rf
  have hP : va_P D vwCl (wM A cI tt) s.heap := hP
  have hl := lv_entry ([.ref (A 0)]) (n := 1) (Nat.le_of_ble_eq_true rfl)
  rw [lg_entry_eq]
  generalize (lg_sl ([.ref (A 0)]) ++ List.replicate (1 - (lg_sl ([.ref (A 0)])).length) Slot.unset).toArray = ls at hl ⊢
  have hl : lv_has ls 1 [(0, .ref (A 0))] := hl
  have hinM : ∀ w ∈ wsX20, w ∈ wsX2_image := by decide +kernel
  have lk0 := hts (.fieldLink RX2 173 "LiesBoughtBackModel" "hasImage" "Z") (by decide +kernel)
  have lk1 := hts (.fieldLink RX2 129 "LiesBoughtBackModel" "month" "I") (by decide +kernel)
  refine W_in ?_
  intro WW hWW
  refine (hWW _ _ _).mpr ?_
  unfold f_X2_image at hf
  refine lv_aload_n hx hb dX2_image_0 rfl (lv_at hl 0 rfl) ?_
  refine lv_iconst (v := (1 : Int32)) hx hb dX2_image_1 (by decide) ?_
  obtain ⟨tt_v1, ett_v1, hf⟩ := jnS hf
  refine va_put (D := D) (ci := 2) (v := .int (1 : Int32)) (ty := .boolean) (C := RX2) (T := TX2) (N := 31) hx hb hts hinM tyX2 tyX2_ok nmX2 hown hK hP hD hS 0 rfl rfl 22 (by decide) lk0 (fun _ h9 => h9) rfl (by decide +kernel) rfl rfl (Nat.le_of_ble_eq_true rfl) dX2_image_2 (fun H locs hP hD hS => ?_)
  have hE : _ = (wM A cI tt_v1) := ((sf_X2_t_26 A cI tt (1 : Int32)).trans (congrArg (fun z => wM A cI z) ett_v1.symm))
  have hP : va_P D vwCl (wM A cI tt_v1) H := hE ▸ hP
  have hD : va_D G (wM A cI tt_v1) := hE ▸ hD
  refine lv_aload_n hx hb dX2_image_5 rfl (lv_at hl 0 rfl) ?_
  refine lv_iconst (v := (0 : Int32)) hx hb dX2_image_6 (by decide) ?_
  refine lv_iconst (v := (1 : Int32)) hx hb dX2_image_7 (by decide) ?_
  obtain ⟨v2, hev2, hf⟩ := bS hf
  refine qV_v (ws' := (wM A cI v2)) (As := [.int (0 : Int32), .int (1 : Int32)]) (rest := []) ⟨hx, hb, hml, hown, hts⟩ hK hN hA hP hD hS (c_X2_passesAll l D cI A (0 : Int32) (1 : Int32) tt_v1 v2 hev2) (cwV 2 hts gX2_image_X2_passesAll rfl rfl rfl hd_X2_passesAll ⟨Nat.le_of_ble_eq_true rfl, Nat.le_of_ble_eq_true rfl⟩) (va_recv hK hP (ci := 2) (q0 := 0) rfl rfl) (bp_X2_X2_t_t A cI tt_v1 v2) rfl hl.1 rfl (Nat.le_of_ble_eq_true rfl) dX2_image_8 ⟨Nat.le_of_ble_eq_true rfl, Nat.le_of_ble_eq_true rfl⟩ (fun H locs hP hD hS => ?_)
  have hP : va_P D vwCl (wM A cI v2) H := hP
  refine lv_aload_n hx hb dX2_image_11 rfl (lv_at hl 0 rfl) ?_
  refine va_get (D := D) (ci := 2) (v := .int (v2 22 0)) (C := RX2) (T := TX2) (N := 31) hx hb hts hinM hown hK hP 0 rfl rfl 13 (by decide) lk1 (fun _ h9 => h9) rfl dX2_image_12 ?_
  obtain rfl := Option.some.inj hf
  exact W.iret (v := (v2 22 0)) hx hb hr (fun t ht hW => ⟨⟨(v2 22 0), (), rfl, rfl, hPt ht hP⟩, hS.F ht⟩) hS.2.2 dX2_image_15
set_option maxHeartbeats 4000000 in
set_option maxRecDepth 100000 in
theorem c_X2_on (l : Launch) (D : va_G) (cI : ClassId) (A : Nat → Nat) (tt : HS) (out : Int32 × HS) (hf : f_X2_on tt = some out) : uI l D cI yX2_on wsX2_on ({ frames := 2, cells := 0, slots := 0, locals := 44 } : Room) [.ref (A 0)] (wM A cI tt) (wM A cI out.2) out.1 := by
  intro sz
  refine Met.ofW (cc := cX2_on) (maxL := 1) (ret := (some .int)) (by decide) rfl ?_
  intro p e s m args below meth c s₁ Bd hml hv
  obtain ⟨rfl, hsz, hP, hK, hD0, hN⟩ := hv
  have hx := Bd.exec
  have hb := Bd.bytes
  have hr := Bd.returns
  have hts := atoms_spec (ws := wsX2_on) Bd.pre
  have hown : s.vm.findClass RX2 = some m.cls := findClass_of_methodNamed Bd.named
  have hlocks := Bd.notSynchronized
  subst hsz
  have hD := hD0.self (sz := s.heap.size)
  generalize hAe : va_A (wM A cI tt) s.heap.size = G at hD ⊢
  have hA : ∀ q : Nat, s.heap.size ≤ q → G q := fun q h => by rw [← hAe]; exact Or.inr h
  have hS : va_S G s.heap s.heap [] := va_S.rf
  have hP : va_P D vwCl (wM A cI tt) s.heap := hP
  have hl := lv_entry ([.ref (A 0)]) (n := 1) (Nat.le_of_ble_eq_true rfl)
  rw [lg_entry_eq]
  generalize (lg_sl ([.ref (A 0)]) ++ List.replicate (1 - (lg_sl ([.ref (A 0)])).length) Slot.unset).toArray = ls at hl ⊢
  have hl : lv_has ls 1 [(0, .ref (A 0))] := hl
  have hinM : ∀ w ∈ wsX20, w ∈ wsX2_on := by decide +kernel
  have lk0 := hts (.fieldLink RX2 173 "LiesBoughtBackModel" "hasImage" "Z") (by decide +kernel)
  have lk1 := hts (.fieldLink RX2 129 "LiesBoughtBackModel" "month" "I") (by decide +kernel)
  refine W_in ?_
  intro WW hWW
  refine (hWW _ _ _).mpr ?_
  unfold f_X2_on at hf
  refine lv_aload_n hx hb dX2_on_0 rfl (lv_at hl 0 rfl) ?_
  refine va_get (D := D) (ci := 2) (v := .int (tt 26 0)) (C := RX2) (T := TX2) (N := 31) hx hb hts hinM hown hK hP 0 rfl rfl 22 (by decide) lk0 (fun _ h9 => h9) rfl dX2_on_1 ?_
  refine lv_if_ne (tgt := 14) hx hb dX2_on_4 (by decide) (fun c1 => ?_) (fun c1 => ?_)
  · have hf := hF hf c1
    refine lv_aload_n hx hb dX2_on_14 rfl (lv_at hl 0 rfl) ?_
    refine lv_iconst (v := (0 : Int32)) hx hb dX2_on_15 (by decide) ?_
    refine lv_iconst (v := (0 : Int32)) hx hb dX2_on_16 (by decide) ?_
    obtain ⟨v2, hev2, hf⟩ := bS hf
    refine qV_v (ws' := (wM A cI v2)) (As := [.int (0 : Int32), .int (0 : Int32)]) (rest := []) ⟨hx, hb, hml, hown, hts⟩ hK hN hA hP hD hS (c_X2_passesAll l D cI A (0 : Int32) (0 : Int32) tt v2 hev2) (cwV 2 hts gX2_on_X2_passesAll rfl rfl rfl hd_X2_passesAll ⟨Nat.le_of_ble_eq_true rfl, Nat.le_of_ble_eq_true rfl⟩) (va_recv hK hP (ci := 2) (q0 := 0) rfl rfl) (bp_X2_X2_t_t A cI tt v2) rfl hl.1 rfl (Nat.le_of_ble_eq_true rfl) dX2_on_17 ⟨Nat.le_of_ble_eq_true rfl, Nat.le_of_ble_eq_true rfl⟩ (fun H locs hP hD hS => ?_)
    have hP : va_P D vwCl (wM A cI v2) H := hP
    refine lv_aload_n hx hb dX2_on_20 rfl (lv_at hl 0 rfl) ?_
    refine va_get (D := D) (ci := 2) (v := .int (v2 22 0)) (C := RX2) (T := TX2) (N := 31) hx hb hts hinM hown hK hP 0 rfl rfl 13 (by decide) lk1 (fun _ h9 => h9) rfl dX2_on_21 ?_
    obtain rfl := Option.some.inj hf
    exact W.iret (v := (v2 22 0)) hx hb hr (fun t ht hW => ⟨⟨(v2 22 0), (), rfl, rfl, hPt ht hP⟩, hS.F ht⟩) hS.2.2 dX2_on_24
  · have hf := hT hf c1
    refine lv_aload_n hx hb dX2_on_7 rfl (lv_at hl 0 rfl) ?_
    refine lv_bipush (v := (-3 : Int32)) hx hb dX2_on_8 (by decide) ?_
    obtain ⟨v3, hev3, hf⟩ := bS hf
    refine qV_i (ws' := (wM A cI v3.2)) (As := [.int (-3 : Int32)]) (rest := []) ⟨hx, hb, hml, hown, hts⟩ hK hN hA hP hD hS (c_X2_no l D cI A (-3 : Int32) tt v3 hev3) (cwV 1 hts gX2_on_X2_no rfl rfl rfl hd_X2_no ⟨Nat.le_of_ble_eq_true rfl, Nat.le_of_ble_eq_true rfl⟩) (va_recv hK hP (ci := 2) (q0 := 0) rfl rfl) (bp_X2_X2_t_t A cI tt v3.2) rfl hl.1 rfl (Nat.le_of_ble_eq_true rfl) dX2_on_10 ⟨Nat.le_of_ble_eq_true rfl, Nat.le_of_ble_eq_true rfl⟩ (fun H locs hP hD hS => ?_)
    have hP : va_P D vwCl (wM A cI v3.2) H := hP
    obtain rfl := Option.some.inj hf
    exact W.iret (v := v3.1) hx hb hr (fun t ht hW => ⟨⟨v3.1, (), rfl, rfl, hPt ht hP⟩, hS.F ht⟩) hS.2.2 dX2_on_13
set_option maxHeartbeats 4000000 in
set_option maxRecDepth 100000 in
theorem c_X2_putsFirst (l : Launch) (D : va_G) (cI : ClassId) (A : Nat → Nat) (j1 : Int32) (tt : HS) (out : HS) (hf : f_X2_putsFirst j1 tt = some out) : uV l D cI yX2_putsFirst wsX2_putsFirst ({ frames := 1, cells := 0, slots := 0, locals := 22 } : Room) [.ref (A 0), .int j1] (wM A cI tt) (wM A cI out) := by
  intro sz
  refine Met.ofW (cc := cX2_putsFirst) (maxL := 3) (ret := none) (by decide) rfl ?_
  intro p e s m args below meth c s₁ Bd hml hv
  obtain ⟨rfl, hsz, hP, hK, hD0, hN⟩ := hv
  have hx := Bd.exec
  have hb := Bd.bytes
  have hr := Bd.returns
  have hts := atoms_spec (ws := wsX2_putsFirst) Bd.pre
  have hown : s.vm.findClass RX2 = some m.cls := findClass_of_methodNamed Bd.named
  have hlocks := Bd.notSynchronized
  subst hsz
  have hD := hD0.self (sz := s.heap.size)
  generalize hAe : va_A (wM A cI tt) s.heap.size = G at hD ⊢
  have hA : ∀ q : Nat, s.heap.size ≤ q → G q := fun q h => by rw [← hAe]; exact Or.inr h
  have hS : va_S G s.heap s.heap [] := va_S.rf
  have hP : va_P D vwCl (wM A cI tt) s.heap := hP
  have hl := lv_entry ([.ref (A 0), .int j1]) (n := 3) (Nat.le_of_ble_eq_true rfl)
  rw [lg_entry_eq]
  generalize (lg_sl ([.ref (A 0), .int j1]) ++ List.replicate (3 - (lg_sl ([.ref (A 0), .int j1])).length) Slot.unset).toArray = ls at hl ⊢
  have hl : lv_has ls 3 [(0, .ref (A 0)), (1, .int j1)] := hl
  have hinM : ∀ w ∈ wsX20, w ∈ wsX2_putsFirst := by decide +kernel
  have lk0 := hts (.fieldLink RX2 28 "LiesBoughtBackModel" "order" "[I") (by decide +kernel)
  refine W_in ?_
  intro WW hWW
  refine (hWW _ _ _).mpr ?_
  unfold f_X2_putsFirst at hf
  refine lv_aload_n hx hb dX2_putsFirst_0 rfl (lv_at hl 0 rfl) ?_
  refine lv_iload_n hx hb dX2_putsFirst_1 rfl (lv_at hl 1 rfl) ?_
  obtain ⟨v1, hev1, hf⟩ := bS hf
  refine qV_i (As := [.int j1]) (rest := []) ⟨hx, hb, hml, hown, hts⟩ hK hN hA hP hD hS (c_X2_placeOf l D cI A j1 tt v1 hev1) (cwV 1 hts gX2_putsFirst_X2_placeOf rfl rfl rfl hd_X2_placeOf ⟨Nat.le_of_ble_eq_true rfl, Nat.le_of_ble_eq_true rfl⟩) (va_recv hK hP (ci := 2) (q0 := 0) rfl rfl) (bq_X2_X2_t A cI tt) rfl hl.1 rfl (Nat.le_of_ble_eq_true rfl) dX2_putsFirst_2 ⟨Nat.le_of_ble_eq_true rfl, Nat.le_of_ble_eq_true rfl⟩ (fun H locs hP hD hS => ?_)
  refine lv_istore_n (lv' := [(2, .int v1), (0, .ref (A 0)), (1, .int j1)]) hx hb dX2_putsFirst_5 rfl hl (by decide) rfl (fun ls hl => ?_)
  obtain ⟨K30, hK30, hf⟩ := jnS hf
  have J30 : ∀ (tt_30 : HS) (H : Heap) (locs : List Loc) (ls : Array Slot), K30 tt_30 = some out → va_P D vwCl (wM A cI tt_30) H → va_D G (wM A cI tt_30) → va_S G s.heap H locs → lv_has ls 3 [(0, .ref (A 0)), (1, .int j1)] → WW H locs (F0 m 30 ls []) := by
    intro tt_30 H locs ls hf hP hD hS hl
    subst hK30
    refine (hWW _ _ _).mpr ?_
    refine lv_aload_n hx hb dX2_putsFirst_30 rfl (lv_at hl 0 rfl) ?_
    refine va_get (D := D) (ci := 2) (v := .ref (A 7)) (C := RX2) (T := TX2) (N := 31) hx hb hts hinM hown hK hP 0 rfl rfl 6 (by decide) lk0 (fun _ h9 => h9) rfl dX2_putsFirst_31 ?_
    refine lv_iconst (v := (0 : Int32)) hx hb dX2_putsFirst_34 (by decide) ?_
    refine lv_iload_n hx hb dX2_putsFirst_35 rfl (lv_at hl 1 rfl) ?_
    obtain ⟨v2, he, hf⟩ := bS hf
    obtain ⟨tt_v3, ett_v3, hf⟩ := jnS hf
    refine x_iast (ws' := (wM A cI tt_v3)) hx hb hK hP hD hS 7 (n := 8) rfl he ((sa_X2_t_6 A cI tt_30 v2).trans (congrArg (fun z => wM A cI z) ett_v3.symm)) dX2_putsFirst_36 (fun H locs hP hD hS => ?_)
    obtain rfl := Option.some.inj hf
    exact W.vret hx hb hr (fun t ht hW => ⟨⟨(), rfl, trivial, hPt ht hP⟩, hS.F ht⟩) hS.2.2 dX2_putsFirst_37
  have P6 : ∀ (n' : Nat) (j2_6 : Int32) (tt_6 : HS) (H : Heap) (locs : List Loc) (ls : Array Slot), L_X2_putsFirst_6 j1 K30 n' j2_6 tt_6 = some out → va_P D vwCl (wM A cI tt_6) H → va_D G (wM A cI tt_6) → va_S G s.heap H locs → lv_has ls 3 [(0, .ref (A 0)), (1, .int j1), (2, .int j2_6)] → WW H locs (F0 m 6 ls []) := by
    intro n'
    induction n' with
    | zero => intro j2_6 tt_6 H locs ls hf; exact absurd (show (none : Option (HS)) = some out from hf) (fun q => by cases q)
    | succ n' ih =>
      intro j2_6 tt_6 H locs ls hf hP hD hS hl
      rw [L_X2_putsFirst_6] at hf
      refine (hWW _ _ _).mpr ?_
      refine lv_iload_n hx hb dX2_putsFirst_6 rfl (lv_at hl 2 rfl) ?_
      refine lv_if_le (tgt := 30) hx hb dX2_putsFirst_7 (by decide) (fun c4 => ?_) (fun c4 => ?_)
      · have hf := hT hf c4
        exact (hWW _ _ _).mp (J30 _ _ _ _ hf hP hD hS (lv_sub hl [0, 1] rfl))
      · have hf := hF hf c4
        refine lv_aload_n hx hb dX2_putsFirst_10 rfl (lv_at hl 0 rfl) ?_
        refine va_get (D := D) (ci := 2) (v := .ref (A 7)) (C := RX2) (T := TX2) (N := 31) hx hb hts hinM hown hK hP 0 rfl rfl 6 (by decide) lk0 (fun _ h9 => h9) rfl dX2_putsFirst_11 ?_
        refine lv_iload_n hx hb dX2_putsFirst_14 rfl (lv_at hl 2 rfl) ?_
        refine lv_aload_n hx hb dX2_putsFirst_15 rfl (lv_at hl 0 rfl) ?_
        refine va_get (D := D) (ci := 2) (v := .ref (A 7)) (C := RX2) (T := TX2) (N := 31) hx hb hts hinM hown hK hP 0 rfl rfl 6 (by decide) lk0 (fun _ h9 => h9) rfl dX2_putsFirst_16 ?_
        refine lv_iload_n hx hb dX2_putsFirst_19 rfl (lv_at hl 2 rfl) ?_
        refine lv_iconst (v := (1 : Int32)) hx hb dX2_putsFirst_20 (by decide) ?_
        refine lv_isub hx hb dX2_putsFirst_21 ?_
        obtain ⟨v5, he, hf⟩ := bS hf
        refine x_iald hx hb hK hP 7 (n := 8) rfl he dX2_putsFirst_22 ?_
        obtain ⟨v6, he, hf⟩ := bS hf
        obtain ⟨tt_v7, ett_v7, hf⟩ := jnS hf
        refine x_iast (ws' := (wM A cI tt_v7)) hx hb hK hP hD hS 7 (n := 8) rfl he ((sa_X2_t_6 A cI tt_6 v6).trans (congrArg (fun z => wM A cI z) ett_v7.symm)) dX2_putsFirst_23 (fun H locs hP hD hS => ?_)
        refine lv_iinc (v := (j2_6 + (-1 : Int32))) (lv' := [(2, .int (j2_6 + (-1 : Int32))), (0, .ref (A 0)), (1, .int j1)]) hx hb dX2_putsFirst_24 hl (k := 2) rfl (by rw [show Int32.ofInt (-1) = (-1 : Int32) from by decide]) (by decide) rfl (fun ls hl => ?_)
        refine lv_goto (tgt := 6) hx hb dX2_putsFirst_27 (by decide) ?_
        exact (hWW _ _ _).mp (ih _ _ _ _ _ hf hP hD hS (lv_sub hl [1, 2, 0] rfl))
  exact (hWW _ _ _).mp (P6 _ _ _ _ _ _ hf hP hD hS (lv_sub hl [1, 2, 0] rfl))
set_option maxHeartbeats 4000000 in
set_option maxRecDepth 100000 in
theorem c_X2_pile (l : Launch) (D : va_G) (cI : ClassId) (A : Nat → Nat) (tt : HS) (out : Int32) (hf : f_X2_pile tt = some out) : uI l D cI yX2_pile wsX2_pile ({ frames := 0, cells := 0, slots := 0, locals := 0 } : Room) [.ref (A 0)] (wM A cI tt) (wM A cI tt) out := by
  intro sz
  refine Met.ofW (cc := cX2_pile) (maxL := 3) (ret := (some .int)) (by decide) rfl ?_
  intro p e s m args below meth c s₁ Bd hml hv
  obtain ⟨rfl, hsz, hP, hK, hD0, hN⟩ := hv
  have hx := Bd.exec
  have hb := Bd.bytes
  have hr := Bd.returns
  have hts := atoms_spec (ws := wsX2_pile) Bd.pre
  have hown : s.vm.findClass RX2 = some m.cls := findClass_of_methodNamed Bd.named
  have hlocks := Bd.notSynchronized
  subst hsz
  have hD := hD0.self (sz := s.heap.size)
  generalize hAe : va_A (wM A cI tt) s.heap.size = G at hD ⊢
  have hA : ∀ q : Nat, s.heap.size ≤ q → G q := fun q h => by rw [← hAe]; exact Or.inr h
  have hS : va_S G s.heap s.heap [] := va_S.rf
  have hP : va_P D vwCl (wM A cI tt) s.heap := hP
  have hl := lv_entry ([.ref (A 0)]) (n := 3) (Nat.le_of_ble_eq_true rfl)
  rw [lg_entry_eq]
  generalize (lg_sl ([.ref (A 0)]) ++ List.replicate (3 - (lg_sl ([.ref (A 0)])).length) Slot.unset).toArray = ls at hl ⊢
  have hl : lv_has ls 3 [(0, .ref (A 0))] := hl
  have hinM : ∀ w ∈ wsX20, w ∈ wsX2_pile := by decide +kernel
  have lk0 := hts (.fieldLink RX2 67 "LiesBoughtBackModel" "cards" "I") (by decide +kernel)
  have lk1 := hts (.fieldLink RX2 25 "LiesBoughtBackModel" "holder" "[I") (by decide +kernel)
  refine W_in ?_
  intro WW hWW
  refine (hWW _ _ _).mpr ?_
  unfold f_X2_pile at hf
  refine lv_iconst (v := (0 : Int32)) hx hb dX2_pile_0 (by decide) ?_
  refine lv_istore_n (lv' := [(1, .int (0 : Int32)), (0, .ref (A 0))]) hx hb dX2_pile_1 rfl hl (by decide) rfl (fun ls hl => ?_)
  refine lv_iconst (v := (0 : Int32)) hx hb dX2_pile_2 (by decide) ?_
  refine lv_istore_n (lv' := [(2, .int (0 : Int32)), (1, .int (0 : Int32)), (0, .ref (A 0))]) hx hb dX2_pile_3 rfl hl (by decide) rfl (fun ls hl => ?_)
  obtain ⟨K37, hK37, hf⟩ := jnS hf
  have J37 : ∀ (j1_37 : Int32) (H : Heap) (locs : List Loc) (ls : Array Slot), K37 j1_37 = some out → va_P D vwCl (wM A cI tt) H → va_D G (wM A cI tt) → va_S G s.heap H locs → lv_has ls 3 [(1, .int j1_37)] → WW H locs (F0 m 37 ls []) := by
    intro j1_37 H locs ls hf hP hD hS hl
    subst hK37
    refine (hWW _ _ _).mpr ?_
    refine lv_iload_n hx hb dX2_pile_37 rfl (lv_at hl 0 rfl) ?_
    obtain rfl := Option.some.inj hf
    exact W.iret (v := j1_37) hx hb hr (fun t ht hW => ⟨⟨j1_37, (), rfl, rfl, hPt ht hP⟩, hS.F ht⟩) hS.2.2 dX2_pile_38
  have P4 : ∀ (n' : Nat) (j1_4 : Int32) (j2_4 : Int32) (H : Heap) (locs : List Loc) (ls : Array Slot), L_X2_pile_4 tt K37 n' j1_4 j2_4 = some out → va_P D vwCl (wM A cI tt) H → va_D G (wM A cI tt) → va_S G s.heap H locs → lv_has ls 3 [(0, .ref (A 0)), (1, .int j1_4), (2, .int j2_4)] → WW H locs (F0 m 4 ls []) := by
    intro n'
    induction n' with
    | zero => intro j1_4 j2_4 H locs ls hf; exact absurd (show (none : Option (Int32)) = some out from hf) (fun q => by cases q)
    | succ n' ih =>
      intro j1_4 j2_4 H locs ls hf hP hD hS hl
      rw [L_X2_pile_4] at hf
      refine (hWW _ _ _).mpr ?_
      refine lv_iload_n hx hb dX2_pile_4 rfl (lv_at hl 2 rfl) ?_
      refine lv_aload_n hx hb dX2_pile_5 rfl (lv_at hl 0 rfl) ?_
      refine va_get (D := D) (ci := 2) (v := .int (tt 20 0)) (C := RX2) (T := TX2) (N := 31) hx hb hts hinM hown hK hP 0 rfl rfl 11 (by decide) lk0 (fun _ h9 => h9) rfl dX2_pile_6 ?_
      refine lv_icmp_ge (tgt := 37) hx hb dX2_pile_9 (by decide) (fun c1 => ?_) (fun c1 => ?_)
      · have hf := hT hf c1
        exact (hWW _ _ _).mp (J37 _ _ _ _ hf hP hD hS (lv_sub hl [1] rfl))
      · have hf := hF hf c1
        refine lv_iload_n hx hb dX2_pile_12 rfl (lv_at hl 1 rfl) ?_
        refine lv_aload_n hx hb dX2_pile_13 rfl (lv_at hl 0 rfl) ?_
        refine va_get (D := D) (ci := 2) (v := .ref (A 6)) (C := RX2) (T := TX2) (N := 31) hx hb hts hinM hown hK hP 0 rfl rfl 5 (by decide) lk1 (fun _ h9 => h9) rfl dX2_pile_14 ?_
        refine lv_iload_n hx hb dX2_pile_17 rfl (lv_at hl 2 rfl) ?_
        obtain ⟨v2, he, hf⟩ := bS hf
        refine x_iald hx hb hK hP 6 (n := 8) rfl he dX2_pile_18 ?_
        refine lv_if_ne (tgt := 28) hx hb dX2_pile_19 (by decide) (fun c3 => ?_) (fun c3 => ?_)
        · have hf := hF hf c3
          refine lv_iconst (v := (0 : Int32)) hx hb dX2_pile_28 (by decide) ?_
          refine lv_ior hx hb dX2_pile_29 ?_
          refine lv_istore_n (lv' := [(1, .int (j1_4 ||| (0 : Int32))), (0, .ref (A 0)), (2, .int j2_4)]) hx hb dX2_pile_30 rfl hl (by decide) rfl (fun ls hl => ?_)
          refine lv_iinc (v := (j2_4 + (1 : Int32))) (lv' := [(2, .int (j2_4 + (1 : Int32))), (1, .int (j1_4 ||| (0 : Int32))), (0, .ref (A 0))]) hx hb dX2_pile_31 hl (k := 2) rfl rfl (by decide) rfl (fun ls hl => ?_)
          refine lv_goto (tgt := 4) hx hb dX2_pile_34 (by decide) ?_
          exact (hWW _ _ _).mp (ih _ _ _ _ _ hf hP hD hS (lv_sub hl [2, 1, 0] rfl))
        · have hf := hT hf c3
          refine lv_iconst (v := (1 : Int32)) hx hb dX2_pile_22 (by decide) ?_
          refine lv_iload_n hx hb dX2_pile_23 rfl (lv_at hl 2 rfl) ?_
          refine lv_ishl hx hb dX2_pile_24 ?_
          refine lv_goto (tgt := 29) hx hb dX2_pile_25 (by decide) ?_
          refine lv_ior hx hb dX2_pile_29 ?_
          refine lv_istore_n (lv' := [(1, .int (j1_4 ||| ((1 : Int32) <<< (j2_4 &&& 31)))), (0, .ref (A 0)), (2, .int j2_4)]) hx hb dX2_pile_30 rfl hl (by decide) rfl (fun ls hl => ?_)
          refine lv_iinc (v := (j2_4 + (1 : Int32))) (lv' := [(2, .int (j2_4 + (1 : Int32))), (1, .int (j1_4 ||| ((1 : Int32) <<< (j2_4 &&& 31)))), (0, .ref (A 0))]) hx hb dX2_pile_31 hl (k := 2) rfl rfl (by decide) rfl (fun ls hl => ?_)
          refine lv_goto (tgt := 4) hx hb dX2_pile_34 (by decide) ?_
          exact (hWW _ _ _).mp (ih _ _ _ _ _ hf hP hD hS (lv_sub hl [2, 1, 0] rfl))
  exact (hWW _ _ _).mp (P4 _ _ _ _ _ _ hf hP hD hS (lv_sub hl [2, 1, 0] rfl))
set_option maxHeartbeats 4000000 in
set_option maxRecDepth 100000 in
theorem c_X2_heldBy (l : Launch) (D : va_G) (cI : ClassId) (A : Nat → Nat) (j1 : Int32) (tt : HS) (out : Int32) (hf : f_X2_heldBy j1 tt = some out) : uI l D cI yX2_heldBy wsX2_heldBy ({ frames := 0, cells := 0, slots := 0, locals := 0 } : Room) [.ref (A 0), .int j1] (wM A cI tt) (wM A cI tt) out := by
  intro sz
  refine Met.ofW (cc := cX2_heldBy) (maxL := 4) (ret := (some .int)) (by decide) rfl ?_
  intro p e s m args below meth c s₁ Bd hml hv
  obtain ⟨rfl, hsz, hP, hK, hD0, hN⟩ := hv
  have hx := Bd.exec
  have hb := Bd.bytes
  have hr := Bd.returns
  have hts := atoms_spec (ws := wsX2_heldBy) Bd.pre
  have hown : s.vm.findClass RX2 = some m.cls := findClass_of_methodNamed Bd.named
  have hlocks := Bd.notSynchronized
  subst hsz
  have hD := hD0.self (sz := s.heap.size)
  generalize hAe : va_A (wM A cI tt) s.heap.size = G at hD ⊢
  have hA : ∀ q : Nat, s.heap.size ≤ q → G q := fun q h => by rw [← hAe]; exact Or.inr h
  have hS : va_S G s.heap s.heap [] := va_S.rf
  have hP : va_P D vwCl (wM A cI tt) s.heap := hP
  have hl := lv_entry ([.ref (A 0), .int j1]) (n := 4) (Nat.le_of_ble_eq_true rfl)
  rw [lg_entry_eq]
  generalize (lg_sl ([.ref (A 0), .int j1]) ++ List.replicate (4 - (lg_sl ([.ref (A 0), .int j1])).length) Slot.unset).toArray = ls at hl ⊢
  have hl : lv_has ls 4 [(0, .ref (A 0)), (1, .int j1)] := hl
  have hinM : ∀ w ∈ wsX20, w ∈ wsX2_heldBy := by decide +kernel
  have lk0 := hts (.fieldLink RX2 67 "LiesBoughtBackModel" "cards" "I") (by decide +kernel)
  have lk1 := hts (.fieldLink RX2 25 "LiesBoughtBackModel" "holder" "[I") (by decide +kernel)
  refine W_in ?_
  intro WW hWW
  refine (hWW _ _ _).mpr ?_
  unfold f_X2_heldBy at hf
  refine lv_iconst (v := (0 : Int32)) hx hb dX2_heldBy_0 (by decide) ?_
  refine lv_istore_n (lv' := [(2, .int (0 : Int32)), (0, .ref (A 0)), (1, .int j1)]) hx hb dX2_heldBy_1 rfl hl (by decide) rfl (fun ls hl => ?_)
  refine lv_iconst (v := (0 : Int32)) hx hb dX2_heldBy_2 (by decide) ?_
  refine lv_istore_n (lv' := [(3, .int (0 : Int32)), (2, .int (0 : Int32)), (0, .ref (A 0)), (1, .int j1)]) hx hb dX2_heldBy_3 rfl hl (by decide) rfl (fun ls hl => ?_)
  obtain ⟨K40, hK40, hf⟩ := jnS hf
  have J40 : ∀ (j2_40 : Int32) (H : Heap) (locs : List Loc) (ls : Array Slot), K40 j2_40 = some out → va_P D vwCl (wM A cI tt) H → va_D G (wM A cI tt) → va_S G s.heap H locs → lv_has ls 4 [(2, .int j2_40)] → WW H locs (F0 m 40 ls []) := by
    intro j2_40 H locs ls hf hP hD hS hl
    subst hK40
    refine (hWW _ _ _).mpr ?_
    refine lv_iload_n hx hb dX2_heldBy_40 rfl (lv_at hl 0 rfl) ?_
    obtain rfl := Option.some.inj hf
    exact W.iret (v := j2_40) hx hb hr (fun t ht hW => ⟨⟨j2_40, (), rfl, rfl, hPt ht hP⟩, hS.F ht⟩) hS.2.2 dX2_heldBy_41
  have P4 : ∀ (n' : Nat) (j2_4 : Int32) (j3_4 : Int32) (H : Heap) (locs : List Loc) (ls : Array Slot), L_X2_heldBy_4 j1 tt K40 n' j2_4 j3_4 = some out → va_P D vwCl (wM A cI tt) H → va_D G (wM A cI tt) → va_S G s.heap H locs → lv_has ls 4 [(0, .ref (A 0)), (1, .int j1), (2, .int j2_4), (3, .int j3_4)] → WW H locs (F0 m 4 ls []) := by
    intro n'
    induction n' with
    | zero => intro j2_4 j3_4 H locs ls hf; exact absurd (show (none : Option (Int32)) = some out from hf) (fun q => by cases q)
    | succ n' ih =>
      intro j2_4 j3_4 H locs ls hf hP hD hS hl
      rw [L_X2_heldBy_4] at hf
      refine (hWW _ _ _).mpr ?_
      refine lv_iload_n hx hb dX2_heldBy_4 rfl (lv_at hl 3 rfl) ?_
      refine lv_aload_n hx hb dX2_heldBy_5 rfl (lv_at hl 0 rfl) ?_
      refine va_get (D := D) (ci := 2) (v := .int (tt 20 0)) (C := RX2) (T := TX2) (N := 31) hx hb hts hinM hown hK hP 0 rfl rfl 11 (by decide) lk0 (fun _ h9 => h9) rfl dX2_heldBy_6 ?_
      refine lv_icmp_ge (tgt := 40) hx hb dX2_heldBy_9 (by decide) (fun c1 => ?_) (fun c1 => ?_)
      · have hf := hT hf c1
        exact (hWW _ _ _).mp (J40 _ _ _ _ hf hP hD hS (lv_sub hl [2] rfl))
      · have hf := hF hf c1
        refine lv_iload_n hx hb dX2_heldBy_12 rfl (lv_at hl 2 rfl) ?_
        refine lv_aload_n hx hb dX2_heldBy_13 rfl (lv_at hl 0 rfl) ?_
        refine va_get (D := D) (ci := 2) (v := .ref (A 6)) (C := RX2) (T := TX2) (N := 31) hx hb hts hinM hown hK hP 0 rfl rfl 5 (by decide) lk1 (fun _ h9 => h9) rfl dX2_heldBy_14 ?_
        refine lv_iload_n hx hb dX2_heldBy_17 rfl (lv_at hl 3 rfl) ?_
        obtain ⟨v2, he, hf⟩ := bS hf
        refine x_iald hx hb hK hP 6 (n := 8) rfl he dX2_heldBy_18 ?_
        refine lv_iload_n hx hb dX2_heldBy_19 rfl (lv_at hl 1 rfl) ?_
        refine lv_iconst (v := (1 : Int32)) hx hb dX2_heldBy_20 (by decide) ?_
        refine lv_iadd hx hb dX2_heldBy_21 ?_
        refine lv_icmp_ne (tgt := 31) hx hb dX2_heldBy_22 (by decide) (fun c3 => ?_) (fun c3 => ?_)
        · have hf := hF hf c3
          refine lv_iconst (v := (0 : Int32)) hx hb dX2_heldBy_31 (by decide) ?_
          refine lv_ior hx hb dX2_heldBy_32 ?_
          refine lv_istore_n (lv' := [(2, .int (j2_4 ||| (0 : Int32))), (0, .ref (A 0)), (1, .int j1), (3, .int j3_4)]) hx hb dX2_heldBy_33 rfl hl (by decide) rfl (fun ls hl => ?_)
          refine lv_iinc (v := (j3_4 + (1 : Int32))) (lv' := [(3, .int (j3_4 + (1 : Int32))), (2, .int (j2_4 ||| (0 : Int32))), (0, .ref (A 0)), (1, .int j1)]) hx hb dX2_heldBy_34 hl (k := 3) rfl rfl (by decide) rfl (fun ls hl => ?_)
          refine lv_goto (tgt := 4) hx hb dX2_heldBy_37 (by decide) ?_
          exact (hWW _ _ _).mp (ih _ _ _ _ _ hf hP hD hS (lv_sub hl [2, 3, 1, 0] rfl))
        · have hf := hT hf c3
          refine lv_iconst (v := (1 : Int32)) hx hb dX2_heldBy_25 (by decide) ?_
          refine lv_iload_n hx hb dX2_heldBy_26 rfl (lv_at hl 3 rfl) ?_
          refine lv_ishl hx hb dX2_heldBy_27 ?_
          refine lv_goto (tgt := 32) hx hb dX2_heldBy_28 (by decide) ?_
          refine lv_ior hx hb dX2_heldBy_32 ?_
          refine lv_istore_n (lv' := [(2, .int (j2_4 ||| ((1 : Int32) <<< (j3_4 &&& 31)))), (0, .ref (A 0)), (1, .int j1), (3, .int j3_4)]) hx hb dX2_heldBy_33 rfl hl (by decide) rfl (fun ls hl => ?_)
          refine lv_iinc (v := (j3_4 + (1 : Int32))) (lv' := [(3, .int (j3_4 + (1 : Int32))), (2, .int (j2_4 ||| ((1 : Int32) <<< (j3_4 &&& 31)))), (0, .ref (A 0)), (1, .int j1)]) hx hb dX2_heldBy_34 hl (k := 3) rfl rfl (by decide) rfl (fun ls hl => ?_)
          refine lv_goto (tgt := 4) hx hb dX2_heldBy_37 (by decide) ?_
          exact (hWW _ _ _).mp (ih _ _ _ _ _ hf hP hD hS (lv_sub hl [2, 3, 1, 0] rfl))
  exact (hWW _ _ _).mp (P4 _ _ _ _ _ _ hf hP hD hS (lv_sub hl [2, 3, 1, 0] rfl))
set_option maxHeartbeats 4000000 in
set_option maxRecDepth 100000 in
theorem c_X2_rivals (l : Launch) (D : va_G) (cI : ClassId) (A : Nat → Nat) (j1 : Int32) (tt : HS) (out : Int32) (hf : f_X2_rivals j1 tt = some out) : uI l D cI yX2_rivals wsX2_rivals ({ frames := 4, cells := 0, slots := 0, locals := 90 } : Room) [.ref (A 0), .int j1] (wM A cI tt) (wM A cI tt) out := by
  intro sz
  refine Met.ofW (cc := cX2_rivals) (maxL := 4) (ret := (some .int)) (by decide) rfl ?_
  intro p e s m args below meth c s₁ Bd hml hv
  obtain ⟨rfl, hsz, hP, hK, hD0, hN⟩ := hv
  have hx := Bd.exec
  have hb := Bd.bytes
  have hr := Bd.returns
  have hts := atoms_spec (ws := wsX2_rivals) Bd.pre
  have hown : s.vm.findClass RX2 = some m.cls := findClass_of_methodNamed Bd.named
  have hlocks := Bd.notSynchronized
  subst hsz
  have hD := hD0.self (sz := s.heap.size)
  generalize hAe : va_A (wM A cI tt) s.heap.size = G at hD ⊢
  have hA : ∀ q : Nat, s.heap.size ≤ q → G q := fun q h => by rw [← hAe]; exact Or.inr h
  have hS : va_S G s.heap s.heap [] := va_S.rf
  have hP : va_P D vwCl (wM A cI tt) s.heap := hP
  have hl := lv_entry ([.ref (A 0), .int j1]) (n := 4) (Nat.le_of_ble_eq_true rfl)
  rw [lg_entry_eq]
  generalize (lg_sl ([.ref (A 0), .int j1]) ++ List.replicate (4 - (lg_sl ([.ref (A 0), .int j1])).length) Slot.unset).toArray = ls at hl ⊢
  have hl : lv_has ls 4 [(0, .ref (A 0)), (1, .int j1)] := hl
  have hinM : ∀ w ∈ wsX20, w ∈ wsX2_rivals := by decide +kernel
  have lk0 := hts (.fieldLink RX2 73 "LiesBoughtBackModel" "bidders" "I") (by decide +kernel)
  refine W_in ?_
  intro WW hWW
  refine (hWW _ _ _).mpr ?_
  unfold f_X2_rivals at hf
  refine lv_iconst (v := (0 : Int32)) hx hb dX2_rivals_0 (by decide) ?_
  refine lv_istore_n (lv' := [(2, .int (0 : Int32)), (0, .ref (A 0)), (1, .int j1)]) hx hb dX2_rivals_1 rfl hl (by decide) rfl (fun ls hl => ?_)
  refine lv_iconst (v := (0 : Int32)) hx hb dX2_rivals_2 (by decide) ?_
  refine lv_istore_n (lv' := [(3, .int (0 : Int32)), (2, .int (0 : Int32)), (0, .ref (A 0)), (1, .int j1)]) hx hb dX2_rivals_3 rfl hl (by decide) rfl (fun ls hl => ?_)
  obtain ⟨K35, hK35, hf⟩ := jnS hf
  have J35 : ∀ (j2_35 : Int32) (H : Heap) (locs : List Loc) (ls : Array Slot), K35 j2_35 = some out → va_P D vwCl (wM A cI tt) H → va_D G (wM A cI tt) → va_S G s.heap H locs → lv_has ls 4 [(2, .int j2_35)] → WW H locs (F0 m 35 ls []) := by
    intro j2_35 H locs ls hf hP hD hS hl
    subst hK35
    refine (hWW _ _ _).mpr ?_
    refine lv_iload_n hx hb dX2_rivals_35 rfl (lv_at hl 0 rfl) ?_
    obtain rfl := Option.some.inj hf
    exact W.iret (v := j2_35) hx hb hr (fun t ht hW => ⟨⟨j2_35, (), rfl, rfl, hPt ht hP⟩, hS.F ht⟩) hS.2.2 dX2_rivals_36
  have P4 : ∀ (n' : Nat) (j2_4 : Int32) (j3_4 : Int32) (H : Heap) (locs : List Loc) (ls : Array Slot), L_X2_rivals_4 j1 tt K35 n' j2_4 j3_4 = some out → va_P D vwCl (wM A cI tt) H → va_D G (wM A cI tt) → va_S G s.heap H locs → lv_has ls 4 [(0, .ref (A 0)), (1, .int j1), (2, .int j2_4), (3, .int j3_4)] → WW H locs (F0 m 4 ls []) := by
    intro n'
    induction n' with
    | zero => intro j2_4 j3_4 H locs ls hf; exact absurd (show (none : Option (Int32)) = some out from hf) (fun q => by cases q)
    | succ n' ih =>
      intro j2_4 j3_4 H locs ls hf hP hD hS hl
      rw [L_X2_rivals_4] at hf
      refine (hWW _ _ _).mpr ?_
      refine lv_iload_n hx hb dX2_rivals_4 rfl (lv_at hl 3 rfl) ?_
      refine lv_aload_n hx hb dX2_rivals_5 rfl (lv_at hl 0 rfl) ?_
      refine va_get (D := D) (ci := 2) (v := .int (tt 21 0)) (C := RX2) (T := TX2) (N := 31) hx hb hts hinM hown hK hP 0 rfl rfl 12 (by decide) lk0 (fun _ h9 => h9) rfl dX2_rivals_6 ?_
      refine lv_icmp_ge (tgt := 35) hx hb dX2_rivals_9 (by decide) (fun c1 => ?_) (fun c1 => ?_)
      · have hf := hT hf c1
        exact (hWW _ _ _).mp (J35 _ _ _ _ hf hP hD hS (lv_sub hl [2] rfl))
      · have hf := hF hf c1
        refine lv_iload_n hx hb dX2_rivals_12 rfl (lv_at hl 2 rfl) ?_
        refine lv_aload_n hx hb dX2_rivals_13 rfl (lv_at hl 0 rfl) ?_
        refine lv_iload_n hx hb dX2_rivals_14 rfl (lv_at hl 3 rfl) ?_
        refine lv_iload_n hx hb dX2_rivals_15 rfl (lv_at hl 1 rfl) ?_
        obtain ⟨v2, hev2, hf⟩ := bS hf
        refine qV_i (As := [.int j3_4, .int j1]) (rest := [.int j2_4]) ⟨hx, hb, hml, hown, hts⟩ hK hN hA hP hD hS (c_X2_bidOf l D cI A j3_4 j1 tt v2 hev2) (cwV 2 hts gX2_rivals_X2_bidOf rfl rfl rfl hd_X2_bidOf ⟨Nat.le_of_ble_eq_true rfl, Nat.le_of_ble_eq_true rfl⟩) (va_recv hK hP (ci := 2) (q0 := 0) rfl rfl) (bq_X2_X2_t A cI tt) rfl hl.1 rfl (Nat.le_of_ble_eq_true rfl) dX2_rivals_16 ⟨Nat.le_of_ble_eq_true rfl, Nat.le_of_ble_eq_true rfl⟩ (fun H locs hP hD hS => ?_)
        refine lv_if_le (tgt := 26) hx hb dX2_rivals_19 (by decide) (fun c3 => ?_) (fun c3 => ?_)
        · have hf := hT hf c3
          refine lv_iconst (v := (0 : Int32)) hx hb dX2_rivals_26 (by decide) ?_
          refine lv_iadd hx hb dX2_rivals_27 ?_
          refine lv_istore_n (lv' := [(2, .int (j2_4 + (0 : Int32))), (0, .ref (A 0)), (1, .int j1), (3, .int j3_4)]) hx hb dX2_rivals_28 rfl hl (by decide) rfl (fun ls hl => ?_)
          refine lv_iinc (v := (j3_4 + (1 : Int32))) (lv' := [(3, .int (j3_4 + (1 : Int32))), (2, .int (j2_4 + (0 : Int32))), (0, .ref (A 0)), (1, .int j1)]) hx hb dX2_rivals_29 hl (k := 3) rfl rfl (by decide) rfl (fun ls hl => ?_)
          refine lv_goto (tgt := 4) hx hb dX2_rivals_32 (by decide) ?_
          exact (hWW _ _ _).mp (ih _ _ _ _ _ hf hP hD hS (lv_sub hl [2, 3, 1, 0] rfl))
        · have hf := hF hf c3
          refine lv_iconst (v := (1 : Int32)) hx hb dX2_rivals_22 (by decide) ?_
          refine lv_goto (tgt := 27) hx hb dX2_rivals_23 (by decide) ?_
          refine lv_iadd hx hb dX2_rivals_27 ?_
          refine lv_istore_n (lv' := [(2, .int (j2_4 + (1 : Int32))), (0, .ref (A 0)), (1, .int j1), (3, .int j3_4)]) hx hb dX2_rivals_28 rfl hl (by decide) rfl (fun ls hl => ?_)
          refine lv_iinc (v := (j3_4 + (1 : Int32))) (lv' := [(3, .int (j3_4 + (1 : Int32))), (2, .int (j2_4 + (1 : Int32))), (0, .ref (A 0)), (1, .int j1)]) hx hb dX2_rivals_29 hl (k := 3) rfl rfl (by decide) rfl (fun ls hl => ?_)
          refine lv_goto (tgt := 4) hx hb dX2_rivals_32 (by decide) ?_
          exact (hWW _ _ _).mp (ih _ _ _ _ _ hf hP hD hS (lv_sub hl [2, 3, 1, 0] rfl))
  exact (hWW _ _ _).mp (P4 _ _ _ _ _ _ hf hP hD hS (lv_sub hl [2, 3, 1, 0] rfl))
set_option maxHeartbeats 4000000 in
set_option maxRecDepth 100000 in
theorem c_X2_holderOf (l : Launch) (D : va_G) (cI : ClassId) (A : Nat → Nat) (j1 : Int32) (tt : HS) (out : Int32) (hf : f_X2_holderOf j1 tt = some out) : uI l D cI yX2_holderOf wsX2_holderOf ({ frames := 0, cells := 0, slots := 0, locals := 0 } : Room) [.ref (A 0), .int j1] (wM A cI tt) (wM A cI tt) out := by
  intro sz
  refine Met.ofW (cc := cX2_holderOf) (maxL := 2) (ret := (some .int)) (by decide) rfl ?_
  intro p e s m args below meth c s₁ Bd hml hv
  obtain ⟨rfl, hsz, hP, hK, hD0, hN⟩ := hv
  have hx := Bd.exec
  have hb := Bd.bytes
  have hr := Bd.returns
  have hts := atoms_spec (ws := wsX2_holderOf) Bd.pre
  have hown : s.vm.findClass RX2 = some m.cls := findClass_of_methodNamed Bd.named
  have hlocks := Bd.notSynchronized
  subst hsz
  have hD := hD0.self (sz := s.heap.size)
  generalize hAe : va_A (wM A cI tt) s.heap.size = G at hD ⊢
  have hA : ∀ q : Nat, s.heap.size ≤ q → G q := fun q h => by rw [← hAe]; exact Or.inr h
  have hS : va_S G s.heap s.heap [] := va_S.rf
  have hP : va_P D vwCl (wM A cI tt) s.heap := hP
  have hl := lv_entry ([.ref (A 0), .int j1]) (n := 2) (Nat.le_of_ble_eq_true rfl)
  rw [lg_entry_eq]
  generalize (lg_sl ([.ref (A 0), .int j1]) ++ List.replicate (2 - (lg_sl ([.ref (A 0), .int j1])).length) Slot.unset).toArray = ls at hl ⊢
  have hl : lv_has ls 2 [(0, .ref (A 0)), (1, .int j1)] := hl
  have hinM : ∀ w ∈ wsX20, w ∈ wsX2_holderOf := by decide +kernel
  have lk0 := hts (.fieldLink RX2 25 "LiesBoughtBackModel" "holder" "[I") (by decide +kernel)
  refine W_in ?_
  intro WW hWW
  refine (hWW _ _ _).mpr ?_
  unfold f_X2_holderOf at hf
  refine lv_aload_n hx hb dX2_holderOf_0 rfl (lv_at hl 0 rfl) ?_
  refine va_get (D := D) (ci := 2) (v := .ref (A 6)) (C := RX2) (T := TX2) (N := 31) hx hb hts hinM hown hK hP 0 rfl rfl 5 (by decide) lk0 (fun _ h9 => h9) rfl dX2_holderOf_1 ?_
  refine lv_iload_n hx hb dX2_holderOf_4 rfl (lv_at hl 1 rfl) ?_
  obtain ⟨v1, he, hf⟩ := bS hf
  refine x_iald hx hb hK hP 6 (n := 8) rfl he dX2_holderOf_5 ?_
  refine lv_if_ne (tgt := 14) hx hb dX2_holderOf_6 (by decide) (fun c2 => ?_) (fun c2 => ?_)
  · have hf := hF hf c2
    refine lv_aload_n hx hb dX2_holderOf_14 rfl (lv_at hl 0 rfl) ?_
    refine va_get (D := D) (ci := 2) (v := .ref (A 6)) (C := RX2) (T := TX2) (N := 31) hx hb hts hinM hown hK hP 0 rfl rfl 5 (by decide) lk0 (fun _ h9 => h9) rfl dX2_holderOf_15 ?_
    refine lv_iload_n hx hb dX2_holderOf_18 rfl (lv_at hl 1 rfl) ?_
    obtain ⟨v3, he, hf⟩ := bS hf
    refine x_iald hx hb hK hP 6 (n := 8) rfl he dX2_holderOf_19 ?_
    refine lv_iconst (v := (1 : Int32)) hx hb dX2_holderOf_20 (by decide) ?_
    refine lv_isub hx hb dX2_holderOf_21 ?_
    obtain rfl := Option.some.inj hf
    exact W.iret (v := (v3 - (1 : Int32))) hx hb hr (fun t ht hW => ⟨⟨(v3 - (1 : Int32)), (), rfl, rfl, hPt ht hP⟩, hS.F ht⟩) hS.2.2 dX2_holderOf_22
  · have hf := hT hf c2
    refine lv_bipush (v := (-9 : Int32)) hx hb dX2_holderOf_9 (by decide) ?_
    refine lv_goto (tgt := 22) hx hb dX2_holderOf_11 (by decide) ?_
    obtain rfl := Option.some.inj hf
    exact W.iret (v := (-9 : Int32)) hx hb hr (fun t ht hW => ⟨⟨(-9 : Int32), (), rfl, rfl, hPt ht hP⟩, hS.F ht⟩) hS.2.2 dX2_holderOf_22
set_option maxHeartbeats 4000000 in
set_option maxRecDepth 100000 in
theorem c_X2_card (l : Launch) (D : va_G) (cI : ClassId) (A : Nat → Nat) (j1 : Int32) (j2 : Int32) (tt : HS) (out : Int32 × HS) (hf : f_X2_card j1 j2 tt = some out) : uI l D cI yX2_card wsX2_card ({ frames := 5, cells := 0, slots := 0, locals := 113 } : Room) [.ref (A 0), .int j1, .int j2] (wM A cI tt) (wM A cI out.2) out.1 := by
  intro sz
  refine Met.ofW (cc := cX2_card) (maxL := 3) (ret := (some .int)) (by decide) rfl ?_
  intro p e s m args below meth c s₁ Bd hml hv
  obtain ⟨rfl, hsz, hP, hK, hD0, hN⟩ := hv
  have hx := Bd.exec
  have hb := Bd.bytes
  have hr := Bd.returns
  have hts := atoms_spec (ws := wsX2_card) Bd.pre
  have hown : s.vm.findClass RX2 = some m.cls := findClass_of_methodNamed Bd.named
  have hlocks := Bd.notSynchronized
  subst hsz
  have hD := hD0.self (sz := s.heap.size)
  generalize hAe : va_A (wM A cI tt) s.heap.size = G at hD ⊢
  have hA : ∀ q : Nat, s.heap.size ≤ q → G q := fun q h => by rw [← hAe]; exact Or.inr h
  have hS : va_S G s.heap s.heap [] := va_S.rf
  have hP : va_P D vwCl (wM A cI tt) s.heap := hP
  have hl := lv_entry ([.ref (A 0), .int j1, .int j2]) (n := 3) (Nat.le_of_ble_eq_true rfl)
  rw [lg_entry_eq]
  generalize (lg_sl ([.ref (A 0), .int j1, .int j2]) ++ List.replicate (3 - (lg_sl ([.ref (A 0), .int j1, .int j2])).length) Slot.unset).toArray = ls at hl ⊢
  have hl : lv_has ls 3 [(0, .ref (A 0)), (1, .int j1), (2, .int j2)] := hl
  have hinM : ∀ w ∈ wsX20, w ∈ wsX2_card := by decide +kernel
  have lk0 := hts (.fieldLink RX2 13 "LiesBoughtBackModel" "sort" "[I") (by decide +kernel)
  have lk1 := hts (.fieldLink RX2 16 "LiesBoughtBackModel" "size" "[I") (by decide +kernel)
  have lk2 := hts (.fieldLink RX2 19 "LiesBoughtBackModel" "teller" "[I") (by decide +kernel)
  have lk3 := hts (.fieldLink RX2 22 "LiesBoughtBackModel" "age" "[I") (by decide +kernel)
  refine W_in ?_
  intro WW hWW
  refine (hWW _ _ _).mpr ?_
  unfold f_X2_card at hf
  refine lv_aload_n hx hb dX2_card_0 rfl (lv_at hl 0 rfl) ?_
  refine lv_iload_n hx hb dX2_card_1 rfl (lv_at hl 1 rfl) ?_
  refine qV_i (As := [.int j1]) (rest := []) ⟨hx, hb, hml, hown, hts⟩ hK hN hA hP hD hS (c_X2_isCard l D cI A j1 tt (f_X2_isCard j1 tt) rfl) (cwV 1 hts gX2_card_X2_isCard rfl rfl rfl hd_X2_isCard ⟨Nat.le_of_ble_eq_true rfl, Nat.le_of_ble_eq_true rfl⟩) (va_recv hK hP (ci := 2) (q0 := 0) rfl rfl) (bq_X2_X2_t A cI tt) rfl hl.1 rfl (Nat.le_of_ble_eq_true rfl) dX2_card_2 ⟨Nat.le_of_ble_eq_true rfl, Nat.le_of_ble_eq_true rfl⟩ (fun H locs hP hD hS => ?_)
  refine lv_if_ne (tgt := 14) hx hb dX2_card_5 (by decide) (fun c1 => ?_) (fun c1 => ?_)
  · have hf := hF hf c1
    refine lv_iload_n hx hb dX2_card_14 rfl (lv_at hl 2 rfl) ?_
    by_cases c2 : j2 = (0 : Int32)
    · have hf := hT hf c2
      refine sw_in (v := 0) (off := 45) (tgt := 60) hx hb dX2_card_15 ((congrArg Int32.toInt c2).trans (by decide)) (by decide) (by decide) (by decide) (by decide) ?_
      refine lv_aload_n hx hb dX2_card_60 rfl (lv_at hl 0 rfl) ?_
      refine va_get (D := D) (ci := 2) (v := .ref (A 2)) (C := RX2) (T := TX2) (N := 31) hx hb hts hinM hown hK hP 0 rfl rfl 1 (by decide) lk0 (fun _ h9 => h9) rfl dX2_card_61 ?_
      refine lv_iload_n hx hb dX2_card_64 rfl (lv_at hl 1 rfl) ?_
      obtain ⟨v3, he, hf⟩ := bS hf
      refine x_iald hx hb hK hP 2 (n := 8) rfl he dX2_card_65 ?_
      obtain rfl := Option.some.inj hf
      exact W.iret (v := v3) hx hb hr (fun t ht hW => ⟨⟨v3, (), rfl, rfl, hPt ht hP⟩, hS.F ht⟩) hS.2.2 dX2_card_66
    have hf := hF hf c2
    by_cases c4 : j2 = (1 : Int32)
    · have hf := hT hf c4
      refine sw_in (v := 1) (off := 52) (tgt := 67) hx hb dX2_card_15 ((congrArg Int32.toInt c4).trans (by decide)) (by decide) (by decide) (by decide) (by decide) ?_
      refine lv_aload_n hx hb dX2_card_67 rfl (lv_at hl 0 rfl) ?_
      refine va_get (D := D) (ci := 2) (v := .ref (A 3)) (C := RX2) (T := TX2) (N := 31) hx hb hts hinM hown hK hP 0 rfl rfl 2 (by decide) lk1 (fun _ h9 => h9) rfl dX2_card_68 ?_
      refine lv_iload_n hx hb dX2_card_71 rfl (lv_at hl 1 rfl) ?_
      obtain ⟨v5, he, hf⟩ := bS hf
      refine x_iald hx hb hK hP 3 (n := 8) rfl he dX2_card_72 ?_
      obtain rfl := Option.some.inj hf
      exact W.iret (v := v5) hx hb hr (fun t ht hW => ⟨⟨v5, (), rfl, rfl, hPt ht hP⟩, hS.F ht⟩) hS.2.2 dX2_card_73
    have hf := hF hf c4
    by_cases c6 : j2 = (2 : Int32)
    · have hf := hT hf c6
      refine sw_in (v := 2) (off := 59) (tgt := 74) hx hb dX2_card_15 ((congrArg Int32.toInt c6).trans (by decide)) (by decide) (by decide) (by decide) (by decide) ?_
      refine lv_aload_n hx hb dX2_card_74 rfl (lv_at hl 0 rfl) ?_
      refine va_get (D := D) (ci := 2) (v := .ref (A 4)) (C := RX2) (T := TX2) (N := 31) hx hb hts hinM hown hK hP 0 rfl rfl 3 (by decide) lk2 (fun _ h9 => h9) rfl dX2_card_75 ?_
      refine lv_iload_n hx hb dX2_card_78 rfl (lv_at hl 1 rfl) ?_
      obtain ⟨v7, he, hf⟩ := bS hf
      refine x_iald hx hb hK hP 4 (n := 8) rfl he dX2_card_79 ?_
      obtain rfl := Option.some.inj hf
      exact W.iret (v := v7) hx hb hr (fun t ht hW => ⟨⟨v7, (), rfl, rfl, hPt ht hP⟩, hS.F ht⟩) hS.2.2 dX2_card_80
    have hf := hF hf c6
    by_cases c8 : j2 = (3 : Int32)
    · have hf := hT hf c8
      refine sw_in (v := 3) (off := 66) (tgt := 81) hx hb dX2_card_15 ((congrArg Int32.toInt c8).trans (by decide)) (by decide) (by decide) (by decide) (by decide) ?_
      refine lv_aload_n hx hb dX2_card_81 rfl (lv_at hl 0 rfl) ?_
      refine va_get (D := D) (ci := 2) (v := .ref (A 5)) (C := RX2) (T := TX2) (N := 31) hx hb hts hinM hown hK hP 0 rfl rfl 4 (by decide) lk3 (fun _ h9 => h9) rfl dX2_card_82 ?_
      refine lv_iload_n hx hb dX2_card_85 rfl (lv_at hl 1 rfl) ?_
      obtain ⟨v9, he, hf⟩ := bS hf
      refine x_iald hx hb hK hP 5 (n := 8) rfl he dX2_card_86 ?_
      obtain rfl := Option.some.inj hf
      exact W.iret (v := v9) hx hb hr (fun t ht hW => ⟨⟨v9, (), rfl, rfl, hPt ht hP⟩, hS.F ht⟩) hS.2.2 dX2_card_87
    have hf := hF hf c8
    by_cases c10 : j2 = (4 : Int32)
    · have hf := hT hf c10
      refine sw_in (v := 4) (off := 73) (tgt := 88) hx hb dX2_card_15 ((congrArg Int32.toInt c10).trans (by decide)) (by decide) (by decide) (by decide) (by decide) ?_
      refine lv_aload_n hx hb dX2_card_88 rfl (lv_at hl 0 rfl) ?_
      refine lv_iload_n hx hb dX2_card_89 rfl (lv_at hl 1 rfl) ?_
      obtain ⟨v11, hev11, hf⟩ := bS hf
      refine qV_i (As := [.int j1]) (rest := []) ⟨hx, hb, hml, hown, hts⟩ hK hN hA hP hD hS (c_X2_holderOf l D cI A j1 tt v11 hev11) (cwV 1 hts gX2_card_X2_holderOf rfl rfl rfl hd_X2_holderOf ⟨Nat.le_of_ble_eq_true rfl, Nat.le_of_ble_eq_true rfl⟩) (va_recv hK hP (ci := 2) (q0 := 0) rfl rfl) (bq_X2_X2_t A cI tt) rfl hl.1 rfl (Nat.le_of_ble_eq_true rfl) dX2_card_90 ⟨Nat.le_of_ble_eq_true rfl, Nat.le_of_ble_eq_true rfl⟩ (fun H locs hP hD hS => ?_)
      obtain rfl := Option.some.inj hf
      exact W.iret (v := v11) hx hb hr (fun t ht hW => ⟨⟨v11, (), rfl, rfl, hPt ht hP⟩, hS.F ht⟩) hS.2.2 dX2_card_93
    have hf := hF hf c10
    by_cases c12 : j2 = (5 : Int32)
    · have hf := hT hf c12
      refine sw_in (v := 5) (off := 79) (tgt := 94) hx hb dX2_card_15 ((congrArg Int32.toInt c12).trans (by decide)) (by decide) (by decide) (by decide) (by decide) ?_
      refine lv_aload_n hx hb dX2_card_94 rfl (lv_at hl 0 rfl) ?_
      refine lv_iload_n hx hb dX2_card_95 rfl (lv_at hl 1 rfl) ?_
      obtain ⟨v13, hev13, hf⟩ := bS hf
      refine qV_i (As := [.int j1]) (rest := []) ⟨hx, hb, hml, hown, hts⟩ hK hN hA hP hD hS (c_X2_worth l D cI A j1 tt v13 hev13) (cwV 1 hts gX2_card_X2_worth rfl rfl rfl hd_X2_worth ⟨Nat.le_of_ble_eq_true rfl, Nat.le_of_ble_eq_true rfl⟩) (va_recv hK hP (ci := 2) (q0 := 0) rfl rfl) (bq_X2_X2_t A cI tt) rfl hl.1 rfl (Nat.le_of_ble_eq_true rfl) dX2_card_96 ⟨Nat.le_of_ble_eq_true rfl, Nat.le_of_ble_eq_true rfl⟩ (fun H locs hP hD hS => ?_)
      obtain rfl := Option.some.inj hf
      exact W.iret (v := v13) hx hb hr (fun t ht hW => ⟨⟨v13, (), rfl, rfl, hPt ht hP⟩, hS.F ht⟩) hS.2.2 dX2_card_99
    have hf := hF hf c12
    by_cases c14 : j2 = (6 : Int32)
    · have hf := hT hf c14
      refine sw_in (v := 6) (off := 85) (tgt := 100) hx hb dX2_card_15 ((congrArg Int32.toInt c14).trans (by decide)) (by decide) (by decide) (by decide) (by decide) ?_
      refine lv_aload_n hx hb dX2_card_100 rfl (lv_at hl 0 rfl) ?_
      refine lv_iload_n hx hb dX2_card_101 rfl (lv_at hl 1 rfl) ?_
      obtain ⟨v15, hev15, hf⟩ := bS hf
      refine qV_i (As := [.int j1]) (rest := []) ⟨hx, hb, hml, hown, hts⟩ hK hN hA hP hD hS (c_X2_placeOf l D cI A j1 tt v15 hev15) (cwV 1 hts gX2_card_X2_placeOf rfl rfl rfl hd_X2_placeOf ⟨Nat.le_of_ble_eq_true rfl, Nat.le_of_ble_eq_true rfl⟩) (va_recv hK hP (ci := 2) (q0 := 0) rfl rfl) (bq_X2_X2_t A cI tt) rfl hl.1 rfl (Nat.le_of_ble_eq_true rfl) dX2_card_102 ⟨Nat.le_of_ble_eq_true rfl, Nat.le_of_ble_eq_true rfl⟩ (fun H locs hP hD hS => ?_)
      obtain rfl := Option.some.inj hf
      exact W.iret (v := v15) hx hb hr (fun t ht hW => ⟨⟨v15, (), rfl, rfl, hPt ht hP⟩, hS.F ht⟩) hS.2.2 dX2_card_105
    have hf := hF hf c14
    by_cases c16 : j2 = (7 : Int32)
    · have hf := hT hf c16
      refine sw_in (v := 7) (off := 91) (tgt := 106) hx hb dX2_card_15 ((congrArg Int32.toInt c16).trans (by decide)) (by decide) (by decide) (by decide) (by decide) ?_
      refine lv_aload_n hx hb dX2_card_106 rfl (lv_at hl 0 rfl) ?_
      refine lv_iload_n hx hb dX2_card_107 rfl (lv_at hl 1 rfl) ?_
      obtain ⟨v17, hev17, hf⟩ := bS hf
      refine qV_i (As := [.int j1]) (rest := []) ⟨hx, hb, hml, hown, hts⟩ hK hN hA hP hD hS (c_X2_rivals l D cI A j1 tt v17 hev17) (cwV 1 hts gX2_card_X2_rivals rfl rfl rfl hd_X2_rivals ⟨Nat.le_of_ble_eq_true rfl, Nat.le_of_ble_eq_true rfl⟩) (va_recv hK hP (ci := 2) (q0 := 0) rfl rfl) (bq_X2_X2_t A cI tt) rfl hl.1 rfl (Nat.le_of_ble_eq_true rfl) dX2_card_108 ⟨Nat.le_of_ble_eq_true rfl, Nat.le_of_ble_eq_true rfl⟩ (fun H locs hP hD hS => ?_)
      obtain rfl := Option.some.inj hf
      exact W.iret (v := v17) hx hb hr (fun t ht hW => ⟨⟨v17, (), rfl, rfl, hPt ht hP⟩, hS.F ht⟩) hS.2.2 dX2_card_111
    have hf := hF hf c16
    refine lv_tableOut (tgt := 112) hx hb dX2_card_15 (by have z0 := lv_neT (a := 0) c2 (by decide); have z1 := lv_neT (a := 1) c4 (by decide); have z2 := lv_neT (a := 2) c6 (by decide); have z3 := lv_neT (a := 3) c8 (by decide); have z4 := lv_neT (a := 4) c10 (by decide); have z5 := lv_neT (a := 5) c12 (by decide); have z6 := lv_neT (a := 6) c14 (by decide); have z7 := lv_neT (a := 7) c16 (by decide); omega) (by decide) ?_
    refine lv_aload_n hx hb dX2_card_112 rfl (lv_at hl 0 rfl) ?_
    refine lv_bipush (v := (-2 : Int32)) hx hb dX2_card_113 (by decide) ?_
    obtain ⟨v18, hev18, hf⟩ := bS hf
    refine qV_i (ws' := (wM A cI v18.2)) (As := [.int (-2 : Int32)]) (rest := []) ⟨hx, hb, hml, hown, hts⟩ hK hN hA hP hD hS (c_X2_no l D cI A (-2 : Int32) tt v18 hev18) (cwV 1 hts gX2_card_X2_no rfl rfl rfl hd_X2_no ⟨Nat.le_of_ble_eq_true rfl, Nat.le_of_ble_eq_true rfl⟩) (va_recv hK hP (ci := 2) (q0 := 0) rfl rfl) (bp_X2_X2_t_t A cI tt v18.2) rfl hl.1 rfl (Nat.le_of_ble_eq_true rfl) dX2_card_115 ⟨Nat.le_of_ble_eq_true rfl, Nat.le_of_ble_eq_true rfl⟩ (fun H locs hP hD hS => ?_)
    have hP : va_P D vwCl (wM A cI v18.2) H := hP
    obtain rfl := Option.some.inj hf
    exact W.iret (v := v18.1) hx hb hr (fun t ht hW => ⟨⟨v18.1, (), rfl, rfl, hPt ht hP⟩, hS.F ht⟩) hS.2.2 dX2_card_118
  · have hf := hT hf c1
    refine lv_aload_n hx hb dX2_card_8 rfl (lv_at hl 0 rfl) ?_
    refine lv_iconst (v := (-1 : Int32)) hx hb dX2_card_9 (by decide) ?_
    obtain ⟨v19, hev19, hf⟩ := bS hf
    refine qV_i (ws' := (wM A cI v19.2)) (As := [.int (-1 : Int32)]) (rest := []) ⟨hx, hb, hml, hown, hts⟩ hK hN hA hP hD hS (c_X2_no l D cI A (-1 : Int32) tt v19 hev19) (cwV 1 hts gX2_card_X2_no rfl rfl rfl hd_X2_no ⟨Nat.le_of_ble_eq_true rfl, Nat.le_of_ble_eq_true rfl⟩) (va_recv hK hP (ci := 2) (q0 := 0) rfl rfl) (bp_X2_X2_t_t A cI tt v19.2) rfl hl.1 rfl (Nat.le_of_ble_eq_true rfl) dX2_card_10 ⟨Nat.le_of_ble_eq_true rfl, Nat.le_of_ble_eq_true rfl⟩ (fun H locs hP hD hS => ?_)
    have hP : va_P D vwCl (wM A cI v19.2) H := hP
    obtain rfl := Option.some.inj hf
    exact W.iret (v := v19.1) hx hb hr (fun t ht hW => ⟨⟨v19.1, (), rfl, rfl, hPt ht hP⟩, hS.F ht⟩) hS.2.2 dX2_card_13
