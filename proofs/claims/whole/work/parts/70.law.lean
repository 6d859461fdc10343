/-! the law -/
abbrev LC (p : Program) (s : State) (m : MethodId) (meth : Method) (c : Code) (b L : Nat) (xs : Nat → Int32) (D : va_G) (cI : ClassId) (zA zV : Nat → Nat) : Prop :=
  p.tables.exec = Jvm.exec ∧ c.code = code ∧ meth.sig.returnType = ret ∧ c.maxLocals = 4 ∧ s.vm.findClass RL = some m.cls ∧ (∀ w ∈ wsL_law, w.before #[Value.ref b] s = true) ∧ va_X b L xs s s.heap ∧ b < s.heap.size ∧ meth.locks = false ∧ va_K D vwCl [(cI, .int)] s ∧ nW s ∧ zW zA zV (fun q => s.heap.size ≤ q) s s.heap
abbrev LQ (s : State) (b : Nat) (D : va_G) (cI : ClassId) (A : Nat → Nat → Nat) (B : Nat → Nat) (q : Nat) (H : Heap) (locs : List Loc) (ls : Array Slot) (x n mm k t : HS) : Prop := RR x n mm k t ∧ va_P D vwCl (wX A cI x n mm k ++ wM B cI t) H ∧ va_D (fun q => s.heap.size ≤ q) (wX A cI x n mm k ++ wM B cI t) ∧ va_S (fun q => s.heap.size ≤ q) s.heap H locs ∧ lv_has ls 4 [(3, .int (nI q)), (2, .ref (B 0)), (1, .ref (A 0 0)), (0, .ref b)]
theorem lz_in {q L : Nat} (hq : q + 6 ≤ L) (hL : L ≤ 3072) (j : Nat) (hj : j < 6) : vp_in (nI q + nI j) L := by
  have e : nI q + nI j = nI (q + j) := (Int32.ofNat_add q j).symm
  rw [e]
  exact nI_in (by omega) (by omega)
theorem lbp_1 (A : Nat → Nat → Nat) (B : Nat → Nat) (cI : ClassId) (x n m k t x1 n1 m1 k1 : HS) : Bp (wX A cI x n m k ++ wM B cI t) (wX A cI x n m k) (wX A cI x1 n1 m1 k1) (wX A cI x1 n1 m1 k1 ++ wM B cI t) := Bp_1 (p := []) (b := wX A cI x n m k) (c := wX A cI x1 n1 m1 k1) (r := wM B cI t) rfl
theorem lbp_2 (A : Nat → Nat → Nat) (B : Nat → Nat) (cI : ClassId) (x n m k t t1 : HS) : Bp (wX A cI x n m k ++ wM B cI t) (wM B cI t) (wM B cI t1) (wX A cI x n m k ++ wM B cI t1) := by
  have h := Bp_1 (p := wX A cI x n m k) (b := wM B cI t) (c := wM B cI t1) (r := []) rfl
  rw [List.append_nil, List.append_nil] at h
  exact h
theorem lrc_1 {D : va_G} {cI : ClassId} {s : State} {H : Heap} {A : Nat → Nat → Nat} {B : Nat → Nat} {x n m k t : HS} (hK : va_K D vwCl [(cI, .int)] s) (hP : va_P D vwCl (wX A cI x n m k ++ wM B cI t) H) : ∃ cell : Cell, H[A 0 0]? = some cell ∧ cell.vm.isStatics = false ∧ s.vm.findClass RX1 = some cell.cls := va_recv hK hP (ci := 1) (q0 := 0) rfl rfl
theorem lrc_2 {D : va_G} {cI : ClassId} {s : State} {H : Heap} {A : Nat → Nat → Nat} {B : Nat → Nat} {x n m k t : HS} (hK : va_K D vwCl [(cI, .int)] s) (hP : va_P D vwCl (wX A cI x n m k ++ wM B cI t) H) : ∃ cell : Cell, H[B 0]? = some cell ∧ cell.vm.isStatics = false ∧ s.vm.findClass RX2 = some cell.cls := va_recv hK hP (ci := 2) (q0 := 37) rfl rfl
theorem lgt {q L : Nat} (hq : q ≤ 4000) (hL : L ≤ 3072) (h : ¬ Int32.ofNat L - 6 < nI q) : q + 6 ≤ L := by
  apply Classical.byContradiction
  intro c
  apply h
  by_cases c6 : 6 ≤ L
  · have e : Int32.ofNat L - 6 = nI (L - 6) := by
      have : nI (L - 6) + 6 = Int32.ofNat L := by
        have := (Int32.ofNat_add (L - 6) 6).symm
        rw [show L - 6 + 6 = L by omega] at this
        exact this
      rw [← this]
      exact Int32.add_sub_cancel _ _
    rw [e, Int32.lt_iff_toInt_lt, nI_toInt (by omega), nI_toInt (by omega)]
    omega
  · rw [Int32.lt_iff_toInt_lt, nI_toInt (by omega)]
    have : (Int32.ofNat L - 6).toInt < 0 := by
      rcases (show L = 0 ∨ L = 1 ∨ L = 2 ∨ L = 3 ∨ L = 4 ∨ L = 5 by omega) with rfl | rfl | rfl | rfl | rfl | rfl <;> decide
    omega
section LAW
variable {p : Program} {l : Launch} {e : Env} {s : State} {m : MethodId} {below : List Frame} {meth : Method} {c : Code} {H : Heap} {locs : List Loc} {Q : State → Prop}
variable {b L : Nat} {xs : Nat → Int32} {D : va_G} {cI : ClassId} {zA zV : Nat → Nat} {A : Nat → Nat → Nat} {B : Nat → Nat} {q : Nat} {ls : Array Slot} {x n mm k t : HS}
theorem lc_go {rt : List Value} (hx : p.tables.exec = Jvm.exec) (hb : c.code = code) (hl : lv_has ls 4 [(3, .int (nI q)), (2, .ref (B 0)), (1, .ref (A 0 0)), (0, .ref b)])
    (kk : ∀ ls1, lv_has ls1 4 [(3, .int (nI (q + 6))), (2, .ref (B 0)), (1, .ref (A 0 0)), (0, .ref b)] → W p l e room_1 s m #[Value.ref b] below meth c H locs 57 1084 Q (F0 m 18 ls1 rt)) : W p l e room_1 s m #[Value.ref b] below meth c H locs 57 1084 Q (F0 m 1229 ls rt) := by
  refine lv_iinc (v := nI q + (6 : Int32)) (lv' := [(3, .int (nI q + (6 : Int32))), (2, .ref (B 0)), (1, .ref (A 0 0)), (0, .ref b)]) hx hb dL_law_1229 hl (k := 0) rfl rfl (by decide) rfl (fun ls hl => ?_)
  refine lv_goto (tgt := 18) hx hb dL_law_1232 (by decide) ?_
  rw [show nI q + (6 : Int32) = nI (q + 6) from (Int32.ofNat_add q 6).symm] at hl
  exact kk ls hl
theorem hd_X1_letter : yX1_letter.cls = RX1 ∧ yX1_letter.cls ≠ "java/lang/invoke/MethodHandle" ∧ yX1_letter.cls ≠ "java/lang/invoke/VarHandle" ∧ (parseMethodDescriptor yX1_letter.desc).map (fun d => d.parameters.length) = some 1 := by decide +kernel
theorem hd_X2_letter : yX2_letter.cls = RX2 ∧ yX2_letter.cls ≠ "java/lang/invoke/MethodHandle" ∧ yX2_letter.cls ≠ "java/lang/invoke/VarHandle" ∧ (parseMethodDescriptor yX2_letter.desc).map (fun d => d.parameters.length) = some 1 := by decide +kernel
set_option maxHeartbeats 4000000 in
set_option maxRecDepth 100000 in
theorem lc_letter (C : LC p s m meth c b L xs D cI zA zV) (hq : q + 6 ≤ L) (hL : L ≤ 3072) (hI : LQ s b D cI A B q H locs ls x n mm k t) (kk : ∀ H1 locs1 ls1 x1 n1 m1 k1 t1, LQ s b D cI A B (q + 6) H1 locs1 ls1 x1 n1 m1 k1 t1 → W p l e room_1 s m #[Value.ref b] below meth c H1 locs1 57 1084 Q (F0 m 18 ls1 [])) : W p l e room_1 s m #[Value.ref b] below meth c H locs 57 1084 Q (F0 m 196 ls []) := by
  obtain ⟨hR, hP, hD, hS, hl⟩ := hI
  obtain ⟨hx, hb, hr, hml, hown, hts, hX, hbl, hlocks, hK, hN, hz⟩ := C
  have hA : ∀ q : Nat, s.heap.size ≤ q → (fun q : Nat => s.heap.size ≤ q) q := fun _ h => h
  have hbA : ¬ (fun q : Nat => s.heap.size ≤ q) b := Nat.not_le.mpr hbl
  obtain ⟨r, x9, t9, e1, e2, hR⟩ := letter_XM hR (xs (nI q + (1 : Int32)).toNatClampNeg)
  have c1 : uI l D cI yX1_letter wsX1_letter ({ frames := 2, cells := 0, slots := 0, locals := 43 } : Room) (.ref (A 0 0) :: [.int (xs (nI q + (1 : Int32)).toNatClampNeg)]) (wX A cI x n mm k) (wX A cI x9 n mm k) r := c_X1_letter l D cI A (xs (nI q + (1 : Int32)).toNatClampNeg) x n mm k (r, x9) e1
  have c2 : uI l D cI yX2_letter wsX2_letter ({ frames := 1, cells := 0, slots := 0, locals := 22 } : Room) (.ref (B 0) :: [.int (xs (nI q + (1 : Int32)).toNatClampNeg)]) (wM B cI t) (wM B cI t9) r := c_X2_letter l D cI B (xs (nI q + (1 : Int32)).toNatClampNeg) t (r, t9) e2
  refine lv_aload_n hx hb dL_law_196 rfl (lv_at hl 2 rfl) ?_
  refine lv_aload_n hx hb dL_law_197 rfl (lv_at hl 3 rfl) ?_
  refine lv_iload_n hx hb dL_law_198 rfl (lv_at hl 0 rfl) ?_
  refine lv_iconst (v := (1 : Int32)) hx hb dL_law_199 (by decide) ?_
  refine lv_iadd hx hb dL_law_200 ?_
  refine va_sld hx hb hX hbl hbA hS (i := nI q + (1 : Int32)) (lz_in hq hL 1 (by decide)) dL_law_201 ?_
  refine qV_i (ws' := (wX A cI x9 n mm k ++ wM B cI t)) (As := [.int (xs (nI q + (1 : Int32)).toNatClampNeg)]) (rest := []) ⟨hx, hb, hml, hown, hts⟩ hK hN hA hP hD hS c1 (cwV 1 hts gL_law_X1_letter rfl rfl rfl hd_X1_letter ⟨Nat.le_of_ble_eq_true rfl, Nat.le_of_ble_eq_true rfl⟩) (lrc_1 hK hP) (lbp_1 A B cI x n mm k t _ _ _ _) rfl hl.1 rfl (Nat.le_of_ble_eq_true rfl) dL_law_202 ⟨Nat.le_of_ble_eq_true rfl, Nat.le_of_ble_eq_true rfl⟩ (fun H locs hP hD hS => ?_)
  refine lv_aload_n hx hb dL_law_205 rfl (lv_at hl 1 rfl) ?_
  refine lv_aload_n hx hb dL_law_206 rfl (lv_at hl 3 rfl) ?_
  refine lv_iload_n hx hb dL_law_207 rfl (lv_at hl 0 rfl) ?_
  refine lv_iconst (v := (1 : Int32)) hx hb dL_law_208 (by decide) ?_
  refine lv_iadd hx hb dL_law_209 ?_
  refine va_sld hx hb hX hbl hbA hS (i := nI q + (1 : Int32)) (lz_in hq hL 1 (by decide)) dL_law_210 ?_
  refine qV_i (ws' := (wX A cI x9 n mm k ++ wM B cI t9)) (As := [.int (xs (nI q + (1 : Int32)).toNatClampNeg)]) (rest := [.int r]) ⟨hx, hb, hml, hown, hts⟩ hK hN hA hP hD hS c2 (cwV 1 hts gL_law_X2_letter rfl rfl rfl hd_X2_letter ⟨Nat.le_of_ble_eq_true rfl, Nat.le_of_ble_eq_true rfl⟩) (lrc_2 hK hP) (lbp_2 A B cI _ _ _ _ t _) rfl hl.1 rfl (Nat.le_of_ble_eq_true rfl) dL_law_211 ⟨Nat.le_of_ble_eq_true rfl, Nat.le_of_ble_eq_true rfl⟩ (fun H locs hP hD hS => ?_)
  refine lv_icmp_eq (tgt := 1229) hx hb dL_law_214 (by decide) (fun _ => ?_) (fun c => absurd rfl c)
  exact lc_go hx hb hl (fun ls1 hl1 => kk H locs ls1 x9 n mm k t9 ⟨hR, hP, hD, hS, hl1⟩)
theorem hd_X1_hall : yX1_hall.cls = RX1 ∧ yX1_hall.cls ≠ "java/lang/invoke/MethodHandle" ∧ yX1_hall.cls ≠ "java/lang/invoke/VarHandle" ∧ (parseMethodDescriptor yX1_hall.desc).map (fun d => d.parameters.length) = some 0 := by decide +kernel
theorem hd_X2_hall : yX2_hall.cls = RX2 ∧ yX2_hall.cls ≠ "java/lang/invoke/MethodHandle" ∧ yX2_hall.cls ≠ "java/lang/invoke/VarHandle" ∧ (parseMethodDescriptor yX2_hall.desc).map (fun d => d.parameters.length) = some 0 := by decide +kernel
set_option maxHeartbeats 4000000 in
set_option maxRecDepth 100000 in
theorem lc_hall (C : LC p s m meth c b L xs D cI zA zV) (hq : q + 6 ≤ L) (hL : L ≤ 3072) (hI : LQ s b D cI A B q H locs ls x n mm k t) (kk : ∀ H1 locs1 ls1 x1 n1 m1 k1 t1, LQ s b D cI A B (q + 6) H1 locs1 ls1 x1 n1 m1 k1 t1 → W p l e room_1 s m #[Value.ref b] below meth c H1 locs1 57 1084 Q (F0 m 18 ls1 [])) : W p l e room_1 s m #[Value.ref b] below meth c H locs 57 1084 Q (F0 m 219 ls []) := by
  obtain ⟨hR, hP, hD, hS, hl⟩ := hI
  obtain ⟨hx, hb, hr, hml, hown, hts, hX, hbl, hlocks, hK, hN, hz⟩ := C
  have hA : ∀ q : Nat, s.heap.size ≤ q → (fun q : Nat => s.heap.size ≤ q) q := fun _ h => h
  have hbA : ¬ (fun q : Nat => s.heap.size ≤ q) b := Nat.not_le.mpr hbl
  obtain ⟨r, x9, n9, m9, t9, e1, e2, hR⟩ := hall_XM hR 
  have c1 : vI l D cI zA zV yX1_hall wsX1_hall ({ frames := 6, cells := 0, slots := 0, locals := 153 } : Room) (.ref (A 0 0) :: []) (wX A cI x n mm k) (wX A cI x9 n9 m9 k) r := c_X1_hall l D cI zA zV A  x n mm k (r, x9, n9, m9) e1
  have c2 : uI l D cI yX2_hall wsX2_hall ({ frames := 11, cells := 0, slots := 0, locals := 247 } : Room) (.ref (B 0) :: []) (wM B cI t) (wM B cI t9) r := c_X2_hall l D cI B  t (r, t9) e2
  refine lv_aload_n hx hb dL_law_219 rfl (lv_at hl 2 rfl) ?_
  refine tV_i (ws' := (wX A cI x9 n9 m9 k ++ wM B cI t)) (As := []) (rest := []) ⟨hx, hb, hml, hown, hts⟩ hK hN hA hP hD hS hz c1 (cwV 0 hts gL_law_X1_hall rfl rfl rfl hd_X1_hall ⟨Nat.le_of_ble_eq_true rfl, Nat.le_of_ble_eq_true rfl⟩) (lrc_1 hK hP) (lbp_1 A B cI x n mm k t _ _ _ _) rfl hl.1 rfl (Nat.le_of_ble_eq_true rfl) dL_law_220 ⟨Nat.le_of_ble_eq_true rfl, Nat.le_of_ble_eq_true rfl⟩ (fun H locs hP hD hS => ?_)
  refine lv_aload_n hx hb dL_law_223 rfl (lv_at hl 1 rfl) ?_
  refine qV_i (ws' := (wX A cI x9 n9 m9 k ++ wM B cI t9)) (As := []) (rest := [.int r]) ⟨hx, hb, hml, hown, hts⟩ hK hN hA hP hD hS c2 (cwV 0 hts gL_law_X2_hall rfl rfl rfl hd_X2_hall ⟨Nat.le_of_ble_eq_true rfl, Nat.le_of_ble_eq_true rfl⟩) (lrc_2 hK hP) (lbp_2 A B cI _ _ _ _ t _) rfl hl.1 rfl (Nat.le_of_ble_eq_true rfl) dL_law_224 ⟨Nat.le_of_ble_eq_true rfl, Nat.le_of_ble_eq_true rfl⟩ (fun H locs hP hD hS => ?_)
  refine lv_icmp_eq (tgt := 1229) hx hb dL_law_227 (by decide) (fun _ => ?_) (fun c => absurd rfl c)
  exact lc_go hx hb hl (fun ls1 hl1 => kk H locs ls1 x9 n9 m9 k t9 ⟨hR, hP, hD, hS, hl1⟩)
theorem hd_X1_card : yX1_card.cls = RX1 ∧ yX1_card.cls ≠ "java/lang/invoke/MethodHandle" ∧ yX1_card.cls ≠ "java/lang/invoke/VarHandle" ∧ (parseMethodDescriptor yX1_card.desc).map (fun d => d.parameters.length) = some 2 := by decide +kernel
theorem hd_X2_card : yX2_card.cls = RX2 ∧ yX2_card.cls ≠ "java/lang/invoke/MethodHandle" ∧ yX2_card.cls ≠ "java/lang/invoke/VarHandle" ∧ (parseMethodDescriptor yX2_card.desc).map (fun d => d.parameters.length) = some 2 := by decide +kernel
set_option maxHeartbeats 4000000 in
set_option maxRecDepth 100000 in
theorem lc_card (C : LC p s m meth c b L xs D cI zA zV) (hq : q + 6 ≤ L) (hL : L ≤ 3072) (hI : LQ s b D cI A B q H locs ls x n mm k t) (kk : ∀ H1 locs1 ls1 x1 n1 m1 k1 t1, LQ s b D cI A B (q + 6) H1 locs1 ls1 x1 n1 m1 k1 t1 → W p l e room_1 s m #[Value.ref b] below meth c H1 locs1 57 1084 Q (F0 m 18 ls1 [])) : W p l e room_1 s m #[Value.ref b] below meth c H locs 57 1084 Q (F0 m 232 ls []) := by
  obtain ⟨hR, hP, hD, hS, hl⟩ := hI
  obtain ⟨hx, hb, hr, hml, hown, hts, hX, hbl, hlocks, hK, hN, hz⟩ := C
  have hA : ∀ q : Nat, s.heap.size ≤ q → (fun q : Nat => s.heap.size ≤ q) q := fun _ h => h
  have hbA : ¬ (fun q : Nat => s.heap.size ≤ q) b := Nat.not_le.mpr hbl
  obtain ⟨r, x9, t9, e1, e2, hR⟩ := card_XM hR (xs (nI q + (1 : Int32)).toNatClampNeg) (xs (nI q + (2 : Int32)).toNatClampNeg)
  have c1 : uI l D cI yX1_card wsX1_card ({ frames := 3, cells := 0, slots := 0, locals := 73 } : Room) (.ref (A 0 0) :: [.int (xs (nI q + (1 : Int32)).toNatClampNeg), .int (xs (nI q + (2 : Int32)).toNatClampNeg)]) (wX A cI x n mm k) (wX A cI x9 n mm k) r := c_X1_card l D cI A (xs (nI q + (1 : Int32)).toNatClampNeg) (xs (nI q + (2 : Int32)).toNatClampNeg) x n mm k (r, x9) e1
  have c2 : uI l D cI yX2_card wsX2_card ({ frames := 5, cells := 0, slots := 0, locals := 113 } : Room) (.ref (B 0) :: [.int (xs (nI q + (1 : Int32)).toNatClampNeg), .int (xs (nI q + (2 : Int32)).toNatClampNeg)]) (wM B cI t) (wM B cI t9) r := c_X2_card l D cI B (xs (nI q + (1 : Int32)).toNatClampNeg) (xs (nI q + (2 : Int32)).toNatClampNeg) t (r, t9) e2
  refine lv_aload_n hx hb dL_law_232 rfl (lv_at hl 2 rfl) ?_
  refine lv_aload_n hx hb dL_law_233 rfl (lv_at hl 3 rfl) ?_
  refine lv_iload_n hx hb dL_law_234 rfl (lv_at hl 0 rfl) ?_
  refine lv_iconst (v := (1 : Int32)) hx hb dL_law_235 (by decide) ?_
  refine lv_iadd hx hb dL_law_236 ?_
  refine va_sld hx hb hX hbl hbA hS (i := nI q + (1 : Int32)) (lz_in hq hL 1 (by decide)) dL_law_237 ?_
  refine lv_aload_n hx hb dL_law_238 rfl (lv_at hl 3 rfl) ?_
  refine lv_iload_n hx hb dL_law_239 rfl (lv_at hl 0 rfl) ?_
  refine lv_iconst (v := (2 : Int32)) hx hb dL_law_240 (by decide) ?_
  refine lv_iadd hx hb dL_law_241 ?_
  refine va_sld hx hb hX hbl hbA hS (i := nI q + (2 : Int32)) (lz_in hq hL 2 (by decide)) dL_law_242 ?_
  refine qV_i (ws' := (wX A cI x9 n mm k ++ wM B cI t)) (As := [.int (xs (nI q + (1 : Int32)).toNatClampNeg), .int (xs (nI q + (2 : Int32)).toNatClampNeg)]) (rest := []) ⟨hx, hb, hml, hown, hts⟩ hK hN hA hP hD hS c1 (cwV 2 hts gL_law_X1_card rfl rfl rfl hd_X1_card ⟨Nat.le_of_ble_eq_true rfl, Nat.le_of_ble_eq_true rfl⟩) (lrc_1 hK hP) (lbp_1 A B cI x n mm k t _ _ _ _) rfl hl.1 rfl (Nat.le_of_ble_eq_true rfl) dL_law_243 ⟨Nat.le_of_ble_eq_true rfl, Nat.le_of_ble_eq_true rfl⟩ (fun H locs hP hD hS => ?_)
  refine lv_aload_n hx hb dL_law_246 rfl (lv_at hl 1 rfl) ?_
  refine lv_aload_n hx hb dL_law_247 rfl (lv_at hl 3 rfl) ?_
  refine lv_iload_n hx hb dL_law_248 rfl (lv_at hl 0 rfl) ?_
  refine lv_iconst (v := (1 : Int32)) hx hb dL_law_249 (by decide) ?_
  refine lv_iadd hx hb dL_law_250 ?_
  refine va_sld hx hb hX hbl hbA hS (i := nI q + (1 : Int32)) (lz_in hq hL 1 (by decide)) dL_law_251 ?_
  refine lv_aload_n hx hb dL_law_252 rfl (lv_at hl 3 rfl) ?_
  refine lv_iload_n hx hb dL_law_253 rfl (lv_at hl 0 rfl) ?_
  refine lv_iconst (v := (2 : Int32)) hx hb dL_law_254 (by decide) ?_
  refine lv_iadd hx hb dL_law_255 ?_
  refine va_sld hx hb hX hbl hbA hS (i := nI q + (2 : Int32)) (lz_in hq hL 2 (by decide)) dL_law_256 ?_
  refine qV_i (ws' := (wX A cI x9 n mm k ++ wM B cI t9)) (As := [.int (xs (nI q + (1 : Int32)).toNatClampNeg), .int (xs (nI q + (2 : Int32)).toNatClampNeg)]) (rest := [.int r]) ⟨hx, hb, hml, hown, hts⟩ hK hN hA hP hD hS c2 (cwV 2 hts gL_law_X2_card rfl rfl rfl hd_X2_card ⟨Nat.le_of_ble_eq_true rfl, Nat.le_of_ble_eq_true rfl⟩) (lrc_2 hK hP) (lbp_2 A B cI _ _ _ _ t _) rfl hl.1 rfl (Nat.le_of_ble_eq_true rfl) dL_law_257 ⟨Nat.le_of_ble_eq_true rfl, Nat.le_of_ble_eq_true rfl⟩ (fun H locs hP hD hS => ?_)
  refine lv_icmp_eq (tgt := 1229) hx hb dL_law_260 (by decide) (fun _ => ?_) (fun c => absurd rfl c)
  exact lc_go hx hb hl (fun ls1 hl1 => kk H locs ls1 x9 n mm k t9 ⟨hR, hP, hD, hS, hl1⟩)
theorem hd_X1_bidder : yX1_bidder.cls = RX1 ∧ yX1_bidder.cls ≠ "java/lang/invoke/MethodHandle" ∧ yX1_bidder.cls ≠ "java/lang/invoke/VarHandle" ∧ (parseMethodDescriptor yX1_bidder.desc).map (fun d => d.parameters.length) = some 2 := by decide +kernel
theorem hd_X2_bidder : yX2_bidder.cls = RX2 ∧ yX2_bidder.cls ≠ "java/lang/invoke/MethodHandle" ∧ yX2_bidder.cls ≠ "java/lang/invoke/VarHandle" ∧ (parseMethodDescriptor yX2_bidder.desc).map (fun d => d.parameters.length) = some 2 := by decide +kernel
set_option maxHeartbeats 4000000 in
set_option maxRecDepth 100000 in
theorem lc_bidder (C : LC p s m meth c b L xs D cI zA zV) (hq : q + 6 ≤ L) (hL : L ≤ 3072) (hI : LQ s b D cI A B q H locs ls x n mm k t) (kk : ∀ H1 locs1 ls1 x1 n1 m1 k1 t1, LQ s b D cI A B (q + 6) H1 locs1 ls1 x1 n1 m1 k1 t1 → W p l e room_1 s m #[Value.ref b] below meth c H1 locs1 57 1084 Q (F0 m 18 ls1 [])) : W p l e room_1 s m #[Value.ref b] below meth c H locs 57 1084 Q (F0 m 265 ls []) := by
  obtain ⟨hR, hP, hD, hS, hl⟩ := hI
  obtain ⟨hx, hb, hr, hml, hown, hts, hX, hbl, hlocks, hK, hN, hz⟩ := C
  have hA : ∀ q : Nat, s.heap.size ≤ q → (fun q : Nat => s.heap.size ≤ q) q := fun _ h => h
  have hbA : ¬ (fun q : Nat => s.heap.size ≤ q) b := Nat.not_le.mpr hbl
  obtain ⟨r, x9, t9, e1, e2, hR⟩ := bidder_XM hR (xs (nI q + (1 : Int32)).toNatClampNeg) (xs (nI q + (2 : Int32)).toNatClampNeg)
  have c1 : uI l D cI yX1_bidder wsX1_bidder ({ frames := 2, cells := 0, slots := 0, locals := 44 } : Room) (.ref (A 0 0) :: [.int (xs (nI q + (1 : Int32)).toNatClampNeg), .int (xs (nI q + (2 : Int32)).toNatClampNeg)]) (wX A cI x n mm k) (wX A cI x9 n mm k) r := c_X1_bidder l D cI A (xs (nI q + (1 : Int32)).toNatClampNeg) (xs (nI q + (2 : Int32)).toNatClampNeg) x n mm k (r, x9) e1
  have c2 : uI l D cI yX2_bidder wsX2_bidder ({ frames := 1, cells := 0, slots := 0, locals := 23 } : Room) (.ref (B 0) :: [.int (xs (nI q + (1 : Int32)).toNatClampNeg), .int (xs (nI q + (2 : Int32)).toNatClampNeg)]) (wM B cI t) (wM B cI t9) r := c_X2_bidder l D cI B (xs (nI q + (1 : Int32)).toNatClampNeg) (xs (nI q + (2 : Int32)).toNatClampNeg) t (r, t9) e2
  refine lv_aload_n hx hb dL_law_265 rfl (lv_at hl 2 rfl) ?_
  refine lv_aload_n hx hb dL_law_266 rfl (lv_at hl 3 rfl) ?_
  refine lv_iload_n hx hb dL_law_267 rfl (lv_at hl 0 rfl) ?_
  refine lv_iconst (v := (1 : Int32)) hx hb dL_law_268 (by decide) ?_
  refine lv_iadd hx hb dL_law_269 ?_
  refine va_sld hx hb hX hbl hbA hS (i := nI q + (1 : Int32)) (lz_in hq hL 1 (by decide)) dL_law_270 ?_
  refine lv_aload_n hx hb dL_law_271 rfl (lv_at hl 3 rfl) ?_
  refine lv_iload_n hx hb dL_law_272 rfl (lv_at hl 0 rfl) ?_
  refine lv_iconst (v := (2 : Int32)) hx hb dL_law_273 (by decide) ?_
  refine lv_iadd hx hb dL_law_274 ?_
  refine va_sld hx hb hX hbl hbA hS (i := nI q + (2 : Int32)) (lz_in hq hL 2 (by decide)) dL_law_275 ?_
  refine qV_i (ws' := (wX A cI x9 n mm k ++ wM B cI t)) (As := [.int (xs (nI q + (1 : Int32)).toNatClampNeg), .int (xs (nI q + (2 : Int32)).toNatClampNeg)]) (rest := []) ⟨hx, hb, hml, hown, hts⟩ hK hN hA hP hD hS c1 (cwV 2 hts gL_law_X1_bidder rfl rfl rfl hd_X1_bidder ⟨Nat.le_of_ble_eq_true rfl, Nat.le_of_ble_eq_true rfl⟩) (lrc_1 hK hP) (lbp_1 A B cI x n mm k t _ _ _ _) rfl hl.1 rfl (Nat.le_of_ble_eq_true rfl) dL_law_276 ⟨Nat.le_of_ble_eq_true rfl, Nat.le_of_ble_eq_true rfl⟩ (fun H locs hP hD hS => ?_)
  refine lv_aload_n hx hb dL_law_279 rfl (lv_at hl 1 rfl) ?_
  refine lv_aload_n hx hb dL_law_280 rfl (lv_at hl 3 rfl) ?_
  refine lv_iload_n hx hb dL_law_281 rfl (lv_at hl 0 rfl) ?_
  refine lv_iconst (v := (1 : Int32)) hx hb dL_law_282 (by decide) ?_
  refine lv_iadd hx hb dL_law_283 ?_
  refine va_sld hx hb hX hbl hbA hS (i := nI q + (1 : Int32)) (lz_in hq hL 1 (by decide)) dL_law_284 ?_
  refine lv_aload_n hx hb dL_law_285 rfl (lv_at hl 3 rfl) ?_
  refine lv_iload_n hx hb dL_law_286 rfl (lv_at hl 0 rfl) ?_
  refine lv_iconst (v := (2 : Int32)) hx hb dL_law_287 (by decide) ?_
  refine lv_iadd hx hb dL_law_288 ?_
  refine va_sld hx hb hX hbl hbA hS (i := nI q + (2 : Int32)) (lz_in hq hL 2 (by decide)) dL_law_289 ?_
  refine qV_i (ws' := (wX A cI x9 n mm k ++ wM B cI t9)) (As := [.int (xs (nI q + (1 : Int32)).toNatClampNeg), .int (xs (nI q + (2 : Int32)).toNatClampNeg)]) (rest := [.int r]) ⟨hx, hb, hml, hown, hts⟩ hK hN hA hP hD hS c2 (cwV 2 hts gL_law_X2_bidder rfl rfl rfl hd_X2_bidder ⟨Nat.le_of_ble_eq_true rfl, Nat.le_of_ble_eq_true rfl⟩) (lrc_2 hK hP) (lbp_2 A B cI _ _ _ _ t _) rfl hl.1 rfl (Nat.le_of_ble_eq_true rfl) dL_law_290 ⟨Nat.le_of_ble_eq_true rfl, Nat.le_of_ble_eq_true rfl⟩ (fun H locs hP hD hS => ?_)
  refine lv_icmp_eq (tgt := 1229) hx hb dL_law_293 (by decide) (fun _ => ?_) (fun c => absurd rfl c)
  exact lc_go hx hb hl (fun ls1 hl1 => kk H locs ls1 x9 n mm k t9 ⟨hR, hP, hD, hS, hl1⟩)
theorem hd_X1_bids : yX1_bids.cls = RX1 ∧ yX1_bids.cls ≠ "java/lang/invoke/MethodHandle" ∧ yX1_bids.cls ≠ "java/lang/invoke/VarHandle" ∧ (parseMethodDescriptor yX1_bids.desc).map (fun d => d.parameters.length) = some 2 := by decide +kernel
theorem hd_X2_bids : yX2_bids.cls = RX2 ∧ yX2_bids.cls ≠ "java/lang/invoke/MethodHandle" ∧ yX2_bids.cls ≠ "java/lang/invoke/VarHandle" ∧ (parseMethodDescriptor yX2_bids.desc).map (fun d => d.parameters.length) = some 2 := by decide +kernel
set_option maxHeartbeats 4000000 in
set_option maxRecDepth 100000 in
theorem lc_bids (C : LC p s m meth c b L xs D cI zA zV) (hq : q + 6 ≤ L) (hL : L ≤ 3072) (hI : LQ s b D cI A B q H locs ls x n mm k t) (kk : ∀ H1 locs1 ls1 x1 n1 m1 k1 t1, LQ s b D cI A B (q + 6) H1 locs1 ls1 x1 n1 m1 k1 t1 → W p l e room_1 s m #[Value.ref b] below meth c H1 locs1 57 1084 Q (F0 m 18 ls1 [])) : W p l e room_1 s m #[Value.ref b] below meth c H locs 57 1084 Q (F0 m 298 ls []) := by
  obtain ⟨hR, hP, hD, hS, hl⟩ := hI
  obtain ⟨hx, hb, hr, hml, hown, hts, hX, hbl, hlocks, hK, hN, hz⟩ := C
  have hA : ∀ q : Nat, s.heap.size ≤ q → (fun q : Nat => s.heap.size ≤ q) q := fun _ h => h
  have hbA : ¬ (fun q : Nat => s.heap.size ≤ q) b := Nat.not_le.mpr hbl
  obtain ⟨r, x9, t9, e1, e2, hR⟩ := bids_XM hR (xs (nI q + (1 : Int32)).toNatClampNeg) (xs (nI q + (2 : Int32)).toNatClampNeg)
  have c1 : uI l D cI yX1_bids wsX1_bids ({ frames := 2, cells := 0, slots := 0, locals := 49 } : Room) (.ref (A 0 0) :: [.int (xs (nI q + (1 : Int32)).toNatClampNeg), .int (xs (nI q + (2 : Int32)).toNatClampNeg)]) (wX A cI x n mm k) (wX A cI x9 n mm k) r := c_X1_bids l D cI A (xs (nI q + (1 : Int32)).toNatClampNeg) (xs (nI q + (2 : Int32)).toNatClampNeg) x n mm k (r, x9) e1
  have c2 : uI l D cI yX2_bids wsX2_bids ({ frames := 4, cells := 0, slots := 0, locals := 90 } : Room) (.ref (B 0) :: [.int (xs (nI q + (1 : Int32)).toNatClampNeg), .int (xs (nI q + (2 : Int32)).toNatClampNeg)]) (wM B cI t) (wM B cI t9) r := c_X2_bids l D cI B (xs (nI q + (1 : Int32)).toNatClampNeg) (xs (nI q + (2 : Int32)).toNatClampNeg) t (r, t9) e2
  refine lv_aload_n hx hb dL_law_298 rfl (lv_at hl 2 rfl) ?_
  refine lv_aload_n hx hb dL_law_299 rfl (lv_at hl 3 rfl) ?_
  refine lv_iload_n hx hb dL_law_300 rfl (lv_at hl 0 rfl) ?_
  refine lv_iconst (v := (1 : Int32)) hx hb dL_law_301 (by decide) ?_
  refine lv_iadd hx hb dL_law_302 ?_
  refine va_sld hx hb hX hbl hbA hS (i := nI q + (1 : Int32)) (lz_in hq hL 1 (by decide)) dL_law_303 ?_
  refine lv_aload_n hx hb dL_law_304 rfl (lv_at hl 3 rfl) ?_
  refine lv_iload_n hx hb dL_law_305 rfl (lv_at hl 0 rfl) ?_
  refine lv_iconst (v := (2 : Int32)) hx hb dL_law_306 (by decide) ?_
  refine lv_iadd hx hb dL_law_307 ?_
  refine va_sld hx hb hX hbl hbA hS (i := nI q + (2 : Int32)) (lz_in hq hL 2 (by decide)) dL_law_308 ?_
  refine qV_i (ws' := (wX A cI x9 n mm k ++ wM B cI t)) (As := [.int (xs (nI q + (1 : Int32)).toNatClampNeg), .int (xs (nI q + (2 : Int32)).toNatClampNeg)]) (rest := []) ⟨hx, hb, hml, hown, hts⟩ hK hN hA hP hD hS c1 (cwV 2 hts gL_law_X1_bids rfl rfl rfl hd_X1_bids ⟨Nat.le_of_ble_eq_true rfl, Nat.le_of_ble_eq_true rfl⟩) (lrc_1 hK hP) (lbp_1 A B cI x n mm k t _ _ _ _) rfl hl.1 rfl (Nat.le_of_ble_eq_true rfl) dL_law_309 ⟨Nat.le_of_ble_eq_true rfl, Nat.le_of_ble_eq_true rfl⟩ (fun H locs hP hD hS => ?_)
  refine lv_aload_n hx hb dL_law_312 rfl (lv_at hl 1 rfl) ?_
  refine lv_aload_n hx hb dL_law_313 rfl (lv_at hl 3 rfl) ?_
  refine lv_iload_n hx hb dL_law_314 rfl (lv_at hl 0 rfl) ?_
  refine lv_iconst (v := (1 : Int32)) hx hb dL_law_315 (by decide) ?_
  refine lv_iadd hx hb dL_law_316 ?_
  refine va_sld hx hb hX hbl hbA hS (i := nI q + (1 : Int32)) (lz_in hq hL 1 (by decide)) dL_law_317 ?_
  refine lv_aload_n hx hb dL_law_318 rfl (lv_at hl 3 rfl) ?_
  refine lv_iload_n hx hb dL_law_319 rfl (lv_at hl 0 rfl) ?_
  refine lv_iconst (v := (2 : Int32)) hx hb dL_law_320 (by decide) ?_
  refine lv_iadd hx hb dL_law_321 ?_
  refine va_sld hx hb hX hbl hbA hS (i := nI q + (2 : Int32)) (lz_in hq hL 2 (by decide)) dL_law_322 ?_
  refine qV_i (ws' := (wX A cI x9 n mm k ++ wM B cI t9)) (As := [.int (xs (nI q + (1 : Int32)).toNatClampNeg), .int (xs (nI q + (2 : Int32)).toNatClampNeg)]) (rest := [.int r]) ⟨hx, hb, hml, hown, hts⟩ hK hN hA hP hD hS c2 (cwV 2 hts gL_law_X2_bids rfl rfl rfl hd_X2_bids ⟨Nat.le_of_ble_eq_true rfl, Nat.le_of_ble_eq_true rfl⟩) (lrc_2 hK hP) (lbp_2 A B cI _ _ _ _ t _) rfl hl.1 rfl (Nat.le_of_ble_eq_true rfl) dL_law_323 ⟨Nat.le_of_ble_eq_true rfl, Nat.le_of_ble_eq_true rfl⟩ (fun H locs hP hD hS => ?_)
  refine lv_icmp_eq (tgt := 1229) hx hb dL_law_326 (by decide) (fun _ => ?_) (fun c => absurd rfl c)
  exact lc_go hx hb hl (fun ls1 hl1 => kk H locs ls1 x9 n mm k t9 ⟨hR, hP, hD, hS, hl1⟩)
theorem hd_X1_pays : yX1_pays.cls = RX1 ∧ yX1_pays.cls ≠ "java/lang/invoke/MethodHandle" ∧ yX1_pays.cls ≠ "java/lang/invoke/VarHandle" ∧ (parseMethodDescriptor yX1_pays.desc).map (fun d => d.parameters.length) = some 2 := by decide +kernel
theorem hd_X2_pays : yX2_pays.cls = RX2 ∧ yX2_pays.cls ≠ "java/lang/invoke/MethodHandle" ∧ yX2_pays.cls ≠ "java/lang/invoke/VarHandle" ∧ (parseMethodDescriptor yX2_pays.desc).map (fun d => d.parameters.length) = some 2 := by decide +kernel
set_option maxHeartbeats 4000000 in
set_option maxRecDepth 100000 in
theorem lc_pays (C : LC p s m meth c b L xs D cI zA zV) (hq : q + 6 ≤ L) (hL : L ≤ 3072) (hI : LQ s b D cI A B q H locs ls x n mm k t) (kk : ∀ H1 locs1 ls1 x1 n1 m1 k1 t1, LQ s b D cI A B (q + 6) H1 locs1 ls1 x1 n1 m1 k1 t1 → W p l e room_1 s m #[Value.ref b] below meth c H1 locs1 57 1084 Q (F0 m 18 ls1 [])) : W p l e room_1 s m #[Value.ref b] below meth c H locs 57 1084 Q (F0 m 331 ls []) := by
  obtain ⟨hR, hP, hD, hS, hl⟩ := hI
  obtain ⟨hx, hb, hr, hml, hown, hts, hX, hbl, hlocks, hK, hN, hz⟩ := C
  have hA : ∀ q : Nat, s.heap.size ≤ q → (fun q : Nat => s.heap.size ≤ q) q := fun _ h => h
  have hbA : ¬ (fun q : Nat => s.heap.size ≤ q) b := Nat.not_le.mpr hbl
  obtain ⟨r, x9, n9, t9, e1, e2, hR⟩ := pays_XM hR (xs (nI q + (1 : Int32)).toNatClampNeg) (xs (nI q + (2 : Int32)).toNatClampNeg)
  have c1 : uI l D cI yX1_pays wsX1_pays ({ frames := 2, cells := 0, slots := 0, locals := 43 } : Room) (.ref (A 0 0) :: [.int (xs (nI q + (1 : Int32)).toNatClampNeg), .int (xs (nI q + (2 : Int32)).toNatClampNeg)]) (wX A cI x n mm k) (wX A cI x9 n9 mm k) r := c_X1_pays l D cI A (xs (nI q + (1 : Int32)).toNatClampNeg) (xs (nI q + (2 : Int32)).toNatClampNeg) x n mm k (r, x9, n9) e1
  have c2 : uI l D cI yX2_pays wsX2_pays ({ frames := 1, cells := 0, slots := 0, locals := 22 } : Room) (.ref (B 0) :: [.int (xs (nI q + (1 : Int32)).toNatClampNeg), .int (xs (nI q + (2 : Int32)).toNatClampNeg)]) (wM B cI t) (wM B cI t9) r := c_X2_pays l D cI B (xs (nI q + (1 : Int32)).toNatClampNeg) (xs (nI q + (2 : Int32)).toNatClampNeg) t (r, t9) e2
  refine lv_aload_n hx hb dL_law_331 rfl (lv_at hl 2 rfl) ?_
  refine lv_aload_n hx hb dL_law_332 rfl (lv_at hl 3 rfl) ?_
  refine lv_iload_n hx hb dL_law_333 rfl (lv_at hl 0 rfl) ?_
  refine lv_iconst (v := (1 : Int32)) hx hb dL_law_334 (by decide) ?_
  refine lv_iadd hx hb dL_law_335 ?_
  refine va_sld hx hb hX hbl hbA hS (i := nI q + (1 : Int32)) (lz_in hq hL 1 (by decide)) dL_law_336 ?_
  refine lv_aload_n hx hb dL_law_337 rfl (lv_at hl 3 rfl) ?_
  refine lv_iload_n hx hb dL_law_338 rfl (lv_at hl 0 rfl) ?_
  refine lv_iconst (v := (2 : Int32)) hx hb dL_law_339 (by decide) ?_
  refine lv_iadd hx hb dL_law_340 ?_
  refine va_sld hx hb hX hbl hbA hS (i := nI q + (2 : Int32)) (lz_in hq hL 2 (by decide)) dL_law_341 ?_
  refine qV_i (ws' := (wX A cI x9 n9 mm k ++ wM B cI t)) (As := [.int (xs (nI q + (1 : Int32)).toNatClampNeg), .int (xs (nI q + (2 : Int32)).toNatClampNeg)]) (rest := []) ⟨hx, hb, hml, hown, hts⟩ hK hN hA hP hD hS c1 (cwV 2 hts gL_law_X1_pays rfl rfl rfl hd_X1_pays ⟨Nat.le_of_ble_eq_true rfl, Nat.le_of_ble_eq_true rfl⟩) (lrc_1 hK hP) (lbp_1 A B cI x n mm k t _ _ _ _) rfl hl.1 rfl (Nat.le_of_ble_eq_true rfl) dL_law_342 ⟨Nat.le_of_ble_eq_true rfl, Nat.le_of_ble_eq_true rfl⟩ (fun H locs hP hD hS => ?_)
  refine lv_aload_n hx hb dL_law_345 rfl (lv_at hl 1 rfl) ?_
  refine lv_aload_n hx hb dL_law_346 rfl (lv_at hl 3 rfl) ?_
  refine lv_iload_n hx hb dL_law_347 rfl (lv_at hl 0 rfl) ?_
  refine lv_iconst (v := (1 : Int32)) hx hb dL_law_348 (by decide) ?_
  refine lv_iadd hx hb dL_law_349 ?_
  refine va_sld hx hb hX hbl hbA hS (i := nI q + (1 : Int32)) (lz_in hq hL 1 (by decide)) dL_law_350 ?_
  refine lv_aload_n hx hb dL_law_351 rfl (lv_at hl 3 rfl) ?_
  refine lv_iload_n hx hb dL_law_352 rfl (lv_at hl 0 rfl) ?_
  refine lv_iconst (v := (2 : Int32)) hx hb dL_law_353 (by decide) ?_
  refine lv_iadd hx hb dL_law_354 ?_
  refine va_sld hx hb hX hbl hbA hS (i := nI q + (2 : Int32)) (lz_in hq hL 2 (by decide)) dL_law_355 ?_
  refine qV_i (ws' := (wX A cI x9 n9 mm k ++ wM B cI t9)) (As := [.int (xs (nI q + (1 : Int32)).toNatClampNeg), .int (xs (nI q + (2 : Int32)).toNatClampNeg)]) (rest := [.int r]) ⟨hx, hb, hml, hown, hts⟩ hK hN hA hP hD hS c2 (cwV 2 hts gL_law_X2_pays rfl rfl rfl hd_X2_pays ⟨Nat.le_of_ble_eq_true rfl, Nat.le_of_ble_eq_true rfl⟩) (lrc_2 hK hP) (lbp_2 A B cI _ _ _ _ t _) rfl hl.1 rfl (Nat.le_of_ble_eq_true rfl) dL_law_356 ⟨Nat.le_of_ble_eq_true rfl, Nat.le_of_ble_eq_true rfl⟩ (fun H locs hP hD hS => ?_)
  refine lv_icmp_eq (tgt := 1229) hx hb dL_law_359 (by decide) (fun _ => ?_) (fun c => absurd rfl c)
  exact lc_go hx hb hl (fun ls1 hl1 => kk H locs ls1 x9 n9 mm k t9 ⟨hR, hP, hD, hS, hl1⟩)
theorem hd_X1_returns : yX1_returns.cls = RX1 ∧ yX1_returns.cls ≠ "java/lang/invoke/MethodHandle" ∧ yX1_returns.cls ≠ "java/lang/invoke/VarHandle" ∧ (parseMethodDescriptor yX1_returns.desc).map (fun d => d.parameters.length) = some 1 := by decide +kernel
theorem hd_X2_returns : yX2_returns.cls = RX2 ∧ yX2_returns.cls ≠ "java/lang/invoke/MethodHandle" ∧ yX2_returns.cls ≠ "java/lang/invoke/VarHandle" ∧ (parseMethodDescriptor yX2_returns.desc).map (fun d => d.parameters.length) = some 1 := by decide +kernel
set_option maxHeartbeats 4000000 in
set_option maxRecDepth 100000 in
theorem lc_returns (C : LC p s m meth c b L xs D cI zA zV) (hq : q + 6 ≤ L) (hL : L ≤ 3072) (hI : LQ s b D cI A B q H locs ls x n mm k t) (kk : ∀ H1 locs1 ls1 x1 n1 m1 k1 t1, LQ s b D cI A B (q + 6) H1 locs1 ls1 x1 n1 m1 k1 t1 → W p l e room_1 s m #[Value.ref b] below meth c H1 locs1 57 1084 Q (F0 m 18 ls1 [])) : W p l e room_1 s m #[Value.ref b] below meth c H locs 57 1084 Q (F0 m 364 ls []) := by
  obtain ⟨hR, hP, hD, hS, hl⟩ := hI
  obtain ⟨hx, hb, hr, hml, hown, hts, hX, hbl, hlocks, hK, hN, hz⟩ := C
  have hA : ∀ q : Nat, s.heap.size ≤ q → (fun q : Nat => s.heap.size ≤ q) q := fun _ h => h
  have hbA : ¬ (fun q : Nat => s.heap.size ≤ q) b := Nat.not_le.mpr hbl
  obtain ⟨r, x9, n9, t9, e1, e2, hR⟩ := returns_XM hR (xs (nI q + (1 : Int32)).toNatClampNeg)
  have c1 : uI l D cI yX1_returns wsX1_returns ({ frames := 2, cells := 0, slots := 0, locals := 43 } : Room) (.ref (A 0 0) :: [.int (xs (nI q + (1 : Int32)).toNatClampNeg)]) (wX A cI x n mm k) (wX A cI x9 n9 mm k) r := c_X1_returns l D cI A (xs (nI q + (1 : Int32)).toNatClampNeg) x n mm k (r, x9, n9) e1
  have c2 : uI l D cI yX2_returns wsX2_returns ({ frames := 1, cells := 0, slots := 0, locals := 21 } : Room) (.ref (B 0) :: [.int (xs (nI q + (1 : Int32)).toNatClampNeg)]) (wM B cI t) (wM B cI t9) r := c_X2_returns l D cI B (xs (nI q + (1 : Int32)).toNatClampNeg) t (r, t9) e2
  refine lv_aload_n hx hb dL_law_364 rfl (lv_at hl 2 rfl) ?_
  refine lv_aload_n hx hb dL_law_365 rfl (lv_at hl 3 rfl) ?_
  refine lv_iload_n hx hb dL_law_366 rfl (lv_at hl 0 rfl) ?_
  refine lv_iconst (v := (1 : Int32)) hx hb dL_law_367 (by decide) ?_
  refine lv_iadd hx hb dL_law_368 ?_
  refine va_sld hx hb hX hbl hbA hS (i := nI q + (1 : Int32)) (lz_in hq hL 1 (by decide)) dL_law_369 ?_
  refine qV_i (ws' := (wX A cI x9 n9 mm k ++ wM B cI t)) (As := [.int (xs (nI q + (1 : Int32)).toNatClampNeg)]) (rest := []) ⟨hx, hb, hml, hown, hts⟩ hK hN hA hP hD hS c1 (cwV 1 hts gL_law_X1_returns rfl rfl rfl hd_X1_returns ⟨Nat.le_of_ble_eq_true rfl, Nat.le_of_ble_eq_true rfl⟩) (lrc_1 hK hP) (lbp_1 A B cI x n mm k t _ _ _ _) rfl hl.1 rfl (Nat.le_of_ble_eq_true rfl) dL_law_370 ⟨Nat.le_of_ble_eq_true rfl, Nat.le_of_ble_eq_true rfl⟩ (fun H locs hP hD hS => ?_)
  refine lv_aload_n hx hb dL_law_373 rfl (lv_at hl 1 rfl) ?_
  refine lv_aload_n hx hb dL_law_374 rfl (lv_at hl 3 rfl) ?_
  refine lv_iload_n hx hb dL_law_375 rfl (lv_at hl 0 rfl) ?_
  refine lv_iconst (v := (1 : Int32)) hx hb dL_law_376 (by decide) ?_
  refine lv_iadd hx hb dL_law_377 ?_
  refine va_sld hx hb hX hbl hbA hS (i := nI q + (1 : Int32)) (lz_in hq hL 1 (by decide)) dL_law_378 ?_
  refine qV_i (ws' := (wX A cI x9 n9 mm k ++ wM B cI t9)) (As := [.int (xs (nI q + (1 : Int32)).toNatClampNeg)]) (rest := [.int r]) ⟨hx, hb, hml, hown, hts⟩ hK hN hA hP hD hS c2 (cwV 1 hts gL_law_X2_returns rfl rfl rfl hd_X2_returns ⟨Nat.le_of_ble_eq_true rfl, Nat.le_of_ble_eq_true rfl⟩) (lrc_2 hK hP) (lbp_2 A B cI _ _ _ _ t _) rfl hl.1 rfl (Nat.le_of_ble_eq_true rfl) dL_law_379 ⟨Nat.le_of_ble_eq_true rfl, Nat.le_of_ble_eq_true rfl⟩ (fun H locs hP hD hS => ?_)
  refine lv_icmp_eq (tgt := 1229) hx hb dL_law_382 (by decide) (fun _ => ?_) (fun c => absurd rfl c)
  exact lc_go hx hb hl (fun ls1 hl1 => kk H locs ls1 x9 n9 mm k t9 ⟨hR, hP, hD, hS, hl1⟩)
theorem hd_X1_gives : yX1_gives.cls = RX1 ∧ yX1_gives.cls ≠ "java/lang/invoke/MethodHandle" ∧ yX1_gives.cls ≠ "java/lang/invoke/VarHandle" ∧ (parseMethodDescriptor yX1_gives.desc).map (fun d => d.parameters.length) = some 2 := by decide +kernel
theorem hd_X2_gives : yX2_gives.cls = RX2 ∧ yX2_gives.cls ≠ "java/lang/invoke/MethodHandle" ∧ yX2_gives.cls ≠ "java/lang/invoke/VarHandle" ∧ (parseMethodDescriptor yX2_gives.desc).map (fun d => d.parameters.length) = some 2 := by decide +kernel
set_option maxHeartbeats 4000000 in
set_option maxRecDepth 100000 in
theorem lc_gives (C : LC p s m meth c b L xs D cI zA zV) (hq : q + 6 ≤ L) (hL : L ≤ 3072) (hI : LQ s b D cI A B q H locs ls x n mm k t) (kk : ∀ H1 locs1 ls1 x1 n1 m1 k1 t1, LQ s b D cI A B (q + 6) H1 locs1 ls1 x1 n1 m1 k1 t1 → W p l e room_1 s m #[Value.ref b] below meth c H1 locs1 57 1084 Q (F0 m 18 ls1 [])) : W p l e room_1 s m #[Value.ref b] below meth c H locs 57 1084 Q (F0 m 387 ls []) := by
  obtain ⟨hR, hP, hD, hS, hl⟩ := hI
  obtain ⟨hx, hb, hr, hml, hown, hts, hX, hbl, hlocks, hK, hN, hz⟩ := C
  have hA : ∀ q : Nat, s.heap.size ≤ q → (fun q : Nat => s.heap.size ≤ q) q := fun _ h => h
  have hbA : ¬ (fun q : Nat => s.heap.size ≤ q) b := Nat.not_le.mpr hbl
  obtain ⟨r, x9, n9, t9, e1, e2, hR⟩ := gives_XM hR (xs (nI q + (1 : Int32)).toNatClampNeg) (xs (nI q + (2 : Int32)).toNatClampNeg)
  have c1 : uI l D cI yX1_gives wsX1_gives ({ frames := 2, cells := 0, slots := 0, locals := 43 } : Room) (.ref (A 0 0) :: [.int (xs (nI q + (1 : Int32)).toNatClampNeg), .int (xs (nI q + (2 : Int32)).toNatClampNeg)]) (wX A cI x n mm k) (wX A cI x9 n9 mm k) r := c_X1_gives l D cI A (xs (nI q + (1 : Int32)).toNatClampNeg) (xs (nI q + (2 : Int32)).toNatClampNeg) x n mm k (r, x9, n9) e1
  have c2 : uI l D cI yX2_gives wsX2_gives ({ frames := 2, cells := 0, slots := 0, locals := 43 } : Room) (.ref (B 0) :: [.int (xs (nI q + (1 : Int32)).toNatClampNeg), .int (xs (nI q + (2 : Int32)).toNatClampNeg)]) (wM B cI t) (wM B cI t9) r := c_X2_gives l D cI B (xs (nI q + (1 : Int32)).toNatClampNeg) (xs (nI q + (2 : Int32)).toNatClampNeg) t (r, t9) e2
  refine lv_aload_n hx hb dL_law_387 rfl (lv_at hl 2 rfl) ?_
  refine lv_aload_n hx hb dL_law_388 rfl (lv_at hl 3 rfl) ?_
  refine lv_iload_n hx hb dL_law_389 rfl (lv_at hl 0 rfl) ?_
  refine lv_iconst (v := (1 : Int32)) hx hb dL_law_390 (by decide) ?_
  refine lv_iadd hx hb dL_law_391 ?_
  refine va_sld hx hb hX hbl hbA hS (i := nI q + (1 : Int32)) (lz_in hq hL 1 (by decide)) dL_law_392 ?_
  refine lv_aload_n hx hb dL_law_393 rfl (lv_at hl 3 rfl) ?_
  refine lv_iload_n hx hb dL_law_394 rfl (lv_at hl 0 rfl) ?_
  refine lv_iconst (v := (2 : Int32)) hx hb dL_law_395 (by decide) ?_
  refine lv_iadd hx hb dL_law_396 ?_
  refine va_sld hx hb hX hbl hbA hS (i := nI q + (2 : Int32)) (lz_in hq hL 2 (by decide)) dL_law_397 ?_
  refine qV_i (ws' := (wX A cI x9 n9 mm k ++ wM B cI t)) (As := [.int (xs (nI q + (1 : Int32)).toNatClampNeg), .int (xs (nI q + (2 : Int32)).toNatClampNeg)]) (rest := []) ⟨hx, hb, hml, hown, hts⟩ hK hN hA hP hD hS c1 (cwV 2 hts gL_law_X1_gives rfl rfl rfl hd_X1_gives ⟨Nat.le_of_ble_eq_true rfl, Nat.le_of_ble_eq_true rfl⟩) (lrc_1 hK hP) (lbp_1 A B cI x n mm k t _ _ _ _) rfl hl.1 rfl (Nat.le_of_ble_eq_true rfl) dL_law_398 ⟨Nat.le_of_ble_eq_true rfl, Nat.le_of_ble_eq_true rfl⟩ (fun H locs hP hD hS => ?_)
  refine lv_aload_n hx hb dL_law_401 rfl (lv_at hl 1 rfl) ?_
  refine lv_aload_n hx hb dL_law_402 rfl (lv_at hl 3 rfl) ?_
  refine lv_iload_n hx hb dL_law_403 rfl (lv_at hl 0 rfl) ?_
  refine lv_iconst (v := (1 : Int32)) hx hb dL_law_404 (by decide) ?_
  refine lv_iadd hx hb dL_law_405 ?_
  refine va_sld hx hb hX hbl hbA hS (i := nI q + (1 : Int32)) (lz_in hq hL 1 (by decide)) dL_law_406 ?_
  refine lv_aload_n hx hb dL_law_407 rfl (lv_at hl 3 rfl) ?_
  refine lv_iload_n hx hb dL_law_408 rfl (lv_at hl 0 rfl) ?_
  refine lv_iconst (v := (2 : Int32)) hx hb dL_law_409 (by decide) ?_
  refine lv_iadd hx hb dL_law_410 ?_
  refine va_sld hx hb hX hbl hbA hS (i := nI q + (2 : Int32)) (lz_in hq hL 2 (by decide)) dL_law_411 ?_
  refine qV_i (ws' := (wX A cI x9 n9 mm k ++ wM B cI t9)) (As := [.int (xs (nI q + (1 : Int32)).toNatClampNeg), .int (xs (nI q + (2 : Int32)).toNatClampNeg)]) (rest := [.int r]) ⟨hx, hb, hml, hown, hts⟩ hK hN hA hP hD hS c2 (cwV 2 hts gL_law_X2_gives rfl rfl rfl hd_X2_gives ⟨Nat.le_of_ble_eq_true rfl, Nat.le_of_ble_eq_true rfl⟩) (lrc_2 hK hP) (lbp_2 A B cI _ _ _ _ t _) rfl hl.1 rfl (Nat.le_of_ble_eq_true rfl) dL_law_412 ⟨Nat.le_of_ble_eq_true rfl, Nat.le_of_ble_eq_true rfl⟩ (fun H locs hP hD hS => ?_)
  refine lv_icmp_eq (tgt := 1229) hx hb dL_law_415 (by decide) (fun _ => ?_) (fun c => absurd rfl c)
  exact lc_go hx hb hl (fun ls1 hl1 => kk H locs ls1 x9 n9 mm k t9 ⟨hR, hP, hD, hS, hl1⟩)
theorem hd_X1_swaps : yX1_swaps.cls = RX1 ∧ yX1_swaps.cls ≠ "java/lang/invoke/MethodHandle" ∧ yX1_swaps.cls ≠ "java/lang/invoke/VarHandle" ∧ (parseMethodDescriptor yX1_swaps.desc).map (fun d => d.parameters.length) = some 2 := by decide +kernel
theorem hd_X2_swaps : yX2_swaps.cls = RX2 ∧ yX2_swaps.cls ≠ "java/lang/invoke/MethodHandle" ∧ yX2_swaps.cls ≠ "java/lang/invoke/VarHandle" ∧ (parseMethodDescriptor yX2_swaps.desc).map (fun d => d.parameters.length) = some 2 := by decide +kernel
set_option maxHeartbeats 4000000 in
set_option maxRecDepth 100000 in
theorem lc_swaps (C : LC p s m meth c b L xs D cI zA zV) (hq : q + 6 ≤ L) (hL : L ≤ 3072) (hI : LQ s b D cI A B q H locs ls x n mm k t) (kk : ∀ H1 locs1 ls1 x1 n1 m1 k1 t1, LQ s b D cI A B (q + 6) H1 locs1 ls1 x1 n1 m1 k1 t1 → W p l e room_1 s m #[Value.ref b] below meth c H1 locs1 57 1084 Q (F0 m 18 ls1 [])) : W p l e room_1 s m #[Value.ref b] below meth c H locs 57 1084 Q (F0 m 420 ls []) := by
  obtain ⟨hR, hP, hD, hS, hl⟩ := hI
  obtain ⟨hx, hb, hr, hml, hown, hts, hX, hbl, hlocks, hK, hN, hz⟩ := C
  have hA : ∀ q : Nat, s.heap.size ≤ q → (fun q : Nat => s.heap.size ≤ q) q := fun _ h => h
  have hbA : ¬ (fun q : Nat => s.heap.size ≤ q) b := Nat.not_le.mpr hbl
  obtain ⟨r, x9, n9, t9, e1, e2, hR⟩ := swaps_XM hR (xs (nI q + (1 : Int32)).toNatClampNeg) (xs (nI q + (2 : Int32)).toNatClampNeg)
  have c1 : uI l D cI yX1_swaps wsX1_swaps ({ frames := 3, cells := 0, slots := 0, locals := 66 } : Room) (.ref (A 0 0) :: [.int (xs (nI q + (1 : Int32)).toNatClampNeg), .int (xs (nI q + (2 : Int32)).toNatClampNeg)]) (wX A cI x n mm k) (wX A cI x9 n9 mm k) r := c_X1_swaps l D cI A (xs (nI q + (1 : Int32)).toNatClampNeg) (xs (nI q + (2 : Int32)).toNatClampNeg) x n mm k (r, x9, n9) e1
  have c2 : uI l D cI yX2_swaps wsX2_swaps ({ frames := 2, cells := 0, slots := 0, locals := 46 } : Room) (.ref (B 0) :: [.int (xs (nI q + (1 : Int32)).toNatClampNeg), .int (xs (nI q + (2 : Int32)).toNatClampNeg)]) (wM B cI t) (wM B cI t9) r := c_X2_swaps l D cI B (xs (nI q + (1 : Int32)).toNatClampNeg) (xs (nI q + (2 : Int32)).toNatClampNeg) t (r, t9) e2
  refine lv_aload_n hx hb dL_law_420 rfl (lv_at hl 2 rfl) ?_
  refine lv_aload_n hx hb dL_law_421 rfl (lv_at hl 3 rfl) ?_
  refine lv_iload_n hx hb dL_law_422 rfl (lv_at hl 0 rfl) ?_
  refine lv_iconst (v := (1 : Int32)) hx hb dL_law_423 (by decide) ?_
  refine lv_iadd hx hb dL_law_424 ?_
  refine va_sld hx hb hX hbl hbA hS (i := nI q + (1 : Int32)) (lz_in hq hL 1 (by decide)) dL_law_425 ?_
  refine lv_aload_n hx hb dL_law_426 rfl (lv_at hl 3 rfl) ?_
  refine lv_iload_n hx hb dL_law_427 rfl (lv_at hl 0 rfl) ?_
  refine lv_iconst (v := (2 : Int32)) hx hb dL_law_428 (by decide) ?_
  refine lv_iadd hx hb dL_law_429 ?_
  refine va_sld hx hb hX hbl hbA hS (i := nI q + (2 : Int32)) (lz_in hq hL 2 (by decide)) dL_law_430 ?_
  refine qV_i (ws' := (wX A cI x9 n9 mm k ++ wM B cI t)) (As := [.int (xs (nI q + (1 : Int32)).toNatClampNeg), .int (xs (nI q + (2 : Int32)).toNatClampNeg)]) (rest := []) ⟨hx, hb, hml, hown, hts⟩ hK hN hA hP hD hS c1 (cwV 2 hts gL_law_X1_swaps rfl rfl rfl hd_X1_swaps ⟨Nat.le_of_ble_eq_true rfl, Nat.le_of_ble_eq_true rfl⟩) (lrc_1 hK hP) (lbp_1 A B cI x n mm k t _ _ _ _) rfl hl.1 rfl (Nat.le_of_ble_eq_true rfl) dL_law_431 ⟨Nat.le_of_ble_eq_true rfl, Nat.le_of_ble_eq_true rfl⟩ (fun H locs hP hD hS => ?_)
  refine lv_aload_n hx hb dL_law_434 rfl (lv_at hl 1 rfl) ?_
  refine lv_aload_n hx hb dL_law_435 rfl (lv_at hl 3 rfl) ?_
  refine lv_iload_n hx hb dL_law_436 rfl (lv_at hl 0 rfl) ?_
  refine lv_iconst (v := (1 : Int32)) hx hb dL_law_437 (by decide) ?_
  refine lv_iadd hx hb dL_law_438 ?_
  refine va_sld hx hb hX hbl hbA hS (i := nI q + (1 : Int32)) (lz_in hq hL 1 (by decide)) dL_law_439 ?_
  refine lv_aload_n hx hb dL_law_440 rfl (lv_at hl 3 rfl) ?_
  refine lv_iload_n hx hb dL_law_441 rfl (lv_at hl 0 rfl) ?_
  refine lv_iconst (v := (2 : Int32)) hx hb dL_law_442 (by decide) ?_
  refine lv_iadd hx hb dL_law_443 ?_
  refine va_sld hx hb hX hbl hbA hS (i := nI q + (2 : Int32)) (lz_in hq hL 2 (by decide)) dL_law_444 ?_
  refine qV_i (ws' := (wX A cI x9 n9 mm k ++ wM B cI t9)) (As := [.int (xs (nI q + (1 : Int32)).toNatClampNeg), .int (xs (nI q + (2 : Int32)).toNatClampNeg)]) (rest := [.int r]) ⟨hx, hb, hml, hown, hts⟩ hK hN hA hP hD hS c2 (cwV 2 hts gL_law_X2_swaps rfl rfl rfl hd_X2_swaps ⟨Nat.le_of_ble_eq_true rfl, Nat.le_of_ble_eq_true rfl⟩) (lrc_2 hK hP) (lbp_2 A B cI _ _ _ _ t _) rfl hl.1 rfl (Nat.le_of_ble_eq_true rfl) dL_law_445 ⟨Nat.le_of_ble_eq_true rfl, Nat.le_of_ble_eq_true rfl⟩ (fun H locs hP hD hS => ?_)
  refine lv_icmp_eq (tgt := 1229) hx hb dL_law_448 (by decide) (fun _ => ?_) (fun c => absurd rfl c)
  exact lc_go hx hb hl (fun ls1 hl1 => kk H locs ls1 x9 n9 mm k t9 ⟨hR, hP, hD, hS, hl1⟩)
theorem hd_X1_sells : yX1_sells.cls = RX1 ∧ yX1_sells.cls ≠ "java/lang/invoke/MethodHandle" ∧ yX1_sells.cls ≠ "java/lang/invoke/VarHandle" ∧ (parseMethodDescriptor yX1_sells.desc).map (fun d => d.parameters.length) = some 1 := by decide +kernel
theorem hd_X2_sells : yX2_sells.cls = RX2 ∧ yX2_sells.cls ≠ "java/lang/invoke/MethodHandle" ∧ yX2_sells.cls ≠ "java/lang/invoke/VarHandle" ∧ (parseMethodDescriptor yX2_sells.desc).map (fun d => d.parameters.length) = some 1 := by decide +kernel
set_option maxHeartbeats 4000000 in
set_option maxRecDepth 100000 in
theorem lc_sells (C : LC p s m meth c b L xs D cI zA zV) (hq : q + 6 ≤ L) (hL : L ≤ 3072) (hI : LQ s b D cI A B q H locs ls x n mm k t) (kk : ∀ H1 locs1 ls1 x1 n1 m1 k1 t1, LQ s b D cI A B (q + 6) H1 locs1 ls1 x1 n1 m1 k1 t1 → W p l e room_1 s m #[Value.ref b] below meth c H1 locs1 57 1084 Q (F0 m 18 ls1 [])) : W p l e room_1 s m #[Value.ref b] below meth c H locs 57 1084 Q (F0 m 453 ls []) := by
  obtain ⟨hR, hP, hD, hS, hl⟩ := hI
  obtain ⟨hx, hb, hr, hml, hown, hts, hX, hbl, hlocks, hK, hN, hz⟩ := C
  have hA : ∀ q : Nat, s.heap.size ≤ q → (fun q : Nat => s.heap.size ≤ q) q := fun _ h => h
  have hbA : ¬ (fun q : Nat => s.heap.size ≤ q) b := Nat.not_le.mpr hbl
  obtain ⟨r, x9, n9, t9, e1, e2, hR⟩ := sells_XM hR (xs (nI q + (1 : Int32)).toNatClampNeg)
  have c1 : uI l D cI yX1_sells wsX1_sells ({ frames := 4, cells := 0, slots := 0, locals := 102 } : Room) (.ref (A 0 0) :: [.int (xs (nI q + (1 : Int32)).toNatClampNeg)]) (wX A cI x n mm k) (wX A cI x9 n9 mm k) r := c_X1_sells l D cI A (xs (nI q + (1 : Int32)).toNatClampNeg) x n mm k (r, x9, n9) e1
  have c2 : uI l D cI yX2_sells wsX2_sells ({ frames := 7, cells := 0, slots := 0, locals := 160 } : Room) (.ref (B 0) :: [.int (xs (nI q + (1 : Int32)).toNatClampNeg)]) (wM B cI t) (wM B cI t9) r := c_X2_sells l D cI B (xs (nI q + (1 : Int32)).toNatClampNeg) t (r, t9) e2
  refine lv_aload_n hx hb dL_law_453 rfl (lv_at hl 2 rfl) ?_
  refine lv_aload_n hx hb dL_law_454 rfl (lv_at hl 3 rfl) ?_
  refine lv_iload_n hx hb dL_law_455 rfl (lv_at hl 0 rfl) ?_
  refine lv_iconst (v := (1 : Int32)) hx hb dL_law_456 (by decide) ?_
  refine lv_iadd hx hb dL_law_457 ?_
  refine va_sld hx hb hX hbl hbA hS (i := nI q + (1 : Int32)) (lz_in hq hL 1 (by decide)) dL_law_458 ?_
  refine qV_i (ws' := (wX A cI x9 n9 mm k ++ wM B cI t)) (As := [.int (xs (nI q + (1 : Int32)).toNatClampNeg)]) (rest := []) ⟨hx, hb, hml, hown, hts⟩ hK hN hA hP hD hS c1 (cwV 1 hts gL_law_X1_sells rfl rfl rfl hd_X1_sells ⟨Nat.le_of_ble_eq_true rfl, Nat.le_of_ble_eq_true rfl⟩) (lrc_1 hK hP) (lbp_1 A B cI x n mm k t _ _ _ _) rfl hl.1 rfl (Nat.le_of_ble_eq_true rfl) dL_law_459 ⟨Nat.le_of_ble_eq_true rfl, Nat.le_of_ble_eq_true rfl⟩ (fun H locs hP hD hS => ?_)
  refine lv_aload_n hx hb dL_law_462 rfl (lv_at hl 1 rfl) ?_
  refine lv_aload_n hx hb dL_law_463 rfl (lv_at hl 3 rfl) ?_
  refine lv_iload_n hx hb dL_law_464 rfl (lv_at hl 0 rfl) ?_
  refine lv_iconst (v := (1 : Int32)) hx hb dL_law_465 (by decide) ?_
  refine lv_iadd hx hb dL_law_466 ?_
  refine va_sld hx hb hX hbl hbA hS (i := nI q + (1 : Int32)) (lz_in hq hL 1 (by decide)) dL_law_467 ?_
  refine qV_i (ws' := (wX A cI x9 n9 mm k ++ wM B cI t9)) (As := [.int (xs (nI q + (1 : Int32)).toNatClampNeg)]) (rest := [.int r]) ⟨hx, hb, hml, hown, hts⟩ hK hN hA hP hD hS c2 (cwV 1 hts gL_law_X2_sells rfl rfl rfl hd_X2_sells ⟨Nat.le_of_ble_eq_true rfl, Nat.le_of_ble_eq_true rfl⟩) (lrc_2 hK hP) (lbp_2 A B cI _ _ _ _ t _) rfl hl.1 rfl (Nat.le_of_ble_eq_true rfl) dL_law_468 ⟨Nat.le_of_ble_eq_true rfl, Nat.le_of_ble_eq_true rfl⟩ (fun H locs hP hD hS => ?_)
  refine lv_icmp_eq (tgt := 1229) hx hb dL_law_471 (by decide) (fun _ => ?_) (fun c => absurd rfl c)
  exact lc_go hx hb hl (fun ls1 hl1 => kk H locs ls1 x9 n9 mm k t9 ⟨hR, hP, hD, hS, hl1⟩)
theorem hd_X1_turn : yX1_turn.cls = RX1 ∧ yX1_turn.cls ≠ "java/lang/invoke/MethodHandle" ∧ yX1_turn.cls ≠ "java/lang/invoke/VarHandle" ∧ (parseMethodDescriptor yX1_turn.desc).map (fun d => d.parameters.length) = some 3 := by decide +kernel
theorem hd_X2_turn : yX2_turn.cls = RX2 ∧ yX2_turn.cls ≠ "java/lang/invoke/MethodHandle" ∧ yX2_turn.cls ≠ "java/lang/invoke/VarHandle" ∧ (parseMethodDescriptor yX2_turn.desc).map (fun d => d.parameters.length) = some 3 := by decide +kernel
set_option maxHeartbeats 4000000 in
set_option maxRecDepth 100000 in
theorem lc_turn (C : LC p s m meth c b L xs D cI zA zV) (hq : q + 6 ≤ L) (hL : L ≤ 3072) (hI : LQ s b D cI A B q H locs ls x n mm k t) (kk : ∀ H1 locs1 ls1 x1 n1 m1 k1 t1, LQ s b D cI A B (q + 6) H1 locs1 ls1 x1 n1 m1 k1 t1 → W p l e room_1 s m #[Value.ref b] below meth c H1 locs1 57 1084 Q (F0 m 18 ls1 [])) : W p l e room_1 s m #[Value.ref b] below meth c H locs 57 1084 Q (F0 m 476 ls []) := by
  obtain ⟨hR, hP, hD, hS, hl⟩ := hI
  obtain ⟨hx, hb, hr, hml, hown, hts, hX, hbl, hlocks, hK, hN, hz⟩ := C
  have hA : ∀ q : Nat, s.heap.size ≤ q → (fun q : Nat => s.heap.size ≤ q) q := fun _ h => h
  have hbA : ¬ (fun q : Nat => s.heap.size ≤ q) b := Nat.not_le.mpr hbl
  obtain ⟨r, x9, n9, t9, e1, e2, hR⟩ := turn_XM hR (xs (nI q + (1 : Int32)).toNatClampNeg) (xs (nI q + (2 : Int32)).toNatClampNeg) (xs (nI q + (3 : Int32)).toNatClampNeg)
  have c1 : uI l D cI yX1_turn wsX1_turn ({ frames := 2, cells := 0, slots := 0, locals := 43 } : Room) (.ref (A 0 0) :: [.int (xs (nI q + (1 : Int32)).toNatClampNeg), .int (xs (nI q + (2 : Int32)).toNatClampNeg), .int (xs (nI q + (3 : Int32)).toNatClampNeg)]) (wX A cI x n mm k) (wX A cI x9 n9 mm k) r := c_X1_turn l D cI A (xs (nI q + (1 : Int32)).toNatClampNeg) (xs (nI q + (2 : Int32)).toNatClampNeg) (xs (nI q + (3 : Int32)).toNatClampNeg) x n mm k (r, x9, n9) e1
  have c2 : uI l D cI yX2_turn wsX2_turn ({ frames := 1, cells := 0, slots := 0, locals := 22 } : Room) (.ref (B 0) :: [.int (xs (nI q + (1 : Int32)).toNatClampNeg), .int (xs (nI q + (2 : Int32)).toNatClampNeg), .int (xs (nI q + (3 : Int32)).toNatClampNeg)]) (wM B cI t) (wM B cI t9) r := c_X2_turn l D cI B (xs (nI q + (1 : Int32)).toNatClampNeg) (xs (nI q + (2 : Int32)).toNatClampNeg) (xs (nI q + (3 : Int32)).toNatClampNeg) t (r, t9) e2
  refine lv_aload_n hx hb dL_law_476 rfl (lv_at hl 2 rfl) ?_
  refine lv_aload_n hx hb dL_law_477 rfl (lv_at hl 3 rfl) ?_
  refine lv_iload_n hx hb dL_law_478 rfl (lv_at hl 0 rfl) ?_
  refine lv_iconst (v := (1 : Int32)) hx hb dL_law_479 (by decide) ?_
  refine lv_iadd hx hb dL_law_480 ?_
  refine va_sld hx hb hX hbl hbA hS (i := nI q + (1 : Int32)) (lz_in hq hL 1 (by decide)) dL_law_481 ?_
  refine lv_aload_n hx hb dL_law_482 rfl (lv_at hl 3 rfl) ?_
  refine lv_iload_n hx hb dL_law_483 rfl (lv_at hl 0 rfl) ?_
  refine lv_iconst (v := (2 : Int32)) hx hb dL_law_484 (by decide) ?_
  refine lv_iadd hx hb dL_law_485 ?_
  refine va_sld hx hb hX hbl hbA hS (i := nI q + (2 : Int32)) (lz_in hq hL 2 (by decide)) dL_law_486 ?_
  refine lv_aload_n hx hb dL_law_487 rfl (lv_at hl 3 rfl) ?_
  refine lv_iload_n hx hb dL_law_488 rfl (lv_at hl 0 rfl) ?_
  refine lv_iconst (v := (3 : Int32)) hx hb dL_law_489 (by decide) ?_
  refine lv_iadd hx hb dL_law_490 ?_
  refine va_sld hx hb hX hbl hbA hS (i := nI q + (3 : Int32)) (lz_in hq hL 3 (by decide)) dL_law_491 ?_
  refine qV_i (ws' := (wX A cI x9 n9 mm k ++ wM B cI t)) (As := [.int (xs (nI q + (1 : Int32)).toNatClampNeg), .int (xs (nI q + (2 : Int32)).toNatClampNeg), .int (xs (nI q + (3 : Int32)).toNatClampNeg)]) (rest := []) ⟨hx, hb, hml, hown, hts⟩ hK hN hA hP hD hS c1 (cwV 3 hts gL_law_X1_turn rfl rfl rfl hd_X1_turn ⟨Nat.le_of_ble_eq_true rfl, Nat.le_of_ble_eq_true rfl⟩) (lrc_1 hK hP) (lbp_1 A B cI x n mm k t _ _ _ _) rfl hl.1 rfl (Nat.le_of_ble_eq_true rfl) dL_law_492 ⟨Nat.le_of_ble_eq_true rfl, Nat.le_of_ble_eq_true rfl⟩ (fun H locs hP hD hS => ?_)
  refine lv_aload_n hx hb dL_law_495 rfl (lv_at hl 1 rfl) ?_
  refine lv_aload_n hx hb dL_law_496 rfl (lv_at hl 3 rfl) ?_
  refine lv_iload_n hx hb dL_law_497 rfl (lv_at hl 0 rfl) ?_
  refine lv_iconst (v := (1 : Int32)) hx hb dL_law_498 (by decide) ?_
  refine lv_iadd hx hb dL_law_499 ?_
  refine va_sld hx hb hX hbl hbA hS (i := nI q + (1 : Int32)) (lz_in hq hL 1 (by decide)) dL_law_500 ?_
  refine lv_aload_n hx hb dL_law_501 rfl (lv_at hl 3 rfl) ?_
  refine lv_iload_n hx hb dL_law_502 rfl (lv_at hl 0 rfl) ?_
  refine lv_iconst (v := (2 : Int32)) hx hb dL_law_503 (by decide) ?_
  refine lv_iadd hx hb dL_law_504 ?_
  refine va_sld hx hb hX hbl hbA hS (i := nI q + (2 : Int32)) (lz_in hq hL 2 (by decide)) dL_law_505 ?_
  refine lv_aload_n hx hb dL_law_506 rfl (lv_at hl 3 rfl) ?_
  refine lv_iload_n hx hb dL_law_507 rfl (lv_at hl 0 rfl) ?_
  refine lv_iconst (v := (3 : Int32)) hx hb dL_law_508 (by decide) ?_
  refine lv_iadd hx hb dL_law_509 ?_
  refine va_sld hx hb hX hbl hbA hS (i := nI q + (3 : Int32)) (lz_in hq hL 3 (by decide)) dL_law_510 ?_
  refine qV_i (ws' := (wX A cI x9 n9 mm k ++ wM B cI t9)) (As := [.int (xs (nI q + (1 : Int32)).toNatClampNeg), .int (xs (nI q + (2 : Int32)).toNatClampNeg), .int (xs (nI q + (3 : Int32)).toNatClampNeg)]) (rest := [.int r]) ⟨hx, hb, hml, hown, hts⟩ hK hN hA hP hD hS c2 (cwV 3 hts gL_law_X2_turn rfl rfl rfl hd_X2_turn ⟨Nat.le_of_ble_eq_true rfl, Nat.le_of_ble_eq_true rfl⟩) (lrc_2 hK hP) (lbp_2 A B cI _ _ _ _ t _) rfl hl.1 rfl (Nat.le_of_ble_eq_true rfl) dL_law_511 ⟨Nat.le_of_ble_eq_true rfl, Nat.le_of_ble_eq_true rfl⟩ (fun H locs hP hD hS => ?_)
  refine lv_icmp_eq (tgt := 1229) hx hb dL_law_514 (by decide) (fun _ => ?_) (fun c => absurd rfl c)
  exact lc_go hx hb hl (fun ls1 hl1 => kk H locs ls1 x9 n9 mm k t9 ⟨hR, hP, hD, hS, hl1⟩)
theorem hd_X1_months : yX1_months.cls = RX1 ∧ yX1_months.cls ≠ "java/lang/invoke/MethodHandle" ∧ yX1_months.cls ≠ "java/lang/invoke/VarHandle" ∧ (parseMethodDescriptor yX1_months.desc).map (fun d => d.parameters.length) = some 1 := by decide +kernel
theorem hd_X2_months : yX2_months.cls = RX2 ∧ yX2_months.cls ≠ "java/lang/invoke/MethodHandle" ∧ yX2_months.cls ≠ "java/lang/invoke/VarHandle" ∧ (parseMethodDescriptor yX2_months.desc).map (fun d => d.parameters.length) = some 1 := by decide +kernel
set_option maxHeartbeats 4000000 in
set_option maxRecDepth 100000 in
theorem lc_months (C : LC p s m meth c b L xs D cI zA zV) (hq : q + 6 ≤ L) (hL : L ≤ 3072) (hI : LQ s b D cI A B q H locs ls x n mm k t) (kk : ∀ H1 locs1 ls1 x1 n1 m1 k1 t1, LQ s b D cI A B (q + 6) H1 locs1 ls1 x1 n1 m1 k1 t1 → W p l e room_1 s m #[Value.ref b] below meth c H1 locs1 57 1084 Q (F0 m 18 ls1 [])) : W p l e room_1 s m #[Value.ref b] below meth c H locs 57 1084 Q (F0 m 519 ls []) := by
  obtain ⟨hR, hP, hD, hS, hl⟩ := hI
  obtain ⟨hx, hb, hr, hml, hown, hts, hX, hbl, hlocks, hK, hN, hz⟩ := C
  have hA : ∀ q : Nat, s.heap.size ≤ q → (fun q : Nat => s.heap.size ≤ q) q := fun _ h => h
  have hbA : ¬ (fun q : Nat => s.heap.size ≤ q) b := Nat.not_le.mpr hbl
  obtain ⟨r, x9, n9, t9, e1, e2, hR⟩ := months_XM hR (xs (nI q + (1 : Int32)).toNatClampNeg)
  have c1 : uI l D cI yX1_months wsX1_months ({ frames := 5, cells := 0, slots := 0, locals := 128 } : Room) (.ref (A 0 0) :: [.int (xs (nI q + (1 : Int32)).toNatClampNeg)]) (wX A cI x n mm k) (wX A cI x9 n9 mm k) r := c_X1_months l D cI A (xs (nI q + (1 : Int32)).toNatClampNeg) x n mm k (r, x9, n9) e1
  have c2 : uI l D cI yX2_months wsX2_months ({ frames := 9, cells := 0, slots := 0, locals := 204 } : Room) (.ref (B 0) :: [.int (xs (nI q + (1 : Int32)).toNatClampNeg)]) (wM B cI t) (wM B cI t9) r := c_X2_months l D cI B (xs (nI q + (1 : Int32)).toNatClampNeg) t (r, t9) e2
  refine lv_aload_n hx hb dL_law_519 rfl (lv_at hl 2 rfl) ?_
  refine lv_aload_n hx hb dL_law_520 rfl (lv_at hl 3 rfl) ?_
  refine lv_iload_n hx hb dL_law_521 rfl (lv_at hl 0 rfl) ?_
  refine lv_iconst (v := (1 : Int32)) hx hb dL_law_522 (by decide) ?_
  refine lv_iadd hx hb dL_law_523 ?_
  refine va_sld hx hb hX hbl hbA hS (i := nI q + (1 : Int32)) (lz_in hq hL 1 (by decide)) dL_law_524 ?_
  refine qV_i (ws' := (wX A cI x9 n9 mm k ++ wM B cI t)) (As := [.int (xs (nI q + (1 : Int32)).toNatClampNeg)]) (rest := []) ⟨hx, hb, hml, hown, hts⟩ hK hN hA hP hD hS c1 (cwV 1 hts gL_law_X1_months rfl rfl rfl hd_X1_months ⟨Nat.le_of_ble_eq_true rfl, Nat.le_of_ble_eq_true rfl⟩) (lrc_1 hK hP) (lbp_1 A B cI x n mm k t _ _ _ _) rfl hl.1 rfl (Nat.le_of_ble_eq_true rfl) dL_law_525 ⟨Nat.le_of_ble_eq_true rfl, Nat.le_of_ble_eq_true rfl⟩ (fun H locs hP hD hS => ?_)
  refine lv_aload_n hx hb dL_law_528 rfl (lv_at hl 1 rfl) ?_
  refine lv_aload_n hx hb dL_law_529 rfl (lv_at hl 3 rfl) ?_
  refine lv_iload_n hx hb dL_law_530 rfl (lv_at hl 0 rfl) ?_
  refine lv_iconst (v := (1 : Int32)) hx hb dL_law_531 (by decide) ?_
  refine lv_iadd hx hb dL_law_532 ?_
  refine va_sld hx hb hX hbl hbA hS (i := nI q + (1 : Int32)) (lz_in hq hL 1 (by decide)) dL_law_533 ?_
  refine qV_i (ws' := (wX A cI x9 n9 mm k ++ wM B cI t9)) (As := [.int (xs (nI q + (1 : Int32)).toNatClampNeg)]) (rest := [.int r]) ⟨hx, hb, hml, hown, hts⟩ hK hN hA hP hD hS c2 (cwV 1 hts gL_law_X2_months rfl rfl rfl hd_X2_months ⟨Nat.le_of_ble_eq_true rfl, Nat.le_of_ble_eq_true rfl⟩) (lrc_2 hK hP) (lbp_2 A B cI _ _ _ _ t _) rfl hl.1 rfl (Nat.le_of_ble_eq_true rfl) dL_law_534 ⟨Nat.le_of_ble_eq_true rfl, Nat.le_of_ble_eq_true rfl⟩ (fun H locs hP hD hS => ?_)
  refine lv_icmp_eq (tgt := 1229) hx hb dL_law_537 (by decide) (fun _ => ?_) (fun c => absurd rfl c)
  exact lc_go hx hb hl (fun ls1 hl1 => kk H locs ls1 x9 n9 mm k t9 ⟨hR, hP, hD, hS, hl1⟩)
theorem hd_X1_cardThen : yX1_cardThen.cls = RX1 ∧ yX1_cardThen.cls ≠ "java/lang/invoke/MethodHandle" ∧ yX1_cardThen.cls ≠ "java/lang/invoke/VarHandle" ∧ (parseMethodDescriptor yX1_cardThen.desc).map (fun d => d.parameters.length) = some 2 := by decide +kernel
theorem hd_X2_cardThen : yX2_cardThen.cls = RX2 ∧ yX2_cardThen.cls ≠ "java/lang/invoke/MethodHandle" ∧ yX2_cardThen.cls ≠ "java/lang/invoke/VarHandle" ∧ (parseMethodDescriptor yX2_cardThen.desc).map (fun d => d.parameters.length) = some 2 := by decide +kernel
set_option maxHeartbeats 4000000 in
set_option maxRecDepth 100000 in
theorem lc_cardThen (C : LC p s m meth c b L xs D cI zA zV) (hq : q + 6 ≤ L) (hL : L ≤ 3072) (hI : LQ s b D cI A B q H locs ls x n mm k t) (kk : ∀ H1 locs1 ls1 x1 n1 m1 k1 t1, LQ s b D cI A B (q + 6) H1 locs1 ls1 x1 n1 m1 k1 t1 → W p l e room_1 s m #[Value.ref b] below meth c H1 locs1 57 1084 Q (F0 m 18 ls1 [])) : W p l e room_1 s m #[Value.ref b] below meth c H locs 57 1084 Q (F0 m 542 ls []) := by
  obtain ⟨hR, hP, hD, hS, hl⟩ := hI
  obtain ⟨hx, hb, hr, hml, hown, hts, hX, hbl, hlocks, hK, hN, hz⟩ := C
  have hA : ∀ q : Nat, s.heap.size ≤ q → (fun q : Nat => s.heap.size ≤ q) q := fun _ h => h
  have hbA : ¬ (fun q : Nat => s.heap.size ≤ q) b := Nat.not_le.mpr hbl
  obtain ⟨r, x9, m9, t9, e1, e2, hR⟩ := cardThen_XM hR (xs (nI q + (1 : Int32)).toNatClampNeg) (xs (nI q + (2 : Int32)).toNatClampNeg)
  have c1 : uI l D cI yX1_cardThen wsX1_cardThen ({ frames := 5, cells := 0, slots := 0, locals := 128 } : Room) (.ref (A 0 0) :: [.int (xs (nI q + (1 : Int32)).toNatClampNeg), .int (xs (nI q + (2 : Int32)).toNatClampNeg)]) (wX A cI x n mm k) (wX A cI x9 n m9 k) r := c_X1_cardThen l D cI A (xs (nI q + (1 : Int32)).toNatClampNeg) (xs (nI q + (2 : Int32)).toNatClampNeg) x n mm k (r, x9, m9) e1
  have c2 : uI l D cI yX2_cardThen wsX2_cardThen ({ frames := 9, cells := 0, slots := 0, locals := 204 } : Room) (.ref (B 0) :: [.int (xs (nI q + (1 : Int32)).toNatClampNeg), .int (xs (nI q + (2 : Int32)).toNatClampNeg)]) (wM B cI t) (wM B cI t9) r := c_X2_cardThen l D cI B (xs (nI q + (1 : Int32)).toNatClampNeg) (xs (nI q + (2 : Int32)).toNatClampNeg) t (r, t9) e2
  refine lv_aload_n hx hb dL_law_542 rfl (lv_at hl 2 rfl) ?_
  refine lv_aload_n hx hb dL_law_543 rfl (lv_at hl 3 rfl) ?_
  refine lv_iload_n hx hb dL_law_544 rfl (lv_at hl 0 rfl) ?_
  refine lv_iconst (v := (1 : Int32)) hx hb dL_law_545 (by decide) ?_
  refine lv_iadd hx hb dL_law_546 ?_
  refine va_sld hx hb hX hbl hbA hS (i := nI q + (1 : Int32)) (lz_in hq hL 1 (by decide)) dL_law_547 ?_
  refine lv_aload_n hx hb dL_law_548 rfl (lv_at hl 3 rfl) ?_
  refine lv_iload_n hx hb dL_law_549 rfl (lv_at hl 0 rfl) ?_
  refine lv_iconst (v := (2 : Int32)) hx hb dL_law_550 (by decide) ?_
  refine lv_iadd hx hb dL_law_551 ?_
  refine va_sld hx hb hX hbl hbA hS (i := nI q + (2 : Int32)) (lz_in hq hL 2 (by decide)) dL_law_552 ?_
  refine qV_i (ws' := (wX A cI x9 n m9 k ++ wM B cI t)) (As := [.int (xs (nI q + (1 : Int32)).toNatClampNeg), .int (xs (nI q + (2 : Int32)).toNatClampNeg)]) (rest := []) ⟨hx, hb, hml, hown, hts⟩ hK hN hA hP hD hS c1 (cwV 2 hts gL_law_X1_cardThen rfl rfl rfl hd_X1_cardThen ⟨Nat.le_of_ble_eq_true rfl, Nat.le_of_ble_eq_true rfl⟩) (lrc_1 hK hP) (lbp_1 A B cI x n mm k t _ _ _ _) rfl hl.1 rfl (Nat.le_of_ble_eq_true rfl) dL_law_553 ⟨Nat.le_of_ble_eq_true rfl, Nat.le_of_ble_eq_true rfl⟩ (fun H locs hP hD hS => ?_)
  refine lv_aload_n hx hb dL_law_556 rfl (lv_at hl 1 rfl) ?_
  refine lv_aload_n hx hb dL_law_557 rfl (lv_at hl 3 rfl) ?_
  refine lv_iload_n hx hb dL_law_558 rfl (lv_at hl 0 rfl) ?_
  refine lv_iconst (v := (1 : Int32)) hx hb dL_law_559 (by decide) ?_
  refine lv_iadd hx hb dL_law_560 ?_
  refine va_sld hx hb hX hbl hbA hS (i := nI q + (1 : Int32)) (lz_in hq hL 1 (by decide)) dL_law_561 ?_
  refine lv_aload_n hx hb dL_law_562 rfl (lv_at hl 3 rfl) ?_
  refine lv_iload_n hx hb dL_law_563 rfl (lv_at hl 0 rfl) ?_
  refine lv_iconst (v := (2 : Int32)) hx hb dL_law_564 (by decide) ?_
  refine lv_iadd hx hb dL_law_565 ?_
  refine va_sld hx hb hX hbl hbA hS (i := nI q + (2 : Int32)) (lz_in hq hL 2 (by decide)) dL_law_566 ?_
  refine qV_i (ws' := (wX A cI x9 n m9 k ++ wM B cI t9)) (As := [.int (xs (nI q + (1 : Int32)).toNatClampNeg), .int (xs (nI q + (2 : Int32)).toNatClampNeg)]) (rest := [.int r]) ⟨hx, hb, hml, hown, hts⟩ hK hN hA hP hD hS c2 (cwV 2 hts gL_law_X2_cardThen rfl rfl rfl hd_X2_cardThen ⟨Nat.le_of_ble_eq_true rfl, Nat.le_of_ble_eq_true rfl⟩) (lrc_2 hK hP) (lbp_2 A B cI _ _ _ _ t _) rfl hl.1 rfl (Nat.le_of_ble_eq_true rfl) dL_law_567 ⟨Nat.le_of_ble_eq_true rfl, Nat.le_of_ble_eq_true rfl⟩ (fun H locs hP hD hS => ?_)
  refine lv_icmp_eq (tgt := 1229) hx hb dL_law_570 (by decide) (fun _ => ?_) (fun c => absurd rfl c)
  exact lc_go hx hb hl (fun ls1 hl1 => kk H locs ls1 x9 n m9 k t9 ⟨hR, hP, hD, hS, hl1⟩)
theorem hd_X1_bidderThen : yX1_bidderThen.cls = RX1 ∧ yX1_bidderThen.cls ≠ "java/lang/invoke/MethodHandle" ∧ yX1_bidderThen.cls ≠ "java/lang/invoke/VarHandle" ∧ (parseMethodDescriptor yX1_bidderThen.desc).map (fun d => d.parameters.length) = some 3 := by decide +kernel
theorem hd_X2_bidderThen : yX2_bidderThen.cls = RX2 ∧ yX2_bidderThen.cls ≠ "java/lang/invoke/MethodHandle" ∧ yX2_bidderThen.cls ≠ "java/lang/invoke/VarHandle" ∧ (parseMethodDescriptor yX2_bidderThen.desc).map (fun d => d.parameters.length) = some 3 := by decide +kernel
set_option maxHeartbeats 4000000 in
set_option maxRecDepth 100000 in
theorem lc_bidderThen (C : LC p s m meth c b L xs D cI zA zV) (hq : q + 6 ≤ L) (hL : L ≤ 3072) (hI : LQ s b D cI A B q H locs ls x n mm k t) (kk : ∀ H1 locs1 ls1 x1 n1 m1 k1 t1, LQ s b D cI A B (q + 6) H1 locs1 ls1 x1 n1 m1 k1 t1 → W p l e room_1 s m #[Value.ref b] below meth c H1 locs1 57 1084 Q (F0 m 18 ls1 [])) : W p l e room_1 s m #[Value.ref b] below meth c H locs 57 1084 Q (F0 m 575 ls []) := by
  obtain ⟨hR, hP, hD, hS, hl⟩ := hI
  obtain ⟨hx, hb, hr, hml, hown, hts, hX, hbl, hlocks, hK, hN, hz⟩ := C
  have hA : ∀ q : Nat, s.heap.size ≤ q → (fun q : Nat => s.heap.size ≤ q) q := fun _ h => h
  have hbA : ¬ (fun q : Nat => s.heap.size ≤ q) b := Nat.not_le.mpr hbl
  obtain ⟨r, x9, m9, t9, e1, e2, hR⟩ := bidderThen_XM hR (xs (nI q + (1 : Int32)).toNatClampNeg) (xs (nI q + (2 : Int32)).toNatClampNeg) (xs (nI q + (3 : Int32)).toNatClampNeg)
  have c1 : uI l D cI yX1_bidderThen wsX1_bidderThen ({ frames := 5, cells := 0, slots := 0, locals := 128 } : Room) (.ref (A 0 0) :: [.int (xs (nI q + (1 : Int32)).toNatClampNeg), .int (xs (nI q + (2 : Int32)).toNatClampNeg), .int (xs (nI q + (3 : Int32)).toNatClampNeg)]) (wX A cI x n mm k) (wX A cI x9 n m9 k) r := c_X1_bidderThen l D cI A (xs (nI q + (1 : Int32)).toNatClampNeg) (xs (nI q + (2 : Int32)).toNatClampNeg) (xs (nI q + (3 : Int32)).toNatClampNeg) x n mm k (r, x9, m9) e1
  have c2 : uI l D cI yX2_bidderThen wsX2_bidderThen ({ frames := 9, cells := 0, slots := 0, locals := 204 } : Room) (.ref (B 0) :: [.int (xs (nI q + (1 : Int32)).toNatClampNeg), .int (xs (nI q + (2 : Int32)).toNatClampNeg), .int (xs (nI q + (3 : Int32)).toNatClampNeg)]) (wM B cI t) (wM B cI t9) r := c_X2_bidderThen l D cI B (xs (nI q + (1 : Int32)).toNatClampNeg) (xs (nI q + (2 : Int32)).toNatClampNeg) (xs (nI q + (3 : Int32)).toNatClampNeg) t (r, t9) e2
  refine lv_aload_n hx hb dL_law_575 rfl (lv_at hl 2 rfl) ?_
  refine lv_aload_n hx hb dL_law_576 rfl (lv_at hl 3 rfl) ?_
  refine lv_iload_n hx hb dL_law_577 rfl (lv_at hl 0 rfl) ?_
  refine lv_iconst (v := (1 : Int32)) hx hb dL_law_578 (by decide) ?_
  refine lv_iadd hx hb dL_law_579 ?_
  refine va_sld hx hb hX hbl hbA hS (i := nI q + (1 : Int32)) (lz_in hq hL 1 (by decide)) dL_law_580 ?_
  refine lv_aload_n hx hb dL_law_581 rfl (lv_at hl 3 rfl) ?_
  refine lv_iload_n hx hb dL_law_582 rfl (lv_at hl 0 rfl) ?_
  refine lv_iconst (v := (2 : Int32)) hx hb dL_law_583 (by decide) ?_
  refine lv_iadd hx hb dL_law_584 ?_
  refine va_sld hx hb hX hbl hbA hS (i := nI q + (2 : Int32)) (lz_in hq hL 2 (by decide)) dL_law_585 ?_
  refine lv_aload_n hx hb dL_law_586 rfl (lv_at hl 3 rfl) ?_
  refine lv_iload_n hx hb dL_law_587 rfl (lv_at hl 0 rfl) ?_
  refine lv_iconst (v := (3 : Int32)) hx hb dL_law_588 (by decide) ?_
  refine lv_iadd hx hb dL_law_589 ?_
  refine va_sld hx hb hX hbl hbA hS (i := nI q + (3 : Int32)) (lz_in hq hL 3 (by decide)) dL_law_590 ?_
  refine qV_i (ws' := (wX A cI x9 n m9 k ++ wM B cI t)) (As := [.int (xs (nI q + (1 : Int32)).toNatClampNeg), .int (xs (nI q + (2 : Int32)).toNatClampNeg), .int (xs (nI q + (3 : Int32)).toNatClampNeg)]) (rest := []) ⟨hx, hb, hml, hown, hts⟩ hK hN hA hP hD hS c1 (cwV 3 hts gL_law_X1_bidderThen rfl rfl rfl hd_X1_bidderThen ⟨Nat.le_of_ble_eq_true rfl, Nat.le_of_ble_eq_true rfl⟩) (lrc_1 hK hP) (lbp_1 A B cI x n mm k t _ _ _ _) rfl hl.1 rfl (Nat.le_of_ble_eq_true rfl) dL_law_591 ⟨Nat.le_of_ble_eq_true rfl, Nat.le_of_ble_eq_true rfl⟩ (fun H locs hP hD hS => ?_)
  refine lv_aload_n hx hb dL_law_594 rfl (lv_at hl 1 rfl) ?_
  refine lv_aload_n hx hb dL_law_595 rfl (lv_at hl 3 rfl) ?_
  refine lv_iload_n hx hb dL_law_596 rfl (lv_at hl 0 rfl) ?_
  refine lv_iconst (v := (1 : Int32)) hx hb dL_law_597 (by decide) ?_
  refine lv_iadd hx hb dL_law_598 ?_
  refine va_sld hx hb hX hbl hbA hS (i := nI q + (1 : Int32)) (lz_in hq hL 1 (by decide)) dL_law_599 ?_
  refine lv_aload_n hx hb dL_law_600 rfl (lv_at hl 3 rfl) ?_
  refine lv_iload_n hx hb dL_law_601 rfl (lv_at hl 0 rfl) ?_
  refine lv_iconst (v := (2 : Int32)) hx hb dL_law_602 (by decide) ?_
  refine lv_iadd hx hb dL_law_603 ?_
  refine va_sld hx hb hX hbl hbA hS (i := nI q + (2 : Int32)) (lz_in hq hL 2 (by decide)) dL_law_604 ?_
  refine lv_aload_n hx hb dL_law_605 rfl (lv_at hl 3 rfl) ?_
  refine lv_iload_n hx hb dL_law_606 rfl (lv_at hl 0 rfl) ?_
  refine lv_iconst (v := (3 : Int32)) hx hb dL_law_607 (by decide) ?_
  refine lv_iadd hx hb dL_law_608 ?_
  refine va_sld hx hb hX hbl hbA hS (i := nI q + (3 : Int32)) (lz_in hq hL 3 (by decide)) dL_law_609 ?_
  refine qV_i (ws' := (wX A cI x9 n m9 k ++ wM B cI t9)) (As := [.int (xs (nI q + (1 : Int32)).toNatClampNeg), .int (xs (nI q + (2 : Int32)).toNatClampNeg), .int (xs (nI q + (3 : Int32)).toNatClampNeg)]) (rest := [.int r]) ⟨hx, hb, hml, hown, hts⟩ hK hN hA hP hD hS c2 (cwV 3 hts gL_law_X2_bidderThen rfl rfl rfl hd_X2_bidderThen ⟨Nat.le_of_ble_eq_true rfl, Nat.le_of_ble_eq_true rfl⟩) (lrc_2 hK hP) (lbp_2 A B cI _ _ _ _ t _) rfl hl.1 rfl (Nat.le_of_ble_eq_true rfl) dL_law_610 ⟨Nat.le_of_ble_eq_true rfl, Nat.le_of_ble_eq_true rfl⟩ (fun H locs hP hD hS => ?_)
  refine lv_icmp_eq (tgt := 1229) hx hb dL_law_613 (by decide) (fun _ => ?_) (fun c => absurd rfl c)
  exact lc_go hx hb hl (fun ls1 hl1 => kk H locs ls1 x9 n m9 k t9 ⟨hR, hP, hD, hS, hl1⟩)
theorem hd_X1_pileThen : yX1_pileThen.cls = RX1 ∧ yX1_pileThen.cls ≠ "java/lang/invoke/MethodHandle" ∧ yX1_pileThen.cls ≠ "java/lang/invoke/VarHandle" ∧ (parseMethodDescriptor yX1_pileThen.desc).map (fun d => d.parameters.length) = some 1 := by decide +kernel
theorem hd_X2_pileThen : yX2_pileThen.cls = RX2 ∧ yX2_pileThen.cls ≠ "java/lang/invoke/MethodHandle" ∧ yX2_pileThen.cls ≠ "java/lang/invoke/VarHandle" ∧ (parseMethodDescriptor yX2_pileThen.desc).map (fun d => d.parameters.length) = some 1 := by decide +kernel
set_option maxHeartbeats 4000000 in
set_option maxRecDepth 100000 in
theorem lc_pileThen (C : LC p s m meth c b L xs D cI zA zV) (hq : q + 6 ≤ L) (hL : L ≤ 3072) (hI : LQ s b D cI A B q H locs ls x n mm k t) (kk : ∀ H1 locs1 ls1 x1 n1 m1 k1 t1, LQ s b D cI A B (q + 6) H1 locs1 ls1 x1 n1 m1 k1 t1 → W p l e room_1 s m #[Value.ref b] below meth c H1 locs1 57 1084 Q (F0 m 18 ls1 [])) : W p l e room_1 s m #[Value.ref b] below meth c H locs 57 1084 Q (F0 m 618 ls []) := by
  obtain ⟨hR, hP, hD, hS, hl⟩ := hI
  obtain ⟨hx, hb, hr, hml, hown, hts, hX, hbl, hlocks, hK, hN, hz⟩ := C
  have hA : ∀ q : Nat, s.heap.size ≤ q → (fun q : Nat => s.heap.size ≤ q) q := fun _ h => h
  have hbA : ¬ (fun q : Nat => s.heap.size ≤ q) b := Nat.not_le.mpr hbl
  obtain ⟨r, x9, m9, t9, e1, e2, hR⟩ := pileThen_XM hR (xs (nI q + (1 : Int32)).toNatClampNeg)
  have c1 : uI l D cI yX1_pileThen wsX1_pileThen ({ frames := 5, cells := 0, slots := 0, locals := 128 } : Room) (.ref (A 0 0) :: [.int (xs (nI q + (1 : Int32)).toNatClampNeg)]) (wX A cI x n mm k) (wX A cI x9 n m9 k) r := c_X1_pileThen l D cI A (xs (nI q + (1 : Int32)).toNatClampNeg) x n mm k (r, x9, m9) e1
  have c2 : uI l D cI yX2_pileThen wsX2_pileThen ({ frames := 9, cells := 0, slots := 0, locals := 204 } : Room) (.ref (B 0) :: [.int (xs (nI q + (1 : Int32)).toNatClampNeg)]) (wM B cI t) (wM B cI t9) r := c_X2_pileThen l D cI B (xs (nI q + (1 : Int32)).toNatClampNeg) t (r, t9) e2
  refine lv_aload_n hx hb dL_law_618 rfl (lv_at hl 2 rfl) ?_
  refine lv_aload_n hx hb dL_law_619 rfl (lv_at hl 3 rfl) ?_
  refine lv_iload_n hx hb dL_law_620 rfl (lv_at hl 0 rfl) ?_
  refine lv_iconst (v := (1 : Int32)) hx hb dL_law_621 (by decide) ?_
  refine lv_iadd hx hb dL_law_622 ?_
  refine va_sld hx hb hX hbl hbA hS (i := nI q + (1 : Int32)) (lz_in hq hL 1 (by decide)) dL_law_623 ?_
  refine qV_i (ws' := (wX A cI x9 n m9 k ++ wM B cI t)) (As := [.int (xs (nI q + (1 : Int32)).toNatClampNeg)]) (rest := []) ⟨hx, hb, hml, hown, hts⟩ hK hN hA hP hD hS c1 (cwV 1 hts gL_law_X1_pileThen rfl rfl rfl hd_X1_pileThen ⟨Nat.le_of_ble_eq_true rfl, Nat.le_of_ble_eq_true rfl⟩) (lrc_1 hK hP) (lbp_1 A B cI x n mm k t _ _ _ _) rfl hl.1 rfl (Nat.le_of_ble_eq_true rfl) dL_law_624 ⟨Nat.le_of_ble_eq_true rfl, Nat.le_of_ble_eq_true rfl⟩ (fun H locs hP hD hS => ?_)
  refine lv_aload_n hx hb dL_law_627 rfl (lv_at hl 1 rfl) ?_
  refine lv_aload_n hx hb dL_law_628 rfl (lv_at hl 3 rfl) ?_
  refine lv_iload_n hx hb dL_law_629 rfl (lv_at hl 0 rfl) ?_
  refine lv_iconst (v := (1 : Int32)) hx hb dL_law_630 (by decide) ?_
  refine lv_iadd hx hb dL_law_631 ?_
  refine va_sld hx hb hX hbl hbA hS (i := nI q + (1 : Int32)) (lz_in hq hL 1 (by decide)) dL_law_632 ?_
  refine qV_i (ws' := (wX A cI x9 n m9 k ++ wM B cI t9)) (As := [.int (xs (nI q + (1 : Int32)).toNatClampNeg)]) (rest := [.int r]) ⟨hx, hb, hml, hown, hts⟩ hK hN hA hP hD hS c2 (cwV 1 hts gL_law_X2_pileThen rfl rfl rfl hd_X2_pileThen ⟨Nat.le_of_ble_eq_true rfl, Nat.le_of_ble_eq_true rfl⟩) (lrc_2 hK hP) (lbp_2 A B cI _ _ _ _ t _) rfl hl.1 rfl (Nat.le_of_ble_eq_true rfl) dL_law_633 ⟨Nat.le_of_ble_eq_true rfl, Nat.le_of_ble_eq_true rfl⟩ (fun H locs hP hD hS => ?_)
  refine lv_icmp_eq (tgt := 1229) hx hb dL_law_636 (by decide) (fun _ => ?_) (fun c => absurd rfl c)
  exact lc_go hx hb hl (fun ls1 hl1 => kk H locs ls1 x9 n m9 k t9 ⟨hR, hP, hD, hS, hl1⟩)
theorem hd_X1_sold : yX1_sold.cls = RX1 ∧ yX1_sold.cls ≠ "java/lang/invoke/MethodHandle" ∧ yX1_sold.cls ≠ "java/lang/invoke/VarHandle" ∧ (parseMethodDescriptor yX1_sold.desc).map (fun d => d.parameters.length) = some 1 := by decide +kernel
theorem hd_X2_sold : yX2_sold.cls = RX2 ∧ yX2_sold.cls ≠ "java/lang/invoke/MethodHandle" ∧ yX2_sold.cls ≠ "java/lang/invoke/VarHandle" ∧ (parseMethodDescriptor yX2_sold.desc).map (fun d => d.parameters.length) = some 1 := by decide +kernel
set_option maxHeartbeats 4000000 in
set_option maxRecDepth 100000 in
theorem lc_sold (C : LC p s m meth c b L xs D cI zA zV) (hq : q + 6 ≤ L) (hL : L ≤ 3072) (hI : LQ s b D cI A B q H locs ls x n mm k t) (kk : ∀ H1 locs1 ls1 x1 n1 m1 k1 t1, LQ s b D cI A B (q + 6) H1 locs1 ls1 x1 n1 m1 k1 t1 → W p l e room_1 s m #[Value.ref b] below meth c H1 locs1 57 1084 Q (F0 m 18 ls1 [])) : W p l e room_1 s m #[Value.ref b] below meth c H locs 57 1084 Q (F0 m 641 ls []) := by
  obtain ⟨hR, hP, hD, hS, hl⟩ := hI
  obtain ⟨hx, hb, hr, hml, hown, hts, hX, hbl, hlocks, hK, hN, hz⟩ := C
  have hA : ∀ q : Nat, s.heap.size ≤ q → (fun q : Nat => s.heap.size ≤ q) q := fun _ h => h
  have hbA : ¬ (fun q : Nat => s.heap.size ≤ q) b := Nat.not_le.mpr hbl
  obtain ⟨r, x9, m9, t9, e1, e2, hR⟩ := sold_XM hR (xs (nI q + (1 : Int32)).toNatClampNeg)
  have c1 : uI l D cI yX1_sold wsX1_sold ({ frames := 5, cells := 0, slots := 0, locals := 128 } : Room) (.ref (A 0 0) :: [.int (xs (nI q + (1 : Int32)).toNatClampNeg)]) (wX A cI x n mm k) (wX A cI x9 n m9 k) r := c_X1_sold l D cI A (xs (nI q + (1 : Int32)).toNatClampNeg) x n mm k (r, x9, m9) e1
  have c2 : uI l D cI yX2_sold wsX2_sold ({ frames := 8, cells := 0, slots := 0, locals := 182 } : Room) (.ref (B 0) :: [.int (xs (nI q + (1 : Int32)).toNatClampNeg)]) (wM B cI t) (wM B cI t9) r := c_X2_sold l D cI B (xs (nI q + (1 : Int32)).toNatClampNeg) t (r, t9) e2
  refine lv_aload_n hx hb dL_law_641 rfl (lv_at hl 2 rfl) ?_
  refine lv_aload_n hx hb dL_law_642 rfl (lv_at hl 3 rfl) ?_
  refine lv_iload_n hx hb dL_law_643 rfl (lv_at hl 0 rfl) ?_
  refine lv_iconst (v := (1 : Int32)) hx hb dL_law_644 (by decide) ?_
  refine lv_iadd hx hb dL_law_645 ?_
  refine va_sld hx hb hX hbl hbA hS (i := nI q + (1 : Int32)) (lz_in hq hL 1 (by decide)) dL_law_646 ?_
  refine qV_i (ws' := (wX A cI x9 n m9 k ++ wM B cI t)) (As := [.int (xs (nI q + (1 : Int32)).toNatClampNeg)]) (rest := []) ⟨hx, hb, hml, hown, hts⟩ hK hN hA hP hD hS c1 (cwV 1 hts gL_law_X1_sold rfl rfl rfl hd_X1_sold ⟨Nat.le_of_ble_eq_true rfl, Nat.le_of_ble_eq_true rfl⟩) (lrc_1 hK hP) (lbp_1 A B cI x n mm k t _ _ _ _) rfl hl.1 rfl (Nat.le_of_ble_eq_true rfl) dL_law_647 ⟨Nat.le_of_ble_eq_true rfl, Nat.le_of_ble_eq_true rfl⟩ (fun H locs hP hD hS => ?_)
  refine lv_aload_n hx hb dL_law_650 rfl (lv_at hl 1 rfl) ?_
  refine lv_aload_n hx hb dL_law_651 rfl (lv_at hl 3 rfl) ?_
  refine lv_iload_n hx hb dL_law_652 rfl (lv_at hl 0 rfl) ?_
  refine lv_iconst (v := (1 : Int32)) hx hb dL_law_653 (by decide) ?_
  refine lv_iadd hx hb dL_law_654 ?_
  refine va_sld hx hb hX hbl hbA hS (i := nI q + (1 : Int32)) (lz_in hq hL 1 (by decide)) dL_law_655 ?_
  refine qV_i (ws' := (wX A cI x9 n m9 k ++ wM B cI t9)) (As := [.int (xs (nI q + (1 : Int32)).toNatClampNeg)]) (rest := [.int r]) ⟨hx, hb, hml, hown, hts⟩ hK hN hA hP hD hS c2 (cwV 1 hts gL_law_X2_sold rfl rfl rfl hd_X2_sold ⟨Nat.le_of_ble_eq_true rfl, Nat.le_of_ble_eq_true rfl⟩) (lrc_2 hK hP) (lbp_2 A B cI _ _ _ _ t _) rfl hl.1 rfl (Nat.le_of_ble_eq_true rfl) dL_law_656 ⟨Nat.le_of_ble_eq_true rfl, Nat.le_of_ble_eq_true rfl⟩ (fun H locs hP hD hS => ?_)
  refine lv_icmp_eq (tgt := 1229) hx hb dL_law_659 (by decide) (fun _ => ?_) (fun c => absurd rfl c)
  exact lc_go hx hb hl (fun ls1 hl1 => kk H locs ls1 x9 n m9 k t9 ⟨hR, hP, hD, hS, hl1⟩)
theorem hd_X1_gets : yX1_gets.cls = RX1 ∧ yX1_gets.cls ≠ "java/lang/invoke/MethodHandle" ∧ yX1_gets.cls ≠ "java/lang/invoke/VarHandle" ∧ (parseMethodDescriptor yX1_gets.desc).map (fun d => d.parameters.length) = some 2 := by decide +kernel
theorem hd_X2_gets : yX2_gets.cls = RX2 ∧ yX2_gets.cls ≠ "java/lang/invoke/MethodHandle" ∧ yX2_gets.cls ≠ "java/lang/invoke/VarHandle" ∧ (parseMethodDescriptor yX2_gets.desc).map (fun d => d.parameters.length) = some 2 := by decide +kernel
set_option maxHeartbeats 4000000 in
set_option maxRecDepth 100000 in
theorem lc_gets (C : LC p s m meth c b L xs D cI zA zV) (hq : q + 6 ≤ L) (hL : L ≤ 3072) (hI : LQ s b D cI A B q H locs ls x n mm k t) (kk : ∀ H1 locs1 ls1 x1 n1 m1 k1 t1, LQ s b D cI A B (q + 6) H1 locs1 ls1 x1 n1 m1 k1 t1 → W p l e room_1 s m #[Value.ref b] below meth c H1 locs1 57 1084 Q (F0 m 18 ls1 [])) : W p l e room_1 s m #[Value.ref b] below meth c H locs 57 1084 Q (F0 m 664 ls []) := by
  obtain ⟨hR, hP, hD, hS, hl⟩ := hI
  obtain ⟨hx, hb, hr, hml, hown, hts, hX, hbl, hlocks, hK, hN, hz⟩ := C
  have hA : ∀ q : Nat, s.heap.size ≤ q → (fun q : Nat => s.heap.size ≤ q) q := fun _ h => h
  have hbA : ¬ (fun q : Nat => s.heap.size ≤ q) b := Nat.not_le.mpr hbl
  obtain ⟨r, x9, t9, e1, e2, hR⟩ := gets_XM hR (xs (nI q + (1 : Int32)).toNatClampNeg) (xs (nI q + (2 : Int32)).toNatClampNeg)
  have c1 : uI l D cI yX1_gets wsX1_gets ({ frames := 3, cells := 0, slots := 0, locals := 77 } : Room) (.ref (A 0 0) :: [.int (xs (nI q + (1 : Int32)).toNatClampNeg), .int (xs (nI q + (2 : Int32)).toNatClampNeg)]) (wX A cI x n mm k) (wX A cI x9 n mm k) r := c_X1_gets l D cI A (xs (nI q + (1 : Int32)).toNatClampNeg) (xs (nI q + (2 : Int32)).toNatClampNeg) x n mm k (r, x9) e1
  have c2 : uI l D cI yX2_gets wsX2_gets ({ frames := 6, cells := 0, slots := 0, locals := 136 } : Room) (.ref (B 0) :: [.int (xs (nI q + (1 : Int32)).toNatClampNeg), .int (xs (nI q + (2 : Int32)).toNatClampNeg)]) (wM B cI t) (wM B cI t9) r := c_X2_gets l D cI B (xs (nI q + (1 : Int32)).toNatClampNeg) (xs (nI q + (2 : Int32)).toNatClampNeg) t (r, t9) e2
  refine lv_aload_n hx hb dL_law_664 rfl (lv_at hl 2 rfl) ?_
  refine lv_aload_n hx hb dL_law_665 rfl (lv_at hl 3 rfl) ?_
  refine lv_iload_n hx hb dL_law_666 rfl (lv_at hl 0 rfl) ?_
  refine lv_iconst (v := (1 : Int32)) hx hb dL_law_667 (by decide) ?_
  refine lv_iadd hx hb dL_law_668 ?_
  refine va_sld hx hb hX hbl hbA hS (i := nI q + (1 : Int32)) (lz_in hq hL 1 (by decide)) dL_law_669 ?_
  refine lv_aload_n hx hb dL_law_670 rfl (lv_at hl 3 rfl) ?_
  refine lv_iload_n hx hb dL_law_671 rfl (lv_at hl 0 rfl) ?_
  refine lv_iconst (v := (2 : Int32)) hx hb dL_law_672 (by decide) ?_
  refine lv_iadd hx hb dL_law_673 ?_
  refine va_sld hx hb hX hbl hbA hS (i := nI q + (2 : Int32)) (lz_in hq hL 2 (by decide)) dL_law_674 ?_
  refine qV_i (ws' := (wX A cI x9 n mm k ++ wM B cI t)) (As := [.int (xs (nI q + (1 : Int32)).toNatClampNeg), .int (xs (nI q + (2 : Int32)).toNatClampNeg)]) (rest := []) ⟨hx, hb, hml, hown, hts⟩ hK hN hA hP hD hS c1 (cwV 2 hts gL_law_X1_gets rfl rfl rfl hd_X1_gets ⟨Nat.le_of_ble_eq_true rfl, Nat.le_of_ble_eq_true rfl⟩) (lrc_1 hK hP) (lbp_1 A B cI x n mm k t _ _ _ _) rfl hl.1 rfl (Nat.le_of_ble_eq_true rfl) dL_law_675 ⟨Nat.le_of_ble_eq_true rfl, Nat.le_of_ble_eq_true rfl⟩ (fun H locs hP hD hS => ?_)
  refine lv_aload_n hx hb dL_law_678 rfl (lv_at hl 1 rfl) ?_
  refine lv_aload_n hx hb dL_law_679 rfl (lv_at hl 3 rfl) ?_
  refine lv_iload_n hx hb dL_law_680 rfl (lv_at hl 0 rfl) ?_
  refine lv_iconst (v := (1 : Int32)) hx hb dL_law_681 (by decide) ?_
  refine lv_iadd hx hb dL_law_682 ?_
  refine va_sld hx hb hX hbl hbA hS (i := nI q + (1 : Int32)) (lz_in hq hL 1 (by decide)) dL_law_683 ?_
  refine lv_aload_n hx hb dL_law_684 rfl (lv_at hl 3 rfl) ?_
  refine lv_iload_n hx hb dL_law_685 rfl (lv_at hl 0 rfl) ?_
  refine lv_iconst (v := (2 : Int32)) hx hb dL_law_686 (by decide) ?_
  refine lv_iadd hx hb dL_law_687 ?_
  refine va_sld hx hb hX hbl hbA hS (i := nI q + (2 : Int32)) (lz_in hq hL 2 (by decide)) dL_law_688 ?_
  refine qV_i (ws' := (wX A cI x9 n mm k ++ wM B cI t9)) (As := [.int (xs (nI q + (1 : Int32)).toNatClampNeg), .int (xs (nI q + (2 : Int32)).toNatClampNeg)]) (rest := [.int r]) ⟨hx, hb, hml, hown, hts⟩ hK hN hA hP hD hS c2 (cwV 2 hts gL_law_X2_gets rfl rfl rfl hd_X2_gets ⟨Nat.le_of_ble_eq_true rfl, Nat.le_of_ble_eq_true rfl⟩) (lrc_2 hK hP) (lbp_2 A B cI _ _ _ _ t _) rfl hl.1 rfl (Nat.le_of_ble_eq_true rfl) dL_law_689 ⟨Nat.le_of_ble_eq_true rfl, Nat.le_of_ble_eq_true rfl⟩ (fun H locs hP hD hS => ?_)
  refine lv_icmp_eq (tgt := 1229) hx hb dL_law_692 (by decide) (fun _ => ?_) (fun c => absurd rfl c)
  exact lc_go hx hb hl (fun ls1 hl1 => kk H locs ls1 x9 n mm k t9 ⟨hR, hP, hD, hS, hl1⟩)
theorem hd_X1_out : yX1_out.cls = RX1 ∧ yX1_out.cls ≠ "java/lang/invoke/MethodHandle" ∧ yX1_out.cls ≠ "java/lang/invoke/VarHandle" ∧ (parseMethodDescriptor yX1_out.desc).map (fun d => d.parameters.length) = some 0 := by decide +kernel
theorem hd_X2_out : yX2_out.cls = RX2 ∧ yX2_out.cls ≠ "java/lang/invoke/MethodHandle" ∧ yX2_out.cls ≠ "java/lang/invoke/VarHandle" ∧ (parseMethodDescriptor yX2_out.desc).map (fun d => d.parameters.length) = some 0 := by decide +kernel
set_option maxHeartbeats 4000000 in
set_option maxRecDepth 100000 in
theorem lc_out (C : LC p s m meth c b L xs D cI zA zV) (hq : q + 6 ≤ L) (hL : L ≤ 3072) (hI : LQ s b D cI A B q H locs ls x n mm k t) (kk : ∀ H1 locs1 ls1 x1 n1 m1 k1 t1, LQ s b D cI A B (q + 6) H1 locs1 ls1 x1 n1 m1 k1 t1 → W p l e room_1 s m #[Value.ref b] below meth c H1 locs1 57 1084 Q (F0 m 18 ls1 [])) : W p l e room_1 s m #[Value.ref b] below meth c H locs 57 1084 Q (F0 m 697 ls []) := by
  obtain ⟨hR, hP, hD, hS, hl⟩ := hI
  obtain ⟨hx, hb, hr, hml, hown, hts, hX, hbl, hlocks, hK, hN, hz⟩ := C
  have hA : ∀ q : Nat, s.heap.size ≤ q → (fun q : Nat => s.heap.size ≤ q) q := fun _ h => h
  have hbA : ¬ (fun q : Nat => s.heap.size ≤ q) b := Nat.not_le.mpr hbl
  obtain ⟨r, m9, t9, e1, e2, hR⟩ := out_XM hR 
  have c1 : uI l D cI yX1_out wsX1_out ({ frames := 5, cells := 0, slots := 0, locals := 128 } : Room) (.ref (A 0 0) :: []) (wX A cI x n mm k) (wX A cI x n m9 k) r := c_X1_out l D cI A  x n mm k (r, m9) e1
  have c2 : uI l D cI yX2_out wsX2_out ({ frames := 8, cells := 0, slots := 0, locals := 182 } : Room) (.ref (B 0) :: []) (wM B cI t) (wM B cI t9) r := c_X2_out l D cI B  t (r, t9) e2
  refine lv_aload_n hx hb dL_law_697 rfl (lv_at hl 2 rfl) ?_
  refine qV_i (ws' := (wX A cI x n m9 k ++ wM B cI t)) (As := []) (rest := []) ⟨hx, hb, hml, hown, hts⟩ hK hN hA hP hD hS c1 (cwV 0 hts gL_law_X1_out rfl rfl rfl hd_X1_out ⟨Nat.le_of_ble_eq_true rfl, Nat.le_of_ble_eq_true rfl⟩) (lrc_1 hK hP) (lbp_1 A B cI x n mm k t _ _ _ _) rfl hl.1 rfl (Nat.le_of_ble_eq_true rfl) dL_law_698 ⟨Nat.le_of_ble_eq_true rfl, Nat.le_of_ble_eq_true rfl⟩ (fun H locs hP hD hS => ?_)
  refine lv_aload_n hx hb dL_law_701 rfl (lv_at hl 1 rfl) ?_
  refine qV_i (ws' := (wX A cI x n m9 k ++ wM B cI t9)) (As := []) (rest := [.int r]) ⟨hx, hb, hml, hown, hts⟩ hK hN hA hP hD hS c2 (cwV 0 hts gL_law_X2_out rfl rfl rfl hd_X2_out ⟨Nat.le_of_ble_eq_true rfl, Nat.le_of_ble_eq_true rfl⟩) (lrc_2 hK hP) (lbp_2 A B cI _ _ _ _ t _) rfl hl.1 rfl (Nat.le_of_ble_eq_true rfl) dL_law_702 ⟨Nat.le_of_ble_eq_true rfl, Nat.le_of_ble_eq_true rfl⟩ (fun H locs hP hD hS => ?_)
  refine lv_icmp_eq (tgt := 1229) hx hb dL_law_705 (by decide) (fun _ => ?_) (fun c => absurd rfl c)
  exact lc_go hx hb hl (fun ls1 hl1 => kk H locs ls1 x n m9 k t9 ⟨hR, hP, hD, hS, hl1⟩)
theorem hd_X1_ruined : yX1_ruined.cls = RX1 ∧ yX1_ruined.cls ≠ "java/lang/invoke/MethodHandle" ∧ yX1_ruined.cls ≠ "java/lang/invoke/VarHandle" ∧ (parseMethodDescriptor yX1_ruined.desc).map (fun d => d.parameters.length) = some 1 := by decide +kernel
theorem hd_X2_ruined : yX2_ruined.cls = RX2 ∧ yX2_ruined.cls ≠ "java/lang/invoke/MethodHandle" ∧ yX2_ruined.cls ≠ "java/lang/invoke/VarHandle" ∧ (parseMethodDescriptor yX2_ruined.desc).map (fun d => d.parameters.length) = some 1 := by decide +kernel
set_option maxHeartbeats 4000000 in
set_option maxRecDepth 100000 in
theorem lc_ruined (C : LC p s m meth c b L xs D cI zA zV) (hq : q + 6 ≤ L) (hL : L ≤ 3072) (hI : LQ s b D cI A B q H locs ls x n mm k t) (kk : ∀ H1 locs1 ls1 x1 n1 m1 k1 t1, LQ s b D cI A B (q + 6) H1 locs1 ls1 x1 n1 m1 k1 t1 → W p l e room_1 s m #[Value.ref b] below meth c H1 locs1 57 1084 Q (F0 m 18 ls1 [])) : W p l e room_1 s m #[Value.ref b] below meth c H locs 57 1084 Q (F0 m 710 ls []) := by
  obtain ⟨hR, hP, hD, hS, hl⟩ := hI
  obtain ⟨hx, hb, hr, hml, hown, hts, hX, hbl, hlocks, hK, hN, hz⟩ := C
  have hA : ∀ q : Nat, s.heap.size ≤ q → (fun q : Nat => s.heap.size ≤ q) q := fun _ h => h
  have hbA : ¬ (fun q : Nat => s.heap.size ≤ q) b := Nat.not_le.mpr hbl
  obtain ⟨r, x9, m9, t9, e1, e2, hR⟩ := ruined_XM hR (xs (nI q + (1 : Int32)).toNatClampNeg)
  have c1 : uI l D cI yX1_ruined wsX1_ruined ({ frames := 5, cells := 0, slots := 0, locals := 128 } : Room) (.ref (A 0 0) :: [.int (xs (nI q + (1 : Int32)).toNatClampNeg)]) (wX A cI x n mm k) (wX A cI x9 n m9 k) r := c_X1_ruined l D cI A (xs (nI q + (1 : Int32)).toNatClampNeg) x n mm k (r, x9, m9) e1
  have c2 : uI l D cI yX2_ruined wsX2_ruined ({ frames := 8, cells := 0, slots := 0, locals := 182 } : Room) (.ref (B 0) :: [.int (xs (nI q + (1 : Int32)).toNatClampNeg)]) (wM B cI t) (wM B cI t9) r := c_X2_ruined l D cI B (xs (nI q + (1 : Int32)).toNatClampNeg) t (r, t9) e2
  refine lv_aload_n hx hb dL_law_710 rfl (lv_at hl 2 rfl) ?_
  refine lv_aload_n hx hb dL_law_711 rfl (lv_at hl 3 rfl) ?_
  refine lv_iload_n hx hb dL_law_712 rfl (lv_at hl 0 rfl) ?_
  refine lv_iconst (v := (1 : Int32)) hx hb dL_law_713 (by decide) ?_
  refine lv_iadd hx hb dL_law_714 ?_
  refine va_sld hx hb hX hbl hbA hS (i := nI q + (1 : Int32)) (lz_in hq hL 1 (by decide)) dL_law_715 ?_
  refine qV_i (ws' := (wX A cI x9 n m9 k ++ wM B cI t)) (As := [.int (xs (nI q + (1 : Int32)).toNatClampNeg)]) (rest := []) ⟨hx, hb, hml, hown, hts⟩ hK hN hA hP hD hS c1 (cwV 1 hts gL_law_X1_ruined rfl rfl rfl hd_X1_ruined ⟨Nat.le_of_ble_eq_true rfl, Nat.le_of_ble_eq_true rfl⟩) (lrc_1 hK hP) (lbp_1 A B cI x n mm k t _ _ _ _) rfl hl.1 rfl (Nat.le_of_ble_eq_true rfl) dL_law_716 ⟨Nat.le_of_ble_eq_true rfl, Nat.le_of_ble_eq_true rfl⟩ (fun H locs hP hD hS => ?_)
  refine lv_aload_n hx hb dL_law_719 rfl (lv_at hl 1 rfl) ?_
  refine lv_aload_n hx hb dL_law_720 rfl (lv_at hl 3 rfl) ?_
  refine lv_iload_n hx hb dL_law_721 rfl (lv_at hl 0 rfl) ?_
  refine lv_iconst (v := (1 : Int32)) hx hb dL_law_722 (by decide) ?_
  refine lv_iadd hx hb dL_law_723 ?_
  refine va_sld hx hb hX hbl hbA hS (i := nI q + (1 : Int32)) (lz_in hq hL 1 (by decide)) dL_law_724 ?_
  refine qV_i (ws' := (wX A cI x9 n m9 k ++ wM B cI t9)) (As := [.int (xs (nI q + (1 : Int32)).toNatClampNeg)]) (rest := [.int r]) ⟨hx, hb, hml, hown, hts⟩ hK hN hA hP hD hS c2 (cwV 1 hts gL_law_X2_ruined rfl rfl rfl hd_X2_ruined ⟨Nat.le_of_ble_eq_true rfl, Nat.le_of_ble_eq_true rfl⟩) (lrc_2 hK hP) (lbp_2 A B cI _ _ _ _ t _) rfl hl.1 rfl (Nat.le_of_ble_eq_true rfl) dL_law_725 ⟨Nat.le_of_ble_eq_true rfl, Nat.le_of_ble_eq_true rfl⟩ (fun H locs hP hD hS => ?_)
  refine lv_icmp_eq (tgt := 1229) hx hb dL_law_728 (by decide) (fun _ => ?_) (fun c => absurd rfl c)
  exact lc_go hx hb hl (fun ls1 hl1 => kk H locs ls1 x9 n m9 k t9 ⟨hR, hP, hD, hS, hl1⟩)
theorem hd_X1_purseFor : yX1_purseFor.cls = RX1 ∧ yX1_purseFor.cls ≠ "java/lang/invoke/MethodHandle" ∧ yX1_purseFor.cls ≠ "java/lang/invoke/VarHandle" ∧ (parseMethodDescriptor yX1_purseFor.desc).map (fun d => d.parameters.length) = some 2 := by decide +kernel
theorem hd_X2_purseFor : yX2_purseFor.cls = RX2 ∧ yX2_purseFor.cls ≠ "java/lang/invoke/MethodHandle" ∧ yX2_purseFor.cls ≠ "java/lang/invoke/VarHandle" ∧ (parseMethodDescriptor yX2_purseFor.desc).map (fun d => d.parameters.length) = some 2 := by decide +kernel
set_option maxHeartbeats 4000000 in
set_option maxRecDepth 100000 in
theorem lc_purseFor (C : LC p s m meth c b L xs D cI zA zV) (hq : q + 6 ≤ L) (hL : L ≤ 3072) (hI : LQ s b D cI A B q H locs ls x n mm k t) (kk : ∀ H1 locs1 ls1 x1 n1 m1 k1 t1, LQ s b D cI A B (q + 6) H1 locs1 ls1 x1 n1 m1 k1 t1 → W p l e room_1 s m #[Value.ref b] below meth c H1 locs1 57 1084 Q (F0 m 18 ls1 [])) : W p l e room_1 s m #[Value.ref b] below meth c H locs 57 1084 Q (F0 m 733 ls []) := by
  obtain ⟨hR, hP, hD, hS, hl⟩ := hI
  obtain ⟨hx, hb, hr, hml, hown, hts, hX, hbl, hlocks, hK, hN, hz⟩ := C
  have hA : ∀ q : Nat, s.heap.size ≤ q → (fun q : Nat => s.heap.size ≤ q) q := fun _ h => h
  have hbA : ¬ (fun q : Nat => s.heap.size ≤ q) b := Nat.not_le.mpr hbl
  obtain ⟨r, x9, m9, t9, e1, e2, hR⟩ := purseFor_XM hR (xs (nI q + (1 : Int32)).toNatClampNeg) (xs (nI q + (2 : Int32)).toNatClampNeg)
  have c1 : uI l D cI yX1_purseFor wsX1_purseFor ({ frames := 5, cells := 0, slots := 0, locals := 128 } : Room) (.ref (A 0 0) :: [.int (xs (nI q + (1 : Int32)).toNatClampNeg), .int (xs (nI q + (2 : Int32)).toNatClampNeg)]) (wX A cI x n mm k) (wX A cI x9 n m9 k) r := c_X1_purseFor l D cI A (xs (nI q + (1 : Int32)).toNatClampNeg) (xs (nI q + (2 : Int32)).toNatClampNeg) x n mm k (r, x9, m9) e1
  have c2 : uI l D cI yX2_purseFor wsX2_purseFor ({ frames := 9, cells := 0, slots := 0, locals := 206 } : Room) (.ref (B 0) :: [.int (xs (nI q + (1 : Int32)).toNatClampNeg), .int (xs (nI q + (2 : Int32)).toNatClampNeg)]) (wM B cI t) (wM B cI t9) r := c_X2_purseFor l D cI B (xs (nI q + (1 : Int32)).toNatClampNeg) (xs (nI q + (2 : Int32)).toNatClampNeg) t (r, t9) e2
  refine lv_aload_n hx hb dL_law_733 rfl (lv_at hl 2 rfl) ?_
  refine lv_aload_n hx hb dL_law_734 rfl (lv_at hl 3 rfl) ?_
  refine lv_iload_n hx hb dL_law_735 rfl (lv_at hl 0 rfl) ?_
  refine lv_iconst (v := (1 : Int32)) hx hb dL_law_736 (by decide) ?_
  refine lv_iadd hx hb dL_law_737 ?_
  refine va_sld hx hb hX hbl hbA hS (i := nI q + (1 : Int32)) (lz_in hq hL 1 (by decide)) dL_law_738 ?_
  refine lv_aload_n hx hb dL_law_739 rfl (lv_at hl 3 rfl) ?_
  refine lv_iload_n hx hb dL_law_740 rfl (lv_at hl 0 rfl) ?_
  refine lv_iconst (v := (2 : Int32)) hx hb dL_law_741 (by decide) ?_
  refine lv_iadd hx hb dL_law_742 ?_
  refine va_sld hx hb hX hbl hbA hS (i := nI q + (2 : Int32)) (lz_in hq hL 2 (by decide)) dL_law_743 ?_
  refine qV_i (ws' := (wX A cI x9 n m9 k ++ wM B cI t)) (As := [.int (xs (nI q + (1 : Int32)).toNatClampNeg), .int (xs (nI q + (2 : Int32)).toNatClampNeg)]) (rest := []) ⟨hx, hb, hml, hown, hts⟩ hK hN hA hP hD hS c1 (cwV 2 hts gL_law_X1_purseFor rfl rfl rfl hd_X1_purseFor ⟨Nat.le_of_ble_eq_true rfl, Nat.le_of_ble_eq_true rfl⟩) (lrc_1 hK hP) (lbp_1 A B cI x n mm k t _ _ _ _) rfl hl.1 rfl (Nat.le_of_ble_eq_true rfl) dL_law_744 ⟨Nat.le_of_ble_eq_true rfl, Nat.le_of_ble_eq_true rfl⟩ (fun H locs hP hD hS => ?_)
  refine lv_aload_n hx hb dL_law_747 rfl (lv_at hl 1 rfl) ?_
  refine lv_aload_n hx hb dL_law_748 rfl (lv_at hl 3 rfl) ?_
  refine lv_iload_n hx hb dL_law_749 rfl (lv_at hl 0 rfl) ?_
  refine lv_iconst (v := (1 : Int32)) hx hb dL_law_750 (by decide) ?_
  refine lv_iadd hx hb dL_law_751 ?_
  refine va_sld hx hb hX hbl hbA hS (i := nI q + (1 : Int32)) (lz_in hq hL 1 (by decide)) dL_law_752 ?_
  refine lv_aload_n hx hb dL_law_753 rfl (lv_at hl 3 rfl) ?_
  refine lv_iload_n hx hb dL_law_754 rfl (lv_at hl 0 rfl) ?_
  refine lv_iconst (v := (2 : Int32)) hx hb dL_law_755 (by decide) ?_
  refine lv_iadd hx hb dL_law_756 ?_
  refine va_sld hx hb hX hbl hbA hS (i := nI q + (2 : Int32)) (lz_in hq hL 2 (by decide)) dL_law_757 ?_
  refine qV_i (ws' := (wX A cI x9 n m9 k ++ wM B cI t9)) (As := [.int (xs (nI q + (1 : Int32)).toNatClampNeg), .int (xs (nI q + (2 : Int32)).toNatClampNeg)]) (rest := [.int r]) ⟨hx, hb, hml, hown, hts⟩ hK hN hA hP hD hS c2 (cwV 2 hts gL_law_X2_purseFor rfl rfl rfl hd_X2_purseFor ⟨Nat.le_of_ble_eq_true rfl, Nat.le_of_ble_eq_true rfl⟩) (lrc_2 hK hP) (lbp_2 A B cI _ _ _ _ t _) rfl hl.1 rfl (Nat.le_of_ble_eq_true rfl) dL_law_758 ⟨Nat.le_of_ble_eq_true rfl, Nat.le_of_ble_eq_true rfl⟩ (fun H locs hP hD hS => ?_)
  refine lv_icmp_eq (tgt := 1229) hx hb dL_law_761 (by decide) (fun _ => ?_) (fun c => absurd rfl c)
  exact lc_go hx hb hl (fun ls1 hl1 => kk H locs ls1 x9 n m9 k t9 ⟨hR, hP, hD, hS, hl1⟩)
theorem hd_X1_first : yX1_first.cls = RX1 ∧ yX1_first.cls ≠ "java/lang/invoke/MethodHandle" ∧ yX1_first.cls ≠ "java/lang/invoke/VarHandle" ∧ (parseMethodDescriptor yX1_first.desc).map (fun d => d.parameters.length) = some 2 := by decide +kernel
theorem hd_X2_first : yX2_first.cls = RX2 ∧ yX2_first.cls ≠ "java/lang/invoke/MethodHandle" ∧ yX2_first.cls ≠ "java/lang/invoke/VarHandle" ∧ (parseMethodDescriptor yX2_first.desc).map (fun d => d.parameters.length) = some 2 := by decide +kernel
set_option maxHeartbeats 4000000 in
set_option maxRecDepth 100000 in
theorem lc_first (C : LC p s m meth c b L xs D cI zA zV) (hq : q + 6 ≤ L) (hL : L ≤ 3072) (hI : LQ s b D cI A B q H locs ls x n mm k t) (kk : ∀ H1 locs1 ls1 x1 n1 m1 k1 t1, LQ s b D cI A B (q + 6) H1 locs1 ls1 x1 n1 m1 k1 t1 → W p l e room_1 s m #[Value.ref b] below meth c H1 locs1 57 1084 Q (F0 m 18 ls1 [])) : W p l e room_1 s m #[Value.ref b] below meth c H locs 57 1084 Q (F0 m 766 ls []) := by
  obtain ⟨hR, hP, hD, hS, hl⟩ := hI
  obtain ⟨hx, hb, hr, hml, hown, hts, hX, hbl, hlocks, hK, hN, hz⟩ := C
  have hA : ∀ q : Nat, s.heap.size ≤ q → (fun q : Nat => s.heap.size ≤ q) q := fun _ h => h
  have hbA : ¬ (fun q : Nat => s.heap.size ≤ q) b := Nat.not_le.mpr hbl
  obtain ⟨r, x9, m9, t9, e1, e2, hR⟩ := first_XM hR (xs (nI q + (1 : Int32)).toNatClampNeg) (xs (nI q + (2 : Int32)).toNatClampNeg)
  have c1 : uI l D cI yX1_first wsX1_first ({ frames := 5, cells := 0, slots := 0, locals := 128 } : Room) (.ref (A 0 0) :: [.int (xs (nI q + (1 : Int32)).toNatClampNeg), .int (xs (nI q + (2 : Int32)).toNatClampNeg)]) (wX A cI x n mm k) (wX A cI x9 n m9 k) r := c_X1_first l D cI A (xs (nI q + (1 : Int32)).toNatClampNeg) (xs (nI q + (2 : Int32)).toNatClampNeg) x n mm k (r, x9, m9) e1
  have c2 : uI l D cI yX2_first wsX2_first ({ frames := 10, cells := 0, slots := 0, locals := 227 } : Room) (.ref (B 0) :: [.int (xs (nI q + (1 : Int32)).toNatClampNeg), .int (xs (nI q + (2 : Int32)).toNatClampNeg)]) (wM B cI t) (wM B cI t9) r := c_X2_first l D cI B (xs (nI q + (1 : Int32)).toNatClampNeg) (xs (nI q + (2 : Int32)).toNatClampNeg) t (r, t9) e2
  refine lv_aload_n hx hb dL_law_766 rfl (lv_at hl 2 rfl) ?_
  refine lv_aload_n hx hb dL_law_767 rfl (lv_at hl 3 rfl) ?_
  refine lv_iload_n hx hb dL_law_768 rfl (lv_at hl 0 rfl) ?_
  refine lv_iconst (v := (1 : Int32)) hx hb dL_law_769 (by decide) ?_
  refine lv_iadd hx hb dL_law_770 ?_
  refine va_sld hx hb hX hbl hbA hS (i := nI q + (1 : Int32)) (lz_in hq hL 1 (by decide)) dL_law_771 ?_
  refine lv_aload_n hx hb dL_law_772 rfl (lv_at hl 3 rfl) ?_
  refine lv_iload_n hx hb dL_law_773 rfl (lv_at hl 0 rfl) ?_
  refine lv_iconst (v := (2 : Int32)) hx hb dL_law_774 (by decide) ?_
  refine lv_iadd hx hb dL_law_775 ?_
  refine va_sld hx hb hX hbl hbA hS (i := nI q + (2 : Int32)) (lz_in hq hL 2 (by decide)) dL_law_776 ?_
  refine qV_i (ws' := (wX A cI x9 n m9 k ++ wM B cI t)) (As := [.int (xs (nI q + (1 : Int32)).toNatClampNeg), .int (xs (nI q + (2 : Int32)).toNatClampNeg)]) (rest := []) ⟨hx, hb, hml, hown, hts⟩ hK hN hA hP hD hS c1 (cwV 2 hts gL_law_X1_first rfl rfl rfl hd_X1_first ⟨Nat.le_of_ble_eq_true rfl, Nat.le_of_ble_eq_true rfl⟩) (lrc_1 hK hP) (lbp_1 A B cI x n mm k t _ _ _ _) rfl hl.1 rfl (Nat.le_of_ble_eq_true rfl) dL_law_777 ⟨Nat.le_of_ble_eq_true rfl, Nat.le_of_ble_eq_true rfl⟩ (fun H locs hP hD hS => ?_)
  refine lv_aload_n hx hb dL_law_780 rfl (lv_at hl 1 rfl) ?_
  refine lv_aload_n hx hb dL_law_781 rfl (lv_at hl 3 rfl) ?_
  refine lv_iload_n hx hb dL_law_782 rfl (lv_at hl 0 rfl) ?_
  refine lv_iconst (v := (1 : Int32)) hx hb dL_law_783 (by decide) ?_
  refine lv_iadd hx hb dL_law_784 ?_
  refine va_sld hx hb hX hbl hbA hS (i := nI q + (1 : Int32)) (lz_in hq hL 1 (by decide)) dL_law_785 ?_
  refine lv_aload_n hx hb dL_law_786 rfl (lv_at hl 3 rfl) ?_
  refine lv_iload_n hx hb dL_law_787 rfl (lv_at hl 0 rfl) ?_
  refine lv_iconst (v := (2 : Int32)) hx hb dL_law_788 (by decide) ?_
  refine lv_iadd hx hb dL_law_789 ?_
  refine va_sld hx hb hX hbl hbA hS (i := nI q + (2 : Int32)) (lz_in hq hL 2 (by decide)) dL_law_790 ?_
  refine qV_i (ws' := (wX A cI x9 n m9 k ++ wM B cI t9)) (As := [.int (xs (nI q + (1 : Int32)).toNatClampNeg), .int (xs (nI q + (2 : Int32)).toNatClampNeg)]) (rest := [.int r]) ⟨hx, hb, hml, hown, hts⟩ hK hN hA hP hD hS c2 (cwV 2 hts gL_law_X2_first rfl rfl rfl hd_X2_first ⟨Nat.le_of_ble_eq_true rfl, Nat.le_of_ble_eq_true rfl⟩) (lrc_2 hK hP) (lbp_2 A B cI _ _ _ _ t _) rfl hl.1 rfl (Nat.le_of_ble_eq_true rfl) dL_law_791 ⟨Nat.le_of_ble_eq_true rfl, Nat.le_of_ble_eq_true rfl⟩ (fun H locs hP hD hS => ?_)
  refine lv_icmp_eq (tgt := 1229) hx hb dL_law_794 (by decide) (fun _ => ?_) (fun c => absurd rfl c)
  exact lc_go hx hb hl (fun ls1 hl1 => kk H locs ls1 x9 n m9 k t9 ⟨hR, hP, hD, hS, hl1⟩)
theorem hd_X1_give : yX1_give.cls = RX1 ∧ yX1_give.cls ≠ "java/lang/invoke/MethodHandle" ∧ yX1_give.cls ≠ "java/lang/invoke/VarHandle" ∧ (parseMethodDescriptor yX1_give.desc).map (fun d => d.parameters.length) = some 1 := by decide +kernel
theorem hd_X2_give : yX2_give.cls = RX2 ∧ yX2_give.cls ≠ "java/lang/invoke/MethodHandle" ∧ yX2_give.cls ≠ "java/lang/invoke/VarHandle" ∧ (parseMethodDescriptor yX2_give.desc).map (fun d => d.parameters.length) = some 1 := by decide +kernel
set_option maxHeartbeats 4000000 in
set_option maxRecDepth 100000 in
theorem lc_give (C : LC p s m meth c b L xs D cI zA zV) (hq : q + 6 ≤ L) (hL : L ≤ 3072) (hI : LQ s b D cI A B q H locs ls x n mm k t) (kk : ∀ H1 locs1 ls1 x1 n1 m1 k1 t1, LQ s b D cI A B (q + 6) H1 locs1 ls1 x1 n1 m1 k1 t1 → W p l e room_1 s m #[Value.ref b] below meth c H1 locs1 57 1084 Q (F0 m 18 ls1 [])) : W p l e room_1 s m #[Value.ref b] below meth c H locs 57 1084 Q (F0 m 799 ls []) := by
  obtain ⟨hR, hP, hD, hS, hl⟩ := hI
  obtain ⟨hx, hb, hr, hml, hown, hts, hX, hbl, hlocks, hK, hN, hz⟩ := C
  have hA : ∀ q : Nat, s.heap.size ≤ q → (fun q : Nat => s.heap.size ≤ q) q := fun _ h => h
  have hbA : ¬ (fun q : Nat => s.heap.size ≤ q) b := Nat.not_le.mpr hbl
  obtain ⟨r, x9, m9, t9, e1, e2, hR⟩ := give_XM hR (xs (nI q + (1 : Int32)).toNatClampNeg)
  have c1 : uI l D cI yX1_give wsX1_give ({ frames := 5, cells := 0, slots := 0, locals := 128 } : Room) (.ref (A 0 0) :: [.int (xs (nI q + (1 : Int32)).toNatClampNeg)]) (wX A cI x n mm k) (wX A cI x9 n m9 k) r := c_X1_give l D cI A (xs (nI q + (1 : Int32)).toNatClampNeg) x n mm k (r, x9, m9) e1
  have c2 : uI l D cI yX2_give wsX2_give ({ frames := 10, cells := 0, slots := 0, locals := 226 } : Room) (.ref (B 0) :: [.int (xs (nI q + (1 : Int32)).toNatClampNeg)]) (wM B cI t) (wM B cI t9) r := c_X2_give l D cI B (xs (nI q + (1 : Int32)).toNatClampNeg) t (r, t9) e2
  refine lv_aload_n hx hb dL_law_799 rfl (lv_at hl 2 rfl) ?_
  refine lv_aload_n hx hb dL_law_800 rfl (lv_at hl 3 rfl) ?_
  refine lv_iload_n hx hb dL_law_801 rfl (lv_at hl 0 rfl) ?_
  refine lv_iconst (v := (1 : Int32)) hx hb dL_law_802 (by decide) ?_
  refine lv_iadd hx hb dL_law_803 ?_
  refine va_sld hx hb hX hbl hbA hS (i := nI q + (1 : Int32)) (lz_in hq hL 1 (by decide)) dL_law_804 ?_
  refine qV_i (ws' := (wX A cI x9 n m9 k ++ wM B cI t)) (As := [.int (xs (nI q + (1 : Int32)).toNatClampNeg)]) (rest := []) ⟨hx, hb, hml, hown, hts⟩ hK hN hA hP hD hS c1 (cwV 1 hts gL_law_X1_give rfl rfl rfl hd_X1_give ⟨Nat.le_of_ble_eq_true rfl, Nat.le_of_ble_eq_true rfl⟩) (lrc_1 hK hP) (lbp_1 A B cI x n mm k t _ _ _ _) rfl hl.1 rfl (Nat.le_of_ble_eq_true rfl) dL_law_805 ⟨Nat.le_of_ble_eq_true rfl, Nat.le_of_ble_eq_true rfl⟩ (fun H locs hP hD hS => ?_)
  refine lv_aload_n hx hb dL_law_808 rfl (lv_at hl 1 rfl) ?_
  refine lv_aload_n hx hb dL_law_809 rfl (lv_at hl 3 rfl) ?_
  refine lv_iload_n hx hb dL_law_810 rfl (lv_at hl 0 rfl) ?_
  refine lv_iconst (v := (1 : Int32)) hx hb dL_law_811 (by decide) ?_
  refine lv_iadd hx hb dL_law_812 ?_
  refine va_sld hx hb hX hbl hbA hS (i := nI q + (1 : Int32)) (lz_in hq hL 1 (by decide)) dL_law_813 ?_
  refine qV_i (ws' := (wX A cI x9 n m9 k ++ wM B cI t9)) (As := [.int (xs (nI q + (1 : Int32)).toNatClampNeg)]) (rest := [.int r]) ⟨hx, hb, hml, hown, hts⟩ hK hN hA hP hD hS c2 (cwV 1 hts gL_law_X2_give rfl rfl rfl hd_X2_give ⟨Nat.le_of_ble_eq_true rfl, Nat.le_of_ble_eq_true rfl⟩) (lrc_2 hK hP) (lbp_2 A B cI _ _ _ _ t _) rfl hl.1 rfl (Nat.le_of_ble_eq_true rfl) dL_law_814 ⟨Nat.le_of_ble_eq_true rfl, Nat.le_of_ble_eq_true rfl⟩ (fun H locs hP hD hS => ?_)
  refine lv_icmp_eq (tgt := 1229) hx hb dL_law_817 (by decide) (fun _ => ?_) (fun c => absurd rfl c)
  exact lc_go hx hb hl (fun ls1 hl1 => kk H locs ls1 x9 n m9 k t9 ⟨hR, hP, hD, hS, hl1⟩)
theorem hd_X1_pool : yX1_pool.cls = RX1 ∧ yX1_pool.cls ≠ "java/lang/invoke/MethodHandle" ∧ yX1_pool.cls ≠ "java/lang/invoke/VarHandle" ∧ (parseMethodDescriptor yX1_pool.desc).map (fun d => d.parameters.length) = some 2 := by decide +kernel
theorem hd_X2_pool : yX2_pool.cls = RX2 ∧ yX2_pool.cls ≠ "java/lang/invoke/MethodHandle" ∧ yX2_pool.cls ≠ "java/lang/invoke/VarHandle" ∧ (parseMethodDescriptor yX2_pool.desc).map (fun d => d.parameters.length) = some 2 := by decide +kernel
set_option maxHeartbeats 4000000 in
set_option maxRecDepth 100000 in
theorem lc_pool (C : LC p s m meth c b L xs D cI zA zV) (hq : q + 6 ≤ L) (hL : L ≤ 3072) (hI : LQ s b D cI A B q H locs ls x n mm k t) (kk : ∀ H1 locs1 ls1 x1 n1 m1 k1 t1, LQ s b D cI A B (q + 6) H1 locs1 ls1 x1 n1 m1 k1 t1 → W p l e room_1 s m #[Value.ref b] below meth c H1 locs1 57 1084 Q (F0 m 18 ls1 [])) : W p l e room_1 s m #[Value.ref b] below meth c H locs 57 1084 Q (F0 m 822 ls []) := by
  obtain ⟨hR, hP, hD, hS, hl⟩ := hI
  obtain ⟨hx, hb, hr, hml, hown, hts, hX, hbl, hlocks, hK, hN, hz⟩ := C
  have hA : ∀ q : Nat, s.heap.size ≤ q → (fun q : Nat => s.heap.size ≤ q) q := fun _ h => h
  have hbA : ¬ (fun q : Nat => s.heap.size ≤ q) b := Nat.not_le.mpr hbl
  obtain ⟨r, x9, m9, t9, e1, e2, hR⟩ := pool_XM hR (xs (nI q + (1 : Int32)).toNatClampNeg) (xs (nI q + (2 : Int32)).toNatClampNeg)
  have c1 : uI l D cI yX1_pool wsX1_pool ({ frames := 5, cells := 0, slots := 0, locals := 128 } : Room) (.ref (A 0 0) :: [.int (xs (nI q + (1 : Int32)).toNatClampNeg), .int (xs (nI q + (2 : Int32)).toNatClampNeg)]) (wX A cI x n mm k) (wX A cI x9 n m9 k) r := c_X1_pool l D cI A (xs (nI q + (1 : Int32)).toNatClampNeg) (xs (nI q + (2 : Int32)).toNatClampNeg) x n mm k (r, x9, m9) e1
  have c2 : uI l D cI yX2_pool wsX2_pool ({ frames := 10, cells := 0, slots := 0, locals := 227 } : Room) (.ref (B 0) :: [.int (xs (nI q + (1 : Int32)).toNatClampNeg), .int (xs (nI q + (2 : Int32)).toNatClampNeg)]) (wM B cI t) (wM B cI t9) r := c_X2_pool l D cI B (xs (nI q + (1 : Int32)).toNatClampNeg) (xs (nI q + (2 : Int32)).toNatClampNeg) t (r, t9) e2
  refine lv_aload_n hx hb dL_law_822 rfl (lv_at hl 2 rfl) ?_
  refine lv_aload_n hx hb dL_law_823 rfl (lv_at hl 3 rfl) ?_
  refine lv_iload_n hx hb dL_law_824 rfl (lv_at hl 0 rfl) ?_
  refine lv_iconst (v := (1 : Int32)) hx hb dL_law_825 (by decide) ?_
  refine lv_iadd hx hb dL_law_826 ?_
  refine va_sld hx hb hX hbl hbA hS (i := nI q + (1 : Int32)) (lz_in hq hL 1 (by decide)) dL_law_827 ?_
  refine lv_aload_n hx hb dL_law_828 rfl (lv_at hl 3 rfl) ?_
  refine lv_iload_n hx hb dL_law_829 rfl (lv_at hl 0 rfl) ?_
  refine lv_iconst (v := (2 : Int32)) hx hb dL_law_830 (by decide) ?_
  refine lv_iadd hx hb dL_law_831 ?_
  refine va_sld hx hb hX hbl hbA hS (i := nI q + (2 : Int32)) (lz_in hq hL 2 (by decide)) dL_law_832 ?_
  refine qV_i (ws' := (wX A cI x9 n m9 k ++ wM B cI t)) (As := [.int (xs (nI q + (1 : Int32)).toNatClampNeg), .int (xs (nI q + (2 : Int32)).toNatClampNeg)]) (rest := []) ⟨hx, hb, hml, hown, hts⟩ hK hN hA hP hD hS c1 (cwV 2 hts gL_law_X1_pool rfl rfl rfl hd_X1_pool ⟨Nat.le_of_ble_eq_true rfl, Nat.le_of_ble_eq_true rfl⟩) (lrc_1 hK hP) (lbp_1 A B cI x n mm k t _ _ _ _) rfl hl.1 rfl (Nat.le_of_ble_eq_true rfl) dL_law_833 ⟨Nat.le_of_ble_eq_true rfl, Nat.le_of_ble_eq_true rfl⟩ (fun H locs hP hD hS => ?_)
  refine lv_aload_n hx hb dL_law_836 rfl (lv_at hl 1 rfl) ?_
  refine lv_aload_n hx hb dL_law_837 rfl (lv_at hl 3 rfl) ?_
  refine lv_iload_n hx hb dL_law_838 rfl (lv_at hl 0 rfl) ?_
  refine lv_iconst (v := (1 : Int32)) hx hb dL_law_839 (by decide) ?_
  refine lv_iadd hx hb dL_law_840 ?_
  refine va_sld hx hb hX hbl hbA hS (i := nI q + (1 : Int32)) (lz_in hq hL 1 (by decide)) dL_law_841 ?_
  refine lv_aload_n hx hb dL_law_842 rfl (lv_at hl 3 rfl) ?_
  refine lv_iload_n hx hb dL_law_843 rfl (lv_at hl 0 rfl) ?_
  refine lv_iconst (v := (2 : Int32)) hx hb dL_law_844 (by decide) ?_
  refine lv_iadd hx hb dL_law_845 ?_
  refine va_sld hx hb hX hbl hbA hS (i := nI q + (2 : Int32)) (lz_in hq hL 2 (by decide)) dL_law_846 ?_
  refine qV_i (ws' := (wX A cI x9 n m9 k ++ wM B cI t9)) (As := [.int (xs (nI q + (1 : Int32)).toNatClampNeg), .int (xs (nI q + (2 : Int32)).toNatClampNeg)]) (rest := [.int r]) ⟨hx, hb, hml, hown, hts⟩ hK hN hA hP hD hS c2 (cwV 2 hts gL_law_X2_pool rfl rfl rfl hd_X2_pool ⟨Nat.le_of_ble_eq_true rfl, Nat.le_of_ble_eq_true rfl⟩) (lrc_2 hK hP) (lbp_2 A B cI _ _ _ _ t _) rfl hl.1 rfl (Nat.le_of_ble_eq_true rfl) dL_law_847 ⟨Nat.le_of_ble_eq_true rfl, Nat.le_of_ble_eq_true rfl⟩ (fun H locs hP hD hS => ?_)
  refine lv_icmp_eq (tgt := 1229) hx hb dL_law_850 (by decide) (fun _ => ?_) (fun c => absurd rfl c)
  exact lc_go hx hb hl (fun ls1 hl1 => kk H locs ls1 x9 n m9 k t9 ⟨hR, hP, hD, hS, hl1⟩)
theorem hd_X1_stay : yX1_stay.cls = RX1 ∧ yX1_stay.cls ≠ "java/lang/invoke/MethodHandle" ∧ yX1_stay.cls ≠ "java/lang/invoke/VarHandle" ∧ (parseMethodDescriptor yX1_stay.desc).map (fun d => d.parameters.length) = some 1 := by decide +kernel
theorem hd_X2_stay : yX2_stay.cls = RX2 ∧ yX2_stay.cls ≠ "java/lang/invoke/MethodHandle" ∧ yX2_stay.cls ≠ "java/lang/invoke/VarHandle" ∧ (parseMethodDescriptor yX2_stay.desc).map (fun d => d.parameters.length) = some 1 := by decide +kernel
set_option maxHeartbeats 4000000 in
set_option maxRecDepth 100000 in
theorem lc_stay (C : LC p s m meth c b L xs D cI zA zV) (hq : q + 6 ≤ L) (hL : L ≤ 3072) (hI : LQ s b D cI A B q H locs ls x n mm k t) (kk : ∀ H1 locs1 ls1 x1 n1 m1 k1 t1, LQ s b D cI A B (q + 6) H1 locs1 ls1 x1 n1 m1 k1 t1 → W p l e room_1 s m #[Value.ref b] below meth c H1 locs1 57 1084 Q (F0 m 18 ls1 [])) : W p l e room_1 s m #[Value.ref b] below meth c H locs 57 1084 Q (F0 m 855 ls []) := by
  obtain ⟨hR, hP, hD, hS, hl⟩ := hI
  obtain ⟨hx, hb, hr, hml, hown, hts, hX, hbl, hlocks, hK, hN, hz⟩ := C
  have hA : ∀ q : Nat, s.heap.size ≤ q → (fun q : Nat => s.heap.size ≤ q) q := fun _ h => h
  have hbA : ¬ (fun q : Nat => s.heap.size ≤ q) b := Nat.not_le.mpr hbl
  obtain ⟨r, x9, m9, t9, e1, e2, hR⟩ := stay_XM hR (xs (nI q + (1 : Int32)).toNatClampNeg)
  have c1 : uI l D cI yX1_stay wsX1_stay ({ frames := 5, cells := 0, slots := 0, locals := 128 } : Room) (.ref (A 0 0) :: [.int (xs (nI q + (1 : Int32)).toNatClampNeg)]) (wX A cI x n mm k) (wX A cI x9 n m9 k) r := c_X1_stay l D cI A (xs (nI q + (1 : Int32)).toNatClampNeg) x n mm k (r, x9, m9) e1
  have c2 : uI l D cI yX2_stay wsX2_stay ({ frames := 9, cells := 0, slots := 0, locals := 204 } : Room) (.ref (B 0) :: [.int (xs (nI q + (1 : Int32)).toNatClampNeg)]) (wM B cI t) (wM B cI t9) r := c_X2_stay l D cI B (xs (nI q + (1 : Int32)).toNatClampNeg) t (r, t9) e2
  refine lv_aload_n hx hb dL_law_855 rfl (lv_at hl 2 rfl) ?_
  refine lv_aload_n hx hb dL_law_856 rfl (lv_at hl 3 rfl) ?_
  refine lv_iload_n hx hb dL_law_857 rfl (lv_at hl 0 rfl) ?_
  refine lv_iconst (v := (1 : Int32)) hx hb dL_law_858 (by decide) ?_
  refine lv_iadd hx hb dL_law_859 ?_
  refine va_sld hx hb hX hbl hbA hS (i := nI q + (1 : Int32)) (lz_in hq hL 1 (by decide)) dL_law_860 ?_
  refine qV_i (ws' := (wX A cI x9 n m9 k ++ wM B cI t)) (As := [.int (xs (nI q + (1 : Int32)).toNatClampNeg)]) (rest := []) ⟨hx, hb, hml, hown, hts⟩ hK hN hA hP hD hS c1 (cwV 1 hts gL_law_X1_stay rfl rfl rfl hd_X1_stay ⟨Nat.le_of_ble_eq_true rfl, Nat.le_of_ble_eq_true rfl⟩) (lrc_1 hK hP) (lbp_1 A B cI x n mm k t _ _ _ _) rfl hl.1 rfl (Nat.le_of_ble_eq_true rfl) dL_law_861 ⟨Nat.le_of_ble_eq_true rfl, Nat.le_of_ble_eq_true rfl⟩ (fun H locs hP hD hS => ?_)
  refine lv_aload_n hx hb dL_law_864 rfl (lv_at hl 1 rfl) ?_
  refine lv_aload_n hx hb dL_law_865 rfl (lv_at hl 3 rfl) ?_
  refine lv_iload_n hx hb dL_law_866 rfl (lv_at hl 0 rfl) ?_
  refine lv_iconst (v := (1 : Int32)) hx hb dL_law_867 (by decide) ?_
  refine lv_iadd hx hb dL_law_868 ?_
  refine va_sld hx hb hX hbl hbA hS (i := nI q + (1 : Int32)) (lz_in hq hL 1 (by decide)) dL_law_869 ?_
  refine qV_i (ws' := (wX A cI x9 n m9 k ++ wM B cI t9)) (As := [.int (xs (nI q + (1 : Int32)).toNatClampNeg)]) (rest := [.int r]) ⟨hx, hb, hml, hown, hts⟩ hK hN hA hP hD hS c2 (cwV 1 hts gL_law_X2_stay rfl rfl rfl hd_X2_stay ⟨Nat.le_of_ble_eq_true rfl, Nat.le_of_ble_eq_true rfl⟩) (lrc_2 hK hP) (lbp_2 A B cI _ _ _ _ t _) rfl hl.1 rfl (Nat.le_of_ble_eq_true rfl) dL_law_870 ⟨Nat.le_of_ble_eq_true rfl, Nat.le_of_ble_eq_true rfl⟩ (fun H locs hP hD hS => ?_)
  refine lv_icmp_eq (tgt := 1229) hx hb dL_law_873 (by decide) (fun _ => ?_) (fun c => absurd rfl c)
  exact lc_go hx hb hl (fun ls1 hl1 => kk H locs ls1 x9 n m9 k t9 ⟨hR, hP, hD, hS, hl1⟩)
theorem hd_X1_richest : yX1_richest.cls = RX1 ∧ yX1_richest.cls ≠ "java/lang/invoke/MethodHandle" ∧ yX1_richest.cls ≠ "java/lang/invoke/VarHandle" ∧ (parseMethodDescriptor yX1_richest.desc).map (fun d => d.parameters.length) = some 1 := by decide +kernel
theorem hd_X2_richest : yX2_richest.cls = RX2 ∧ yX2_richest.cls ≠ "java/lang/invoke/MethodHandle" ∧ yX2_richest.cls ≠ "java/lang/invoke/VarHandle" ∧ (parseMethodDescriptor yX2_richest.desc).map (fun d => d.parameters.length) = some 1 := by decide +kernel
set_option maxHeartbeats 4000000 in
set_option maxRecDepth 100000 in
theorem lc_richest (C : LC p s m meth c b L xs D cI zA zV) (hq : q + 6 ≤ L) (hL : L ≤ 3072) (hI : LQ s b D cI A B q H locs ls x n mm k t) (kk : ∀ H1 locs1 ls1 x1 n1 m1 k1 t1, LQ s b D cI A B (q + 6) H1 locs1 ls1 x1 n1 m1 k1 t1 → W p l e room_1 s m #[Value.ref b] below meth c H1 locs1 57 1084 Q (F0 m 18 ls1 [])) : W p l e room_1 s m #[Value.ref b] below meth c H locs 57 1084 Q (F0 m 878 ls []) := by
  obtain ⟨hR, hP, hD, hS, hl⟩ := hI
  obtain ⟨hx, hb, hr, hml, hown, hts, hX, hbl, hlocks, hK, hN, hz⟩ := C
  have hA : ∀ q : Nat, s.heap.size ≤ q → (fun q : Nat => s.heap.size ≤ q) q := fun _ h => h
  have hbA : ¬ (fun q : Nat => s.heap.size ≤ q) b := Nat.not_le.mpr hbl
  obtain ⟨r, x9, t9, e1, e2, hR⟩ := richest_XM hR (xs (nI q + (1 : Int32)).toNatClampNeg)
  have c1 : uI l D cI yX1_richest wsX1_richest ({ frames := 3, cells := 0, slots := 0, locals := 66 } : Room) (.ref (A 0 0) :: [.int (xs (nI q + (1 : Int32)).toNatClampNeg)]) (wX A cI x n mm k) (wX A cI x9 n mm k) r := c_X1_richest l D cI A (xs (nI q + (1 : Int32)).toNatClampNeg) x n mm k (r, x9) e1
  have c2 : uI l D cI yX2_richest wsX2_richest ({ frames := 2, cells := 0, slots := 0, locals := 45 } : Room) (.ref (B 0) :: [.int (xs (nI q + (1 : Int32)).toNatClampNeg)]) (wM B cI t) (wM B cI t9) r := c_X2_richest l D cI B (xs (nI q + (1 : Int32)).toNatClampNeg) t (r, t9) e2
  refine lv_aload_n hx hb dL_law_878 rfl (lv_at hl 2 rfl) ?_
  refine lv_aload_n hx hb dL_law_879 rfl (lv_at hl 3 rfl) ?_
  refine lv_iload_n hx hb dL_law_880 rfl (lv_at hl 0 rfl) ?_
  refine lv_iconst (v := (1 : Int32)) hx hb dL_law_881 (by decide) ?_
  refine lv_iadd hx hb dL_law_882 ?_
  refine va_sld hx hb hX hbl hbA hS (i := nI q + (1 : Int32)) (lz_in hq hL 1 (by decide)) dL_law_883 ?_
  refine qV_i (ws' := (wX A cI x9 n mm k ++ wM B cI t)) (As := [.int (xs (nI q + (1 : Int32)).toNatClampNeg)]) (rest := []) ⟨hx, hb, hml, hown, hts⟩ hK hN hA hP hD hS c1 (cwV 1 hts gL_law_X1_richest rfl rfl rfl hd_X1_richest ⟨Nat.le_of_ble_eq_true rfl, Nat.le_of_ble_eq_true rfl⟩) (lrc_1 hK hP) (lbp_1 A B cI x n mm k t _ _ _ _) rfl hl.1 rfl (Nat.le_of_ble_eq_true rfl) dL_law_884 ⟨Nat.le_of_ble_eq_true rfl, Nat.le_of_ble_eq_true rfl⟩ (fun H locs hP hD hS => ?_)
  refine lv_aload_n hx hb dL_law_887 rfl (lv_at hl 1 rfl) ?_
  refine lv_aload_n hx hb dL_law_888 rfl (lv_at hl 3 rfl) ?_
  refine lv_iload_n hx hb dL_law_889 rfl (lv_at hl 0 rfl) ?_
  refine lv_iconst (v := (1 : Int32)) hx hb dL_law_890 (by decide) ?_
  refine lv_iadd hx hb dL_law_891 ?_
  refine va_sld hx hb hX hbl hbA hS (i := nI q + (1 : Int32)) (lz_in hq hL 1 (by decide)) dL_law_892 ?_
  refine qV_i (ws' := (wX A cI x9 n mm k ++ wM B cI t9)) (As := [.int (xs (nI q + (1 : Int32)).toNatClampNeg)]) (rest := [.int r]) ⟨hx, hb, hml, hown, hts⟩ hK hN hA hP hD hS c2 (cwV 1 hts gL_law_X2_richest rfl rfl rfl hd_X2_richest ⟨Nat.le_of_ble_eq_true rfl, Nat.le_of_ble_eq_true rfl⟩) (lrc_2 hK hP) (lbp_2 A B cI _ _ _ _ t _) rfl hl.1 rfl (Nat.le_of_ble_eq_true rfl) dL_law_893 ⟨Nat.le_of_ble_eq_true rfl, Nat.le_of_ble_eq_true rfl⟩ (fun H locs hP hD hS => ?_)
  refine lv_icmp_eq (tgt := 1229) hx hb dL_law_896 (by decide) (fun _ => ?_) (fun c => absurd rfl c)
  exact lc_go hx hb hl (fun ls1 hl1 => kk H locs ls1 x9 n mm k t9 ⟨hR, hP, hD, hS, hl1⟩)
theorem hd_X1_owned : yX1_owned.cls = RX1 ∧ yX1_owned.cls ≠ "java/lang/invoke/MethodHandle" ∧ yX1_owned.cls ≠ "java/lang/invoke/VarHandle" ∧ (parseMethodDescriptor yX1_owned.desc).map (fun d => d.parameters.length) = some 1 := by decide +kernel
theorem hd_X2_owned : yX2_owned.cls = RX2 ∧ yX2_owned.cls ≠ "java/lang/invoke/MethodHandle" ∧ yX2_owned.cls ≠ "java/lang/invoke/VarHandle" ∧ (parseMethodDescriptor yX2_owned.desc).map (fun d => d.parameters.length) = some 1 := by decide +kernel
set_option maxHeartbeats 4000000 in
set_option maxRecDepth 100000 in
theorem lc_owned (C : LC p s m meth c b L xs D cI zA zV) (hq : q + 6 ≤ L) (hL : L ≤ 3072) (hI : LQ s b D cI A B q H locs ls x n mm k t) (kk : ∀ H1 locs1 ls1 x1 n1 m1 k1 t1, LQ s b D cI A B (q + 6) H1 locs1 ls1 x1 n1 m1 k1 t1 → W p l e room_1 s m #[Value.ref b] below meth c H1 locs1 57 1084 Q (F0 m 18 ls1 [])) : W p l e room_1 s m #[Value.ref b] below meth c H locs 57 1084 Q (F0 m 901 ls []) := by
  obtain ⟨hR, hP, hD, hS, hl⟩ := hI
  obtain ⟨hx, hb, hr, hml, hown, hts, hX, hbl, hlocks, hK, hN, hz⟩ := C
  have hA : ∀ q : Nat, s.heap.size ≤ q → (fun q : Nat => s.heap.size ≤ q) q := fun _ h => h
  have hbA : ¬ (fun q : Nat => s.heap.size ≤ q) b := Nat.not_le.mpr hbl
  obtain ⟨r, x9, t9, e1, e2, hR⟩ := owned_XM hR (xs (nI q + (1 : Int32)).toNatClampNeg)
  have c1 : uI l D cI yX1_owned wsX1_owned ({ frames := 3, cells := 0, slots := 0, locals := 64 } : Room) (.ref (A 0 0) :: [.int (xs (nI q + (1 : Int32)).toNatClampNeg)]) (wX A cI x n mm k) (wX A cI x9 n mm k) r := c_X1_owned l D cI A (xs (nI q + (1 : Int32)).toNatClampNeg) x n mm k (r, x9) e1
  have c2 : uI l D cI yX2_owned wsX2_owned ({ frames := 1, cells := 0, slots := 0, locals := 24 } : Room) (.ref (B 0) :: [.int (xs (nI q + (1 : Int32)).toNatClampNeg)]) (wM B cI t) (wM B cI t9) r := c_X2_owned l D cI B (xs (nI q + (1 : Int32)).toNatClampNeg) t (r, t9) e2
  refine lv_aload_n hx hb dL_law_901 rfl (lv_at hl 2 rfl) ?_
  refine lv_aload_n hx hb dL_law_902 rfl (lv_at hl 3 rfl) ?_
  refine lv_iload_n hx hb dL_law_903 rfl (lv_at hl 0 rfl) ?_
  refine lv_iconst (v := (1 : Int32)) hx hb dL_law_904 (by decide) ?_
  refine lv_iadd hx hb dL_law_905 ?_
  refine va_sld hx hb hX hbl hbA hS (i := nI q + (1 : Int32)) (lz_in hq hL 1 (by decide)) dL_law_906 ?_
  refine qV_i (ws' := (wX A cI x9 n mm k ++ wM B cI t)) (As := [.int (xs (nI q + (1 : Int32)).toNatClampNeg)]) (rest := []) ⟨hx, hb, hml, hown, hts⟩ hK hN hA hP hD hS c1 (cwV 1 hts gL_law_X1_owned rfl rfl rfl hd_X1_owned ⟨Nat.le_of_ble_eq_true rfl, Nat.le_of_ble_eq_true rfl⟩) (lrc_1 hK hP) (lbp_1 A B cI x n mm k t _ _ _ _) rfl hl.1 rfl (Nat.le_of_ble_eq_true rfl) dL_law_907 ⟨Nat.le_of_ble_eq_true rfl, Nat.le_of_ble_eq_true rfl⟩ (fun H locs hP hD hS => ?_)
  refine lv_aload_n hx hb dL_law_910 rfl (lv_at hl 1 rfl) ?_
  refine lv_aload_n hx hb dL_law_911 rfl (lv_at hl 3 rfl) ?_
  refine lv_iload_n hx hb dL_law_912 rfl (lv_at hl 0 rfl) ?_
  refine lv_iconst (v := (1 : Int32)) hx hb dL_law_913 (by decide) ?_
  refine lv_iadd hx hb dL_law_914 ?_
  refine va_sld hx hb hX hbl hbA hS (i := nI q + (1 : Int32)) (lz_in hq hL 1 (by decide)) dL_law_915 ?_
  refine qV_i (ws' := (wX A cI x9 n mm k ++ wM B cI t9)) (As := [.int (xs (nI q + (1 : Int32)).toNatClampNeg)]) (rest := [.int r]) ⟨hx, hb, hml, hown, hts⟩ hK hN hA hP hD hS c2 (cwV 1 hts gL_law_X2_owned rfl rfl rfl hd_X2_owned ⟨Nat.le_of_ble_eq_true rfl, Nat.le_of_ble_eq_true rfl⟩) (lrc_2 hK hP) (lbp_2 A B cI _ _ _ _ t _) rfl hl.1 rfl (Nat.le_of_ble_eq_true rfl) dL_law_916 ⟨Nat.le_of_ble_eq_true rfl, Nat.le_of_ble_eq_true rfl⟩ (fun H locs hP hD hS => ?_)
  refine lv_icmp_eq (tgt := 1229) hx hb dL_law_919 (by decide) (fun _ => ?_) (fun c => absurd rfl c)
  exact lc_go hx hb hl (fun ls1 hl1 => kk H locs ls1 x9 n mm k t9 ⟨hR, hP, hD, hS, hl1⟩)
theorem hd_X1_two : yX1_two.cls = RX1 ∧ yX1_two.cls ≠ "java/lang/invoke/MethodHandle" ∧ yX1_two.cls ≠ "java/lang/invoke/VarHandle" ∧ (parseMethodDescriptor yX1_two.desc).map (fun d => d.parameters.length) = some 3 := by decide +kernel
theorem hd_X2_two : yX2_two.cls = RX2 ∧ yX2_two.cls ≠ "java/lang/invoke/MethodHandle" ∧ yX2_two.cls ≠ "java/lang/invoke/VarHandle" ∧ (parseMethodDescriptor yX2_two.desc).map (fun d => d.parameters.length) = some 3 := by decide +kernel
set_option maxHeartbeats 4000000 in
set_option maxRecDepth 100000 in
theorem lc_two (C : LC p s m meth c b L xs D cI zA zV) (hq : q + 6 ≤ L) (hL : L ≤ 3072) (hI : LQ s b D cI A B q H locs ls x n mm k t) (kk : ∀ H1 locs1 ls1 x1 n1 m1 k1 t1, LQ s b D cI A B (q + 6) H1 locs1 ls1 x1 n1 m1 k1 t1 → W p l e room_1 s m #[Value.ref b] below meth c H1 locs1 57 1084 Q (F0 m 18 ls1 [])) : W p l e room_1 s m #[Value.ref b] below meth c H locs 57 1084 Q (F0 m 924 ls []) := by
  obtain ⟨hR, hP, hD, hS, hl⟩ := hI
  obtain ⟨hx, hb, hr, hml, hown, hts, hX, hbl, hlocks, hK, hN, hz⟩ := C
  have hA : ∀ q : Nat, s.heap.size ≤ q → (fun q : Nat => s.heap.size ≤ q) q := fun _ h => h
  have hbA : ¬ (fun q : Nat => s.heap.size ≤ q) b := Nat.not_le.mpr hbl
  obtain ⟨r, x9, t9, e1, e2, hR⟩ := two_XM hR (xs (nI q + (1 : Int32)).toNatClampNeg) (xs (nI q + (2 : Int32)).toNatClampNeg) (xs (nI q + (3 : Int32)).toNatClampNeg)
  have c1 : uI l D cI yX1_two wsX1_two ({ frames := 4, cells := 0, slots := 0, locals := 101 } : Room) (.ref (A 0 0) :: [.int (xs (nI q + (1 : Int32)).toNatClampNeg), .int (xs (nI q + (2 : Int32)).toNatClampNeg), .int (xs (nI q + (3 : Int32)).toNatClampNeg)]) (wX A cI x n mm k) (wX A cI x9 n mm k) r := c_X1_two l D cI A (xs (nI q + (1 : Int32)).toNatClampNeg) (xs (nI q + (2 : Int32)).toNatClampNeg) (xs (nI q + (3 : Int32)).toNatClampNeg) x n mm k (r, x9) e1
  have c2 : uI l D cI yX2_two wsX2_two ({ frames := 8, cells := 0, slots := 0, locals := 184 } : Room) (.ref (B 0) :: [.int (xs (nI q + (1 : Int32)).toNatClampNeg), .int (xs (nI q + (2 : Int32)).toNatClampNeg), .int (xs (nI q + (3 : Int32)).toNatClampNeg)]) (wM B cI t) (wM B cI t9) r := c_X2_two l D cI B (xs (nI q + (1 : Int32)).toNatClampNeg) (xs (nI q + (2 : Int32)).toNatClampNeg) (xs (nI q + (3 : Int32)).toNatClampNeg) t (r, t9) e2
  refine lv_aload_n hx hb dL_law_924 rfl (lv_at hl 2 rfl) ?_
  refine lv_aload_n hx hb dL_law_925 rfl (lv_at hl 3 rfl) ?_
  refine lv_iload_n hx hb dL_law_926 rfl (lv_at hl 0 rfl) ?_
  refine lv_iconst (v := (1 : Int32)) hx hb dL_law_927 (by decide) ?_
  refine lv_iadd hx hb dL_law_928 ?_
  refine va_sld hx hb hX hbl hbA hS (i := nI q + (1 : Int32)) (lz_in hq hL 1 (by decide)) dL_law_929 ?_
  refine lv_aload_n hx hb dL_law_930 rfl (lv_at hl 3 rfl) ?_
  refine lv_iload_n hx hb dL_law_931 rfl (lv_at hl 0 rfl) ?_
  refine lv_iconst (v := (2 : Int32)) hx hb dL_law_932 (by decide) ?_
  refine lv_iadd hx hb dL_law_933 ?_
  refine va_sld hx hb hX hbl hbA hS (i := nI q + (2 : Int32)) (lz_in hq hL 2 (by decide)) dL_law_934 ?_
  refine lv_aload_n hx hb dL_law_935 rfl (lv_at hl 3 rfl) ?_
  refine lv_iload_n hx hb dL_law_936 rfl (lv_at hl 0 rfl) ?_
  refine lv_iconst (v := (3 : Int32)) hx hb dL_law_937 (by decide) ?_
  refine lv_iadd hx hb dL_law_938 ?_
  refine va_sld hx hb hX hbl hbA hS (i := nI q + (3 : Int32)) (lz_in hq hL 3 (by decide)) dL_law_939 ?_
  refine qV_i (ws' := (wX A cI x9 n mm k ++ wM B cI t)) (As := [.int (xs (nI q + (1 : Int32)).toNatClampNeg), .int (xs (nI q + (2 : Int32)).toNatClampNeg), .int (xs (nI q + (3 : Int32)).toNatClampNeg)]) (rest := []) ⟨hx, hb, hml, hown, hts⟩ hK hN hA hP hD hS c1 (cwV 3 hts gL_law_X1_two rfl rfl rfl hd_X1_two ⟨Nat.le_of_ble_eq_true rfl, Nat.le_of_ble_eq_true rfl⟩) (lrc_1 hK hP) (lbp_1 A B cI x n mm k t _ _ _ _) rfl hl.1 rfl (Nat.le_of_ble_eq_true rfl) dL_law_940 ⟨Nat.le_of_ble_eq_true rfl, Nat.le_of_ble_eq_true rfl⟩ (fun H locs hP hD hS => ?_)
  refine lv_aload_n hx hb dL_law_943 rfl (lv_at hl 1 rfl) ?_
  refine lv_aload_n hx hb dL_law_944 rfl (lv_at hl 3 rfl) ?_
  refine lv_iload_n hx hb dL_law_945 rfl (lv_at hl 0 rfl) ?_
  refine lv_iconst (v := (1 : Int32)) hx hb dL_law_946 (by decide) ?_
  refine lv_iadd hx hb dL_law_947 ?_
  refine va_sld hx hb hX hbl hbA hS (i := nI q + (1 : Int32)) (lz_in hq hL 1 (by decide)) dL_law_948 ?_
  refine lv_aload_n hx hb dL_law_949 rfl (lv_at hl 3 rfl) ?_
  refine lv_iload_n hx hb dL_law_950 rfl (lv_at hl 0 rfl) ?_
  refine lv_iconst (v := (2 : Int32)) hx hb dL_law_951 (by decide) ?_
  refine lv_iadd hx hb dL_law_952 ?_
  refine va_sld hx hb hX hbl hbA hS (i := nI q + (2 : Int32)) (lz_in hq hL 2 (by decide)) dL_law_953 ?_
  refine lv_aload_n hx hb dL_law_954 rfl (lv_at hl 3 rfl) ?_
  refine lv_iload_n hx hb dL_law_955 rfl (lv_at hl 0 rfl) ?_
  refine lv_iconst (v := (3 : Int32)) hx hb dL_law_956 (by decide) ?_
  refine lv_iadd hx hb dL_law_957 ?_
  refine va_sld hx hb hX hbl hbA hS (i := nI q + (3 : Int32)) (lz_in hq hL 3 (by decide)) dL_law_958 ?_
  refine qV_i (ws' := (wX A cI x9 n mm k ++ wM B cI t9)) (As := [.int (xs (nI q + (1 : Int32)).toNatClampNeg), .int (xs (nI q + (2 : Int32)).toNatClampNeg), .int (xs (nI q + (3 : Int32)).toNatClampNeg)]) (rest := [.int r]) ⟨hx, hb, hml, hown, hts⟩ hK hN hA hP hD hS c2 (cwV 3 hts gL_law_X2_two rfl rfl rfl hd_X2_two ⟨Nat.le_of_ble_eq_true rfl, Nat.le_of_ble_eq_true rfl⟩) (lrc_2 hK hP) (lbp_2 A B cI _ _ _ _ t _) rfl hl.1 rfl (Nat.le_of_ble_eq_true rfl) dL_law_959 ⟨Nat.le_of_ble_eq_true rfl, Nat.le_of_ble_eq_true rfl⟩ (fun H locs hP hD hS => ?_)
  refine lv_icmp_eq (tgt := 1229) hx hb dL_law_962 (by decide) (fun _ => ?_) (fun c => absurd rfl c)
  exact lc_go hx hb hl (fun ls1 hl1 => kk H locs ls1 x9 n mm k t9 ⟨hR, hP, hD, hS, hl1⟩)
theorem hd_X1_stutter : yX1_stutter.cls = RX1 ∧ yX1_stutter.cls ≠ "java/lang/invoke/MethodHandle" ∧ yX1_stutter.cls ≠ "java/lang/invoke/VarHandle" ∧ (parseMethodDescriptor yX1_stutter.desc).map (fun d => d.parameters.length) = some 5 := by decide +kernel
theorem hd_X2_stutter : yX2_stutter.cls = RX2 ∧ yX2_stutter.cls ≠ "java/lang/invoke/MethodHandle" ∧ yX2_stutter.cls ≠ "java/lang/invoke/VarHandle" ∧ (parseMethodDescriptor yX2_stutter.desc).map (fun d => d.parameters.length) = some 5 := by decide +kernel
theorem lcz (r : Int64) : lg_cmp r r = 0 := by simp [lg_cmp]
set_option maxHeartbeats 4000000 in
set_option maxRecDepth 100000 in
theorem lc_stutter (C : LC p s m meth c b L xs D cI zA zV) (hq : q + 6 ≤ L) (hL : L ≤ 3072) (hI : LQ s b D cI A B q H locs ls x n mm k t) (kk : ∀ H1 locs1 ls1 x1 n1 m1 k1 t1, LQ s b D cI A B (q + 6) H1 locs1 ls1 x1 n1 m1 k1 t1 → W p l e room_1 s m #[Value.ref b] below meth c H1 locs1 57 1084 Q (F0 m 18 ls1 [])) : W p l e room_1 s m #[Value.ref b] below meth c H locs 57 1084 Q (F0 m 967 ls []) := by
  obtain ⟨hR, hP, hD, hS, hl⟩ := hI
  obtain ⟨hx, hb, hr, hml, hown, hts, hX, hbl, hlocks, hK, hN, hz⟩ := C
  have hA : ∀ q : Nat, s.heap.size ≤ q → (fun q : Nat => s.heap.size ≤ q) q := fun _ h => h
  have hbA : ¬ (fun q : Nat => s.heap.size ≤ q) b := Nat.not_le.mpr hbl
  obtain ⟨r, x9, m9, t9, e1, e2, hR⟩ := stutter_XM hR (xs (nI q + (1 : Int32)).toNatClampNeg) (xs (nI q + (2 : Int32)).toNatClampNeg) (xs (nI q + (3 : Int32)).toNatClampNeg) (xs (nI q + (4 : Int32)).toNatClampNeg) (xs (nI q + (5 : Int32)).toNatClampNeg)
  have c1 : uL l D cI yX1_stutter wsX1_stutter ({ frames := 6, cells := 0, slots := 0, locals := 156 } : Room) (.ref (A 0 0) :: [.int (xs (nI q + (1 : Int32)).toNatClampNeg), .int (xs (nI q + (2 : Int32)).toNatClampNeg), .int (xs (nI q + (3 : Int32)).toNatClampNeg), .int (xs (nI q + (4 : Int32)).toNatClampNeg), .int (xs (nI q + (5 : Int32)).toNatClampNeg)]) (wX A cI x n mm k) (wX A cI x9 n m9 k) r := c_X1_stutter l D cI A (xs (nI q + (1 : Int32)).toNatClampNeg) (xs (nI q + (2 : Int32)).toNatClampNeg) (xs (nI q + (3 : Int32)).toNatClampNeg) (xs (nI q + (4 : Int32)).toNatClampNeg) (xs (nI q + (5 : Int32)).toNatClampNeg) x n mm k (r, x9, m9) e1
  have c2 : uL l D cI yX2_stutter wsX2_stutter ({ frames := 8, cells := 0, slots := 0, locals := 182 } : Room) (.ref (B 0) :: [.int (xs (nI q + (1 : Int32)).toNatClampNeg), .int (xs (nI q + (2 : Int32)).toNatClampNeg), .int (xs (nI q + (3 : Int32)).toNatClampNeg), .int (xs (nI q + (4 : Int32)).toNatClampNeg), .int (xs (nI q + (5 : Int32)).toNatClampNeg)]) (wM B cI t) (wM B cI t9) r := c_X2_stutter l D cI B (xs (nI q + (1 : Int32)).toNatClampNeg) (xs (nI q + (2 : Int32)).toNatClampNeg) (xs (nI q + (3 : Int32)).toNatClampNeg) (xs (nI q + (4 : Int32)).toNatClampNeg) (xs (nI q + (5 : Int32)).toNatClampNeg) t (r, t9) e2
  refine lv_aload_n hx hb dL_law_967 rfl (lv_at hl 2 rfl) ?_
  refine lv_aload_n hx hb dL_law_968 rfl (lv_at hl 3 rfl) ?_
  refine lv_iload_n hx hb dL_law_969 rfl (lv_at hl 0 rfl) ?_
  refine lv_iconst (v := (1 : Int32)) hx hb dL_law_970 (by decide) ?_
  refine lv_iadd hx hb dL_law_971 ?_
  refine va_sld hx hb hX hbl hbA hS (i := nI q + (1 : Int32)) (lz_in hq hL 1 (by decide)) dL_law_972 ?_
  refine lv_aload_n hx hb dL_law_973 rfl (lv_at hl 3 rfl) ?_
  refine lv_iload_n hx hb dL_law_974 rfl (lv_at hl 0 rfl) ?_
  refine lv_iconst (v := (2 : Int32)) hx hb dL_law_975 (by decide) ?_
  refine lv_iadd hx hb dL_law_976 ?_
  refine va_sld hx hb hX hbl hbA hS (i := nI q + (2 : Int32)) (lz_in hq hL 2 (by decide)) dL_law_977 ?_
  refine lv_aload_n hx hb dL_law_978 rfl (lv_at hl 3 rfl) ?_
  refine lv_iload_n hx hb dL_law_979 rfl (lv_at hl 0 rfl) ?_
  refine lv_iconst (v := (3 : Int32)) hx hb dL_law_980 (by decide) ?_
  refine lv_iadd hx hb dL_law_981 ?_
  refine va_sld hx hb hX hbl hbA hS (i := nI q + (3 : Int32)) (lz_in hq hL 3 (by decide)) dL_law_982 ?_
  refine lv_aload_n hx hb dL_law_983 rfl (lv_at hl 3 rfl) ?_
  refine lv_iload_n hx hb dL_law_984 rfl (lv_at hl 0 rfl) ?_
  refine lv_iconst (v := (4 : Int32)) hx hb dL_law_985 (by decide) ?_
  refine lv_iadd hx hb dL_law_986 ?_
  refine va_sld hx hb hX hbl hbA hS (i := nI q + (4 : Int32)) (lz_in hq hL 4 (by decide)) dL_law_987 ?_
  refine lv_aload_n hx hb dL_law_988 rfl (lv_at hl 3 rfl) ?_
  refine lv_iload_n hx hb dL_law_989 rfl (lv_at hl 0 rfl) ?_
  refine lv_iconst (v := (5 : Int32)) hx hb dL_law_990 (by decide) ?_
  refine lv_iadd hx hb dL_law_991 ?_
  refine va_sld hx hb hX hbl hbA hS (i := nI q + (5 : Int32)) (lz_in hq hL 5 (by decide)) dL_law_992 ?_
  refine qV_l (ws' := (wX A cI x9 n m9 k ++ wM B cI t)) (As := [.int (xs (nI q + (1 : Int32)).toNatClampNeg), .int (xs (nI q + (2 : Int32)).toNatClampNeg), .int (xs (nI q + (3 : Int32)).toNatClampNeg), .int (xs (nI q + (4 : Int32)).toNatClampNeg), .int (xs (nI q + (5 : Int32)).toNatClampNeg)]) (rest := []) ⟨hx, hb, hml, hown, hts⟩ hK hN hA hP hD hS c1 (cwV 5 hts gL_law_X1_stutter rfl rfl rfl hd_X1_stutter ⟨Nat.le_of_ble_eq_true rfl, Nat.le_of_ble_eq_true rfl⟩) (lrc_1 hK hP) (lbp_1 A B cI x n mm k t _ _ _ _) rfl hl.1 rfl (Nat.le_of_ble_eq_true rfl) dL_law_993 ⟨Nat.le_of_ble_eq_true rfl, Nat.le_of_ble_eq_true rfl⟩ (fun H locs hP hD hS => ?_)
  refine lv_aload_n hx hb dL_law_996 rfl (lv_at hl 1 rfl) ?_
  refine lv_aload_n hx hb dL_law_997 rfl (lv_at hl 3 rfl) ?_
  refine lv_iload_n hx hb dL_law_998 rfl (lv_at hl 0 rfl) ?_
  refine lv_iconst (v := (1 : Int32)) hx hb dL_law_999 (by decide) ?_
  refine lv_iadd hx hb dL_law_1000 ?_
  refine va_sld hx hb hX hbl hbA hS (i := nI q + (1 : Int32)) (lz_in hq hL 1 (by decide)) dL_law_1001 ?_
  refine lv_aload_n hx hb dL_law_1002 rfl (lv_at hl 3 rfl) ?_
  refine lv_iload_n hx hb dL_law_1003 rfl (lv_at hl 0 rfl) ?_
  refine lv_iconst (v := (2 : Int32)) hx hb dL_law_1004 (by decide) ?_
  refine lv_iadd hx hb dL_law_1005 ?_
  refine va_sld hx hb hX hbl hbA hS (i := nI q + (2 : Int32)) (lz_in hq hL 2 (by decide)) dL_law_1006 ?_
  refine lv_aload_n hx hb dL_law_1007 rfl (lv_at hl 3 rfl) ?_
  refine lv_iload_n hx hb dL_law_1008 rfl (lv_at hl 0 rfl) ?_
  refine lv_iconst (v := (3 : Int32)) hx hb dL_law_1009 (by decide) ?_
  refine lv_iadd hx hb dL_law_1010 ?_
  refine va_sld hx hb hX hbl hbA hS (i := nI q + (3 : Int32)) (lz_in hq hL 3 (by decide)) dL_law_1011 ?_
  refine lv_aload_n hx hb dL_law_1012 rfl (lv_at hl 3 rfl) ?_
  refine lv_iload_n hx hb dL_law_1013 rfl (lv_at hl 0 rfl) ?_
  refine lv_iconst (v := (4 : Int32)) hx hb dL_law_1014 (by decide) ?_
  refine lv_iadd hx hb dL_law_1015 ?_
  refine va_sld hx hb hX hbl hbA hS (i := nI q + (4 : Int32)) (lz_in hq hL 4 (by decide)) dL_law_1016 ?_
  refine lv_aload_n hx hb dL_law_1017 rfl (lv_at hl 3 rfl) ?_
  refine lv_iload_n hx hb dL_law_1018 rfl (lv_at hl 0 rfl) ?_
  refine lv_iconst (v := (5 : Int32)) hx hb dL_law_1019 (by decide) ?_
  refine lv_iadd hx hb dL_law_1020 ?_
  refine va_sld hx hb hX hbl hbA hS (i := nI q + (5 : Int32)) (lz_in hq hL 5 (by decide)) dL_law_1021 ?_
  refine qV_l (ws' := (wX A cI x9 n m9 k ++ wM B cI t9)) (As := [.int (xs (nI q + (1 : Int32)).toNatClampNeg), .int (xs (nI q + (2 : Int32)).toNatClampNeg), .int (xs (nI q + (3 : Int32)).toNatClampNeg), .int (xs (nI q + (4 : Int32)).toNatClampNeg), .int (xs (nI q + (5 : Int32)).toNatClampNeg)]) (rest := [.long r]) ⟨hx, hb, hml, hown, hts⟩ hK hN hA hP hD hS c2 (cwV 5 hts gL_law_X2_stutter rfl rfl rfl hd_X2_stutter ⟨Nat.le_of_ble_eq_true rfl, Nat.le_of_ble_eq_true rfl⟩) (lrc_2 hK hP) (lbp_2 A B cI _ _ _ _ t _) rfl hl.1 rfl (Nat.le_of_ble_eq_true rfl) dL_law_1022 ⟨Nat.le_of_ble_eq_true rfl, Nat.le_of_ble_eq_true rfl⟩ (fun H locs hP hD hS => ?_)
  refine W.lcmp hx hb dL_law_1025 ?_
  refine lv_if_eq (tgt := 1229) hx hb dL_law_1026 (by decide) (fun _ => ?_) (fun c => absurd (lcz r) c)
  exact lc_go hx hb hl (fun ls1 hl1 => kk H locs ls1 x9 n m9 k t9 ⟨hR, hP, hD, hS, hl1⟩)
theorem hd_X1_mean : yX1_mean.cls = RX1 ∧ yX1_mean.cls ≠ "java/lang/invoke/MethodHandle" ∧ yX1_mean.cls ≠ "java/lang/invoke/VarHandle" ∧ (parseMethodDescriptor yX1_mean.desc).map (fun d => d.parameters.length) = some 1 := by decide +kernel
theorem hd_X2_mean : yX2_mean.cls = RX2 ∧ yX2_mean.cls ≠ "java/lang/invoke/MethodHandle" ∧ yX2_mean.cls ≠ "java/lang/invoke/VarHandle" ∧ (parseMethodDescriptor yX2_mean.desc).map (fun d => d.parameters.length) = some 1 := by decide +kernel
set_option maxHeartbeats 4000000 in
set_option maxRecDepth 100000 in
theorem lc_mean (C : LC p s m meth c b L xs D cI zA zV) (hq : q + 6 ≤ L) (hL : L ≤ 3072) (hI : LQ s b D cI A B q H locs ls x n mm k t) (kk : ∀ H1 locs1 ls1 x1 n1 m1 k1 t1, LQ s b D cI A B (q + 6) H1 locs1 ls1 x1 n1 m1 k1 t1 → W p l e room_1 s m #[Value.ref b] below meth c H1 locs1 57 1084 Q (F0 m 18 ls1 [])) : W p l e room_1 s m #[Value.ref b] below meth c H locs 57 1084 Q (F0 m 1031 ls []) := by
  obtain ⟨hR, hP, hD, hS, hl⟩ := hI
  obtain ⟨hx, hb, hr, hml, hown, hts, hX, hbl, hlocks, hK, hN, hz⟩ := C
  have hA : ∀ q : Nat, s.heap.size ≤ q → (fun q : Nat => s.heap.size ≤ q) q := fun _ h => h
  have hbA : ¬ (fun q : Nat => s.heap.size ≤ q) b := Nat.not_le.mpr hbl
  obtain ⟨r, x9, t9, e1, e2, hR⟩ := mean_XM hR (xs (nI q + (1 : Int32)).toNatClampNeg)
  have c1 : uL l D cI yX1_mean wsX1_mean ({ frames := 3, cells := 0, slots := 0, locals := 64 } : Room) (.ref (A 0 0) :: [.int (xs (nI q + (1 : Int32)).toNatClampNeg)]) (wX A cI x n mm k) (wX A cI x9 n mm k) r := c_X1_mean l D cI A (xs (nI q + (1 : Int32)).toNatClampNeg) x n mm k (r, x9) e1
  have c2 : uL l D cI yX2_mean wsX2_mean ({ frames := 2, cells := 0, slots := 0, locals := 53 } : Room) (.ref (B 0) :: [.int (xs (nI q + (1 : Int32)).toNatClampNeg)]) (wM B cI t) (wM B cI t9) r := c_X2_mean l D cI B (xs (nI q + (1 : Int32)).toNatClampNeg) t (r, t9) e2
  refine lv_aload_n hx hb dL_law_1031 rfl (lv_at hl 2 rfl) ?_
  refine lv_aload_n hx hb dL_law_1032 rfl (lv_at hl 3 rfl) ?_
  refine lv_iload_n hx hb dL_law_1033 rfl (lv_at hl 0 rfl) ?_
  refine lv_iconst (v := (1 : Int32)) hx hb dL_law_1034 (by decide) ?_
  refine lv_iadd hx hb dL_law_1035 ?_
  refine va_sld hx hb hX hbl hbA hS (i := nI q + (1 : Int32)) (lz_in hq hL 1 (by decide)) dL_law_1036 ?_
  refine qV_l (ws' := (wX A cI x9 n mm k ++ wM B cI t)) (As := [.int (xs (nI q + (1 : Int32)).toNatClampNeg)]) (rest := []) ⟨hx, hb, hml, hown, hts⟩ hK hN hA hP hD hS c1 (cwV 1 hts gL_law_X1_mean rfl rfl rfl hd_X1_mean ⟨Nat.le_of_ble_eq_true rfl, Nat.le_of_ble_eq_true rfl⟩) (lrc_1 hK hP) (lbp_1 A B cI x n mm k t _ _ _ _) rfl hl.1 rfl (Nat.le_of_ble_eq_true rfl) dL_law_1037 ⟨Nat.le_of_ble_eq_true rfl, Nat.le_of_ble_eq_true rfl⟩ (fun H locs hP hD hS => ?_)
  refine lv_aload_n hx hb dL_law_1040 rfl (lv_at hl 1 rfl) ?_
  refine lv_aload_n hx hb dL_law_1041 rfl (lv_at hl 3 rfl) ?_
  refine lv_iload_n hx hb dL_law_1042 rfl (lv_at hl 0 rfl) ?_
  refine lv_iconst (v := (1 : Int32)) hx hb dL_law_1043 (by decide) ?_
  refine lv_iadd hx hb dL_law_1044 ?_
  refine va_sld hx hb hX hbl hbA hS (i := nI q + (1 : Int32)) (lz_in hq hL 1 (by decide)) dL_law_1045 ?_
  refine qV_l (ws' := (wX A cI x9 n mm k ++ wM B cI t9)) (As := [.int (xs (nI q + (1 : Int32)).toNatClampNeg)]) (rest := [.long r]) ⟨hx, hb, hml, hown, hts⟩ hK hN hA hP hD hS c2 (cwV 1 hts gL_law_X2_mean rfl rfl rfl hd_X2_mean ⟨Nat.le_of_ble_eq_true rfl, Nat.le_of_ble_eq_true rfl⟩) (lrc_2 hK hP) (lbp_2 A B cI _ _ _ _ t _) rfl hl.1 rfl (Nat.le_of_ble_eq_true rfl) dL_law_1046 ⟨Nat.le_of_ble_eq_true rfl, Nat.le_of_ble_eq_true rfl⟩ (fun H locs hP hD hS => ?_)
  refine W.lcmp hx hb dL_law_1049 ?_
  refine lv_if_eq (tgt := 1229) hx hb dL_law_1050 (by decide) (fun _ => ?_) (fun c => absurd (lcz r) c)
  exact lc_go hx hb hl (fun ls1 hl1 => kk H locs ls1 x9 n mm k t9 ⟨hR, hP, hD, hS, hl1⟩)
theorem hd_X1_whoTold : yX1_whoTold.cls = RX1 ∧ yX1_whoTold.cls ≠ "java/lang/invoke/MethodHandle" ∧ yX1_whoTold.cls ≠ "java/lang/invoke/VarHandle" ∧ (parseMethodDescriptor yX1_whoTold.desc).map (fun d => d.parameters.length) = some 2 := by decide +kernel
theorem hd_X2_whoTold : yX2_whoTold.cls = RX2 ∧ yX2_whoTold.cls ≠ "java/lang/invoke/MethodHandle" ∧ yX2_whoTold.cls ≠ "java/lang/invoke/VarHandle" ∧ (parseMethodDescriptor yX2_whoTold.desc).map (fun d => d.parameters.length) = some 2 := by decide +kernel
set_option maxHeartbeats 4000000 in
set_option maxRecDepth 100000 in
theorem lc_whoTold (C : LC p s m meth c b L xs D cI zA zV) (hq : q + 6 ≤ L) (hL : L ≤ 3072) (hI : LQ s b D cI A B q H locs ls x n mm k t) (kk : ∀ H1 locs1 ls1 x1 n1 m1 k1 t1, LQ s b D cI A B (q + 6) H1 locs1 ls1 x1 n1 m1 k1 t1 → W p l e room_1 s m #[Value.ref b] below meth c H1 locs1 57 1084 Q (F0 m 18 ls1 [])) : W p l e room_1 s m #[Value.ref b] below meth c H locs 57 1084 Q (F0 m 1055 ls []) := by
  obtain ⟨hR, hP, hD, hS, hl⟩ := hI
  obtain ⟨hx, hb, hr, hml, hown, hts, hX, hbl, hlocks, hK, hN, hz⟩ := C
  have hA : ∀ q : Nat, s.heap.size ≤ q → (fun q : Nat => s.heap.size ≤ q) q := fun _ h => h
  have hbA : ¬ (fun q : Nat => s.heap.size ≤ q) b := Nat.not_le.mpr hbl
  obtain ⟨r, x9, m9, t9, e1, e2, hR⟩ := whoTold_XM hR (xs (nI q + (1 : Int32)).toNatClampNeg) (xs (nI q + (2 : Int32)).toNatClampNeg)
  have c1 : uI l D cI yX1_whoTold wsX1_whoTold ({ frames := 5, cells := 0, slots := 0, locals := 128 } : Room) (.ref (A 0 0) :: [.int (xs (nI q + (1 : Int32)).toNatClampNeg), .int (xs (nI q + (2 : Int32)).toNatClampNeg)]) (wX A cI x n mm k) (wX A cI x9 n m9 k) r := c_X1_whoTold l D cI A (xs (nI q + (1 : Int32)).toNatClampNeg) (xs (nI q + (2 : Int32)).toNatClampNeg) x n mm k (r, x9, m9) e1
  have c2 : uI l D cI yX2_whoTold wsX2_whoTold ({ frames := 10, cells := 0, slots := 0, locals := 229 } : Room) (.ref (B 0) :: [.int (xs (nI q + (1 : Int32)).toNatClampNeg), .int (xs (nI q + (2 : Int32)).toNatClampNeg)]) (wM B cI t) (wM B cI t9) r := c_X2_whoTold l D cI B (xs (nI q + (1 : Int32)).toNatClampNeg) (xs (nI q + (2 : Int32)).toNatClampNeg) t (r, t9) e2
  refine lv_aload_n hx hb dL_law_1055 rfl (lv_at hl 2 rfl) ?_
  refine lv_aload_n hx hb dL_law_1056 rfl (lv_at hl 3 rfl) ?_
  refine lv_iload_n hx hb dL_law_1057 rfl (lv_at hl 0 rfl) ?_
  refine lv_iconst (v := (1 : Int32)) hx hb dL_law_1058 (by decide) ?_
  refine lv_iadd hx hb dL_law_1059 ?_
  refine va_sld hx hb hX hbl hbA hS (i := nI q + (1 : Int32)) (lz_in hq hL 1 (by decide)) dL_law_1060 ?_
  refine lv_aload_n hx hb dL_law_1061 rfl (lv_at hl 3 rfl) ?_
  refine lv_iload_n hx hb dL_law_1062 rfl (lv_at hl 0 rfl) ?_
  refine lv_iconst (v := (2 : Int32)) hx hb dL_law_1063 (by decide) ?_
  refine lv_iadd hx hb dL_law_1064 ?_
  refine va_sld hx hb hX hbl hbA hS (i := nI q + (2 : Int32)) (lz_in hq hL 2 (by decide)) dL_law_1065 ?_
  refine qV_i (ws' := (wX A cI x9 n m9 k ++ wM B cI t)) (As := [.int (xs (nI q + (1 : Int32)).toNatClampNeg), .int (xs (nI q + (2 : Int32)).toNatClampNeg)]) (rest := []) ⟨hx, hb, hml, hown, hts⟩ hK hN hA hP hD hS c1 (cwV 2 hts gL_law_X1_whoTold rfl rfl rfl hd_X1_whoTold ⟨Nat.le_of_ble_eq_true rfl, Nat.le_of_ble_eq_true rfl⟩) (lrc_1 hK hP) (lbp_1 A B cI x n mm k t _ _ _ _) rfl hl.1 rfl (Nat.le_of_ble_eq_true rfl) dL_law_1066 ⟨Nat.le_of_ble_eq_true rfl, Nat.le_of_ble_eq_true rfl⟩ (fun H locs hP hD hS => ?_)
  refine lv_aload_n hx hb dL_law_1069 rfl (lv_at hl 1 rfl) ?_
  refine lv_aload_n hx hb dL_law_1070 rfl (lv_at hl 3 rfl) ?_
  refine lv_iload_n hx hb dL_law_1071 rfl (lv_at hl 0 rfl) ?_
  refine lv_iconst (v := (1 : Int32)) hx hb dL_law_1072 (by decide) ?_
  refine lv_iadd hx hb dL_law_1073 ?_
  refine va_sld hx hb hX hbl hbA hS (i := nI q + (1 : Int32)) (lz_in hq hL 1 (by decide)) dL_law_1074 ?_
  refine lv_aload_n hx hb dL_law_1075 rfl (lv_at hl 3 rfl) ?_
  refine lv_iload_n hx hb dL_law_1076 rfl (lv_at hl 0 rfl) ?_
  refine lv_iconst (v := (2 : Int32)) hx hb dL_law_1077 (by decide) ?_
  refine lv_iadd hx hb dL_law_1078 ?_
  refine va_sld hx hb hX hbl hbA hS (i := nI q + (2 : Int32)) (lz_in hq hL 2 (by decide)) dL_law_1079 ?_
  refine qV_i (ws' := (wX A cI x9 n m9 k ++ wM B cI t9)) (As := [.int (xs (nI q + (1 : Int32)).toNatClampNeg), .int (xs (nI q + (2 : Int32)).toNatClampNeg)]) (rest := [.int r]) ⟨hx, hb, hml, hown, hts⟩ hK hN hA hP hD hS c2 (cwV 2 hts gL_law_X2_whoTold rfl rfl rfl hd_X2_whoTold ⟨Nat.le_of_ble_eq_true rfl, Nat.le_of_ble_eq_true rfl⟩) (lrc_2 hK hP) (lbp_2 A B cI _ _ _ _ t _) rfl hl.1 rfl (Nat.le_of_ble_eq_true rfl) dL_law_1080 ⟨Nat.le_of_ble_eq_true rfl, Nat.le_of_ble_eq_true rfl⟩ (fun H locs hP hD hS => ?_)
  refine lv_icmp_eq (tgt := 1229) hx hb dL_law_1083 (by decide) (fun _ => ?_) (fun c => absurd rfl c)
  exact lc_go hx hb hl (fun ls1 hl1 => kk H locs ls1 x9 n m9 k t9 ⟨hR, hP, hD, hS, hl1⟩)
theorem hd_X1_row : yX1_row.cls = RX1 ∧ yX1_row.cls ≠ "java/lang/invoke/MethodHandle" ∧ yX1_row.cls ≠ "java/lang/invoke/VarHandle" ∧ (parseMethodDescriptor yX1_row.desc).map (fun d => d.parameters.length) = some 1 := by decide +kernel
theorem hd_X2_row : yX2_row.cls = RX2 ∧ yX2_row.cls ≠ "java/lang/invoke/MethodHandle" ∧ yX2_row.cls ≠ "java/lang/invoke/VarHandle" ∧ (parseMethodDescriptor yX2_row.desc).map (fun d => d.parameters.length) = some 1 := by decide +kernel
set_option maxHeartbeats 4000000 in
set_option maxRecDepth 100000 in
theorem lc_row (C : LC p s m meth c b L xs D cI zA zV) (hq : q + 6 ≤ L) (hL : L ≤ 3072) (hI : LQ s b D cI A B q H locs ls x n mm k t) (kk : ∀ H1 locs1 ls1 x1 n1 m1 k1 t1, LQ s b D cI A B (q + 6) H1 locs1 ls1 x1 n1 m1 k1 t1 → W p l e room_1 s m #[Value.ref b] below meth c H1 locs1 57 1084 Q (F0 m 18 ls1 [])) : W p l e room_1 s m #[Value.ref b] below meth c H locs 57 1084 Q (F0 m 1088 ls []) := by
  obtain ⟨hR, hP, hD, hS, hl⟩ := hI
  obtain ⟨hx, hb, hr, hml, hown, hts, hX, hbl, hlocks, hK, hN, hz⟩ := C
  have hA : ∀ q : Nat, s.heap.size ≤ q → (fun q : Nat => s.heap.size ≤ q) q := fun _ h => h
  have hbA : ¬ (fun q : Nat => s.heap.size ≤ q) b := Nat.not_le.mpr hbl
  obtain ⟨r, x9, t9, e1, e2, hR⟩ := row_XM hR (xs (nI q + (1 : Int32)).toNatClampNeg)
  have c1 : uI l D cI yX1_row wsX1_row ({ frames := 2, cells := 0, slots := 0, locals := 43 } : Room) (.ref (A 0 0) :: [.int (xs (nI q + (1 : Int32)).toNatClampNeg)]) (wX A cI x n mm k) (wX A cI x9 n mm k) r := c_X1_row l D cI A (xs (nI q + (1 : Int32)).toNatClampNeg) x n mm k (r, x9) e1
  have c2 : uI l D cI yX2_row wsX2_row ({ frames := 1, cells := 0, slots := 0, locals := 22 } : Room) (.ref (B 0) :: [.int (xs (nI q + (1 : Int32)).toNatClampNeg)]) (wM B cI t) (wM B cI t9) r := c_X2_row l D cI B (xs (nI q + (1 : Int32)).toNatClampNeg) t (r, t9) e2
  refine lv_aload_n hx hb dL_law_1088 rfl (lv_at hl 2 rfl) ?_
  refine lv_aload_n hx hb dL_law_1089 rfl (lv_at hl 3 rfl) ?_
  refine lv_iload_n hx hb dL_law_1090 rfl (lv_at hl 0 rfl) ?_
  refine lv_iconst (v := (1 : Int32)) hx hb dL_law_1091 (by decide) ?_
  refine lv_iadd hx hb dL_law_1092 ?_
  refine va_sld hx hb hX hbl hbA hS (i := nI q + (1 : Int32)) (lz_in hq hL 1 (by decide)) dL_law_1093 ?_
  refine qV_i (ws' := (wX A cI x9 n mm k ++ wM B cI t)) (As := [.int (xs (nI q + (1 : Int32)).toNatClampNeg)]) (rest := []) ⟨hx, hb, hml, hown, hts⟩ hK hN hA hP hD hS c1 (cwV 1 hts gL_law_X1_row rfl rfl rfl hd_X1_row ⟨Nat.le_of_ble_eq_true rfl, Nat.le_of_ble_eq_true rfl⟩) (lrc_1 hK hP) (lbp_1 A B cI x n mm k t _ _ _ _) rfl hl.1 rfl (Nat.le_of_ble_eq_true rfl) dL_law_1094 ⟨Nat.le_of_ble_eq_true rfl, Nat.le_of_ble_eq_true rfl⟩ (fun H locs hP hD hS => ?_)
  refine lv_aload_n hx hb dL_law_1097 rfl (lv_at hl 1 rfl) ?_
  refine lv_aload_n hx hb dL_law_1098 rfl (lv_at hl 3 rfl) ?_
  refine lv_iload_n hx hb dL_law_1099 rfl (lv_at hl 0 rfl) ?_
  refine lv_iconst (v := (1 : Int32)) hx hb dL_law_1100 (by decide) ?_
  refine lv_iadd hx hb dL_law_1101 ?_
  refine va_sld hx hb hX hbl hbA hS (i := nI q + (1 : Int32)) (lz_in hq hL 1 (by decide)) dL_law_1102 ?_
  refine qV_i (ws' := (wX A cI x9 n mm k ++ wM B cI t9)) (As := [.int (xs (nI q + (1 : Int32)).toNatClampNeg)]) (rest := [.int r]) ⟨hx, hb, hml, hown, hts⟩ hK hN hA hP hD hS c2 (cwV 1 hts gL_law_X2_row rfl rfl rfl hd_X2_row ⟨Nat.le_of_ble_eq_true rfl, Nat.le_of_ble_eq_true rfl⟩) (lrc_2 hK hP) (lbp_2 A B cI _ _ _ _ t _) rfl hl.1 rfl (Nat.le_of_ble_eq_true rfl) dL_law_1103 ⟨Nat.le_of_ble_eq_true rfl, Nat.le_of_ble_eq_true rfl⟩ (fun H locs hP hD hS => ?_)
  refine lv_icmp_eq (tgt := 1229) hx hb dL_law_1106 (by decide) (fun _ => ?_) (fun c => absurd rfl c)
  exact lc_go hx hb hl (fun ls1 hl1 => kk H locs ls1 x9 n mm k t9 ⟨hR, hP, hD, hS, hl1⟩)
theorem hd_X1_judge : yX1_judge.cls = RX1 ∧ yX1_judge.cls ≠ "java/lang/invoke/MethodHandle" ∧ yX1_judge.cls ≠ "java/lang/invoke/VarHandle" ∧ (parseMethodDescriptor yX1_judge.desc).map (fun d => d.parameters.length) = some 0 := by decide +kernel
theorem hd_X2_judge : yX2_judge.cls = RX2 ∧ yX2_judge.cls ≠ "java/lang/invoke/MethodHandle" ∧ yX2_judge.cls ≠ "java/lang/invoke/VarHandle" ∧ (parseMethodDescriptor yX2_judge.desc).map (fun d => d.parameters.length) = some 0 := by decide +kernel
set_option maxHeartbeats 4000000 in
set_option maxRecDepth 100000 in
theorem lc_judge (C : LC p s m meth c b L xs D cI zA zV) (hq : q + 6 ≤ L) (hL : L ≤ 3072) (hI : LQ s b D cI A B q H locs ls x n mm k t) (kk : ∀ H1 locs1 ls1 x1 n1 m1 k1 t1, LQ s b D cI A B (q + 6) H1 locs1 ls1 x1 n1 m1 k1 t1 → W p l e room_1 s m #[Value.ref b] below meth c H1 locs1 57 1084 Q (F0 m 18 ls1 [])) : W p l e room_1 s m #[Value.ref b] below meth c H locs 57 1084 Q (F0 m 1111 ls []) := by
  obtain ⟨hR, hP, hD, hS, hl⟩ := hI
  obtain ⟨hx, hb, hr, hml, hown, hts, hX, hbl, hlocks, hK, hN, hz⟩ := C
  have hA : ∀ q : Nat, s.heap.size ≤ q → (fun q : Nat => s.heap.size ≤ q) q := fun _ h => h
  have hbA : ¬ (fun q : Nat => s.heap.size ≤ q) b := Nat.not_le.mpr hbl
  obtain ⟨r, x9, t9, e1, e2, hR⟩ := judge_XM hR 
  have c1 : uI l D cI yX1_judge wsX1_judge ({ frames := 2, cells := 0, slots := 0, locals := 44 } : Room) (.ref (A 0 0) :: []) (wX A cI x n mm k) (wX A cI x9 n mm k) r := c_X1_judge l D cI A  x n mm k (r, x9) e1
  have c2 : uI l D cI yX2_judge wsX2_judge ({ frames := 1, cells := 0, slots := 0, locals := 23 } : Room) (.ref (B 0) :: []) (wM B cI t) (wM B cI t9) r := c_X2_judge l D cI B  t (r, t9) e2
  refine lv_aload_n hx hb dL_law_1111 rfl (lv_at hl 2 rfl) ?_
  refine qV_i (ws' := (wX A cI x9 n mm k ++ wM B cI t)) (As := []) (rest := []) ⟨hx, hb, hml, hown, hts⟩ hK hN hA hP hD hS c1 (cwV 0 hts gL_law_X1_judge rfl rfl rfl hd_X1_judge ⟨Nat.le_of_ble_eq_true rfl, Nat.le_of_ble_eq_true rfl⟩) (lrc_1 hK hP) (lbp_1 A B cI x n mm k t _ _ _ _) rfl hl.1 rfl (Nat.le_of_ble_eq_true rfl) dL_law_1112 ⟨Nat.le_of_ble_eq_true rfl, Nat.le_of_ble_eq_true rfl⟩ (fun H locs hP hD hS => ?_)
  refine lv_aload_n hx hb dL_law_1115 rfl (lv_at hl 1 rfl) ?_
  refine qV_i (ws' := (wX A cI x9 n mm k ++ wM B cI t9)) (As := []) (rest := [.int r]) ⟨hx, hb, hml, hown, hts⟩ hK hN hA hP hD hS c2 (cwV 0 hts gL_law_X2_judge rfl rfl rfl hd_X2_judge ⟨Nat.le_of_ble_eq_true rfl, Nat.le_of_ble_eq_true rfl⟩) (lrc_2 hK hP) (lbp_2 A B cI _ _ _ _ t _) rfl hl.1 rfl (Nat.le_of_ble_eq_true rfl) dL_law_1116 ⟨Nat.le_of_ble_eq_true rfl, Nat.le_of_ble_eq_true rfl⟩ (fun H locs hP hD hS => ?_)
  refine lv_icmp_eq (tgt := 1229) hx hb dL_law_1119 (by decide) (fun _ => ?_) (fun c => absurd rfl c)
  exact lc_go hx hb hl (fun ls1 hl1 => kk H locs ls1 x9 n mm k t9 ⟨hR, hP, hD, hS, hl1⟩)
theorem hd_X1_clear : yX1_clear.cls = RX1 ∧ yX1_clear.cls ≠ "java/lang/invoke/MethodHandle" ∧ yX1_clear.cls ≠ "java/lang/invoke/VarHandle" ∧ (parseMethodDescriptor yX1_clear.desc).map (fun d => d.parameters.length) = some 0 := by decide +kernel
theorem hd_X2_clear : yX2_clear.cls = RX2 ∧ yX2_clear.cls ≠ "java/lang/invoke/MethodHandle" ∧ yX2_clear.cls ≠ "java/lang/invoke/VarHandle" ∧ (parseMethodDescriptor yX2_clear.desc).map (fun d => d.parameters.length) = some 0 := by decide +kernel
set_option maxHeartbeats 4000000 in
set_option maxRecDepth 100000 in
theorem lc_clear (C : LC p s m meth c b L xs D cI zA zV) (hq : q + 6 ≤ L) (hL : L ≤ 3072) (hI : LQ s b D cI A B q H locs ls x n mm k t) (kk : ∀ H1 locs1 ls1 x1 n1 m1 k1 t1, LQ s b D cI A B (q + 6) H1 locs1 ls1 x1 n1 m1 k1 t1 → W p l e room_1 s m #[Value.ref b] below meth c H1 locs1 57 1084 Q (F0 m 18 ls1 [])) : W p l e room_1 s m #[Value.ref b] below meth c H locs 57 1084 Q (F0 m 1124 ls []) := by
  obtain ⟨hR, hP, hD, hS, hl⟩ := hI
  obtain ⟨hx, hb, hr, hml, hown, hts, hX, hbl, hlocks, hK, hN, hz⟩ := C
  have hA : ∀ q : Nat, s.heap.size ≤ q → (fun q : Nat => s.heap.size ≤ q) q := fun _ h => h
  have hbA : ¬ (fun q : Nat => s.heap.size ≤ q) b := Nat.not_le.mpr hbl
  obtain ⟨r, x9, t9, e1, e2, hR⟩ := clear_XM hR 
  have c1 : uI l D cI yX1_clear wsX1_clear ({ frames := 0, cells := 0, slots := 0, locals := 0 } : Room) (.ref (A 0 0) :: []) (wX A cI x n mm k) (wX A cI x9 n mm k) r := c_X1_clear l D cI A  x n mm k (r, x9) e1
  have c2 : uI l D cI yX2_clear wsX2_clear ({ frames := 0, cells := 0, slots := 0, locals := 0 } : Room) (.ref (B 0) :: []) (wM B cI t) (wM B cI t9) r := c_X2_clear l D cI B  t (r, t9) e2
  refine lv_aload_n hx hb dL_law_1124 rfl (lv_at hl 2 rfl) ?_
  refine qV_i (ws' := (wX A cI x9 n mm k ++ wM B cI t)) (As := []) (rest := []) ⟨hx, hb, hml, hown, hts⟩ hK hN hA hP hD hS c1 (cwV 0 hts gL_law_X1_clear rfl rfl rfl hd_X1_clear ⟨Nat.le_of_ble_eq_true rfl, Nat.le_of_ble_eq_true rfl⟩) (lrc_1 hK hP) (lbp_1 A B cI x n mm k t _ _ _ _) rfl hl.1 rfl (Nat.le_of_ble_eq_true rfl) dL_law_1125 ⟨Nat.le_of_ble_eq_true rfl, Nat.le_of_ble_eq_true rfl⟩ (fun H locs hP hD hS => ?_)
  refine lv_aload_n hx hb dL_law_1128 rfl (lv_at hl 1 rfl) ?_
  refine qV_i (ws' := (wX A cI x9 n mm k ++ wM B cI t9)) (As := []) (rest := [.int r]) ⟨hx, hb, hml, hown, hts⟩ hK hN hA hP hD hS c2 (cwV 0 hts gL_law_X2_clear rfl rfl rfl hd_X2_clear ⟨Nat.le_of_ble_eq_true rfl, Nat.le_of_ble_eq_true rfl⟩) (lrc_2 hK hP) (lbp_2 A B cI _ _ _ _ t _) rfl hl.1 rfl (Nat.le_of_ble_eq_true rfl) dL_law_1129 ⟨Nat.le_of_ble_eq_true rfl, Nat.le_of_ble_eq_true rfl⟩ (fun H locs hP hD hS => ?_)
  refine lv_icmp_eq (tgt := 1229) hx hb dL_law_1132 (by decide) (fun _ => ?_) (fun c => absurd rfl c)
  exact lc_go hx hb hl (fun ls1 hl1 => kk H locs ls1 x9 n mm k t9 ⟨hR, hP, hD, hS, hl1⟩)
theorem hd_X1_lots : yX1_lots.cls = RX1 ∧ yX1_lots.cls ≠ "java/lang/invoke/MethodHandle" ∧ yX1_lots.cls ≠ "java/lang/invoke/VarHandle" ∧ (parseMethodDescriptor yX1_lots.desc).map (fun d => d.parameters.length) = some 3 := by decide +kernel
theorem hd_X2_lots : yX2_lots.cls = RX2 ∧ yX2_lots.cls ≠ "java/lang/invoke/MethodHandle" ∧ yX2_lots.cls ≠ "java/lang/invoke/VarHandle" ∧ (parseMethodDescriptor yX2_lots.desc).map (fun d => d.parameters.length) = some 3 := by decide +kernel
set_option maxHeartbeats 4000000 in
set_option maxRecDepth 100000 in
theorem lc_lots (C : LC p s m meth c b L xs D cI zA zV) (hq : q + 6 ≤ L) (hL : L ≤ 3072) (hI : LQ s b D cI A B q H locs ls x n mm k t) (kk : ∀ H1 locs1 ls1 x1 n1 m1 k1 t1, LQ s b D cI A B (q + 6) H1 locs1 ls1 x1 n1 m1 k1 t1 → W p l e room_1 s m #[Value.ref b] below meth c H1 locs1 57 1084 Q (F0 m 18 ls1 [])) : W p l e room_1 s m #[Value.ref b] below meth c H locs 57 1084 Q (F0 m 1137 ls []) := by
  obtain ⟨hR, hP, hD, hS, hl⟩ := hI
  obtain ⟨hx, hb, hr, hml, hown, hts, hX, hbl, hlocks, hK, hN, hz⟩ := C
  have hA : ∀ q : Nat, s.heap.size ≤ q → (fun q : Nat => s.heap.size ≤ q) q := fun _ h => h
  have hbA : ¬ (fun q : Nat => s.heap.size ≤ q) b := Nat.not_le.mpr hbl
  obtain ⟨r, x9, m9, t9, e1, e2, hR⟩ := lots_XM hR (xs (nI q + (1 : Int32)).toNatClampNeg) (xs (nI q + (2 : Int32)).toNatClampNeg) (xs (nI q + (3 : Int32)).toNatClampNeg)
  have c1 : uI l D cI yX1_lots wsX1_lots ({ frames := 5, cells := 0, slots := 0, locals := 128 } : Room) (.ref (A 0 0) :: [.int (xs (nI q + (1 : Int32)).toNatClampNeg), .int (xs (nI q + (2 : Int32)).toNatClampNeg), .int (xs (nI q + (3 : Int32)).toNatClampNeg)]) (wX A cI x n mm k) (wX A cI x9 n m9 k) r := c_X1_lots l D cI A (xs (nI q + (1 : Int32)).toNatClampNeg) (xs (nI q + (2 : Int32)).toNatClampNeg) (xs (nI q + (3 : Int32)).toNatClampNeg) x n mm k (r, x9, m9) e1
  have c2 : uI l D cI yX2_lots wsX2_lots ({ frames := 9, cells := 0, slots := 0, locals := 204 } : Room) (.ref (B 0) :: [.int (xs (nI q + (1 : Int32)).toNatClampNeg), .int (xs (nI q + (2 : Int32)).toNatClampNeg), .int (xs (nI q + (3 : Int32)).toNatClampNeg)]) (wM B cI t) (wM B cI t9) r := c_X2_lots l D cI B (xs (nI q + (1 : Int32)).toNatClampNeg) (xs (nI q + (2 : Int32)).toNatClampNeg) (xs (nI q + (3 : Int32)).toNatClampNeg) t (r, t9) e2
  refine lv_aload_n hx hb dL_law_1137 rfl (lv_at hl 2 rfl) ?_
  refine lv_aload_n hx hb dL_law_1138 rfl (lv_at hl 3 rfl) ?_
  refine lv_iload_n hx hb dL_law_1139 rfl (lv_at hl 0 rfl) ?_
  refine lv_iconst (v := (1 : Int32)) hx hb dL_law_1140 (by decide) ?_
  refine lv_iadd hx hb dL_law_1141 ?_
  refine va_sld hx hb hX hbl hbA hS (i := nI q + (1 : Int32)) (lz_in hq hL 1 (by decide)) dL_law_1142 ?_
  refine lv_aload_n hx hb dL_law_1143 rfl (lv_at hl 3 rfl) ?_
  refine lv_iload_n hx hb dL_law_1144 rfl (lv_at hl 0 rfl) ?_
  refine lv_iconst (v := (2 : Int32)) hx hb dL_law_1145 (by decide) ?_
  refine lv_iadd hx hb dL_law_1146 ?_
  refine va_sld hx hb hX hbl hbA hS (i := nI q + (2 : Int32)) (lz_in hq hL 2 (by decide)) dL_law_1147 ?_
  refine lv_aload_n hx hb dL_law_1148 rfl (lv_at hl 3 rfl) ?_
  refine lv_iload_n hx hb dL_law_1149 rfl (lv_at hl 0 rfl) ?_
  refine lv_iconst (v := (3 : Int32)) hx hb dL_law_1150 (by decide) ?_
  refine lv_iadd hx hb dL_law_1151 ?_
  refine va_sld hx hb hX hbl hbA hS (i := nI q + (3 : Int32)) (lz_in hq hL 3 (by decide)) dL_law_1152 ?_
  refine qV_i (ws' := (wX A cI x9 n m9 k ++ wM B cI t)) (As := [.int (xs (nI q + (1 : Int32)).toNatClampNeg), .int (xs (nI q + (2 : Int32)).toNatClampNeg), .int (xs (nI q + (3 : Int32)).toNatClampNeg)]) (rest := []) ⟨hx, hb, hml, hown, hts⟩ hK hN hA hP hD hS c1 (cwV 3 hts gL_law_X1_lots rfl rfl rfl hd_X1_lots ⟨Nat.le_of_ble_eq_true rfl, Nat.le_of_ble_eq_true rfl⟩) (lrc_1 hK hP) (lbp_1 A B cI x n mm k t _ _ _ _) rfl hl.1 rfl (Nat.le_of_ble_eq_true rfl) dL_law_1153 ⟨Nat.le_of_ble_eq_true rfl, Nat.le_of_ble_eq_true rfl⟩ (fun H locs hP hD hS => ?_)
  refine lv_aload_n hx hb dL_law_1156 rfl (lv_at hl 1 rfl) ?_
  refine lv_aload_n hx hb dL_law_1157 rfl (lv_at hl 3 rfl) ?_
  refine lv_iload_n hx hb dL_law_1158 rfl (lv_at hl 0 rfl) ?_
  refine lv_iconst (v := (1 : Int32)) hx hb dL_law_1159 (by decide) ?_
  refine lv_iadd hx hb dL_law_1160 ?_
  refine va_sld hx hb hX hbl hbA hS (i := nI q + (1 : Int32)) (lz_in hq hL 1 (by decide)) dL_law_1161 ?_
  refine lv_aload_n hx hb dL_law_1162 rfl (lv_at hl 3 rfl) ?_
  refine lv_iload_n hx hb dL_law_1163 rfl (lv_at hl 0 rfl) ?_
  refine lv_iconst (v := (2 : Int32)) hx hb dL_law_1164 (by decide) ?_
  refine lv_iadd hx hb dL_law_1165 ?_
  refine va_sld hx hb hX hbl hbA hS (i := nI q + (2 : Int32)) (lz_in hq hL 2 (by decide)) dL_law_1166 ?_
  refine lv_aload_n hx hb dL_law_1167 rfl (lv_at hl 3 rfl) ?_
  refine lv_iload_n hx hb dL_law_1168 rfl (lv_at hl 0 rfl) ?_
  refine lv_iconst (v := (3 : Int32)) hx hb dL_law_1169 (by decide) ?_
  refine lv_iadd hx hb dL_law_1170 ?_
  refine va_sld hx hb hX hbl hbA hS (i := nI q + (3 : Int32)) (lz_in hq hL 3 (by decide)) dL_law_1171 ?_
  refine qV_i (ws' := (wX A cI x9 n m9 k ++ wM B cI t9)) (As := [.int (xs (nI q + (1 : Int32)).toNatClampNeg), .int (xs (nI q + (2 : Int32)).toNatClampNeg), .int (xs (nI q + (3 : Int32)).toNatClampNeg)]) (rest := [.int r]) ⟨hx, hb, hml, hown, hts⟩ hK hN hA hP hD hS c2 (cwV 3 hts gL_law_X2_lots rfl rfl rfl hd_X2_lots ⟨Nat.le_of_ble_eq_true rfl, Nat.le_of_ble_eq_true rfl⟩) (lrc_2 hK hP) (lbp_2 A B cI _ _ _ _ t _) rfl hl.1 rfl (Nat.le_of_ble_eq_true rfl) dL_law_1172 ⟨Nat.le_of_ble_eq_true rfl, Nat.le_of_ble_eq_true rfl⟩ (fun H locs hP hD hS => ?_)
  refine lv_icmp_eq (tgt := 1229) hx hb dL_law_1175 (by decide) (fun _ => ?_) (fun c => absurd rfl c)
  exact lc_go hx hb hl (fun ls1 hl1 => kk H locs ls1 x9 n m9 k t9 ⟨hR, hP, hD, hS, hl1⟩)
theorem hd_X1_image : yX1_image.cls = RX1 ∧ yX1_image.cls ≠ "java/lang/invoke/MethodHandle" ∧ yX1_image.cls ≠ "java/lang/invoke/VarHandle" ∧ (parseMethodDescriptor yX1_image.desc).map (fun d => d.parameters.length) = some 0 := by decide +kernel
theorem hd_X2_image : yX2_image.cls = RX2 ∧ yX2_image.cls ≠ "java/lang/invoke/MethodHandle" ∧ yX2_image.cls ≠ "java/lang/invoke/VarHandle" ∧ (parseMethodDescriptor yX2_image.desc).map (fun d => d.parameters.length) = some 0 := by decide +kernel
set_option maxHeartbeats 4000000 in
set_option maxRecDepth 100000 in
theorem lc_image (C : LC p s m meth c b L xs D cI zA zV) (hq : q + 6 ≤ L) (hL : L ≤ 3072) (hI : LQ s b D cI A B q H locs ls x n mm k t) (kk : ∀ H1 locs1 ls1 x1 n1 m1 k1 t1, LQ s b D cI A B (q + 6) H1 locs1 ls1 x1 n1 m1 k1 t1 → W p l e room_1 s m #[Value.ref b] below meth c H1 locs1 57 1084 Q (F0 m 18 ls1 [])) : W p l e room_1 s m #[Value.ref b] below meth c H locs 57 1084 Q (F0 m 1180 ls []) := by
  obtain ⟨hR, hP, hD, hS, hl⟩ := hI
  obtain ⟨hx, hb, hr, hml, hown, hts, hX, hbl, hlocks, hK, hN, hz⟩ := C
  have hA : ∀ q : Nat, s.heap.size ≤ q → (fun q : Nat => s.heap.size ≤ q) q := fun _ h => h
  have hbA : ¬ (fun q : Nat => s.heap.size ≤ q) b := Nat.not_le.mpr hbl
  obtain ⟨r, x9, k9, t9, e1, e2, hR⟩ := image_XM hR 
  have c1 : uI l D cI yX1_image wsX1_image ({ frames := 3, cells := 0, slots := 0, locals := 65 } : Room) (.ref (A 0 0) :: []) (wX A cI x n mm k) (wX A cI x9 n mm k9) r := c_X1_image l D cI A  x n mm k (r, x9, k9) e1
  have c2 : uI l D cI yX2_image wsX2_image ({ frames := 2, cells := 0, slots := 0, locals := 44 } : Room) (.ref (B 0) :: []) (wM B cI t) (wM B cI t9) r := c_X2_image l D cI B  t (r, t9) e2
  refine lv_aload_n hx hb dL_law_1180 rfl (lv_at hl 2 rfl) ?_
  refine qV_i (ws' := (wX A cI x9 n mm k9 ++ wM B cI t)) (As := []) (rest := []) ⟨hx, hb, hml, hown, hts⟩ hK hN hA hP hD hS c1 (cwV 0 hts gL_law_X1_image rfl rfl rfl hd_X1_image ⟨Nat.le_of_ble_eq_true rfl, Nat.le_of_ble_eq_true rfl⟩) (lrc_1 hK hP) (lbp_1 A B cI x n mm k t _ _ _ _) rfl hl.1 rfl (Nat.le_of_ble_eq_true rfl) dL_law_1181 ⟨Nat.le_of_ble_eq_true rfl, Nat.le_of_ble_eq_true rfl⟩ (fun H locs hP hD hS => ?_)
  refine lv_aload_n hx hb dL_law_1184 rfl (lv_at hl 1 rfl) ?_
  refine qV_i (ws' := (wX A cI x9 n mm k9 ++ wM B cI t9)) (As := []) (rest := [.int r]) ⟨hx, hb, hml, hown, hts⟩ hK hN hA hP hD hS c2 (cwV 0 hts gL_law_X2_image rfl rfl rfl hd_X2_image ⟨Nat.le_of_ble_eq_true rfl, Nat.le_of_ble_eq_true rfl⟩) (lrc_2 hK hP) (lbp_2 A B cI _ _ _ _ t _) rfl hl.1 rfl (Nat.le_of_ble_eq_true rfl) dL_law_1185 ⟨Nat.le_of_ble_eq_true rfl, Nat.le_of_ble_eq_true rfl⟩ (fun H locs hP hD hS => ?_)
  refine lv_icmp_eq (tgt := 1229) hx hb dL_law_1188 (by decide) (fun _ => ?_) (fun c => absurd rfl c)
  exact lc_go hx hb hl (fun ls1 hl1 => kk H locs ls1 x9 n mm k9 t9 ⟨hR, hP, hD, hS, hl1⟩)
theorem hd_X1_on : yX1_on.cls = RX1 ∧ yX1_on.cls ≠ "java/lang/invoke/MethodHandle" ∧ yX1_on.cls ≠ "java/lang/invoke/VarHandle" ∧ (parseMethodDescriptor yX1_on.desc).map (fun d => d.parameters.length) = some 0 := by decide +kernel
theorem hd_X2_on : yX2_on.cls = RX2 ∧ yX2_on.cls ≠ "java/lang/invoke/MethodHandle" ∧ yX2_on.cls ≠ "java/lang/invoke/VarHandle" ∧ (parseMethodDescriptor yX2_on.desc).map (fun d => d.parameters.length) = some 0 := by decide +kernel
set_option maxHeartbeats 4000000 in
set_option maxRecDepth 100000 in
theorem lc_on (C : LC p s m meth c b L xs D cI zA zV) (hq : q + 6 ≤ L) (hL : L ≤ 3072) (hI : LQ s b D cI A B q H locs ls x n mm k t) (kk : ∀ H1 locs1 ls1 x1 n1 m1 k1 t1, LQ s b D cI A B (q + 6) H1 locs1 ls1 x1 n1 m1 k1 t1 → W p l e room_1 s m #[Value.ref b] below meth c H1 locs1 57 1084 Q (F0 m 18 ls1 [])) : W p l e room_1 s m #[Value.ref b] below meth c H locs 57 1084 Q (F0 m 1193 ls []) := by
  obtain ⟨hR, hP, hD, hS, hl⟩ := hI
  obtain ⟨hx, hb, hr, hml, hown, hts, hX, hbl, hlocks, hK, hN, hz⟩ := C
  have hA : ∀ q : Nat, s.heap.size ≤ q → (fun q : Nat => s.heap.size ≤ q) q := fun _ h => h
  have hbA : ¬ (fun q : Nat => s.heap.size ≤ q) b := Nat.not_le.mpr hbl
  obtain ⟨r, x9, n9, t9, e1, e2, hR⟩ := on_XM hR 
  have c1 : uI l D cI yX1_on wsX1_on ({ frames := 3, cells := 0, slots := 0, locals := 65 } : Room) (.ref (A 0 0) :: []) (wX A cI x n mm k) (wX A cI x9 n9 mm k) r := c_X1_on l D cI A  x n mm k (r, x9, n9) e1
  have c2 : uI l D cI yX2_on wsX2_on ({ frames := 2, cells := 0, slots := 0, locals := 44 } : Room) (.ref (B 0) :: []) (wM B cI t) (wM B cI t9) r := c_X2_on l D cI B  t (r, t9) e2
  refine lv_aload_n hx hb dL_law_1193 rfl (lv_at hl 2 rfl) ?_
  refine qV_i (ws' := (wX A cI x9 n9 mm k ++ wM B cI t)) (As := []) (rest := []) ⟨hx, hb, hml, hown, hts⟩ hK hN hA hP hD hS c1 (cwV 0 hts gL_law_X1_on rfl rfl rfl hd_X1_on ⟨Nat.le_of_ble_eq_true rfl, Nat.le_of_ble_eq_true rfl⟩) (lrc_1 hK hP) (lbp_1 A B cI x n mm k t _ _ _ _) rfl hl.1 rfl (Nat.le_of_ble_eq_true rfl) dL_law_1194 ⟨Nat.le_of_ble_eq_true rfl, Nat.le_of_ble_eq_true rfl⟩ (fun H locs hP hD hS => ?_)
  refine lv_aload_n hx hb dL_law_1197 rfl (lv_at hl 1 rfl) ?_
  refine qV_i (ws' := (wX A cI x9 n9 mm k ++ wM B cI t9)) (As := []) (rest := [.int r]) ⟨hx, hb, hml, hown, hts⟩ hK hN hA hP hD hS c2 (cwV 0 hts gL_law_X2_on rfl rfl rfl hd_X2_on ⟨Nat.le_of_ble_eq_true rfl, Nat.le_of_ble_eq_true rfl⟩) (lrc_2 hK hP) (lbp_2 A B cI _ _ _ _ t _) rfl hl.1 rfl (Nat.le_of_ble_eq_true rfl) dL_law_1198 ⟨Nat.le_of_ble_eq_true rfl, Nat.le_of_ble_eq_true rfl⟩ (fun H locs hP hD hS => ?_)
  refine lv_icmp_eq (tgt := 1229) hx hb dL_law_1201 (by decide) (fun _ => ?_) (fun c => absurd rfl c)
  exact lc_go hx hb hl (fun ls1 hl1 => kk H locs ls1 x9 n9 mm k t9 ⟨hR, hP, hD, hS, hl1⟩)
theorem hd_X1_count : yX1_count.cls = RX1 ∧ yX1_count.cls ≠ "java/lang/invoke/MethodHandle" ∧ yX1_count.cls ≠ "java/lang/invoke/VarHandle" ∧ (parseMethodDescriptor yX1_count.desc).map (fun d => d.parameters.length) = some 1 := by decide +kernel
theorem hd_X2_count : yX2_count.cls = RX2 ∧ yX2_count.cls ≠ "java/lang/invoke/MethodHandle" ∧ yX2_count.cls ≠ "java/lang/invoke/VarHandle" ∧ (parseMethodDescriptor yX2_count.desc).map (fun d => d.parameters.length) = some 1 := by decide +kernel
set_option maxHeartbeats 4000000 in
set_option maxRecDepth 100000 in
theorem lc_count (C : LC p s m meth c b L xs D cI zA zV) (hq : q + 6 ≤ L) (hL : L ≤ 3072) (hI : LQ s b D cI A B q H locs ls x n mm k t) (kk : ∀ H1 locs1 ls1 x1 n1 m1 k1 t1, LQ s b D cI A B (q + 6) H1 locs1 ls1 x1 n1 m1 k1 t1 → W p l e room_1 s m #[Value.ref b] below meth c H1 locs1 57 1084 Q (F0 m 18 ls1 [])) : W p l e room_1 s m #[Value.ref b] below meth c H locs 57 1084 Q (F0 m 1206 ls []) := by
  obtain ⟨hR, hP, hD, hS, hl⟩ := hI
  obtain ⟨hx, hb, hr, hml, hown, hts, hX, hbl, hlocks, hK, hN, hz⟩ := C
  have hA : ∀ q : Nat, s.heap.size ≤ q → (fun q : Nat => s.heap.size ≤ q) q := fun _ h => h
  have hbA : ¬ (fun q : Nat => s.heap.size ≤ q) b := Nat.not_le.mpr hbl
  obtain ⟨r, e1, e2⟩ := count_XM hR (xs (nI q + (1 : Int32)).toNatClampNeg)
  have c1 : uI l D cI yX1_count wsX1_count ({ frames := 3, cells := 0, slots := 0, locals := 66 } : Room) (.ref (A 0 0) :: [.int (xs (nI q + (1 : Int32)).toNatClampNeg)]) (wX A cI x n mm k) (wX A cI x n mm k) r := c_X1_count l D cI A (xs (nI q + (1 : Int32)).toNatClampNeg) x n mm k r e1
  have c2 : uI l D cI yX2_count wsX2_count ({ frames := 1, cells := 0, slots := 0, locals := 24 } : Room) (.ref (B 0) :: [.int (xs (nI q + (1 : Int32)).toNatClampNeg)]) (wM B cI t) (wM B cI t) r := c_X2_count l D cI B (xs (nI q + (1 : Int32)).toNatClampNeg) t r e2
  refine lv_aload_n hx hb dL_law_1206 rfl (lv_at hl 2 rfl) ?_
  refine lv_aload_n hx hb dL_law_1207 rfl (lv_at hl 3 rfl) ?_
  refine lv_iload_n hx hb dL_law_1208 rfl (lv_at hl 0 rfl) ?_
  refine lv_iconst (v := (1 : Int32)) hx hb dL_law_1209 (by decide) ?_
  refine lv_iadd hx hb dL_law_1210 ?_
  refine va_sld hx hb hX hbl hbA hS (i := nI q + (1 : Int32)) (lz_in hq hL 1 (by decide)) dL_law_1211 ?_
  refine qV_i (ws' := (wX A cI x n mm k ++ wM B cI t)) (As := [.int (xs (nI q + (1 : Int32)).toNatClampNeg)]) (rest := []) ⟨hx, hb, hml, hown, hts⟩ hK hN hA hP hD hS c1 (cwV 1 hts gL_law_X1_count rfl rfl rfl hd_X1_count ⟨Nat.le_of_ble_eq_true rfl, Nat.le_of_ble_eq_true rfl⟩) (lrc_1 hK hP) (lbp_1 A B cI x n mm k t _ _ _ _) rfl hl.1 rfl (Nat.le_of_ble_eq_true rfl) dL_law_1212 ⟨Nat.le_of_ble_eq_true rfl, Nat.le_of_ble_eq_true rfl⟩ (fun H locs hP hD hS => ?_)
  refine lv_aload_n hx hb dL_law_1215 rfl (lv_at hl 1 rfl) ?_
  refine lv_aload_n hx hb dL_law_1216 rfl (lv_at hl 3 rfl) ?_
  refine lv_iload_n hx hb dL_law_1217 rfl (lv_at hl 0 rfl) ?_
  refine lv_iconst (v := (1 : Int32)) hx hb dL_law_1218 (by decide) ?_
  refine lv_iadd hx hb dL_law_1219 ?_
  refine va_sld hx hb hX hbl hbA hS (i := nI q + (1 : Int32)) (lz_in hq hL 1 (by decide)) dL_law_1220 ?_
  refine qV_i (ws' := (wX A cI x n mm k ++ wM B cI t)) (As := [.int (xs (nI q + (1 : Int32)).toNatClampNeg)]) (rest := [.int r]) ⟨hx, hb, hml, hown, hts⟩ hK hN hA hP hD hS c2 (cwV 1 hts gL_law_X2_count rfl rfl rfl hd_X2_count ⟨Nat.le_of_ble_eq_true rfl, Nat.le_of_ble_eq_true rfl⟩) (lrc_2 hK hP) (lbp_2 A B cI _ _ _ _ t _) rfl hl.1 rfl (Nat.le_of_ble_eq_true rfl) dL_law_1221 ⟨Nat.le_of_ble_eq_true rfl, Nat.le_of_ble_eq_true rfl⟩ (fun H locs hP hD hS => ?_)
  refine lv_icmp_eq (tgt := 1229) hx hb dL_law_1224 (by decide) (fun _ => ?_) (fun c => absurd rfl c)
  exact lc_go hx hb hl (fun ls1 hl1 => kk H locs ls1 x n mm k t ⟨hR, hP, hD, hS, hl1⟩)
theorem lz_and (w : Int32) : (∃ j : Nat, j < 37 ∧ (w &&& 63).toInt = (j : Int)) ∨ ((w &&& 63).toInt < 0 ∨ 36 < (w &&& 63).toInt) := by
  by_cases h : (w &&& 63).toInt < 0 ∨ 36 < (w &&& 63).toInt
  · exact Or.inr h
  · refine Or.inl ⟨(w &&& 63).toInt.toNat, by omega, by omega⟩
set_option maxHeartbeats 4000000 in
set_option maxRecDepth 100000 in
theorem law_loop (C : LC p s m meth c b L xs D cI zA zV) (hL : L ≤ 3072)
    (fin : ∀ (H : Heap) (locs : List Loc) (ls : Array Slot), va_S (fun q => s.heap.size ≤ q) s.heap H locs → W p l e room_1 s m #[Value.ref b] below meth c H locs 57 1084 Q (F0 m 1235 ls [])) :
    ∀ (d q : Nat), L ≤ q + d → q ≤ 4000 → ∀ (H : Heap) (locs : List Loc) (ls : Array Slot) (x n mm k t : HS), LQ s b D cI A B q H locs ls x n mm k t → W p l e room_1 s m #[Value.ref b] below meth c H locs 57 1084 Q (F0 m 18 ls []) := by
  intro d
  induction d with
  | zero =>
    intro q hd hq4 H locs ls x n mm k t hI
    obtain ⟨hR, hP, hD, hS, hl⟩ := id hI
    obtain ⟨hx, hb, hr, hml, hown, hts, hX, hbl, hlocks, hK, hN, hz⟩ := id C
    have hbA : ¬ (fun q : Nat => s.heap.size ≤ q) b := Nat.not_le.mpr hbl
    refine lv_iload_n hx hb dL_law_18 rfl (lv_at hl 0 rfl) ?_
    refine lv_aload_n hx hb dL_law_19 rfl (lv_at hl 3 rfl) ?_
    refine va_slen hx hb hX hbl hbA hS dL_law_20 ?_
    refine lv_bipush (v := (6 : Int32)) hx hb dL_law_21 (by decide) ?_
    refine lv_isub hx hb dL_law_23 ?_
    refine lv_icmp_gt (tgt := 1235) hx hb dL_law_24 (by decide) (fun c1 => ?_) (fun c1 => ?_)
    · exact fin H locs ls hS
    · exact absurd (lgt hq4 hL c1) (by omega)
  | succ d ih =>
    intro q hd hq4 H locs ls x n mm k t hI
    obtain ⟨hR, hP, hD, hS, hl⟩ := id hI
    obtain ⟨hx, hb, hr, hml, hown, hts, hX, hbl, hlocks, hK, hN, hz⟩ := id C
    have hbA : ¬ (fun q : Nat => s.heap.size ≤ q) b := Nat.not_le.mpr hbl
    refine lv_iload_n hx hb dL_law_18 rfl (lv_at hl 0 rfl) ?_
    refine lv_aload_n hx hb dL_law_19 rfl (lv_at hl 3 rfl) ?_
    refine va_slen hx hb hX hbl hbA hS dL_law_20 ?_
    refine lv_bipush (v := (6 : Int32)) hx hb dL_law_21 (by decide) ?_
    refine lv_isub hx hb dL_law_23 ?_
    refine lv_icmp_gt (tgt := 1235) hx hb dL_law_24 (by decide) (fun c1 => ?_) (fun c1 => ?_)
    · exact fin H locs ls hS
    have hq : q + 6 ≤ L := lgt hq4 hL c1
    have kk : ∀ H1 locs1 ls1 x1 n1 m1 k1 t1, LQ s b D cI A B (q + 6) H1 locs1 ls1 x1 n1 m1 k1 t1 → W p l e room_1 s m #[Value.ref b] below meth c H1 locs1 57 1084 Q (F0 m 18 ls1 []) := fun H1 locs1 ls1 x1 n1 m1 k1 t1 h1 => ih (q + 6) (by omega) (by omega) H1 locs1 ls1 x1 n1 m1 k1 t1 h1
    refine lv_aload_n hx hb dL_law_27 rfl (lv_at hl 3 rfl) ?_
    refine lv_iload_n hx hb dL_law_28 rfl (lv_at hl 0 rfl) ?_
    refine va_sld hx hb hX hbl hbA hS (i := nI q) (nI_in (by omega) (by omega)) dL_law_29 ?_
    refine lv_bipush (v := (63 : Int32)) hx hb dL_law_30 (by decide) ?_
    refine lv_iand hx hb dL_law_32 ?_
    rcases lz_and (xs (nI q).toNatClampNeg) with ⟨j, hj, ej⟩ | hout
    · revert ej
      match j, hj with
      | 0, _ => intro ej; exact sw_in (v := 0) (off := 163) (tgt := 196) hx hb dL_law_33 ej (by decide) (by decide) (by decide) (by decide) (lc_letter C hq hL hI kk)
      | 1, _ => intro ej; exact sw_in (v := 1) (off := 186) (tgt := 219) hx hb dL_law_33 ej (by decide) (by decide) (by decide) (by decide) (lc_hall C hq hL hI kk)
      | 2, _ => intro ej; exact sw_in (v := 2) (off := 199) (tgt := 232) hx hb dL_law_33 ej (by decide) (by decide) (by decide) (by decide) (lc_card C hq hL hI kk)
      | 3, _ => intro ej; exact sw_in (v := 3) (off := 232) (tgt := 265) hx hb dL_law_33 ej (by decide) (by decide) (by decide) (by decide) (lc_bidder C hq hL hI kk)
      | 4, _ => intro ej; exact sw_in (v := 4) (off := 265) (tgt := 298) hx hb dL_law_33 ej (by decide) (by decide) (by decide) (by decide) (lc_bids C hq hL hI kk)
      | 5, _ => intro ej; exact sw_in (v := 5) (off := 298) (tgt := 331) hx hb dL_law_33 ej (by decide) (by decide) (by decide) (by decide) (lc_pays C hq hL hI kk)
      | 6, _ => intro ej; exact sw_in (v := 6) (off := 331) (tgt := 364) hx hb dL_law_33 ej (by decide) (by decide) (by decide) (by decide) (lc_returns C hq hL hI kk)
      | 7, _ => intro ej; exact sw_in (v := 7) (off := 354) (tgt := 387) hx hb dL_law_33 ej (by decide) (by decide) (by decide) (by decide) (lc_gives C hq hL hI kk)
      | 8, _ => intro ej; exact sw_in (v := 8) (off := 387) (tgt := 420) hx hb dL_law_33 ej (by decide) (by decide) (by decide) (by decide) (lc_swaps C hq hL hI kk)
      | 9, _ => intro ej; exact sw_in (v := 9) (off := 420) (tgt := 453) hx hb dL_law_33 ej (by decide) (by decide) (by decide) (by decide) (lc_sells C hq hL hI kk)
      | 10, _ => intro ej; exact sw_in (v := 10) (off := 443) (tgt := 476) hx hb dL_law_33 ej (by decide) (by decide) (by decide) (by decide) (lc_turn C hq hL hI kk)
      | 11, _ => intro ej; exact sw_in (v := 11) (off := 486) (tgt := 519) hx hb dL_law_33 ej (by decide) (by decide) (by decide) (by decide) (lc_months C hq hL hI kk)
      | 12, _ => intro ej; exact sw_in (v := 12) (off := 509) (tgt := 542) hx hb dL_law_33 ej (by decide) (by decide) (by decide) (by decide) (lc_cardThen C hq hL hI kk)
      | 13, _ => intro ej; exact sw_in (v := 13) (off := 542) (tgt := 575) hx hb dL_law_33 ej (by decide) (by decide) (by decide) (by decide) (lc_bidderThen C hq hL hI kk)
      | 14, _ => intro ej; exact sw_in (v := 14) (off := 585) (tgt := 618) hx hb dL_law_33 ej (by decide) (by decide) (by decide) (by decide) (lc_pileThen C hq hL hI kk)
      | 15, _ => intro ej; exact sw_in (v := 15) (off := 608) (tgt := 641) hx hb dL_law_33 ej (by decide) (by decide) (by decide) (by decide) (lc_sold C hq hL hI kk)
      | 16, _ => intro ej; exact sw_in (v := 16) (off := 631) (tgt := 664) hx hb dL_law_33 ej (by decide) (by decide) (by decide) (by decide) (lc_gets C hq hL hI kk)
      | 17, _ => intro ej; exact sw_in (v := 17) (off := 664) (tgt := 697) hx hb dL_law_33 ej (by decide) (by decide) (by decide) (by decide) (lc_out C hq hL hI kk)
      | 18, _ => intro ej; exact sw_in (v := 18) (off := 677) (tgt := 710) hx hb dL_law_33 ej (by decide) (by decide) (by decide) (by decide) (lc_ruined C hq hL hI kk)
      | 19, _ => intro ej; exact sw_in (v := 19) (off := 700) (tgt := 733) hx hb dL_law_33 ej (by decide) (by decide) (by decide) (by decide) (lc_purseFor C hq hL hI kk)
      | 20, _ => intro ej; exact sw_in (v := 20) (off := 733) (tgt := 766) hx hb dL_law_33 ej (by decide) (by decide) (by decide) (by decide) (lc_first C hq hL hI kk)
      | 21, _ => intro ej; exact sw_in (v := 21) (off := 766) (tgt := 799) hx hb dL_law_33 ej (by decide) (by decide) (by decide) (by decide) (lc_give C hq hL hI kk)
      | 22, _ => intro ej; exact sw_in (v := 22) (off := 789) (tgt := 822) hx hb dL_law_33 ej (by decide) (by decide) (by decide) (by decide) (lc_pool C hq hL hI kk)
      | 23, _ => intro ej; exact sw_in (v := 23) (off := 822) (tgt := 855) hx hb dL_law_33 ej (by decide) (by decide) (by decide) (by decide) (lc_stay C hq hL hI kk)
      | 24, _ => intro ej; exact sw_in (v := 24) (off := 845) (tgt := 878) hx hb dL_law_33 ej (by decide) (by decide) (by decide) (by decide) (lc_richest C hq hL hI kk)
      | 25, _ => intro ej; exact sw_in (v := 25) (off := 868) (tgt := 901) hx hb dL_law_33 ej (by decide) (by decide) (by decide) (by decide) (lc_owned C hq hL hI kk)
      | 26, _ => intro ej; exact sw_in (v := 26) (off := 891) (tgt := 924) hx hb dL_law_33 ej (by decide) (by decide) (by decide) (by decide) (lc_two C hq hL hI kk)
      | 27, _ => intro ej; exact sw_in (v := 27) (off := 934) (tgt := 967) hx hb dL_law_33 ej (by decide) (by decide) (by decide) (by decide) (lc_stutter C hq hL hI kk)
      | 28, _ => intro ej; exact sw_in (v := 28) (off := 998) (tgt := 1031) hx hb dL_law_33 ej (by decide) (by decide) (by decide) (by decide) (lc_mean C hq hL hI kk)
      | 29, _ => intro ej; exact sw_in (v := 29) (off := 1022) (tgt := 1055) hx hb dL_law_33 ej (by decide) (by decide) (by decide) (by decide) (lc_whoTold C hq hL hI kk)
      | 30, _ => intro ej; exact sw_in (v := 30) (off := 1055) (tgt := 1088) hx hb dL_law_33 ej (by decide) (by decide) (by decide) (by decide) (lc_row C hq hL hI kk)
      | 31, _ => intro ej; exact sw_in (v := 31) (off := 1078) (tgt := 1111) hx hb dL_law_33 ej (by decide) (by decide) (by decide) (by decide) (lc_judge C hq hL hI kk)
      | 32, _ => intro ej; exact sw_in (v := 32) (off := 1091) (tgt := 1124) hx hb dL_law_33 ej (by decide) (by decide) (by decide) (by decide) (lc_clear C hq hL hI kk)
      | 33, _ => intro ej; exact sw_in (v := 33) (off := 1104) (tgt := 1137) hx hb dL_law_33 ej (by decide) (by decide) (by decide) (by decide) (lc_lots C hq hL hI kk)
      | 34, _ => intro ej; exact sw_in (v := 34) (off := 1147) (tgt := 1180) hx hb dL_law_33 ej (by decide) (by decide) (by decide) (by decide) (lc_image C hq hL hI kk)
      | 35, _ => intro ej; exact sw_in (v := 35) (off := 1160) (tgt := 1193) hx hb dL_law_33 ej (by decide) (by decide) (by decide) (by decide) (lc_on C hq hL hI kk)
      | 36, _ => intro ej; exact sw_in (v := 36) (off := 1173) (tgt := 1206) hx hb dL_law_33 ej (by decide) (by decide) (by decide) (by decide) (lc_count C hq hL hI kk)
      | j9 + 37, hj => exact absurd hj (by omega)
    · refine lv_tableOut (tgt := 1229) hx hb dL_law_33 hout (by decide) ?_
      exact lc_go hx hb hl (fun ls1 hl1 => kk H locs ls1 x n mm k t ⟨hR, hP, hD, hS, hl1⟩)
end LAW
