/-! the class's strings: where they lie, what they hold; the JDK's methods over them -/
def zI : List Nat := [217, 239, 241, 243, 245, 247, 249, 254]
def zT : List String := ["", "c00;", "b0000;", "0000;", "00;", "0;", "lkgowt", "bserhf"]
def zL : List Nat := [0, 4, 6, 5, 3, 2, 6, 6]
def zB : List (List Int32) := [[], [99, 48, 48, 59], [98, 48, 48, 48, 48, 59], [48, 48, 48, 48, 59], [48, 48, 59], [48, 59], [108, 107, 103, 111, 119, 116], [98, 115, 101, 114, 104, 102]]
theorem zB_B : ∀ i, i < 8 → zB.getD i [] = sB i := by decide +kernel
theorem zL_len : ∀ i, i < 8 → Int32.ofNat (zL.getD i 0) = sLen i := by decide +kernel
theorem sLen_shr : ∀ i, i < 8 → sLen i >>> ((0 : Int32) &&& 31) = sLen i := by decide +kernel
theorem sEmp_0 : ∀ i, i < 8 → ¬ sLen i = 0 → (0 : Int32) = sEmp i := by decide +kernel
theorem sEmp_1 : ∀ i, i < 8 → sLen i = 0 → (1 : Int32) = sEmp i := by decide +kernel
theorem sB_len : ∀ i, i < 8 → (sB i).length < 7 := by decide +kernel
theorem sB_ok1 : ∀ i, i < 8 → ∀ k, k < 7 → k < (sB i).length → ¬ nI k < 0 ∧ nI k < sLen i ∧ (sB i).length = zL.getD i 0 ∧ ((((sB i).getD k 0) &&& 255).toUInt32 % 65536).toInt32 = (sB i).getD k 0 ∧ (sB i).getD k 0 &&& 255 = (sB i).getD k 0 := by decide +kernel
theorem sB_ok (i : Nat) (hi : i < 8) (k : Nat) (hk : k < (sB i).length) : k < 7 ∧ ¬ nI k < 0 ∧ nI k < sLen i ∧ vp_in (nI k) (zL.getD i 0) ∧ ((((sB i).getD k 0) &&& 255).toUInt32 % 65536).toInt32 = (sB i).getD k 0 := by
  have h7 := sB_len i hi
  obtain ⟨a, b, c, d, e⟩ := sB_ok1 i hi k (by omega) hk
  refine ⟨by omega, a, b, ?_, d⟩
  rw [← c]
  exact nI_in hk (by omega)
theorem sB_char (i : Nat) (hi : i < 8) (k : Nat) (hk : k < (sB i).length) : narrow .char (.int ((sB i).getD k 0)) = .int ((sB i).getD k 0) := by
  have h7 := sB_len i hi
  obtain ⟨a, b, c, d, e⟩ := sB_ok1 i hi k (by omega) hk
  rw [← e]
  exact sc_nar _
theorem zB_cmp1 : ∀ k, k < 256 → ∀ i, i < 8 → ∀ q, q < 7 → q < (sB i).length → ((sB i).getD q 0 = (nI k).toInt8.toInt32 ↔ (sB i).getD q 0 = nI k) := by decide +kernel
theorem zB_cmp (k : Nat) (hk : k < 256) (i : Nat) (hi : i < 8) : ∀ q, q < (sB i).length → ((sB i).getD q 0 = (nI k).toInt8.toInt32 ↔ (sB i).getD q 0 = nI k) := fun q hq => zB_cmp1 k hk i hi q (by have := sB_len i hi; omega) hq
theorem canEnc {x : Int32} (h : ¬ (if x < 0 then (0 : Int32) else if 255 < x then 0 else 1) = 0) : ∃ k : Nat, k < 256 ∧ x = nI k := by
  by_cases q : x < 0
  · rw [if_pos q] at h; exact absurd rfl h
  · by_cases z : 255 < x
    · rw [if_neg q, if_pos z] at h; exact absurd rfl h
    · obtain ⟨j, hj, e⟩ := nI_of q
      refine ⟨j, ?_, e⟩
      rw [e, Int32.lt_iff_toInt_lt, nI_toInt hj, show ((255 : Int32)).toInt = 255 from rfl] at z
      omega
theorem sIx_out {c : Int32} : ∀ (l : List Int32) (k : Nat), (∀ b ∈ l, ¬ b = c) → sIx c l k = -1
  | [], _, _ => rfl
  | b :: l, k, h => by
    rw [sIx, if_neg (h b List.mem_cons_self)]
    exact sIx_out l (k + 1) (fun b' hb => h b' (List.mem_cons_of_mem _ hb))
theorem sB_enc : ∀ i, i < 8 → ∀ b ∈ sB i, ¬ b < 0 ∧ ¬ 255 < b := by decide +kernel
theorem sIdx_out (i : Nat) (hi : i < 8) (x : Int32) (h : (if x < 0 then (0 : Int32) else if 255 < x then 0 else 1) = 0) : (-1 : Int32) = sIdx i x := by
  unfold sIdx
  rw [sIx_out]
  intro b hb e
  obtain ⟨h1, h2⟩ := sB_enc i hi b hb
  rw [← e, if_neg h1, if_neg h2] at h
  exact absurd h (by decide)
theorem sLen_pos : ∀ i, i < 8 → (0 < sLen i ∨ sB i = []) := by decide +kernel
theorem sIdx_nil (i : Nat) (hi : i < 8) (x : Int32) {P : Prop} (c : P) (hP : P → ¬ 0 < sLen i) : (-1 : Int32) = sIdx i x := by
  rcases sLen_pos i hi with h | h
  · exact absurd h (hP c)
  · unfold sIdx; rw [h]; rfl
/-- what stands of the strings, and of the two statics that are read -/
def zW (zA zV : Nat → Nat) (A : Nat → Prop) (U : State) (H : Heap) : Prop := vk_S 8 zL zB zA zV A U H ∧ va_Z RJ0 "COMPACT_STRINGS" "Z" (.int 1) A U H ∧ va_Zq RJ3 "SIOOBE_FORMATTER" "Ljava/util/function/BiFunction;" A U H ∧ ∀ i, i < 8 → vk_R RX1 (zI.getD i 0) (zT.getD i "") (zA i) U
theorem zW.call {zA zV : Nat → Nat} {A : Nat → Prop} {U : State} (g : JFrame) (mk : MethodId) (a : Array Value) (h : zW zA zV A U U.heap) : zW zA zV A (U.calling g mk a) (U.calling g mk a).heap :=
  ⟨vk_S.moved (u := U) (U := U.calling g mk a) (Vm.Alike.refl U.vm) h.1, va_Z.moved (u := U) (U := U.calling g mk a) (Vm.Alike.refl U.vm) h.2.1, va_Zq.moved (u := U) (U := U.calling g mk a) (Vm.Alike.refl U.vm) h.2.2.1, fun i hi => vk_R.same (u := U) (U := U.calling g mk a) rfl (h.2.2.2 i hi)⟩
theorem zW.at {zA zV : Nat → Nat} {A A' : Nat → Prop} {s U : State} {H : Heap} {locs : List Loc} (h : zW zA zV A s s.heap) (hS : va_S A s.heap H locs) (hAB : ∀ q, A' q → A q) (hU : U.heap = H) (hW : s.WarmedH U.vm) : zW zA zV A' U U.heap := by
  rw [hU]
  exact ⟨((vk_S.moved hW.alike h.1).kept hS.2.1).narrow hAB, ((va_Z.moved hW.alike h.2.1).kept hS.2.1).narrow hAB, ((va_Zq.moved hW.alike h.2.2.1).kept hS.2.1).narrow hAB, fun i hi => vk_R.warm hW (h.2.2.2 i hi)⟩
abbrev vB (D : va_G) (cI : ClassId) (zA zV : Nat → Nat) (wc : va_W) (sz : Nat) (U : State) : Prop := uB D cI wc sz U ∧ zW zA zV (va_A wc sz) U U.heap
abbrev vI (l : Launch) (D : va_G) (cI : ClassId) (zA zV : Nat → Nat) (y : MethodName) (wsy : List Cond) (rm : Room) (As : List Value) (wc w1 : va_W) (r : Int32) : Prop := ∀ sz : Nat, Met l y wsy rm (va_Pc As (vB D cI zA zV wc sz)) (va_Qi (fun (x : Int32) (_ : Unit) => x = r) (fun _ t => va_P D vwCl w1 t.heap) (va_A wc sz)) 0 0 (va_A wc sz)
abbrev vV (l : Launch) (D : va_G) (cI : ClassId) (zA zV : Nat → Nat) (y : MethodName) (wsy : List Cond) (rm : Room) (As : List Value) (wc w1 : va_W) : Prop := ∀ sz : Nat, Met l y wsy rm (va_Pc As (vB D cI zA zV wc sz)) (va_Qv (fun (_ : Unit) => True) (fun _ t => va_P D vwCl w1 t.heap) (va_A wc sz)) 0 0 (va_A wc sz)
abbrev vR (l : Launch) (D : va_G) (cI : ClassId) (zA zV : Nat → Nat) (y : MethodName) (wsy : List Cond) (rm : Room) (As : List Value) (wc w1 : va_W) (r : Nat) : Prop := ∀ sz : Nat, Met l y wsy rm (va_Pc As (vB D cI zA zV wc sz)) (va_Qr (fun (_ : Unit) => True) (fun _ a t => a = r ∧ va_P D vwCl w1 t.heap) (va_A wc sz)) 0 0 (va_A wc sz)
theorem preS_v {s : State} {H : Heap} {As : List Value} {D : va_G} {cI : ClassId} {zA zV : Nat → Nat} {wc : va_W} {A A' : Nat → Prop} {locs : List Loc} (hP : va_P D vwCl wc H) (hD : va_D A' wc) (hK : va_K D vwCl [(cI, .int)] s) (hN : nW s) (hz : zW zA zV A s s.heap) (hS : va_S A s.heap H locs) (hF : ∀ q, va_A wc H.size q → A q) : PreS s H (va_Pc As (vB D cI zA zV wc H.size)) As :=
  ⟨fun a U g mk q => ⟨q.1, uB_call g mk a q.2.1, zW.call g mk a q.2.2⟩, fun U hU hW => ⟨rfl, ⟨by rw [hU], by rw [hU]; exact hP, va_K.moved hW.alike hK, hD.weaken (fun _ _ _ _ => trivial), nW.warm hW hN⟩, hz.at hS hF hU hW⟩⟩
theorem preV_v {s : State} {H : Heap} {C : String} {b : Addr} {As : List Value} {D : va_G} {cI : ClassId} {zA zV : Nat → Nat} {wc : va_W} {A A' : Nat → Prop} {locs : List Loc} (hP : va_P D vwCl wc H) (hD : va_D A' wc) (hK : va_K D vwCl [(cI, .int)] s) (hN : nW s) (hz : zW zA zV A s s.heap) (hS : va_S A s.heap H locs) (hF : ∀ q, va_A wc H.size q → A q) (rc : ∃ cell : Cell, H[b]? = some cell ∧ cell.vm.isStatics = false ∧ s.vm.findClass C = some cell.cls) : PreV s H C b (va_Pc (.ref b :: As) (vB D cI zA zV wc H.size)) As :=
  ⟨fun a U g mk q => ⟨q.1, uB_call g mk a q.2.1, zW.call g mk a q.2.2⟩, rc, fun U hU hW => ⟨rfl, ⟨by rw [hU], by rw [hU]; exact hP, va_K.moved hW.alike hK, hD.weaken (fun _ _ _ _ => trivial), nW.warm hW hN⟩, hz.at hS hF hU hW⟩⟩
section RZ
variable {p : Program} {l : Launch} {e : Env} {R : Room} {s : State} {m : MethodId} {args : Array Value} {below : List Frame} {meth : Method} {c : Code} {H : Heap} {locs : List Loc} {cells slots : Nat} {Q : State → Prop}
variable {pc : Nat} {ls : Array Slot} {rest st0 : List Value} {A : Nat → Prop} {D : va_G} {cI : ClassId} {zA zV : Nat → Nat} {ws wc w1 ws' : va_W} {y : MethodName} {wsy : List Cond} {rm : Room} {As : List Value} {cc bytes : ByteArray} {nL maxL n index : Nat} {ret : Option FieldType} {Ts : List Cond} {own host C : String} {b : Addr}
theorem bft_r {H0 : Heap} {r : Nat} {a : Array Value} (hr : va_Run p l e R s m args below meth c H locs cells slots 0 0 (F0 m pc ls st0) rest (va_Qr (fun (_ : Unit) => True) (fun _ x t => x = r ∧ va_P D vwCl w1 t.heap) (va_A wc H.size) a) (va_A wc H.size)) (hP : va_P D vwCl ws H) (hD : va_D A ws) (hS : va_S A H0 H locs) (hA : ∀ q, H0.size ≤ q → A q) (hB : Bp ws wc w1 ws')
    (kk : ∀ (H1 : Heap) (locs1 : List Loc), va_P D vwCl ws' H1 → va_D A ws' → va_S A H0 H1 locs1 → W p l e R s m args below meth c H1 locs1 cells slots Q (F0 m (pc + 3) ls (.ref r :: rest))) : W p l e R s m args below meth c H locs cells slots Q (F0 m pc ls st0) := by
  have hF := hB.F hD hS hA
  refine va_callr hr hS (fun q _ h => hF q h) hF (fun u x t H1 locs1 ht hvm hr1 hB1 hz hk hS => ?_)
  obtain ⟨rfl, hB1⟩ := hB1
  have hB2 : va_P D vwCl w1 H1 := by rw [← ht]; exact hB1
  exact kk H1 locs1 (hB.J hP hD hk hB2) (hB.D' hD) hS
theorem tV_i {r : Int32} (S : CallFix p m c cc nL s args Ts own) (hK : va_K D vwCl [(cI, .int)] s) (hN : nW s) (hA : ∀ q, s.heap.size ≤ q → A q) (hP : va_P D vwCl ws H) (hD : va_D A ws) (hS : va_S A s.heap H locs) (hz : zW zA zV A s s.heap) (hc : vI l D cI zA zV y wsy rm (.ref b :: As) wc w1 r) (cw : CallW R s args own C index y bytes maxL ret wsy rm 0 0 n) (rc : ∃ cell : Cell, H[b]? = some cell ∧ cell.vm.isStatics = false ∧ s.vm.findClass C = some cell.cls) (hB : Bp ws wc w1 ws') (hn : As.length = n) (hsize : ls.size = nL) (hst : st0 = As.reverse ++ .ref b :: rest) (hroom : (rest.map fun v => v.category).sum ≤ 8) (hdg : decode cc pc = .ok (.invokevirtual index, 3)) (hcs : cells ≤ R.cells ∧ slots ≤ R.slots)
    (kk : ∀ (H1 : Heap) (locs1 : List Loc), va_P D vwCl ws' H1 → va_D A ws' → va_S A s.heap H1 locs1 → W p l e R s m args below meth c H1 locs1 cells slots Q (F0 m (pc + 3) ls (.int r :: rest))) : W p l e R s m args below meth c H locs cells slots Q (F0 m pc ls st0) :=
  bft_i (va_runV (As := As) (rest := rest) S (hc H.size) cw (preV_v (hB.P hP) (hB.D hD) hK hN hz hS (hB.F hD hS hA) rc) rfl hn hsize hst (lv_room hroom) hdg hcs) hP hD hS hA hB kk
theorem tV_v (S : CallFix p m c cc nL s args Ts own) (hK : va_K D vwCl [(cI, .int)] s) (hN : nW s) (hA : ∀ q, s.heap.size ≤ q → A q) (hP : va_P D vwCl ws H) (hD : va_D A ws) (hS : va_S A s.heap H locs) (hz : zW zA zV A s s.heap) (hc : vV l D cI zA zV y wsy rm (.ref b :: As) wc w1) (cw : CallW R s args own C index y bytes maxL ret wsy rm 0 0 n) (rc : ∃ cell : Cell, H[b]? = some cell ∧ cell.vm.isStatics = false ∧ s.vm.findClass C = some cell.cls) (hB : Bp ws wc w1 ws') (hn : As.length = n) (hsize : ls.size = nL) (hst : st0 = As.reverse ++ .ref b :: rest) (hroom : (rest.map fun v => v.category).sum ≤ 8) (hdg : decode cc pc = .ok (.invokevirtual index, 3)) (hcs : cells ≤ R.cells ∧ slots ≤ R.slots)
    (kk : ∀ (H1 : Heap) (locs1 : List Loc), va_P D vwCl ws' H1 → va_D A ws' → va_S A s.heap H1 locs1 → W p l e R s m args below meth c H1 locs1 cells slots Q (F0 m (pc + 3) ls (rest))) : W p l e R s m args below meth c H locs cells slots Q (F0 m pc ls st0) :=
  bft_v (va_runV (As := As) (rest := rest) S (hc H.size) cw (preV_v (hB.P hP) (hB.D hD) hK hN hz hS (hB.F hD hS hA) rc) rfl hn hsize hst (lv_room hroom) hdg hcs) hP hD hS hA hB kk
theorem tV_r {r : Nat} (S : CallFix p m c cc nL s args Ts own) (hK : va_K D vwCl [(cI, .int)] s) (hN : nW s) (hA : ∀ q, s.heap.size ≤ q → A q) (hP : va_P D vwCl ws H) (hD : va_D A ws) (hS : va_S A s.heap H locs) (hz : zW zA zV A s s.heap) (hc : vR l D cI zA zV y wsy rm (.ref b :: As) wc w1 r) (cw : CallW R s args own C index y bytes maxL ret wsy rm 0 0 n) (rc : ∃ cell : Cell, H[b]? = some cell ∧ cell.vm.isStatics = false ∧ s.vm.findClass C = some cell.cls) (hB : Bp ws wc w1 ws') (hn : As.length = n) (hsize : ls.size = nL) (hst : st0 = As.reverse ++ .ref b :: rest) (hroom : (rest.map fun v => v.category).sum ≤ 8) (hdg : decode cc pc = .ok (.invokevirtual index, 3)) (hcs : cells ≤ R.cells ∧ slots ≤ R.slots)
    (kk : ∀ (H1 : Heap) (locs1 : List Loc), va_P D vwCl ws' H1 → va_D A ws' → va_S A s.heap H1 locs1 → W p l e R s m args below meth c H1 locs1 cells slots Q (F0 m (pc + 3) ls (.ref r :: rest))) : W p l e R s m args below meth c H locs cells slots Q (F0 m pc ls st0) :=
  bft_r (va_runV (As := As) (rest := rest) S (hc H.size) cw (preV_v (hB.P hP) (hB.D hD) hK hN hz hS (hB.F hD hS hA) rc) rfl hn hsize hst (lv_room hroom) hdg hcs) hP hD hS hA hB kk
theorem tS_i {r : Int32} (S : CallFix p m c cc nL s args Ts own) (hK : va_K D vwCl [(cI, .int)] s) (hN : nW s) (hA : ∀ q, s.heap.size ≤ q → A q) (hP : va_P D vwCl ws H) (hD : va_D A ws) (hS : va_S A s.heap H locs) (hz : zW zA zV A s s.heap) (hc : vI l D cI zA zV y wsy rm (As) wc w1 r) (cw : CallB R s args own index y bytes maxL ret wsy rm 0 0 n ∧ (Cond.static y).before args s = true) (hB : Bp ws wc w1 ws') (hn : As.length = n) (hsize : ls.size = nL) (hst : st0 = As.reverse ++ rest) (hroom : (rest.map fun v => v.category).sum ≤ 8) (hdg : decode cc pc = .ok (.invokestatic index, 3)) (hcs : cells ≤ R.cells ∧ slots ≤ R.slots)
    (kk : ∀ (H1 : Heap) (locs1 : List Loc), va_P D vwCl ws' H1 → va_D A ws' → va_S A s.heap H1 locs1 → W p l e R s m args below meth c H1 locs1 cells slots Q (F0 m (pc + 3) ls (.int r :: rest))) : W p l e R s m args below meth c H locs cells slots Q (F0 m pc ls st0) :=
  bft_i (va_runS (As := As) (rest := rest) S (hc H.size) cw (preS_v (hB.P hP) (hB.D hD) hK hN hz hS (hB.F hD hS hA)) rfl hn hsize hst (lv_room hroom) hdg hcs) hP hD hS hA hB kk
theorem tS_v (S : CallFix p m c cc nL s args Ts own) (hK : va_K D vwCl [(cI, .int)] s) (hN : nW s) (hA : ∀ q, s.heap.size ≤ q → A q) (hP : va_P D vwCl ws H) (hD : va_D A ws) (hS : va_S A s.heap H locs) (hz : zW zA zV A s s.heap) (hc : vV l D cI zA zV y wsy rm (As) wc w1) (cw : CallB R s args own index y bytes maxL ret wsy rm 0 0 n ∧ (Cond.static y).before args s = true) (hB : Bp ws wc w1 ws') (hn : As.length = n) (hsize : ls.size = nL) (hst : st0 = As.reverse ++ rest) (hroom : (rest.map fun v => v.category).sum ≤ 8) (hdg : decode cc pc = .ok (.invokestatic index, 3)) (hcs : cells ≤ R.cells ∧ slots ≤ R.slots)
    (kk : ∀ (H1 : Heap) (locs1 : List Loc), va_P D vwCl ws' H1 → va_D A ws' → va_S A s.heap H1 locs1 → W p l e R s m args below meth c H1 locs1 cells slots Q (F0 m (pc + 3) ls (rest))) : W p l e R s m args below meth c H locs cells slots Q (F0 m pc ls st0) :=
  bft_v (va_runS (As := As) (rest := rest) S (hc H.size) cw (preS_v (hB.P hP) (hB.D hD) hK hN hz hS (hB.F hD hS hA)) rfl hn hsize hst (lv_room hroom) hdg hcs) hP hD hS hA hB kk
theorem tS_r {r : Nat} (S : CallFix p m c cc nL s args Ts own) (hK : va_K D vwCl [(cI, .int)] s) (hN : nW s) (hA : ∀ q, s.heap.size ≤ q → A q) (hP : va_P D vwCl ws H) (hD : va_D A ws) (hS : va_S A s.heap H locs) (hz : zW zA zV A s s.heap) (hc : vR l D cI zA zV y wsy rm (As) wc w1 r) (cw : CallB R s args own index y bytes maxL ret wsy rm 0 0 n ∧ (Cond.static y).before args s = true) (hB : Bp ws wc w1 ws') (hn : As.length = n) (hsize : ls.size = nL) (hst : st0 = As.reverse ++ rest) (hroom : (rest.map fun v => v.category).sum ≤ 8) (hdg : decode cc pc = .ok (.invokestatic index, 3)) (hcs : cells ≤ R.cells ∧ slots ≤ R.slots)
    (kk : ∀ (H1 : Heap) (locs1 : List Loc), va_P D vwCl ws' H1 → va_D A ws' → va_S A s.heap H1 locs1 → W p l e R s m args below meth c H1 locs1 cells slots Q (F0 m (pc + 3) ls (.ref r :: rest))) : W p l e R s m args below meth c H locs cells slots Q (F0 m pc ls st0) :=
  bft_r (va_runS (As := As) (rest := rest) S (hc H.size) cw (preS_v (hB.P hP) (hB.D hD) hK hN hz hS (hB.F hD hS hA)) rfl hn hsize hst (lv_room hroom) hdg hcs) hP hD hS hA hB kk
end RZ
theorem hd_J0_coder_7d493 : yJ0_coder_7d493.cls = RJ0 ∧ yJ0_coder_7d493.cls ≠ "java/lang/invoke/MethodHandle" ∧ yJ0_coder_7d493.cls ≠ "java/lang/invoke/VarHandle" ∧ (parseMethodDescriptor yJ0_coder_7d493.desc).map (fun d => d.parameters.length) = some 0 := by decide +kernel
theorem hd_J0_isLatin1_aae02 : yJ0_isLatin1_aae02.cls = RJ0 ∧ yJ0_isLatin1_aae02.cls ≠ "java/lang/invoke/MethodHandle" ∧ yJ0_isLatin1_aae02.cls ≠ "java/lang/invoke/VarHandle" ∧ (parseMethodDescriptor yJ0_isLatin1_aae02.desc).map (fun d => d.parameters.length) = some 0 := by decide +kernel
theorem hd_J0_length_8abf5 : yJ0_length_8abf5.cls = RJ0 ∧ yJ0_length_8abf5.cls ≠ "java/lang/invoke/MethodHandle" ∧ yJ0_length_8abf5.cls ≠ "java/lang/invoke/VarHandle" ∧ (parseMethodDescriptor yJ0_length_8abf5.desc).map (fun d => d.parameters.length) = some 0 := by decide +kernel
theorem hd_J0_isEmpty_aae02 : yJ0_isEmpty_aae02.cls = RJ0 ∧ yJ0_isEmpty_aae02.cls ≠ "java/lang/invoke/MethodHandle" ∧ yJ0_isEmpty_aae02.cls ≠ "java/lang/invoke/VarHandle" ∧ (parseMethodDescriptor yJ0_isEmpty_aae02.desc).map (fun d => d.parameters.length) = some 0 := by decide +kernel
theorem hd_J3_checkIndex_8e157 : yJ3_checkIndex_8e157.cls = RJ3 ∧ yJ3_checkIndex_8e157.cls ≠ "java/lang/invoke/MethodHandle" ∧ yJ3_checkIndex_8e157.cls ≠ "java/lang/invoke/VarHandle" ∧ (parseMethodDescriptor yJ3_checkIndex_8e157.desc).map (fun d => d.parameters.length) = some 3 := by decide +kernel
theorem hd_J0_checkIndex_df160 : yJ0_checkIndex_df160.cls = RJ0 ∧ yJ0_checkIndex_df160.cls ≠ "java/lang/invoke/MethodHandle" ∧ yJ0_checkIndex_df160.cls ≠ "java/lang/invoke/VarHandle" ∧ (parseMethodDescriptor yJ0_checkIndex_df160.desc).map (fun d => d.parameters.length) = some 2 := by decide +kernel
theorem hd_J1_charAt_3b067 : yJ1_charAt_3b067.cls = RJ1 ∧ yJ1_charAt_3b067.cls ≠ "java/lang/invoke/MethodHandle" ∧ yJ1_charAt_3b067.cls ≠ "java/lang/invoke/VarHandle" ∧ (parseMethodDescriptor yJ1_charAt_3b067.desc).map (fun d => d.parameters.length) = some 2 := by decide +kernel
theorem hd_J0_charAt_5068e : yJ0_charAt_5068e.cls = RJ0 ∧ yJ0_charAt_5068e.cls ≠ "java/lang/invoke/MethodHandle" ∧ yJ0_charAt_5068e.cls ≠ "java/lang/invoke/VarHandle" ∧ (parseMethodDescriptor yJ0_charAt_5068e.desc).map (fun d => d.parameters.length) = some 1 := by decide +kernel
theorem hd_J1_canEncode_9a6ad : yJ1_canEncode_9a6ad.cls = RJ1 ∧ yJ1_canEncode_9a6ad.cls ≠ "java/lang/invoke/MethodHandle" ∧ yJ1_canEncode_9a6ad.cls ≠ "java/lang/invoke/VarHandle" ∧ (parseMethodDescriptor yJ1_canEncode_9a6ad.desc).map (fun d => d.parameters.length) = some 1 := by decide +kernel
theorem hd_J1_indexOfChar_4cfef : yJ1_indexOfChar_4cfef.cls = RJ1 ∧ yJ1_indexOfChar_4cfef.cls ≠ "java/lang/invoke/MethodHandle" ∧ yJ1_indexOfChar_4cfef.cls ≠ "java/lang/invoke/VarHandle" ∧ (parseMethodDescriptor yJ1_indexOfChar_4cfef.desc).map (fun d => d.parameters.length) = some 4 := by decide +kernel
theorem hd_J1_indexOf_4cfef : yJ1_indexOf_4cfef.cls = RJ1 ∧ yJ1_indexOf_4cfef.cls ≠ "java/lang/invoke/MethodHandle" ∧ yJ1_indexOf_4cfef.cls ≠ "java/lang/invoke/VarHandle" ∧ (parseMethodDescriptor yJ1_indexOf_4cfef.desc).map (fun d => d.parameters.length) = some 4 := by decide +kernel
theorem hd_J0_indexOf_7cf53 : yJ0_indexOf_7cf53.cls = RJ0 ∧ yJ0_indexOf_7cf53.cls ≠ "java/lang/invoke/MethodHandle" ∧ yJ0_indexOf_7cf53.cls ≠ "java/lang/invoke/VarHandle" ∧ (parseMethodDescriptor yJ0_indexOf_7cf53.desc).map (fun d => d.parameters.length) = some 2 := by decide +kernel
theorem hd_J0_indexOf_0f7a4 : yJ0_indexOf_0f7a4.cls = RJ0 ∧ yJ0_indexOf_0f7a4.cls ≠ "java/lang/invoke/MethodHandle" ∧ yJ0_indexOf_0f7a4.cls ≠ "java/lang/invoke/VarHandle" ∧ (parseMethodDescriptor yJ0_indexOf_0f7a4.desc).map (fun d => d.parameters.length) = some 1 := by decide +kernel
set_option maxHeartbeats 4000000 in
set_option maxRecDepth 100000 in
theorem c_J0_coder_7d493 (l : Launch) (D : va_G) (cI : ClassId) (zA zV : Nat → Nat) (i : Nat) (hi : i < 8) : vI l D cI zA zV yJ0_coder_7d493 wsJ0_coder_7d493 ({ frames := 0, cells := 0, slots := 0, locals := 0 } : Room) [.ref (zA i)] [] [] 0 := by
  intro sz
  refine Met.ofW (cc := cJ0_coder_7d493) (maxL := 1) (ret := (some .byte)) (by decide) rfl ?_
  intro p e s m args below meth c s₁ Bd hml hv
  obtain ⟨rfl, ⟨hsz, hP, hK, hD0, hN⟩, hz⟩ := hv
  have hx := Bd.exec
  have hb := Bd.bytes
  have hr := Bd.returns
  have hts := atoms_spec (ws := wsJ0_coder_7d493) Bd.pre
  have hown : s.vm.findClass RJ0 = some m.cls := findClass_of_methodNamed Bd.named
  have hlocks := Bd.notSynchronized
  subst hsz
  have hD := hD0.self (sz := s.heap.size)
  generalize hAe : va_A [] s.heap.size = G at hD hz ⊢
  have hA : ∀ q : Nat, s.heap.size ≤ q → G q := fun q h => by rw [← hAe]; exact Or.inr h
  have hS : va_S G s.heap s.heap [] := va_S.rf
  have hP : va_P D vwCl [] s.heap := hP
  have hl := lv_entry ([.ref (zA i)]) (n := 1) (Nat.le_of_ble_eq_true rfl)
  rw [lg_entry_eq]
  generalize (lg_sl ([.ref (zA i)]) ++ List.replicate (1 - (lg_sl ([.ref (zA i)])).length) Slot.unset).toArray = ls at hl ⊢
  have hl : lv_has ls 1 [(0, .ref (zA i))] := hl
  have lk0 := hts (.fieldLink RJ0 38 "java/lang/String" "COMPACT_STRINGS" "Z") (by decide +kernel)
  have lk1 := hts (.fieldLink RJ0 15 "java/lang/String" "coder" "B") (by decide +kernel)
  refine W_in ?_
  intro WW hWW
  refine (hWW _ _ _).mpr ?_
  refine va_gets hx hb hz.2.1 hS hown lk0 (fun _ h9 => h9) dJ0_coder_7d493_0 ?_
  refine lv_if_eq (tgt := 13) hx hb dJ0_coder_7d493_3 (by decide) (fun c1 => ?_) (fun c1 => ?_)
  · exact absurd c1 (by decide)
  · refine lv_aload_n hx hb dJ0_coder_7d493_6 rfl (lv_at hl 0 rfl) ?_
    refine vk_getf hx hb (hz.1.1 i hi).2.1 hS hown lk1 (fun _ h9 => h9) dJ0_coder_7d493_7 ?_
    refine lv_goto (tgt := 14) hx hb dJ0_coder_7d493_10 (by decide) ?_
    exact W.zret (ty := .byte) (v := (0 : Int32)) hx hb hr rfl (fun t ht hW => ⟨⟨(0 : Int32), (), rfl, rfl, hPt ht hP⟩, hS.F ht⟩) hS.2.2 dJ0_coder_7d493_14
set_option maxHeartbeats 4000000 in
set_option maxRecDepth 100000 in
theorem c_J0_isLatin1_aae02 (l : Launch) (D : va_G) (cI : ClassId) (zA zV : Nat → Nat) (i : Nat) (hi : i < 8) : vI l D cI zA zV yJ0_isLatin1_aae02 wsJ0_isLatin1_aae02 ({ frames := 0, cells := 0, slots := 0, locals := 0 } : Room) [.ref (zA i)] [] [] 1 := by
  intro sz
  refine Met.ofW (cc := cJ0_isLatin1_aae02) (maxL := 1) (ret := (some .boolean)) (by decide) rfl ?_
  intro p e s m args below meth c s₁ Bd hml hv
  obtain ⟨rfl, ⟨hsz, hP, hK, hD0, hN⟩, hz⟩ := hv
  have hx := Bd.exec
  have hb := Bd.bytes
  have hr := Bd.returns
  have hts := atoms_spec (ws := wsJ0_isLatin1_aae02) Bd.pre
  have hown : s.vm.findClass RJ0 = some m.cls := findClass_of_methodNamed Bd.named
  have hlocks := Bd.notSynchronized
  subst hsz
  have hD := hD0.self (sz := s.heap.size)
  generalize hAe : va_A [] s.heap.size = G at hD hz ⊢
  have hA : ∀ q : Nat, s.heap.size ≤ q → G q := fun q h => by rw [← hAe]; exact Or.inr h
  have hS : va_S G s.heap s.heap [] := va_S.rf
  have hP : va_P D vwCl [] s.heap := hP
  have hl := lv_entry ([.ref (zA i)]) (n := 1) (Nat.le_of_ble_eq_true rfl)
  rw [lg_entry_eq]
  generalize (lg_sl ([.ref (zA i)]) ++ List.replicate (1 - (lg_sl ([.ref (zA i)])).length) Slot.unset).toArray = ls at hl ⊢
  have hl : lv_has ls 1 [(0, .ref (zA i))] := hl
  have lk0 := hts (.fieldLink RJ0 38 "java/lang/String" "COMPACT_STRINGS" "Z") (by decide +kernel)
  have lk1 := hts (.fieldLink RJ0 15 "java/lang/String" "coder" "B") (by decide +kernel)
  refine W_in ?_
  intro WW hWW
  refine (hWW _ _ _).mpr ?_
  refine va_gets hx hb hz.2.1 hS hown lk0 (fun _ h9 => h9) dJ0_isLatin1_aae02_0 ?_
  refine lv_if_eq (tgt := 17) hx hb dJ0_isLatin1_aae02_3 (by decide) (fun c1 => ?_) (fun c1 => ?_)
  · exact absurd c1 (by decide)
  · refine lv_aload_n hx hb dJ0_isLatin1_aae02_6 rfl (lv_at hl 0 rfl) ?_
    refine vk_getf hx hb (hz.1.1 i hi).2.1 hS hown lk1 (fun _ h9 => h9) dJ0_isLatin1_aae02_7 ?_
    refine lv_if_ne (tgt := 17) hx hb dJ0_isLatin1_aae02_10 (by decide) (fun c2 => ?_) (fun c2 => ?_)
    · exact absurd rfl c2
    · refine lv_iconst (v := (1 : Int32)) hx hb dJ0_isLatin1_aae02_13 (by decide) ?_
      refine lv_goto (tgt := 18) hx hb dJ0_isLatin1_aae02_14 (by decide) ?_
      exact W.zret (ty := .boolean) (v := (1 : Int32)) hx hb hr rfl (fun t ht hW => ⟨⟨(1 : Int32), (), rfl, rfl, hPt ht hP⟩, hS.F ht⟩) hS.2.2 dJ0_isLatin1_aae02_18
set_option maxHeartbeats 4000000 in
set_option maxRecDepth 100000 in
theorem c_J0_length_8abf5 (l : Launch) (D : va_G) (cI : ClassId) (zA zV : Nat → Nat) (i : Nat) (hi : i < 8) : vI l D cI zA zV yJ0_length_8abf5 wsJ0_length_8abf5 ({ frames := 1, cells := 0, slots := 0, locals := 20 } : Room) [.ref (zA i)] [] [] (sLen i) := by
  intro sz
  refine Met.ofW (cc := cJ0_length_8abf5) (maxL := 1) (ret := (some .int)) (by decide) rfl ?_
  intro p e s m args below meth c s₁ Bd hml hv
  obtain ⟨rfl, ⟨hsz, hP, hK, hD0, hN⟩, hz⟩ := hv
  have hx := Bd.exec
  have hb := Bd.bytes
  have hr := Bd.returns
  have hts := atoms_spec (ws := wsJ0_length_8abf5) Bd.pre
  have hown : s.vm.findClass RJ0 = some m.cls := findClass_of_methodNamed Bd.named
  have hlocks := Bd.notSynchronized
  subst hsz
  have hD := hD0.self (sz := s.heap.size)
  generalize hAe : va_A [] s.heap.size = G at hD hz ⊢
  have hA : ∀ q : Nat, s.heap.size ≤ q → G q := fun q h => by rw [← hAe]; exact Or.inr h
  have hS : va_S G s.heap s.heap [] := va_S.rf
  have hP : va_P D vwCl [] s.heap := hP
  have hl := lv_entry ([.ref (zA i)]) (n := 1) (Nat.le_of_ble_eq_true rfl)
  rw [lg_entry_eq]
  generalize (lg_sl ([.ref (zA i)]) ++ List.replicate (1 - (lg_sl ([.ref (zA i)])).length) Slot.unset).toArray = ls at hl ⊢
  have hl : lv_has ls 1 [(0, .ref (zA i))] := hl
  have lk0 := hts (.fieldLink RJ0 9 "java/lang/String" "value" "[B") (by decide +kernel)
  refine W_in ?_
  intro WW hWW
  refine (hWW _ _ _).mpr ?_
  refine lv_aload_n hx hb dJ0_length_8abf5_0 rfl (lv_at hl 0 rfl) ?_
  refine vk_getf hx hb (hz.1.1 i hi).2.2.1 hS hown lk0 (fun _ h9 => h9) dJ0_length_8abf5_1 ?_
  refine va_tlen hx hb (hz.1.1 i hi).2.2.2 hS (v := sLen i) (zL_len i hi) dJ0_length_8abf5_4 ?_
  refine lv_aload_n hx hb dJ0_length_8abf5_5 rfl (lv_at hl 0 rfl) ?_
  refine tV_i (As := []) (rest := [.int (sLen i)]) ⟨hx, hb, hml, hown, hts⟩ hK hN hA hP hD hS hz (c_J0_coder_7d493 l D cI zA zV i hi) (cwV 0 hts gJ0_length_8abf5_J0_coder_7d493 rfl rfl rfl hd_J0_coder_7d493 ⟨Nat.le_of_ble_eq_true rfl, Nat.le_of_ble_eq_true rfl⟩) (vk_recv hz.1 hi hS) Bp_e rfl hl.1 rfl (Nat.le_of_ble_eq_true rfl) dJ0_length_8abf5_6 ⟨Nat.le_of_ble_eq_true rfl, Nat.le_of_ble_eq_true rfl⟩ (fun H locs hP hD hS => ?_)
  refine lv_ishr hx hb dJ0_length_8abf5_9 ?_
  exact W.iret (v := sLen i >>> ((0 : Int32) &&& 31)) hx hb hr (fun t ht hW => ⟨⟨_, (), rfl, (sLen_shr i hi), hPt ht hP⟩, hS.F ht⟩) hS.2.2 dJ0_length_8abf5_10
set_option maxHeartbeats 4000000 in
set_option maxRecDepth 100000 in
theorem c_J0_isEmpty_aae02 (l : Launch) (D : va_G) (cI : ClassId) (zA zV : Nat → Nat) (i : Nat) (hi : i < 8) : vI l D cI zA zV yJ0_isEmpty_aae02 wsJ0_isEmpty_aae02 ({ frames := 0, cells := 0, slots := 0, locals := 0 } : Room) [.ref (zA i)] [] [] (sEmp i) := by
  intro sz
  refine Met.ofW (cc := cJ0_isEmpty_aae02) (maxL := 1) (ret := (some .boolean)) (by decide) rfl ?_
  intro p e s m args below meth c s₁ Bd hml hv
  obtain ⟨rfl, ⟨hsz, hP, hK, hD0, hN⟩, hz⟩ := hv
  have hx := Bd.exec
  have hb := Bd.bytes
  have hr := Bd.returns
  have hts := atoms_spec (ws := wsJ0_isEmpty_aae02) Bd.pre
  have hown : s.vm.findClass RJ0 = some m.cls := findClass_of_methodNamed Bd.named
  have hlocks := Bd.notSynchronized
  subst hsz
  have hD := hD0.self (sz := s.heap.size)
  generalize hAe : va_A [] s.heap.size = G at hD hz ⊢
  have hA : ∀ q : Nat, s.heap.size ≤ q → G q := fun q h => by rw [← hAe]; exact Or.inr h
  have hS : va_S G s.heap s.heap [] := va_S.rf
  have hP : va_P D vwCl [] s.heap := hP
  have hl := lv_entry ([.ref (zA i)]) (n := 1) (Nat.le_of_ble_eq_true rfl)
  rw [lg_entry_eq]
  generalize (lg_sl ([.ref (zA i)]) ++ List.replicate (1 - (lg_sl ([.ref (zA i)])).length) Slot.unset).toArray = ls at hl ⊢
  have hl : lv_has ls 1 [(0, .ref (zA i))] := hl
  have lk0 := hts (.fieldLink RJ0 9 "java/lang/String" "value" "[B") (by decide +kernel)
  refine W_in ?_
  intro WW hWW
  refine (hWW _ _ _).mpr ?_
  refine lv_aload_n hx hb dJ0_isEmpty_aae02_0 rfl (lv_at hl 0 rfl) ?_
  refine vk_getf hx hb (hz.1.1 i hi).2.2.1 hS hown lk0 (fun _ h9 => h9) dJ0_isEmpty_aae02_1 ?_
  refine va_tlen hx hb (hz.1.1 i hi).2.2.2 hS (v := sLen i) (zL_len i hi) dJ0_isEmpty_aae02_4 ?_
  refine lv_if_ne (tgt := 12) hx hb dJ0_isEmpty_aae02_5 (by decide) (fun c1 => ?_) (fun c1 => ?_)
  · refine lv_iconst (v := (0 : Int32)) hx hb dJ0_isEmpty_aae02_12 (by decide) ?_
    exact W.zret (ty := .boolean) (v := (0 : Int32)) hx hb hr rfl (fun t ht hW => ⟨⟨(0 : Int32), (), rfl, (sEmp_0 i hi c1), hPt ht hP⟩, hS.F ht⟩) hS.2.2 dJ0_isEmpty_aae02_13
  · refine lv_iconst (v := (1 : Int32)) hx hb dJ0_isEmpty_aae02_8 (by decide) ?_
    refine lv_goto (tgt := 13) hx hb dJ0_isEmpty_aae02_9 (by decide) ?_
    exact W.zret (ty := .boolean) (v := (1 : Int32)) hx hb hr rfl (fun t ht hW => ⟨⟨(1 : Int32), (), rfl, (sEmp_1 i hi c1), hPt ht hP⟩, hS.F ht⟩) hS.2.2 dJ0_isEmpty_aae02_13
set_option maxHeartbeats 4000000 in
set_option maxRecDepth 100000 in
theorem c_J3_checkIndex_8e157_a (l : Launch) (D : va_G) (cI : ClassId) (zA zV : Nat → Nat) (k n : Int32) (hk : ¬ k < 0) (hkn : k < n) : vI l D cI zA zV yJ3_checkIndex_8e157 wsJ3_checkIndex_8e157 ({ frames := 0, cells := 0, slots := 0, locals := 0 } : Room) [.int k, .int n, .null] [] [] k := by
  intro sz
  refine Met.ofW (cc := cJ3_checkIndex_8e157) (maxL := 3) (ret := (some .int)) (by decide) rfl ?_
  intro p e s m args below meth c s₁ Bd hml hv
  obtain ⟨rfl, ⟨hsz, hP, hK, hD0, hN⟩, hz⟩ := hv
  have hx := Bd.exec
  have hb := Bd.bytes
  have hr := Bd.returns
  have hts := atoms_spec (ws := wsJ3_checkIndex_8e157) Bd.pre
  have hown : s.vm.findClass RJ3 = some m.cls := findClass_of_methodNamed Bd.named
  have hlocks := Bd.notSynchronized
  subst hsz
  have hD := hD0.self (sz := s.heap.size)
  generalize hAe : va_A [] s.heap.size = G at hD hz ⊢
  have hA : ∀ q : Nat, s.heap.size ≤ q → G q := fun q h => by rw [← hAe]; exact Or.inr h
  have hS : va_S G s.heap s.heap [] := va_S.rf
  have hP : va_P D vwCl [] s.heap := hP
  have hl := lv_entry ([.int k, .int n, .null]) (n := 3) (Nat.le_of_ble_eq_true rfl)
  rw [lg_entry_eq]
  generalize (lg_sl ([.int k, .int n, .null]) ++ List.replicate (3 - (lg_sl ([.int k, .int n, .null])).length) Slot.unset).toArray = ls at hl ⊢
  have hl : lv_has ls 3 [(0, .int k), (1, .int n), (2, .null)] := hl
  refine W_in ?_
  intro WW hWW
  refine (hWW _ _ _).mpr ?_
  refine lv_iload_n hx hb dJ3_checkIndex_8e157_0 rfl (lv_at hl 0 rfl) ?_
  refine lv_if_lt (tgt := 9) hx hb dJ3_checkIndex_8e157_1 (by decide) (fun c1 => ?_) (fun c1 => ?_)
  · exact absurd c1 hk
  · refine lv_iload_n hx hb dJ3_checkIndex_8e157_4 rfl (lv_at hl 0 rfl) ?_
    refine lv_iload_n hx hb dJ3_checkIndex_8e157_5 rfl (lv_at hl 1 rfl) ?_
    refine lv_icmp_lt (tgt := 16) hx hb dJ3_checkIndex_8e157_6 (by decide) (fun c2 => ?_) (fun c2 => ?_)
    · refine lv_iload_n hx hb dJ3_checkIndex_8e157_16 rfl (lv_at hl 0 rfl) ?_
      exact W.iret (v := k) hx hb hr (fun t ht hW => ⟨⟨k, (), rfl, rfl, hPt ht hP⟩, hS.F ht⟩) hS.2.2 dJ3_checkIndex_8e157_17
    · exact absurd c2 (by first | exact fun z => absurd hkn (Int32.not_lt.mpr z) | exact fun z => z hkn)
set_option maxHeartbeats 4000000 in
set_option maxRecDepth 100000 in
theorem c_J3_checkIndex_8e157_b (l : Launch) (D : va_G) (cI : ClassId) (zA zV : Nat → Nat) (k n : Int32) (hk : ¬ k < 0) (hkn : k < n) (a : Nat) : vI l D cI zA zV yJ3_checkIndex_8e157 wsJ3_checkIndex_8e157 ({ frames := 0, cells := 0, slots := 0, locals := 0 } : Room) [.int k, .int n, .ref a] [] [] k := by
  intro sz
  refine Met.ofW (cc := cJ3_checkIndex_8e157) (maxL := 3) (ret := (some .int)) (by decide) rfl ?_
  intro p e s m args below meth c s₁ Bd hml hv
  obtain ⟨rfl, ⟨hsz, hP, hK, hD0, hN⟩, hz⟩ := hv
  have hx := Bd.exec
  have hb := Bd.bytes
  have hr := Bd.returns
  have hts := atoms_spec (ws := wsJ3_checkIndex_8e157) Bd.pre
  have hown : s.vm.findClass RJ3 = some m.cls := findClass_of_methodNamed Bd.named
  have hlocks := Bd.notSynchronized
  subst hsz
  have hD := hD0.self (sz := s.heap.size)
  generalize hAe : va_A [] s.heap.size = G at hD hz ⊢
  have hA : ∀ q : Nat, s.heap.size ≤ q → G q := fun q h => by rw [← hAe]; exact Or.inr h
  have hS : va_S G s.heap s.heap [] := va_S.rf
  have hP : va_P D vwCl [] s.heap := hP
  have hl := lv_entry ([.int k, .int n, .ref a]) (n := 3) (Nat.le_of_ble_eq_true rfl)
  rw [lg_entry_eq]
  generalize (lg_sl ([.int k, .int n, .ref a]) ++ List.replicate (3 - (lg_sl ([.int k, .int n, .ref a])).length) Slot.unset).toArray = ls at hl ⊢
  have hl : lv_has ls 3 [(0, .int k), (1, .int n), (2, .ref a)] := hl
  refine W_in ?_
  intro WW hWW
  refine (hWW _ _ _).mpr ?_
  refine lv_iload_n hx hb dJ3_checkIndex_8e157_0 rfl (lv_at hl 0 rfl) ?_
  refine lv_if_lt (tgt := 9) hx hb dJ3_checkIndex_8e157_1 (by decide) (fun c1 => ?_) (fun c1 => ?_)
  · exact absurd c1 hk
  · refine lv_iload_n hx hb dJ3_checkIndex_8e157_4 rfl (lv_at hl 0 rfl) ?_
    refine lv_iload_n hx hb dJ3_checkIndex_8e157_5 rfl (lv_at hl 1 rfl) ?_
    refine lv_icmp_lt (tgt := 16) hx hb dJ3_checkIndex_8e157_6 (by decide) (fun c2 => ?_) (fun c2 => ?_)
    · refine lv_iload_n hx hb dJ3_checkIndex_8e157_16 rfl (lv_at hl 0 rfl) ?_
      exact W.iret (v := k) hx hb hr (fun t ht hW => ⟨⟨k, (), rfl, rfl, hPt ht hP⟩, hS.F ht⟩) hS.2.2 dJ3_checkIndex_8e157_17
    · exact absurd c2 (by first | exact fun z => absurd hkn (Int32.not_lt.mpr z) | exact fun z => z hkn)
theorem c_J3_checkIndex_8e157 (l : Launch) (D : va_G) (cI : ClassId) (zA zV : Nat → Nat) (k n : Int32) (hk : ¬ k < 0) (hkn : k < n) (v : Value) (hvv : v = .null ∨ ∃ a, v = .ref a) : vI l D cI zA zV yJ3_checkIndex_8e157 wsJ3_checkIndex_8e157 ({ frames := 0, cells := 0, slots := 0, locals := 0 } : Room) [.int k, .int n, v] [] [] k := by
  rcases hvv with rfl | ⟨a, rfl⟩
  · exact c_J3_checkIndex_8e157_a l D cI zA zV k n hk hkn
  · exact c_J3_checkIndex_8e157_b l D cI zA zV k n hk hkn a
set_option maxHeartbeats 4000000 in
set_option maxRecDepth 100000 in
theorem c_J0_checkIndex_df160 (l : Launch) (D : va_G) (cI : ClassId) (zA zV : Nat → Nat) (k n : Int32) (hk : ¬ k < 0) (hkn : k < n) : vV l D cI zA zV yJ0_checkIndex_df160 wsJ0_checkIndex_df160 ({ frames := 1, cells := 0, slots := 0, locals := 22 } : Room) [.int k, .int n] [] [] := by
  intro sz
  refine Met.ofW (cc := cJ0_checkIndex_df160) (maxL := 2) (ret := none) (by decide) rfl ?_
  intro p e s m args below meth c s₁ Bd hml hv
  obtain ⟨rfl, ⟨hsz, hP, hK, hD0, hN⟩, hz⟩ := hv
  have hx := Bd.exec
  have hb := Bd.bytes
  have hr := Bd.returns
  have hts := atoms_spec (ws := wsJ0_checkIndex_df160) Bd.pre
  have hown : s.vm.findClass RJ0 = some m.cls := findClass_of_methodNamed Bd.named
  have hlocks := Bd.notSynchronized
  subst hsz
  have hD := hD0.self (sz := s.heap.size)
  generalize hAe : va_A [] s.heap.size = G at hD hz ⊢
  have hA : ∀ q : Nat, s.heap.size ≤ q → G q := fun q h => by rw [← hAe]; exact Or.inr h
  have hS : va_S G s.heap s.heap [] := va_S.rf
  have hP : va_P D vwCl [] s.heap := hP
  have hl := lv_entry ([.int k, .int n]) (n := 2) (Nat.le_of_ble_eq_true rfl)
  rw [lg_entry_eq]
  generalize (lg_sl ([.int k, .int n]) ++ List.replicate (2 - (lg_sl ([.int k, .int n])).length) Slot.unset).toArray = ls at hl ⊢
  have hl : lv_has ls 2 [(0, .int k), (1, .int n)] := hl
  have lk0 := hts (.fieldLink RJ0 1053 "jdk/internal/util/Preconditions" "SIOOBE_FORMATTER" "Ljava/util/function/BiFunction;") (by decide +kernel)
  refine W_in ?_
  intro WW hWW
  refine (hWW _ _ _).mpr ?_
  have fin : ∀ (v : Value), (v = .null ∨ ∃ a, v = .ref a) → ∀ ls, lv_has ls 2 [(0, .int k), (1, .int n)] → WW s.heap [] (F0 m 5 ls [v, .int n, .int k]) := by
    intro v hvv ls hl
    refine (hWW _ _ _).mpr ?_
    refine tS_i (As := [.int k, .int n, v]) (rest := []) ⟨hx, hb, hml, hown, hts⟩ hK hN hA hP hD hS hz (c_J3_checkIndex_8e157 l D cI zA zV k n hk hkn v hvv) (va_cwS 3 hts gJ0_checkIndex_df160_J3_checkIndex_8e157 rfl rfl rfl hd_J3_checkIndex_8e157.2 ⟨Nat.le_of_ble_eq_true rfl, Nat.le_of_ble_eq_true rfl⟩) Bp_e rfl hl.1 rfl (Nat.le_of_ble_eq_true rfl) dJ0_checkIndex_df160_5 ⟨Nat.le_of_ble_eq_true rfl, Nat.le_of_ble_eq_true rfl⟩ (fun H locs hP hD hS => ?_)
    refine lv_pop hx hb dJ0_checkIndex_df160_8 rfl ?_
    exact W.vret hx hb hr (fun t ht hW => ⟨⟨(), rfl, trivial, hPt ht hP⟩, hS.F ht⟩) hS.2.2 dJ0_checkIndex_df160_9
  refine lv_iload_n hx hb dJ0_checkIndex_df160_0 rfl (lv_at hl 0 rfl) ?_
  refine lv_iload_n hx hb dJ0_checkIndex_df160_1 rfl (lv_at hl 1 rfl) ?_
  rcases hz.2.2.1 with hq | ⟨t, hq⟩
  · refine va_gets hx hb hq hS hown lk0 (fun _ h9 => h9) dJ0_checkIndex_df160_2 ?_
    exact (hWW _ _ _).mp (fin _ (Or.inl rfl) ls hl)
  · refine va_gets hx hb hq hS hown lk0 (fun _ h9 => h9) dJ0_checkIndex_df160_2 ?_
    exact (hWW _ _ _).mp (fin _ (Or.inr ⟨t, rfl⟩) ls hl)
set_option maxHeartbeats 4000000 in
set_option maxRecDepth 100000 in
theorem c_J1_charAt_3b067 (l : Launch) (D : va_G) (cI : ClassId) (zA zV : Nat → Nat) (i : Nat) (hi : i < 8) (k : Nat) (hk : k < (sB i).length) : vI l D cI zA zV yJ1_charAt_3b067 wsJ1_charAt_3b067 ({ frames := 2, cells := 0, slots := 0, locals := 43 } : Room) [.ref (zV i), .int (nI k)] [] [] ((sB i).getD k 0) := by
  intro sz
  refine Met.ofW (cc := cJ1_charAt_3b067) (maxL := 2) (ret := (some .char)) (by decide) rfl ?_
  intro p e s m args below meth c s₁ Bd hml hv
  obtain ⟨rfl, ⟨hsz, hP, hK, hD0, hN⟩, hz⟩ := hv
  have hx := Bd.exec
  have hb := Bd.bytes
  have hr := Bd.returns
  have hts := atoms_spec (ws := wsJ1_charAt_3b067) Bd.pre
  have hown : s.vm.findClass RJ1 = some m.cls := findClass_of_methodNamed Bd.named
  have hlocks := Bd.notSynchronized
  subst hsz
  have hD := hD0.self (sz := s.heap.size)
  generalize hAe : va_A [] s.heap.size = G at hD hz ⊢
  have hA : ∀ q : Nat, s.heap.size ≤ q → G q := fun q h => by rw [← hAe]; exact Or.inr h
  have hS : va_S G s.heap s.heap [] := va_S.rf
  have hP : va_P D vwCl [] s.heap := hP
  have hl := lv_entry ([.ref (zV i), .int (nI k)]) (n := 2) (Nat.le_of_ble_eq_true rfl)
  rw [lg_entry_eq]
  generalize (lg_sl ([.ref (zV i), .int (nI k)]) ++ List.replicate (2 - (lg_sl ([.ref (zV i), .int (nI k)])).length) Slot.unset).toArray = ls at hl ⊢
  have hl : lv_has ls 2 [(0, .ref (zV i)), (1, .int (nI k))] := hl
  refine W_in ?_
  intro WW hWW
  refine (hWW _ _ _).mpr ?_
  obtain ⟨b1, b2, b3, b4, b5⟩ := sB_ok i hi k hk
  refine lv_iload_n hx hb dJ1_charAt_3b067_0 rfl (lv_at hl 1 rfl) ?_
  refine lv_aload_n hx hb dJ1_charAt_3b067_1 rfl (lv_at hl 0 rfl) ?_
  refine va_tlen hx hb (hz.1.1 i hi).2.2.2 hS (v := sLen i) (zL_len i hi) dJ1_charAt_3b067_2 ?_
  refine tS_v (As := [.int (nI k), .int (sLen i)]) (rest := []) ⟨hx, hb, hml, hown, hts⟩ hK hN hA hP hD hS hz (c_J0_checkIndex_df160 l D cI zA zV (nI k) (sLen i) b2 b3) (va_cwS 2 hts gJ1_charAt_3b067_J0_checkIndex_df160 rfl rfl rfl hd_J0_checkIndex_df160.2 ⟨Nat.le_of_ble_eq_true rfl, Nat.le_of_ble_eq_true rfl⟩) Bp_e rfl hl.1 rfl (Nat.le_of_ble_eq_true rfl) dJ1_charAt_3b067_3 ⟨Nat.le_of_ble_eq_true rfl, Nat.le_of_ble_eq_true rfl⟩ (fun H locs hP hD hS => ?_)
  refine lv_aload_n hx hb dJ1_charAt_3b067_6 rfl (lv_at hl 0 rfl) ?_
  refine lv_iload_n hx hb dJ1_charAt_3b067_7 rfl (lv_at hl 1 rfl) ?_
  refine va_tb hx hb (hz.1.1 i hi).2.2.2 hS (i := nI k) b4 (v := .int ((sB i).getD k 0)) (by rw [nI_clamp (by omega), zB_B i hi]) dJ1_charAt_3b067_8 ?_
  refine lv_sipush (v := (255 : Int32)) hx hb dJ1_charAt_3b067_9 (by decide) ?_
  refine lv_iand hx hb dJ1_charAt_3b067_12 ?_
  refine lv_i2c hx hb dJ1_charAt_3b067_13 b5 ?_
  exact W.zret (ty := .char) (v := (sB i).getD k 0) hx hb hr (sB_char i hi k hk) (fun t ht hW => ⟨⟨_, (), rfl, rfl, hPt ht hP⟩, hS.F ht⟩) hS.2.2 dJ1_charAt_3b067_14
set_option maxHeartbeats 4000000 in
set_option maxRecDepth 100000 in
theorem c_J0_charAt_5068e (l : Launch) (D : va_G) (cI : ClassId) (zA zV : Nat → Nat) (i : Nat) (hi : i < 8) (k : Nat) (hk : k < (sB i).length) : vI l D cI zA zV yJ0_charAt_5068e wsJ0_charAt_5068e ({ frames := 3, cells := 0, slots := 0, locals := 64 } : Room) [.ref (zA i), .int (nI k)] [] [] ((sB i).getD k 0) := by
  intro sz
  refine Met.ofW (cc := cJ0_charAt_5068e) (maxL := 2) (ret := (some .char)) (by decide) rfl ?_
  intro p e s m args below meth c s₁ Bd hml hv
  obtain ⟨rfl, ⟨hsz, hP, hK, hD0, hN⟩, hz⟩ := hv
  have hx := Bd.exec
  have hb := Bd.bytes
  have hr := Bd.returns
  have hts := atoms_spec (ws := wsJ0_charAt_5068e) Bd.pre
  have hown : s.vm.findClass RJ0 = some m.cls := findClass_of_methodNamed Bd.named
  have hlocks := Bd.notSynchronized
  subst hsz
  have hD := hD0.self (sz := s.heap.size)
  generalize hAe : va_A [] s.heap.size = G at hD hz ⊢
  have hA : ∀ q : Nat, s.heap.size ≤ q → G q := fun q h => by rw [← hAe]; exact Or.inr h
  have hS : va_S G s.heap s.heap [] := va_S.rf
  have hP : va_P D vwCl [] s.heap := hP
  have hl := lv_entry ([.ref (zA i), .int (nI k)]) (n := 2) (Nat.le_of_ble_eq_true rfl)
  rw [lg_entry_eq]
  generalize (lg_sl ([.ref (zA i), .int (nI k)]) ++ List.replicate (2 - (lg_sl ([.ref (zA i), .int (nI k)])).length) Slot.unset).toArray = ls at hl ⊢
  have hl : lv_has ls 2 [(0, .ref (zA i)), (1, .int (nI k))] := hl
  have lk0 := hts (.fieldLink RJ0 9 "java/lang/String" "value" "[B") (by decide +kernel)
  refine W_in ?_
  intro WW hWW
  refine (hWW _ _ _).mpr ?_
  refine lv_aload_n hx hb dJ0_charAt_5068e_0 rfl (lv_at hl 0 rfl) ?_
  refine tV_i (As := []) (rest := []) ⟨hx, hb, hml, hown, hts⟩ hK hN hA hP hD hS hz (c_J0_isLatin1_aae02 l D cI zA zV i hi) (cwV 0 hts gJ0_charAt_5068e_J0_isLatin1_aae02 rfl rfl rfl hd_J0_isLatin1_aae02 ⟨Nat.le_of_ble_eq_true rfl, Nat.le_of_ble_eq_true rfl⟩) (vk_recv hz.1 hi hS) Bp_e rfl hl.1 rfl (Nat.le_of_ble_eq_true rfl) dJ0_charAt_5068e_1 ⟨Nat.le_of_ble_eq_true rfl, Nat.le_of_ble_eq_true rfl⟩ (fun H locs hP hD hS => ?_)
  refine lv_if_eq (tgt := 16) hx hb dJ0_charAt_5068e_4 (by decide) (fun c1 => ?_) (fun c1 => ?_)
  · exact absurd c1 (by decide)
  · refine lv_aload_n hx hb dJ0_charAt_5068e_7 rfl (lv_at hl 0 rfl) ?_
    refine vk_getf hx hb (hz.1.1 i hi).2.2.1 hS hown lk0 (fun _ h9 => h9) dJ0_charAt_5068e_8 ?_
    refine lv_iload_n hx hb dJ0_charAt_5068e_11 rfl (lv_at hl 1 rfl) ?_
    refine tS_i (As := [.ref (zV i), .int (nI k)]) (rest := []) ⟨hx, hb, hml, hown, hts⟩ hK hN hA hP hD hS hz (c_J1_charAt_3b067 l D cI zA zV i hi k hk) (va_cwS 2 hts gJ0_charAt_5068e_J1_charAt_3b067 rfl rfl rfl hd_J1_charAt_3b067.2 ⟨Nat.le_of_ble_eq_true rfl, Nat.le_of_ble_eq_true rfl⟩) Bp_e rfl hl.1 rfl (Nat.le_of_ble_eq_true rfl) dJ0_charAt_5068e_12 ⟨Nat.le_of_ble_eq_true rfl, Nat.le_of_ble_eq_true rfl⟩ (fun H locs hP hD hS => ?_)
    exact W.zret (ty := .char) (v := (sB i).getD k 0) hx hb hr (sB_char i hi k hk) (fun t ht hW => ⟨⟨_, (), rfl, rfl, hPt ht hP⟩, hS.F ht⟩) hS.2.2 dJ0_charAt_5068e_15
set_option maxHeartbeats 4000000 in
set_option maxRecDepth 100000 in
theorem c_J1_canEncode_9a6ad (l : Launch) (D : va_G) (cI : ClassId) (zA zV : Nat → Nat) (x : Int32) : vI l D cI zA zV yJ1_canEncode_9a6ad wsJ1_canEncode_9a6ad ({ frames := 0, cells := 0, slots := 0, locals := 0 } : Room) [.int x] [] [] (if x < 0 then 0 else if 255 < x then 0 else 1) := by
  intro sz
  refine Met.ofW (cc := cJ1_canEncode_9a6ad) (maxL := 1) (ret := (some .boolean)) (by decide) rfl ?_
  intro p e s m args below meth c s₁ Bd hml hv
  obtain ⟨rfl, ⟨hsz, hP, hK, hD0, hN⟩, hz⟩ := hv
  have hx := Bd.exec
  have hb := Bd.bytes
  have hr := Bd.returns
  have hts := atoms_spec (ws := wsJ1_canEncode_9a6ad) Bd.pre
  have hown : s.vm.findClass RJ1 = some m.cls := findClass_of_methodNamed Bd.named
  have hlocks := Bd.notSynchronized
  subst hsz
  have hD := hD0.self (sz := s.heap.size)
  generalize hAe : va_A [] s.heap.size = G at hD hz ⊢
  have hA : ∀ q : Nat, s.heap.size ≤ q → G q := fun q h => by rw [← hAe]; exact Or.inr h
  have hS : va_S G s.heap s.heap [] := va_S.rf
  have hP : va_P D vwCl [] s.heap := hP
  have hl := lv_entry ([.int x]) (n := 1) (Nat.le_of_ble_eq_true rfl)
  rw [lg_entry_eq]
  generalize (lg_sl ([.int x]) ++ List.replicate (1 - (lg_sl ([.int x])).length) Slot.unset).toArray = ls at hl ⊢
  have hl : lv_has ls 1 [(0, .int x)] := hl
  refine W_in ?_
  intro WW hWW
  refine (hWW _ _ _).mpr ?_
  refine lv_iload_n hx hb dJ1_canEncode_9a6ad_0 rfl (lv_at hl 0 rfl) ?_
  refine lv_if_lt (tgt := 15) hx hb dJ1_canEncode_9a6ad_1 (by decide) (fun c1 => ?_) (fun c1 => ?_)
  · refine lv_iconst (v := (0 : Int32)) hx hb dJ1_canEncode_9a6ad_15 (by decide) ?_
    exact W.zret (ty := .boolean) (v := (0 : Int32)) hx hb hr rfl (fun t ht hW => ⟨⟨(0 : Int32), (), rfl, (by rw [if_pos c1]), hPt ht hP⟩, hS.F ht⟩) hS.2.2 dJ1_canEncode_9a6ad_16
  · refine lv_iload_n hx hb dJ1_canEncode_9a6ad_4 rfl (lv_at hl 0 rfl) ?_
    refine lv_sipush (v := (255 : Int32)) hx hb dJ1_canEncode_9a6ad_5 (by decide) ?_
    refine lv_icmp_gt (tgt := 15) hx hb dJ1_canEncode_9a6ad_8 (by decide) (fun c2 => ?_) (fun c2 => ?_)
    · refine lv_iconst (v := (0 : Int32)) hx hb dJ1_canEncode_9a6ad_15 (by decide) ?_
      exact W.zret (ty := .boolean) (v := (0 : Int32)) hx hb hr rfl (fun t ht hW => ⟨⟨(0 : Int32), (), rfl, (by rw [if_neg c1, if_pos c2]), hPt ht hP⟩, hS.F ht⟩) hS.2.2 dJ1_canEncode_9a6ad_16
    · refine lv_iconst (v := (1 : Int32)) hx hb dJ1_canEncode_9a6ad_11 (by decide) ?_
      refine lv_goto (tgt := 16) hx hb dJ1_canEncode_9a6ad_12 (by decide) ?_
      exact W.zret (ty := .boolean) (v := (1 : Int32)) hx hb hr rfl (fun t ht hW => ⟨⟨(1 : Int32), (), rfl, (by rw [if_neg c1, if_neg (by first | exact fun z => lt_nle z c2 | exact c2)]), hPt ht hP⟩, hS.F ht⟩) hS.2.2 dJ1_canEncode_9a6ad_16
set_option maxHeartbeats 4000000 in
set_option maxRecDepth 100000 in
theorem c_J1_indexOfChar_4cfef (l : Launch) (D : va_G) (cI : ClassId) (zA zV : Nat → Nat) (i : Nat) (hi : i < 8) (k : Nat) (hk : k < 256) : vI l D cI zA zV yJ1_indexOfChar_4cfef wsJ1_indexOfChar_4cfef ({ frames := 0, cells := 0, slots := 0, locals := 0 } : Room) [.ref (zV i), .int (nI k), .int 0, .int (sLen i)] [] [] (sIdx i (nI k)) := by
  intro sz
  refine Met.ofW (cc := cJ1_indexOfChar_4cfef) (maxL := 6) (ret := (some .int)) (by decide) rfl ?_
  intro p e s m args below meth c s₁ Bd hml hv
  obtain ⟨rfl, ⟨hsz, hP, hK, hD0, hN⟩, hz⟩ := hv
  have hx := Bd.exec
  have hb := Bd.bytes
  have hr := Bd.returns
  have hts := atoms_spec (ws := wsJ1_indexOfChar_4cfef) Bd.pre
  have hown : s.vm.findClass RJ1 = some m.cls := findClass_of_methodNamed Bd.named
  have hlocks := Bd.notSynchronized
  subst hsz
  have hD := hD0.self (sz := s.heap.size)
  generalize hAe : va_A [] s.heap.size = G at hD hz ⊢
  have hA : ∀ q : Nat, s.heap.size ≤ q → G q := fun q h => by rw [← hAe]; exact Or.inr h
  have hS : va_S G s.heap s.heap [] := va_S.rf
  have hP : va_P D vwCl [] s.heap := hP
  have hl := lv_entry ([.ref (zV i), .int (nI k), .int 0, .int (sLen i)]) (n := 6) (Nat.le_of_ble_eq_true rfl)
  rw [lg_entry_eq]
  generalize (lg_sl ([.ref (zV i), .int (nI k), .int 0, .int (sLen i)]) ++ List.replicate (6 - (lg_sl ([.ref (zV i), .int (nI k), .int 0, .int (sLen i)])).length) Slot.unset).toArray = ls at hl ⊢
  have hl : lv_has ls 6 [(0, .ref (zV i)), (1, .int (nI k)), (2, .int 0), (3, .int (sLen i))] := hl
  refine W_in ?_
  intro WW hWW
  refine (hWW _ _ _).mpr ?_
  obtain ⟨cb, hcb⟩ : ∃ cb, (nI k).toInt8.toInt32 = cb := ⟨_, rfl⟩
  have hcmp := zB_cmp k hk i hi
  rw [hcb] at hcmp
  have hlen := sB_len i hi
  have P : ∀ (d q : Nat) (H : Heap) (locs : List Loc) (ls : Array Slot), q + d = (sB i).length → sIx (nI k) ((sB i).drop q) q = sIdx i (nI k) → va_P D vwCl [] H → va_D G [] → va_S G s.heap H locs → lv_has ls 6 [(5, .int (nI q)), (4, .int cb), (0, .ref (zV i)), (1, .int (nI k)), (2, .int 0), (3, .int (sLen i))] → WW H locs (F0 m 7 ls []) := by
    intro d
    induction d with
    | zero =>
      intro q H locs ls hq hres hP hD hS hl
      refine (hWW _ _ _).mpr ?_
      refine lv_iload hx hb dJ1_indexOfChar_4cfef_7 (lv_at hl 0 rfl) ?_
      refine lv_iload_n hx hb dJ1_indexOfChar_4cfef_9 rfl (lv_at hl 5 rfl) ?_
      refine lv_icmp_ge (tgt := 31) hx hb dJ1_indexOfChar_4cfef_10 (by decide) (fun c1 => ?_) (fun c1 => ?_)
      · refine lv_iconst (v := (-1 : Int32)) hx hb dJ1_indexOfChar_4cfef_31 (by decide) ?_
        exact W.iret (v := (-1 : Int32)) hx hb hr (fun t ht hW => ⟨⟨_, (), rfl, (by rw [← hres, List.drop_eq_nil_of_le (by omega)]; rfl), hPt ht hP⟩, hS.F ht⟩) hS.2.2 dJ1_indexOfChar_4cfef_32
      · exact absurd (show sLen i ≤ nI q from nI_le (by omega) (by omega)) c1
    | succ d ih =>
      intro q H locs ls hq hres hP hD hS hl
      refine (hWW _ _ _).mpr ?_
      refine lv_iload hx hb dJ1_indexOfChar_4cfef_7 (lv_at hl 0 rfl) ?_
      refine lv_iload_n hx hb dJ1_indexOfChar_4cfef_9 rfl (lv_at hl 5 rfl) ?_
      refine lv_icmp_ge (tgt := 31) hx hb dJ1_indexOfChar_4cfef_10 (by decide) (fun c1 => ?_) (fun c1 => ?_)
      · exact absurd c1 (show ¬ sLen i ≤ nI q from nI_ge (by omega) (by omega))
      · obtain ⟨b1, b2, b3, b4, b5⟩ := sB_ok i hi q (by omega)
        refine lv_aload_n hx hb dJ1_indexOfChar_4cfef_13 rfl (lv_at hl 2 rfl) ?_
        refine lv_iload hx hb dJ1_indexOfChar_4cfef_14 (lv_at hl 0 rfl) ?_
        refine va_tb hx hb (hz.1.1 i hi).2.2.2 hS (i := nI q) b4 (v := .int ((sB i).getD q 0)) (by rw [nI_clamp (by omega), zB_B i hi]) dJ1_indexOfChar_4cfef_16 ?_
        refine lv_iload hx hb dJ1_indexOfChar_4cfef_17 (lv_at hl 1 rfl) ?_
        have hdr : (sB i).drop q = (sB i).getD q 0 :: (sB i).drop (q + 1) := by
          rw [List.drop_eq_getElem_cons (show q < (sB i).length by omega), List.getD_eq_getElem?_getD, List.getElem?_eq_getElem (show q < (sB i).length by omega)]
          rfl
        rw [hdr, sIx] at hres
        refine lv_icmp_ne (tgt := 25) hx hb dJ1_indexOfChar_4cfef_19 (by decide) (fun c2 => ?_) (fun c2 => ?_)
        · rw [if_neg (fun z => c2 ((hcmp q (by omega)).mpr z))] at hres
          refine lv_iinc (v := (nI q + (1 : Int32))) (lv' := [(5, .int (nI q + (1 : Int32))), (4, .int cb), (0, .ref (zV i)), (1, .int (nI k)), (2, .int 0), (3, .int (sLen i))]) hx hb dJ1_indexOfChar_4cfef_25 hl (k := 0) rfl rfl (by decide) rfl (fun ls hl => ?_)
          refine lv_goto (tgt := 7) hx hb dJ1_indexOfChar_4cfef_28 (by decide) ?_
          rw [nI_1] at hl
          exact (hWW _ _ _).mp (ih (q + 1) H locs ls (by omega) hres hP hD hS hl)
        · rw [if_pos ((hcmp q (by omega)).mp c2)] at hres
          refine lv_iload hx hb dJ1_indexOfChar_4cfef_22 (lv_at hl 0 rfl) ?_
          exact W.iret (v := nI q) hx hb hr (fun t ht hW => ⟨⟨_, (), rfl, hres, hPt ht hP⟩, hS.F ht⟩) hS.2.2 dJ1_indexOfChar_4cfef_24
  refine lv_iload_n hx hb dJ1_indexOfChar_4cfef_0 rfl (lv_at hl 1 rfl) ?_
  refine lv_i2b hx hb dJ1_indexOfChar_4cfef_1 hcb ?_
  refine lv_istore (lv' := [(4, .int cb), (0, .ref (zV i)), (1, .int (nI k)), (2, .int 0), (3, .int (sLen i))]) hx hb dJ1_indexOfChar_4cfef_2 hl (by decide) rfl (fun ls hl => ?_)
  refine lv_iload_n hx hb dJ1_indexOfChar_4cfef_4 rfl (lv_at hl 3 rfl) ?_
  refine lv_istore (lv' := [(5, .int (nI 0)), (4, .int cb), (0, .ref (zV i)), (1, .int (nI k)), (2, .int 0), (3, .int (sLen i))]) hx hb dJ1_indexOfChar_4cfef_5 hl (by decide) rfl (fun ls hl => ?_)
  exact (hWW _ _ _).mp (P (sB i).length 0 _ _ ls (by omega) rfl hP hD hS hl)
set_option maxHeartbeats 4000000 in
set_option maxRecDepth 100000 in
theorem c_J1_indexOf_4cfef (l : Launch) (D : va_G) (cI : ClassId) (zA zV : Nat → Nat) (i : Nat) (hi : i < 8) (x : Int32) : vI l D cI zA zV yJ1_indexOf_4cfef wsJ1_indexOf_4cfef ({ frames := 1, cells := 0, slots := 0, locals := 25 } : Room) [.ref (zV i), .int x, .int 0, .int (sLen i)] [] [] (sIdx i x) := by
  intro sz
  refine Met.ofW (cc := cJ1_indexOf_4cfef) (maxL := 4) (ret := (some .int)) (by decide) rfl ?_
  intro p e s m args below meth c s₁ Bd hml hv
  obtain ⟨rfl, ⟨hsz, hP, hK, hD0, hN⟩, hz⟩ := hv
  have hx := Bd.exec
  have hb := Bd.bytes
  have hr := Bd.returns
  have hts := atoms_spec (ws := wsJ1_indexOf_4cfef) Bd.pre
  have hown : s.vm.findClass RJ1 = some m.cls := findClass_of_methodNamed Bd.named
  have hlocks := Bd.notSynchronized
  subst hsz
  have hD := hD0.self (sz := s.heap.size)
  generalize hAe : va_A [] s.heap.size = G at hD hz ⊢
  have hA : ∀ q : Nat, s.heap.size ≤ q → G q := fun q h => by rw [← hAe]; exact Or.inr h
  have hS : va_S G s.heap s.heap [] := va_S.rf
  have hP : va_P D vwCl [] s.heap := hP
  have hl := lv_entry ([.ref (zV i), .int x, .int 0, .int (sLen i)]) (n := 4) (Nat.le_of_ble_eq_true rfl)
  rw [lg_entry_eq]
  generalize (lg_sl ([.ref (zV i), .int x, .int 0, .int (sLen i)]) ++ List.replicate (4 - (lg_sl ([.ref (zV i), .int x, .int 0, .int (sLen i)])).length) Slot.unset).toArray = ls at hl ⊢
  have hl : lv_has ls 4 [(0, .ref (zV i)), (1, .int x), (2, .int 0), (3, .int (sLen i))] := hl
  have lk0 := hts (.methodLink RJ1 92 Lib.Math.max.name) (by decide +kernel)
  have lk1 := hts (.static Lib.Math.max.name) (by decide +kernel)
  have lk2 := hts (.initialized "java/lang/Math") (by decide +kernel)
  have lk3 := hts (.code Lib.Math.max.name Lib.Math.max.code 2 (some .int)) (by decide +kernel)
  have lk4 := hts (.methodLink RJ1 38 Lib.Math.min.name) (by decide +kernel)
  have lk5 := hts (.static Lib.Math.min.name) (by decide +kernel)
  have lk6 := hts (.code Lib.Math.min.name Lib.Math.min.code 2 (some .int)) (by decide +kernel)
  refine W_in ?_
  intro WW hWW
  refine (hWW _ _ _).mpr ?_
  refine lv_iload_n hx hb dJ1_indexOf_4cfef_0 rfl (lv_at hl 1 rfl) ?_
  refine tS_i (As := [.int x]) (rest := []) ⟨hx, hb, hml, hown, hts⟩ hK hN hA hP hD hS hz (c_J1_canEncode_9a6ad l D cI zA zV x) (va_cwS 1 hts gJ1_indexOf_4cfef_J1_canEncode_9a6ad rfl rfl rfl hd_J1_canEncode_9a6ad.2 ⟨Nat.le_of_ble_eq_true rfl, Nat.le_of_ble_eq_true rfl⟩) Bp_e rfl hl.1 rfl (Nat.le_of_ble_eq_true rfl) dJ1_indexOf_4cfef_1 ⟨Nat.le_of_ble_eq_true rfl, Nat.le_of_ble_eq_true rfl⟩ (fun H locs hP hD hS => ?_)
  refine lv_if_ne (tgt := 9) hx hb dJ1_indexOf_4cfef_4 (by decide) (fun c1 => ?_) (fun c1 => ?_)
  · obtain ⟨k, hk, ek⟩ : ∃ k : Nat, k < 256 ∧ x = nI k := canEnc c1
    subst ek
    refine lv_iload_n hx hb dJ1_indexOf_4cfef_9 rfl (lv_at hl 2 rfl) ?_
    refine lv_iconst (v := (0 : Int32)) hx hb dJ1_indexOf_4cfef_10 (by decide) ?_
    refine va_mmax hx hb (hml.trans hl.1.symm) hown lk0 lk1 lk2 lk3 (Nat.le_of_ble_eq_true rfl) (Nat.le_of_ble_eq_true rfl) (Nat.le_of_ble_eq_true rfl) (Nat.le_of_ble_eq_true rfl) dJ1_indexOf_4cfef_11 ?_
    try rw [show (if (0 : Int32) < 0 then (0 : Int32) else 0) = 0 from ite_self _]
    refine lv_istore_n (lv' := [(2, .int 0), (0, .ref (zV i)), (1, .int (nI k)), (3, .int (sLen i))]) hx hb dJ1_indexOf_4cfef_14 rfl hl (by decide) rfl (fun ls hl => ?_)
    refine lv_iload_n hx hb dJ1_indexOf_4cfef_15 rfl (lv_at hl 3 rfl) ?_
    refine lv_aload_n hx hb dJ1_indexOf_4cfef_16 rfl (lv_at hl 1 rfl) ?_
    refine va_tlen hx hb (hz.1.1 i hi).2.2.2 hS (v := sLen i) (zL_len i hi) dJ1_indexOf_4cfef_17 ?_
    refine va_mmin hx hb (hml.trans hl.1.symm) hown lk4 lk5 lk2 lk6 (Nat.le_of_ble_eq_true rfl) (Nat.le_of_ble_eq_true rfl) (Nat.le_of_ble_eq_true rfl) (Nat.le_of_ble_eq_true rfl) dJ1_indexOf_4cfef_18 ?_
    rw [show (if sLen i < sLen i then sLen i else sLen i) = sLen i from ite_self _]
    refine lv_istore_n (lv' := [(3, .int (sLen i)), (2, .int 0), (0, .ref (zV i)), (1, .int (nI k))]) hx hb dJ1_indexOf_4cfef_21 rfl hl (by decide) rfl (fun ls hl => ?_)
    refine lv_iload_n hx hb dJ1_indexOf_4cfef_22 rfl (lv_at hl 1 rfl) ?_
    refine lv_iload_n hx hb dJ1_indexOf_4cfef_23 rfl (lv_at hl 0 rfl) ?_
    refine lv_icmp_lt (tgt := 29) hx hb dJ1_indexOf_4cfef_24 (by decide) (fun c2 => ?_) (fun c2 => ?_)
    · refine lv_aload_n hx hb dJ1_indexOf_4cfef_29 rfl (lv_at hl 2 rfl) ?_
      refine lv_iload_n hx hb dJ1_indexOf_4cfef_30 rfl (lv_at hl 3 rfl) ?_
      refine lv_iload_n hx hb dJ1_indexOf_4cfef_31 rfl (lv_at hl 1 rfl) ?_
      refine lv_iload_n hx hb dJ1_indexOf_4cfef_32 rfl (lv_at hl 0 rfl) ?_
      refine tS_i (As := [.ref (zV i), .int (nI k), .int 0, .int (sLen i)]) (rest := []) ⟨hx, hb, hml, hown, hts⟩ hK hN hA hP hD hS hz (c_J1_indexOfChar_4cfef l D cI zA zV i hi k hk) (va_cwS 4 hts gJ1_indexOf_4cfef_J1_indexOfChar_4cfef rfl rfl rfl hd_J1_indexOfChar_4cfef.2 ⟨Nat.le_of_ble_eq_true rfl, Nat.le_of_ble_eq_true rfl⟩) Bp_e rfl hl.1 rfl (Nat.le_of_ble_eq_true rfl) dJ1_indexOf_4cfef_33 ⟨Nat.le_of_ble_eq_true rfl, Nat.le_of_ble_eq_true rfl⟩ (fun H locs hP hD hS => ?_)
      exact W.iret (v := sIdx i (nI k)) hx hb hr (fun t ht hW => ⟨⟨_, (), rfl, rfl, hPt ht hP⟩, hS.F ht⟩) hS.2.2 dJ1_indexOf_4cfef_36
    · refine lv_iconst (v := (-1 : Int32)) hx hb dJ1_indexOf_4cfef_27 (by decide) ?_
      exact W.iret (v := (-1 : Int32)) hx hb hr (fun t ht hW => ⟨⟨_, (), rfl, (sIdx_nil i hi (nI k) c2 (fun z => by first | exact z | exact fun y => lt_nle y z)), hPt ht hP⟩, hS.F ht⟩) hS.2.2 dJ1_indexOf_4cfef_28
  · refine lv_iconst (v := (-1 : Int32)) hx hb dJ1_indexOf_4cfef_7 (by decide) ?_
    exact W.iret (v := (-1 : Int32)) hx hb hr (fun t ht hW => ⟨⟨_, (), rfl, (sIdx_out i hi x c1), hPt ht hP⟩, hS.F ht⟩) hS.2.2 dJ1_indexOf_4cfef_8
set_option maxHeartbeats 4000000 in
set_option maxRecDepth 100000 in
theorem c_J0_indexOf_7cf53 (l : Launch) (D : va_G) (cI : ClassId) (zA zV : Nat → Nat) (i : Nat) (hi : i < 8) (x : Int32) : vI l D cI zA zV yJ0_indexOf_7cf53 wsJ0_indexOf_7cf53 ({ frames := 2, cells := 0, slots := 0, locals := 48 } : Room) [.ref (zA i), .int x, .int 0] [] [] (sIdx i x) := by
  intro sz
  refine Met.ofW (cc := cJ0_indexOf_7cf53) (maxL := 3) (ret := (some .int)) (by decide) rfl ?_
  intro p e s m args below meth c s₁ Bd hml hv
  obtain ⟨rfl, ⟨hsz, hP, hK, hD0, hN⟩, hz⟩ := hv
  have hx := Bd.exec
  have hb := Bd.bytes
  have hr := Bd.returns
  have hts := atoms_spec (ws := wsJ0_indexOf_7cf53) Bd.pre
  have hown : s.vm.findClass RJ0 = some m.cls := findClass_of_methodNamed Bd.named
  have hlocks := Bd.notSynchronized
  subst hsz
  have hD := hD0.self (sz := s.heap.size)
  generalize hAe : va_A [] s.heap.size = G at hD hz ⊢
  have hA : ∀ q : Nat, s.heap.size ≤ q → G q := fun q h => by rw [← hAe]; exact Or.inr h
  have hS : va_S G s.heap s.heap [] := va_S.rf
  have hP : va_P D vwCl [] s.heap := hP
  have hl := lv_entry ([.ref (zA i), .int x, .int 0]) (n := 3) (Nat.le_of_ble_eq_true rfl)
  rw [lg_entry_eq]
  generalize (lg_sl ([.ref (zA i), .int x, .int 0]) ++ List.replicate (3 - (lg_sl ([.ref (zA i), .int x, .int 0])).length) Slot.unset).toArray = ls at hl ⊢
  have hl : lv_has ls 3 [(0, .ref (zA i)), (1, .int x), (2, .int 0)] := hl
  have lk0 := hts (.fieldLink RJ0 9 "java/lang/String" "value" "[B") (by decide +kernel)
  refine W_in ?_
  intro WW hWW
  refine (hWW _ _ _).mpr ?_
  refine lv_aload_n hx hb dJ0_indexOf_7cf53_0 rfl (lv_at hl 0 rfl) ?_
  refine tV_i (As := []) (rest := []) ⟨hx, hb, hml, hown, hts⟩ hK hN hA hP hD hS hz (c_J0_isLatin1_aae02 l D cI zA zV i hi) (cwV 0 hts gJ0_indexOf_7cf53_J0_isLatin1_aae02 rfl rfl rfl hd_J0_isLatin1_aae02 ⟨Nat.le_of_ble_eq_true rfl, Nat.le_of_ble_eq_true rfl⟩) (vk_recv hz.1 hi hS) Bp_e rfl hl.1 rfl (Nat.le_of_ble_eq_true rfl) dJ0_indexOf_7cf53_1 ⟨Nat.le_of_ble_eq_true rfl, Nat.le_of_ble_eq_true rfl⟩ (fun H locs hP hD hS => ?_)
  refine lv_if_eq (tgt := 23) hx hb dJ0_indexOf_7cf53_4 (by decide) (fun c1 => ?_) (fun c1 => ?_)
  · exact absurd c1 (by decide)
  · refine lv_aload_n hx hb dJ0_indexOf_7cf53_7 rfl (lv_at hl 0 rfl) ?_
    refine vk_getf hx hb (hz.1.1 i hi).2.2.1 hS hown lk0 (fun _ h9 => h9) dJ0_indexOf_7cf53_8 ?_
    refine lv_iload_n hx hb dJ0_indexOf_7cf53_11 rfl (lv_at hl 1 rfl) ?_
    refine lv_iload_n hx hb dJ0_indexOf_7cf53_12 rfl (lv_at hl 2 rfl) ?_
    refine lv_aload_n hx hb dJ0_indexOf_7cf53_13 rfl (lv_at hl 0 rfl) ?_
    refine tV_i (As := []) (rest := [.int 0, .int x, .ref (zV i)]) ⟨hx, hb, hml, hown, hts⟩ hK hN hA hP hD hS hz (c_J0_length_8abf5 l D cI zA zV i hi) (cwV 0 hts gJ0_indexOf_7cf53_J0_length_8abf5 rfl rfl rfl hd_J0_length_8abf5 ⟨Nat.le_of_ble_eq_true rfl, Nat.le_of_ble_eq_true rfl⟩) (vk_recv hz.1 hi hS) Bp_e rfl hl.1 rfl (Nat.le_of_ble_eq_true rfl) dJ0_indexOf_7cf53_14 ⟨Nat.le_of_ble_eq_true rfl, Nat.le_of_ble_eq_true rfl⟩ (fun H locs hP hD hS => ?_)
    refine tS_i (As := [.ref (zV i), .int x, .int 0, .int (sLen i)]) (rest := []) ⟨hx, hb, hml, hown, hts⟩ hK hN hA hP hD hS hz (c_J1_indexOf_4cfef l D cI zA zV i hi x) (va_cwS 4 hts gJ0_indexOf_7cf53_J1_indexOf_4cfef rfl rfl rfl hd_J1_indexOf_4cfef.2 ⟨Nat.le_of_ble_eq_true rfl, Nat.le_of_ble_eq_true rfl⟩) Bp_e rfl hl.1 rfl (Nat.le_of_ble_eq_true rfl) dJ0_indexOf_7cf53_17 ⟨Nat.le_of_ble_eq_true rfl, Nat.le_of_ble_eq_true rfl⟩ (fun H locs hP hD hS => ?_)
    refine lv_goto (tgt := 36) hx hb dJ0_indexOf_7cf53_20 (by decide) ?_
    exact W.iret (v := sIdx i x) hx hb hr (fun t ht hW => ⟨⟨_, (), rfl, rfl, hPt ht hP⟩, hS.F ht⟩) hS.2.2 dJ0_indexOf_7cf53_36
set_option maxHeartbeats 4000000 in
set_option maxRecDepth 100000 in
theorem c_J0_indexOf_0f7a4 (l : Launch) (D : va_G) (cI : ClassId) (zA zV : Nat → Nat) (i : Nat) (hi : i < 8) (x : Int32) : vI l D cI zA zV yJ0_indexOf_0f7a4 wsJ0_indexOf_0f7a4 ({ frames := 3, cells := 0, slots := 0, locals := 70 } : Room) [.ref (zA i), .int x] [] [] (sIdx i x) := by
  intro sz
  refine Met.ofW (cc := cJ0_indexOf_0f7a4) (maxL := 2) (ret := (some .int)) (by decide) rfl ?_
  intro p e s m args below meth c s₁ Bd hml hv
  obtain ⟨rfl, ⟨hsz, hP, hK, hD0, hN⟩, hz⟩ := hv
  have hx := Bd.exec
  have hb := Bd.bytes
  have hr := Bd.returns
  have hts := atoms_spec (ws := wsJ0_indexOf_0f7a4) Bd.pre
  have hown : s.vm.findClass RJ0 = some m.cls := findClass_of_methodNamed Bd.named
  have hlocks := Bd.notSynchronized
  subst hsz
  have hD := hD0.self (sz := s.heap.size)
  generalize hAe : va_A [] s.heap.size = G at hD hz ⊢
  have hA : ∀ q : Nat, s.heap.size ≤ q → G q := fun q h => by rw [← hAe]; exact Or.inr h
  have hS : va_S G s.heap s.heap [] := va_S.rf
  have hP : va_P D vwCl [] s.heap := hP
  have hl := lv_entry ([.ref (zA i), .int x]) (n := 2) (Nat.le_of_ble_eq_true rfl)
  rw [lg_entry_eq]
  generalize (lg_sl ([.ref (zA i), .int x]) ++ List.replicate (2 - (lg_sl ([.ref (zA i), .int x])).length) Slot.unset).toArray = ls at hl ⊢
  have hl : lv_has ls 2 [(0, .ref (zA i)), (1, .int x)] := hl
  refine W_in ?_
  intro WW hWW
  refine (hWW _ _ _).mpr ?_
  refine lv_aload_n hx hb dJ0_indexOf_0f7a4_0 rfl (lv_at hl 0 rfl) ?_
  refine lv_iload_n hx hb dJ0_indexOf_0f7a4_1 rfl (lv_at hl 1 rfl) ?_
  refine lv_iconst (v := (0 : Int32)) hx hb dJ0_indexOf_0f7a4_2 (by decide) ?_
  refine tV_i (As := [.int x, .int 0]) (rest := []) ⟨hx, hb, hml, hown, hts⟩ hK hN hA hP hD hS hz (c_J0_indexOf_7cf53 l D cI zA zV i hi x) (cwV 2 hts gJ0_indexOf_0f7a4_J0_indexOf_7cf53 rfl rfl rfl hd_J0_indexOf_7cf53 ⟨Nat.le_of_ble_eq_true rfl, Nat.le_of_ble_eq_true rfl⟩) (vk_recv hz.1 hi hS) Bp_e rfl hl.1 rfl (Nat.le_of_ble_eq_true rfl) dJ0_indexOf_0f7a4_3 ⟨Nat.le_of_ble_eq_true rfl, Nat.le_of_ble_eq_true rfl⟩ (fun H locs hP hD hS => ?_)
  exact W.iret (v := sIdx i x) hx hb hr (fun t ht hW => ⟨⟨_, (), rfl, rfl, hPt ht hP⟩, hS.F ht⟩) hS.2.2 dJ0_indexOf_0f7a4_6
