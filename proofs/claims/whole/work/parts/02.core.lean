abbrev vwCl : List vw_C := [(RX0, TX0, 13), (RX1, TX1, 9), (RX2, TX2, 31)]
def nsF : List (String × Nat × String × String × String × String) := [("LiesBoughtBack", 136, "LiesBoughtBack$Hall", "cards", "I", "LiesBoughtBack"), ("LiesBoughtBack", 139, "LiesBoughtBack$Hall", "bidders", "I", "LiesBoughtBack"), ("LiesBoughtBack", 168, "LiesBoughtBack$Hall", "month", "I", "LiesBoughtBack"), ("LiesBoughtBack", 105, "LiesBoughtBack$Hall", "cardKind", "[I", "LiesBoughtBack"), ("LiesBoughtBack", 108, "LiesBoughtBack$Hall", "cardFigure", "[I", "LiesBoughtBack"), ("LiesBoughtBack", 111, "LiesBoughtBack$Hall", "teller", "[I", "LiesBoughtBack"), ("LiesBoughtBack", 114, "LiesBoughtBack$Hall", "age", "[I", "LiesBoughtBack"), ("LiesBoughtBack", 75, "LiesBoughtBack$Hall", "holder", "[I", "LiesBoughtBack"), ("LiesBoughtBack", 88, "LiesBoughtBack$Hall", "bidderKind", "[I", "LiesBoughtBack"), ("LiesBoughtBack", 91, "LiesBoughtBack$Hall", "bidderFigure", "[I", "LiesBoughtBack"), ("LiesBoughtBack", 66, "LiesBoughtBack$Hall", "purse", "[I", "LiesBoughtBack"), ("LiesBoughtBack", 123, "LiesBoughtBack$Hall", "believed", "[I", "LiesBoughtBack")]
def nsM : List (String × Nat × MethodName × String) := [("LiesBoughtBack", 9, ⟨"LiesBoughtBack$Hall", "<init>", "()V"⟩, "LiesBoughtBack"), ("LiesBoughtBack", 47, ⟨"LiesBoughtBack$Hall", "become", "(LLiesBoughtBack$Hall;)V"⟩, "LiesBoughtBack"), ("LiesBoughtBack$Hall", 52, ⟨"LiesBoughtBack", "copyRow", "([I[I)V"⟩, "LiesBoughtBack"), ("LiesBoughtBack", 259, ⟨"LiesBoughtBack$Hall", "addCard", "(III)Z"⟩, "LiesBoughtBack"), ("LiesBoughtBack$Hall", 64, ⟨"LiesBoughtBack", "put", "([III)V"⟩, "LiesBoughtBack"), ("LiesBoughtBack", 263, ⟨"LiesBoughtBack$Hall", "addBidder", "(III)Z"⟩, "LiesBoughtBack"), ("LiesBoughtBack", 266, ⟨"LiesBoughtBack$Hall", "fillPurse", "(II)Z"⟩, "LiesBoughtBack"), ("LiesBoughtBack", 78, ⟨"LiesBoughtBack$Hall", "changePlaces", "(II)Z"⟩, "LiesBoughtBack"), ("LiesBoughtBack$Hall", 60, ⟨"LiesBoughtBack", "at", "([II)I"⟩, "LiesBoughtBack"), ("LiesBoughtBack", 269, ⟨"LiesBoughtBack$Hall", "layInPile", "(I)Z"⟩, "LiesBoughtBack"), ("LiesBoughtBack", 272, ⟨"LiesBoughtBack$Hall", "handTo", "(II)Z"⟩, "LiesBoughtBack"), ("LiesBoughtBack", 94, ⟨"LiesBoughtBack$Hall", "hasTimeFor", "(I)Z"⟩, "LiesBoughtBack"), ("LiesBoughtBack", 97, ⟨"LiesBoughtBack$Hall", "goOn", "(IZ)I"⟩, "LiesBoughtBack"), ("LiesBoughtBack", 59, ⟨"LiesBoughtBack$Hall", "hasBidder", "(I)Z"⟩, "LiesBoughtBack"), ("LiesBoughtBack", 69, ⟨"LiesBoughtBack$Hall", "hasCard", "(I)Z"⟩, "LiesBoughtBack"), ("LiesBoughtBack", 72, ⟨"LiesBoughtBack$Hall", "inPile", "(I)Z"⟩, "LiesBoughtBack"), ("LiesBoughtBack", 82, ⟨"LiesBoughtBack$Hall", "placeOf", "(I)I"⟩, "LiesBoughtBack"), ("LiesBoughtBack", 85, ⟨"LiesBoughtBack$Hall", "auction", "(I)I"⟩, "LiesBoughtBack"), ("LiesBoughtBack", 101, ⟨"LiesBoughtBack$Hall", "heldCount", "()I"⟩, "LiesBoughtBack"), ("LiesBoughtBack", 117, ⟨"LiesBoughtBack$Hall", "worth", "(I)I"⟩, "LiesBoughtBack"), ("LiesBoughtBack", 120, ⟨"LiesBoughtBack$Hall", "rivals", "(I)I"⟩, "LiesBoughtBack"), ("LiesBoughtBack", 126, ⟨"LiesBoughtBack$Hall", "heldBits", "(I)I"⟩, "LiesBoughtBack"), ("LiesBoughtBack", 129, ⟨"LiesBoughtBack$Hall", "most", "(III)I"⟩, "LiesBoughtBack"), ("LiesBoughtBack", 132, ⟨"LiesBoughtBack$Hall", "deal", "(II)I"⟩, "LiesBoughtBack"), ("LiesBoughtBack", 145, ⟨"LiesBoughtBack$Hall", "ownBits", "()I"⟩, "LiesBoughtBack"), ("LiesBoughtBack", 148, ⟨"LiesBoughtBack$Hall", "allCardBits", "()I"⟩, "LiesBoughtBack"), ("LiesBoughtBack", 151, ⟨"LiesBoughtBack$Hall", "pileBits", "()I"⟩, "LiesBoughtBack"), ("LiesBoughtBack", 154, ⟨"LiesBoughtBack$Hall", "cleanBits", "()I"⟩, "LiesBoughtBack"), ("LiesBoughtBack", 157, ⟨"LiesBoughtBack$Hall", "allPurses", "()I"⟩, "LiesBoughtBack"), ("LiesBoughtBack", 171, ⟨"LiesBoughtBack$Hall", "allWorth", "()I"⟩, "LiesBoughtBack"), ("LiesBoughtBack", 174, ⟨"LiesBoughtBack$Hall", "allBelieved", "()I"⟩, "LiesBoughtBack"), ("LiesBoughtBack", 180, ⟨"LiesBoughtBack$Hall", "drawPurses", "(I)I"⟩, "LiesBoughtBack"), ("LiesBoughtBack", 183, ⟨"LiesBoughtBack$Hall", "allToPile", "()V"⟩, "LiesBoughtBack"), ("LiesBoughtBack", 190, ⟨"LiesBoughtBack$Hall", "heldBy", "(I)I"⟩, "LiesBoughtBack"), ("LiesBoughtBack", 193, ⟨"LiesBoughtBack$Hall", "toFront", "(I)V"⟩, "LiesBoughtBack"), ("LiesBoughtBack", 197, ⟨"LiesBoughtBack$Hall", "pourPurse", "(II)V"⟩, "LiesBoughtBack"), ("LiesBoughtBack", 204, ⟨"LiesBoughtBack$Hall", "gain", "(III)I"⟩, "LiesBoughtBack")]
/-- the nest links hold -/
def nW (U : State) : Prop := (∀ q ∈ nsF, va_Nw (.fieldLinkNest q.1 q.2.1 q.2.2.1 q.2.2.2.1 q.2.2.2.2.1 q.2.2.2.2.2) U) ∧ ∀ q ∈ nsM, va_Nw (.methodLinkNest q.1 q.2.1 q.2.2.1 q.2.2.2) U
theorem nW.same {u U : State} (h : u.vm = U.vm) (hN : nW u) : nW U := ⟨fun q hq => (hN.1 q hq).same rfl h, fun q hq => (hN.2 q hq).same rfl h⟩
theorem nW.warm {s U : State} (hW : s.WarmedH U.vm) (hN : nW s) : nW U := ⟨fun q hq => (hN.1 q hq).warmF hW, fun q hq => (hN.2 q hq).warmM hW⟩
theorem nW.f {U : State} (hN : nW U) (k : Nat) {a b n d h : String} {i : Nat} (hk : nsF[k]? = some (a, i, b, n, d, h)) {A : Array Value} : (Cond.fieldLinkNest a i b n d h).before A U = true := va_Nw.use rfl (hN.1 _ (List.mem_of_getElem? hk))
theorem nW.m {U : State} (hN : nW U) (k : Nat) {a h : String} {i : Nat} {x : MethodName} (hk : nsM[k]? = some (a, i, x, h)) : va_Nw (.methodLinkNest a i x h) U := hN.2 _ (List.mem_of_getElem? hk)
theorem rd_some {n : Nat} {f : Nat → Int32} {i v : Int32} (h : rd n f i = some v) : vp_in i n ∧ f i.toNatClampNeg = v := by
  unfold rd at h
  by_cases c : i < 0 ∨ n ≤ i.toNatClampNeg
  · rw [if_pos c] at h; cases h
  · rw [if_neg c] at h; exact ⟨c, Option.some.inj h⟩
theorem wr_some {n : Nat} {f g : Nat → Int32} {i v : Int32} (h : wr n f i v = some g) : vp_in i n ∧ upd f i.toNatClampNeg v = g := by
  unfold wr at h
  by_cases c : i < 0 ∨ n ≤ i.toNatClampNeg
  · rw [if_pos c] at h; cases h
  · rw [if_neg c] at h; exact ⟨c, Option.some.inj h⟩
theorem bS {α β : Type} {o : Option α} {k : α → Option β} {b : β} (h : o.bind k = some b) : ∃ a, o = some a ∧ k a = some b := by
  cases o with
  | none => cases h
  | some a => exact ⟨a, rfl, h⟩
theorem hT {α : Type} {c : Prop} [Decidable c] {a b r : α} (h : (if c then a else b) = r) (hc : c) : a = r := (if_pos hc).symm.trans h
theorem hF {α : Type} {c : Prop} [Decidable c] {a b r : α} (h : (if c then a else b) = r) (hc : ¬ c) : b = r := (if_neg hc).symm.trans h
/-! patched worlds -/
def px (ws w1 : va_W) (is : List Nat) : va_W := (is.zip w1).foldl (fun a q => a.set q.1 q.2) ws
theorem px_get : ∀ (is : List Nat) (w1 ws : va_W), is.length = w1.length → ∀ (k : Nat) (q : Nat × va_E), (px ws w1 is)[k]? = some q → (∃ j : Nat, is[j]? = some k ∧ w1[j]? = some q) ∨ (k ∉ is ∧ ws[k]? = some q)
  | [], _, ws, _, k, q, h => Or.inr ⟨List.not_mem_nil, h⟩
  | i :: is, [], ws, hl, _, _, _ => by cases hl
  | i :: is, q1 :: w1, ws, hl, k, q, h => by
    rcases px_get is w1 (ws.set i q1) (Nat.succ.inj hl) k q h with ⟨j, h1, h2⟩ | ⟨h1, h2⟩
    · exact Or.inl ⟨j + 1, h1, h2⟩
    · by_cases e : i = k
      · subst e
        rw [List.getElem?_set] at h2
        rw [if_pos rfl] at h2
        split at h2
        · exact Or.inl ⟨0, rfl, h2⟩
        · cases h2
      · rw [List.getElem?_set_ne e] at h2
        exact Or.inr ⟨fun hm => (List.mem_cons.mp hm).elim (fun x => e x.symm) h1, h2⟩
theorem px_fst : ∀ (is : List Nat) (w1 ws : va_W), (∀ (j k : Nat) (q1 : Nat × va_E), is[j]? = some k → w1[j]? = some q1 → ∀ q, ws[k]? = some q → q.1 = q1.1) → ∀ (k : Nat), ((px ws w1 is)[k]?).map Prod.fst = (ws[k]?).map Prod.fst
  | [], _, ws, _, k => rfl
  | i :: is, [], ws, _, k => rfl
  | i :: is, q1 :: w1, ws, h, k => by
    have hs : ∀ k : Nat, ((ws.set i q1)[k]?).map Prod.fst = (ws[k]?).map Prod.fst := by
      intro k
      by_cases e : i = k
      · subst e
        rw [List.getElem?_set, if_pos rfl]
        split
        next hlt =>
          rw [List.getElem?_eq_getElem hlt]
          exact congrArg some (h 0 i q1 rfl rfl _ (List.getElem?_eq_getElem hlt)).symm
        next hlt => rw [List.getElem?_eq_none (Nat.not_lt.mp hlt)]
      · rw [List.getElem?_set_ne e]
    have ih := px_fst is w1 (ws.set i q1) (fun j k q2 h1 h2 q hq => by
      have e := hs k
      rw [hq] at e
      cases hw : ws[k]? with
      | none => rw [hw] at e; cases e
      | some q0 =>
        rw [hw] at e
        exact (Option.some.inj e).trans (h (j + 1) k q2 h1 h2 q0 hw)) k
    exact ih.trans (hs k)
theorem va_D.fst {A : Nat → Prop} {ws ws' : va_W} (h : ∀ k : Nat, (ws'[k]?).map Prod.fst = (ws[k]?).map Prod.fst) (hD : va_D A ws) : va_D A ws' := by
  have at' : ∀ (k : Nat) (q : Nat × va_E), ws'[k]? = some q → ∃ q0, ws[k]? = some q0 ∧ q0.1 = q.1 := by
    intro k q hq
    have e := h k
    rw [hq] at e
    cases hw : ws[k]? with
    | none => rw [hw] at e; cases e
    | some q0 => rw [hw] at e; exact ⟨q0, rfl, (Option.some.inj e).symm⟩
  refine ⟨fun i j p q hp hq hpq => ?_, fun k q hq => ?_⟩
  · obtain ⟨p0, a1, a2⟩ := at' i p hp
    obtain ⟨q0, b1, b2⟩ := at' j q hq
    exact hD.1 i j p0 q0 a1 b1 (by rw [a2, b2, hpq])
  · obtain ⟨q0, b1, b2⟩ := at' k q hq
    rw [← b2]
    exact hD.2 k q0 b1
theorem px_join {A0 : Nat → Prop} {D : va_G} {cl : List vw_C} {ws wc w1 : va_W} {H H1 : Heap} (hP : va_P D cl ws H) (hD : va_D A0 ws) (is : List Nat) (hC : is.map (fun i => ws[i]?) = wc.map some) (hw : w1.map Prod.fst = wc.map Prod.fst) (hk : ∀ q : Nat, q < H.size → ¬ va_A wc H.size q → H1[q]? = H[q]?) (hP1 : va_P D cl w1 H1) : va_P D cl (px ws w1 is) H1 ∧ va_D A0 (px ws w1 is) := by
  have atC : ∀ (k : Nat) (q : Nat × va_E), wc[k]? = some q → ∃ i, is[k]? = some i ∧ ws[i]? = some q := by
    intro k q hq
    have h1 : (is.map (fun i => ws[i]?))[k]? = some (some q) := by rw [hC, List.getElem?_map, hq]; rfl
    rw [List.getElem?_map] at h1
    cases hi : is[k]? with
    | none => rw [hi] at h1; cases h1
    | some i => rw [hi] at h1; exact ⟨i, rfl, Option.some.inj h1⟩
  have len1 : is.length = wc.length := by
    have := congrArg List.length hC
    simpa using this
  have len2 : w1.length = wc.length := by
    have := congrArg List.length hw
    simpa using this
  have f1 : ∀ (j : Nat) (q1 : Nat × va_E), w1[j]? = some q1 → ∃ q0, wc[j]? = some q0 ∧ q0.1 = q1.1 := by
    intro j q1 h1
    have e : (w1.map Prod.fst)[j]? = (wc.map Prod.fst)[j]? := by rw [hw]
    rw [List.getElem?_map, List.getElem?_map, h1] at e
    cases hq : wc[j]? with
    | none => rw [hq] at e; cases e
    | some q0 => rw [hq] at e; exact ⟨q0, rfl, (Option.some.inj e).symm⟩
  refine ⟨fun k q hq => ?_, hD.fst (px_fst is w1 ws (fun j k q1 h1 h2 q hq => ?_))⟩
  · rcases px_get is w1 ws (by omega) k q hq with ⟨j, -, h2⟩ | ⟨h1, h2⟩
    · exact hP1 j q h2
    · refine (hP k q h2).kept (hk q.1 (hP k q h2).lt (fun hA => ?_))
      rcases hA with ⟨k2, e, h⟩ | h
      · obtain ⟨i, h3, h4⟩ := atC k2 (q.1, e) h
        have := hD.1 k i q (q.1, e) h2 h4 rfl
        subst this
        exact h1 (List.mem_of_getElem? h3)
      · have := (hP k q h2).lt
        omega
  · obtain ⟨q0, h3, h4⟩ := f1 j q1 h2
    obtain ⟨i, h5, h6⟩ := atC j q0 h3
    rw [h1] at h5
    cases h5
    rw [hq] at h6
    cases h6
    exact h4


theorem px_self : ∀ (is : List Nat) (wc ws : va_W), is.map (fun i => ws[i]?) = wc.map some → px ws wc is = ws
  | [], _, _, _ => rfl
  | i :: is, [], _, h => by cases h
  | i :: is, q :: wc, ws, h => by
    have h1 : ws[i]? = some q := (List.cons.inj h).1
    have h2 := (List.cons.inj h).2
    have e : ws.set i q = ws := by
      apply List.ext_getElem?
      intro k
      rw [List.getElem?_set]
      by_cases c : i = k
      · subst c
        rw [if_pos rfl]
        split
        · exact h1.symm
        next hlt => rw [List.getElem?_eq_none (Nat.not_lt.mp hlt)]
      · rw [if_neg c]
    show px (ws.set i q) wc is = ws
    rw [e]
    exact px_self is wc ws h2
/-! contracts without new cells -/
abbrev uB (D : va_G) (cI : ClassId) (wc : va_W) (sz : Nat) (U : State) : Prop := U.heap.size = sz ∧ va_P D vwCl wc U.heap ∧ va_K D vwCl [(cI, .int)] U ∧ va_D (fun _ => True) wc ∧ nW U
abbrev uI (l : Launch) (D : va_G) (cI : ClassId) (y : MethodName) (wsy : List Cond) (rm : Room) (As : List Value) (wc w1 : va_W) (r : Int32) : Prop := ∀ sz : Nat, Met l y wsy rm (va_Pc As (uB D cI wc sz)) (va_Qi (fun (x : Int32) (_ : Unit) => x = r) (fun _ t => va_P D vwCl w1 t.heap) (va_A wc sz)) 0 0 (va_A wc sz)
abbrev uL (l : Launch) (D : va_G) (cI : ClassId) (y : MethodName) (wsy : List Cond) (rm : Room) (As : List Value) (wc w1 : va_W) (r : Int64) : Prop := ∀ sz : Nat, Met l y wsy rm (va_Pc As (uB D cI wc sz)) (va_Ql (fun (x : Int64) (_ : Unit) => x = r) (fun _ t => va_P D vwCl w1 t.heap) (va_A wc sz)) 0 0 (va_A wc sz)
abbrev uV (l : Launch) (D : va_G) (cI : ClassId) (y : MethodName) (wsy : List Cond) (rm : Room) (As : List Value) (wc w1 : va_W) : Prop := ∀ sz : Nat, Met l y wsy rm (va_Pc As (uB D cI wc sz)) (va_Qv (fun (_ : Unit) => True) (fun _ t => va_P D vwCl w1 t.heap) (va_A wc sz)) 0 0 (va_A wc sz)
theorem uB_call {D : va_G} {cI : ClassId} {wc : va_W} {sz : Nat} {U : State} (g : JFrame) (mk : MethodId) (a : Array Value) (h : uB D cI wc sz U) : uB D cI wc sz (U.calling g mk a) := by
  obtain ⟨h1, h2, h3, h4, h5⟩ := h
  exact ⟨h1, h2, va_K.moved (u := U) (U := U.calling g mk a) (Vm.Alike.refl U.vm) h3, h4, nW.same (u := U) (U := U.calling g mk a) rfl h5⟩
theorem preS_u {s : State} {H : Heap} {As : List Value} {D : va_G} {cI : ClassId} {wc : va_W} {A : Nat → Prop} (hP : va_P D vwCl wc H) (hD : va_D A wc) (hK : va_K D vwCl [(cI, .int)] s) (hN : nW s) : PreS s H (va_Pc As (uB D cI wc H.size)) As :=
  ⟨fun a U g mk q => ⟨q.1, uB_call g mk a q.2⟩, fun U hU hW => ⟨rfl, by rw [hU], by rw [hU]; exact hP, va_K.moved hW.alike hK, hD.weaken (fun _ _ _ _ => trivial), nW.warm hW hN⟩⟩
theorem preV_u {s : State} {H : Heap} {C : String} {b : Addr} {As : List Value} {D : va_G} {cI : ClassId} {wc : va_W} {A : Nat → Prop} (hP : va_P D vwCl wc H) (hD : va_D A wc) (hK : va_K D vwCl [(cI, .int)] s) (hN : nW s) (rc : ∃ cell : Cell, H[b]? = some cell ∧ cell.vm.isStatics = false ∧ s.vm.findClass C = some cell.cls) : PreV s H C b (va_Pc (.ref b :: As) (uB D cI wc H.size)) As :=
  ⟨fun a U g mk q => ⟨q.1, uB_call g mk a q.2⟩, rc, fun U hU hW => ⟨rfl, by rw [hU], by rw [hU]; exact hP, va_K.moved hW.alike hK, hD.weaken (fun _ _ _ _ => trivial), nW.warm hW hN⟩⟩
theorem sub_P {D : va_G} {cl : List vw_C} {ws wc : va_W} {H : Heap} (hP : va_P D cl ws H) (is : List Nat) (hC : is.map (fun i => ws[i]?) = wc.map some) : va_P D cl wc H := by
  intro k q hq
  have h1 : (is.map (fun i => ws[i]?))[k]? = some (some q) := by rw [hC, List.getElem?_map, hq]; rfl
  rw [List.getElem?_map] at h1
  cases hi : is[k]? with
  | none => rw [hi] at h1; cases h1
  | some i => rw [hi] at h1; exact hP i q (Option.some.inj h1)


theorem va_D.ofMap {A : Nat → Prop} {ws wc : va_W} (hD : va_D A ws) (is : List Nat) (hC : is.map (fun i => ws[i]?) = wc.map some) (hn : va_nd is = true) : va_D (fun _ => True) wc := (hD.sub is hn hC).weaken (fun _ _ _ _ => trivial)
section RC
variable {p : Program} {l : Launch} {e : Env} {R : Room} {s : State} {m : MethodId} {args : Array Value} {below : List Frame} {meth : Method} {c : Code} {H : Heap} {locs : List Loc} {cells slots : Nat} {Q : State → Prop}
variable {pc : Nat} {ls : Array Slot} {rest st0 : List Value} {A : Nat → Prop} {H0 : Heap} {D : va_G} {cI : ClassId} {ws wc w1 ws' : va_W} {y : MethodName} {wsy : List Cond} {rm : Room} {As : List Value} {cc bytes : ByteArray} {nL maxL n index : Nat} {ret : Option FieldType} {Ts : List Cond} {own host C : String} {b : Addr}

theorem aft_i {r : Int32} {a : Array Value} (hr : va_Run p l e R s m args below meth c H locs cells slots 0 0 (F0 m pc ls st0) rest (va_Qi (fun (x : Int32) (_ : Unit) => x = r) (fun _ t => va_P D vwCl w1 t.heap) (va_A wc H.size) a) (va_A wc H.size)) (hP : va_P D vwCl ws H) (hD : va_D A ws) (hS : va_S A H0 H locs) (hA : ∀ q, H0.size ≤ q → A q) (is : List Nat) (hC : is.map (fun i => ws[i]?) = wc.map some) (hw : w1.map Prod.fst = wc.map Prod.fst) (hx' : px ws w1 is = ws')
    (kk : ∀ (H1 : Heap) (locs1 : List Loc), va_P D vwCl ws' H1 → va_D A ws' → va_S A H0 H1 locs1 → W p l e R s m args below meth c H1 locs1 cells slots Q (F0 m (pc + 3) ls (.int r :: rest))) : W p l e R s m args below meth c H locs cells slots Q (F0 m pc ls st0) := by
  have hF := va_free (wc := wc) hD hS hA is hC
  refine va_calli hr hS (fun q _ h => hF q h) hF (fun x u t H1 locs1 ht hvm hr1 hB hz hk hS => ?_)
  subst hr1
  rw [ht] at hB
  obtain ⟨a1, a2⟩ := px_join hP hD is hC hw hk hB
  rw [hx'] at a1 a2
  exact kk H1 locs1 a1 a2 hS
theorem aft_l {r : Int64} {a : Array Value} (hr : va_Run p l e R s m args below meth c H locs cells slots 0 0 (F0 m pc ls st0) rest (va_Ql (fun (x : Int64) (_ : Unit) => x = r) (fun _ t => va_P D vwCl w1 t.heap) (va_A wc H.size) a) (va_A wc H.size)) (hP : va_P D vwCl ws H) (hD : va_D A ws) (hS : va_S A H0 H locs) (hA : ∀ q, H0.size ≤ q → A q) (is : List Nat) (hC : is.map (fun i => ws[i]?) = wc.map some) (hw : w1.map Prod.fst = wc.map Prod.fst) (hx' : px ws w1 is = ws')
    (kk : ∀ (H1 : Heap) (locs1 : List Loc), va_P D vwCl ws' H1 → va_D A ws' → va_S A H0 H1 locs1 → W p l e R s m args below meth c H1 locs1 cells slots Q (F0 m (pc + 3) ls (.long r :: rest))) : W p l e R s m args below meth c H locs cells slots Q (F0 m pc ls st0) := by
  have hF := va_free (wc := wc) hD hS hA is hC
  refine va_calll hr hS (fun q _ h => hF q h) hF (fun x u t H1 locs1 ht hvm hr1 hB hz hk hS => ?_)
  subst hr1
  rw [ht] at hB
  obtain ⟨a1, a2⟩ := px_join hP hD is hC hw hk hB
  rw [hx'] at a1 a2
  exact kk H1 locs1 a1 a2 hS
theorem aft_v  {a : Array Value} (hr : va_Run p l e R s m args below meth c H locs cells slots 0 0 (F0 m pc ls st0) rest (va_Qv (fun (_ : Unit) => True) (fun _ t => va_P D vwCl w1 t.heap) (va_A wc H.size) a) (va_A wc H.size)) (hP : va_P D vwCl ws H) (hD : va_D A ws) (hS : va_S A H0 H locs) (hA : ∀ q, H0.size ≤ q → A q) (is : List Nat) (hC : is.map (fun i => ws[i]?) = wc.map some) (hw : w1.map Prod.fst = wc.map Prod.fst) (hx' : px ws w1 is = ws')
    (kk : ∀ (H1 : Heap) (locs1 : List Loc), va_P D vwCl ws' H1 → va_D A ws' → va_S A H0 H1 locs1 → W p l e R s m args below meth c H1 locs1 cells slots Q (F0 m (pc + 3) ls (rest))) : W p l e R s m args below meth c H locs cells slots Q (F0 m pc ls st0) := by
  have hF := va_free (wc := wc) hD hS hA is hC
  refine va_callv hr hS (fun q _ h => hF q h) hF (fun u t H1 locs1 ht hvm hr1 hB hz hk hS => ?_)
  rw [ht] at hB
  obtain ⟨a1, a2⟩ := px_join hP hD is hC hw hk hB
  rw [hx'] at a1 a2
  exact kk H1 locs1 a1 a2 hS
theorem rV_i {r : Int32} (S : CallFix p m c cc nL s args Ts own) (hK : va_K D vwCl [(cI, .int)] s) (hN : nW s) (hA : ∀ q, H0.size ≤ q → A q) (hP : va_P D vwCl ws H) (hD : va_D A ws) (hS : va_S A H0 H locs) (hc : uI l D cI y wsy rm (.ref b :: As) wc w1 r) (cw : CallW R s args own C index y bytes maxL ret wsy rm 0 0 n) (rc : ∃ cell : Cell, H[b]? = some cell ∧ cell.vm.isStatics = false ∧ s.vm.findClass C = some cell.cls) (is : List Nat) (hnd : va_nd is = true) (hC : is.map (fun i => ws[i]?) = wc.map some) (hw : w1.map Prod.fst = wc.map Prod.fst) (hx' : px ws w1 is = ws') (hn : As.length = n) (hsize : ls.size = nL) (hst : st0 = As.reverse ++ .ref b :: rest) (hroom : (rest.map fun v => v.category).sum ≤ 8) (hdg : decode cc pc = .ok (.invokevirtual index, 3)) (hcs : cells ≤ R.cells ∧ slots ≤ R.slots)
    (kk : ∀ (H1 : Heap) (locs1 : List Loc), va_P D vwCl ws' H1 → va_D A ws' → va_S A H0 H1 locs1 → W p l e R s m args below meth c H1 locs1 cells slots Q (F0 m (pc + 3) ls (.int r :: rest))) : W p l e R s m args below meth c H locs cells slots Q (F0 m pc ls st0) := by
  have hDc : va_D (fun _ => True) wc := va_D.ofMap hD is hC hnd
  exact aft_i (va_runV (As := As) (rest := rest) S (hc H.size) cw (preV_u (sub_P hP is hC) hDc hK hN rc) rfl hn hsize hst (lv_room hroom) hdg hcs) hP hD hS hA is hC hw hx' kk
theorem rV_io {r : Int32} (S : CallFix p m c cc nL s args Ts own) (hK : va_K D vwCl [(cI, .int)] s) (hN : nW s) (hA : ∀ q, H0.size ≤ q → A q) (hP : va_P D vwCl ws H) (hD : va_D A ws) (hS : va_S A H0 H locs) (hc : uI l D cI y wsy rm (.ref b :: As) wc wc r) (cw : CallW R s args own C index y bytes maxL ret wsy rm 0 0 n) (rc : ∃ cell : Cell, H[b]? = some cell ∧ cell.vm.isStatics = false ∧ s.vm.findClass C = some cell.cls) (is : List Nat) (hnd : va_nd is = true) (hC : is.map (fun i => ws[i]?) = wc.map some) (hn : As.length = n) (hsize : ls.size = nL) (hst : st0 = As.reverse ++ .ref b :: rest) (hroom : (rest.map fun v => v.category).sum ≤ 8) (hdg : decode cc pc = .ok (.invokevirtual index, 3)) (hcs : cells ≤ R.cells ∧ slots ≤ R.slots)
    (kk : ∀ (H1 : Heap) (locs1 : List Loc), va_P D vwCl ws H1 → va_D A ws → va_S A H0 H1 locs1 → W p l e R s m args below meth c H1 locs1 cells slots Q (F0 m (pc + 3) ls (.int r :: rest))) : W p l e R s m args below meth c H locs cells slots Q (F0 m pc ls st0) := by
  have hDc : va_D (fun _ => True) wc := va_D.ofMap hD is hC hnd
  exact aft_i (va_runV (As := As) (rest := rest) S (hc H.size) cw (preV_u (sub_P hP is hC) hDc hK hN rc) rfl hn hsize hst (lv_room hroom) hdg hcs) hP hD hS hA is hC rfl (px_self is wc ws hC) kk
theorem rV_l {r : Int64} (S : CallFix p m c cc nL s args Ts own) (hK : va_K D vwCl [(cI, .int)] s) (hN : nW s) (hA : ∀ q, H0.size ≤ q → A q) (hP : va_P D vwCl ws H) (hD : va_D A ws) (hS : va_S A H0 H locs) (hc : uL l D cI y wsy rm (.ref b :: As) wc w1 r) (cw : CallW R s args own C index y bytes maxL ret wsy rm 0 0 n) (rc : ∃ cell : Cell, H[b]? = some cell ∧ cell.vm.isStatics = false ∧ s.vm.findClass C = some cell.cls) (is : List Nat) (hnd : va_nd is = true) (hC : is.map (fun i => ws[i]?) = wc.map some) (hw : w1.map Prod.fst = wc.map Prod.fst) (hx' : px ws w1 is = ws') (hn : As.length = n) (hsize : ls.size = nL) (hst : st0 = As.reverse ++ .ref b :: rest) (hroom : (rest.map fun v => v.category).sum ≤ 8) (hdg : decode cc pc = .ok (.invokevirtual index, 3)) (hcs : cells ≤ R.cells ∧ slots ≤ R.slots)
    (kk : ∀ (H1 : Heap) (locs1 : List Loc), va_P D vwCl ws' H1 → va_D A ws' → va_S A H0 H1 locs1 → W p l e R s m args below meth c H1 locs1 cells slots Q (F0 m (pc + 3) ls (.long r :: rest))) : W p l e R s m args below meth c H locs cells slots Q (F0 m pc ls st0) := by
  have hDc : va_D (fun _ => True) wc := va_D.ofMap hD is hC hnd
  exact aft_l (va_runV (As := As) (rest := rest) S (hc H.size) cw (preV_u (sub_P hP is hC) hDc hK hN rc) rfl hn hsize hst (lv_room hroom) hdg hcs) hP hD hS hA is hC hw hx' kk
theorem rV_lo {r : Int64} (S : CallFix p m c cc nL s args Ts own) (hK : va_K D vwCl [(cI, .int)] s) (hN : nW s) (hA : ∀ q, H0.size ≤ q → A q) (hP : va_P D vwCl ws H) (hD : va_D A ws) (hS : va_S A H0 H locs) (hc : uL l D cI y wsy rm (.ref b :: As) wc wc r) (cw : CallW R s args own C index y bytes maxL ret wsy rm 0 0 n) (rc : ∃ cell : Cell, H[b]? = some cell ∧ cell.vm.isStatics = false ∧ s.vm.findClass C = some cell.cls) (is : List Nat) (hnd : va_nd is = true) (hC : is.map (fun i => ws[i]?) = wc.map some) (hn : As.length = n) (hsize : ls.size = nL) (hst : st0 = As.reverse ++ .ref b :: rest) (hroom : (rest.map fun v => v.category).sum ≤ 8) (hdg : decode cc pc = .ok (.invokevirtual index, 3)) (hcs : cells ≤ R.cells ∧ slots ≤ R.slots)
    (kk : ∀ (H1 : Heap) (locs1 : List Loc), va_P D vwCl ws H1 → va_D A ws → va_S A H0 H1 locs1 → W p l e R s m args below meth c H1 locs1 cells slots Q (F0 m (pc + 3) ls (.long r :: rest))) : W p l e R s m args below meth c H locs cells slots Q (F0 m pc ls st0) := by
  have hDc : va_D (fun _ => True) wc := va_D.ofMap hD is hC hnd
  exact aft_l (va_runV (As := As) (rest := rest) S (hc H.size) cw (preV_u (sub_P hP is hC) hDc hK hN rc) rfl hn hsize hst (lv_room hroom) hdg hcs) hP hD hS hA is hC rfl (px_self is wc ws hC) kk
theorem rV_v  (S : CallFix p m c cc nL s args Ts own) (hK : va_K D vwCl [(cI, .int)] s) (hN : nW s) (hA : ∀ q, H0.size ≤ q → A q) (hP : va_P D vwCl ws H) (hD : va_D A ws) (hS : va_S A H0 H locs) (hc : uV l D cI y wsy rm (.ref b :: As) wc w1 ) (cw : CallW R s args own C index y bytes maxL ret wsy rm 0 0 n) (rc : ∃ cell : Cell, H[b]? = some cell ∧ cell.vm.isStatics = false ∧ s.vm.findClass C = some cell.cls) (is : List Nat) (hnd : va_nd is = true) (hC : is.map (fun i => ws[i]?) = wc.map some) (hw : w1.map Prod.fst = wc.map Prod.fst) (hx' : px ws w1 is = ws') (hn : As.length = n) (hsize : ls.size = nL) (hst : st0 = As.reverse ++ .ref b :: rest) (hroom : (rest.map fun v => v.category).sum ≤ 8) (hdg : decode cc pc = .ok (.invokevirtual index, 3)) (hcs : cells ≤ R.cells ∧ slots ≤ R.slots)
    (kk : ∀ (H1 : Heap) (locs1 : List Loc), va_P D vwCl ws' H1 → va_D A ws' → va_S A H0 H1 locs1 → W p l e R s m args below meth c H1 locs1 cells slots Q (F0 m (pc + 3) ls (rest))) : W p l e R s m args below meth c H locs cells slots Q (F0 m pc ls st0) := by
  have hDc : va_D (fun _ => True) wc := va_D.ofMap hD is hC hnd
  exact aft_v (va_runV (As := As) (rest := rest) S (hc H.size) cw (preV_u (sub_P hP is hC) hDc hK hN rc) rfl hn hsize hst (lv_room hroom) hdg hcs) hP hD hS hA is hC hw hx' kk
theorem rV_vo  (S : CallFix p m c cc nL s args Ts own) (hK : va_K D vwCl [(cI, .int)] s) (hN : nW s) (hA : ∀ q, H0.size ≤ q → A q) (hP : va_P D vwCl ws H) (hD : va_D A ws) (hS : va_S A H0 H locs) (hc : uV l D cI y wsy rm (.ref b :: As) wc wc ) (cw : CallW R s args own C index y bytes maxL ret wsy rm 0 0 n) (rc : ∃ cell : Cell, H[b]? = some cell ∧ cell.vm.isStatics = false ∧ s.vm.findClass C = some cell.cls) (is : List Nat) (hnd : va_nd is = true) (hC : is.map (fun i => ws[i]?) = wc.map some) (hn : As.length = n) (hsize : ls.size = nL) (hst : st0 = As.reverse ++ .ref b :: rest) (hroom : (rest.map fun v => v.category).sum ≤ 8) (hdg : decode cc pc = .ok (.invokevirtual index, 3)) (hcs : cells ≤ R.cells ∧ slots ≤ R.slots)
    (kk : ∀ (H1 : Heap) (locs1 : List Loc), va_P D vwCl ws H1 → va_D A ws → va_S A H0 H1 locs1 → W p l e R s m args below meth c H1 locs1 cells slots Q (F0 m (pc + 3) ls (rest))) : W p l e R s m args below meth c H locs cells slots Q (F0 m pc ls st0) := by
  have hDc : va_D (fun _ => True) wc := va_D.ofMap hD is hC hnd
  exact aft_v (va_runV (As := As) (rest := rest) S (hc H.size) cw (preV_u (sub_P hP is hC) hDc hK hN rc) rfl hn hsize hst (lv_room hroom) hdg hcs) hP hD hS hA is hC rfl (px_self is wc ws hC) kk
theorem rS_i {r : Int32} (S : CallFix p m c cc nL s args Ts own) (hK : va_K D vwCl [(cI, .int)] s) (hN : nW s) (hA : ∀ q, H0.size ≤ q → A q) (hP : va_P D vwCl ws H) (hD : va_D A ws) (hS : va_S A H0 H locs) (hc : uI l D cI y wsy rm (As) wc w1 r) (cw : CallB R s args own index y bytes maxL ret wsy rm 0 0 n ∧ (Cond.static y).before args s = true) (is : List Nat) (hnd : va_nd is = true) (hC : is.map (fun i => ws[i]?) = wc.map some) (hw : w1.map Prod.fst = wc.map Prod.fst) (hx' : px ws w1 is = ws') (hn : As.length = n) (hsize : ls.size = nL) (hst : st0 = As.reverse ++ rest) (hroom : (rest.map fun v => v.category).sum ≤ 8) (hdg : decode cc pc = .ok (.invokestatic index, 3)) (hcs : cells ≤ R.cells ∧ slots ≤ R.slots)
    (kk : ∀ (H1 : Heap) (locs1 : List Loc), va_P D vwCl ws' H1 → va_D A ws' → va_S A H0 H1 locs1 → W p l e R s m args below meth c H1 locs1 cells slots Q (F0 m (pc + 3) ls (.int r :: rest))) : W p l e R s m args below meth c H locs cells slots Q (F0 m pc ls st0) := by
  have hDc : va_D (fun _ => True) wc := va_D.ofMap hD is hC hnd
  exact aft_i (va_runS (As := As) (rest := rest) S (hc H.size) cw (preS_u (sub_P hP is hC) hDc hK hN) rfl hn hsize hst (lv_room hroom) hdg hcs) hP hD hS hA is hC hw hx' kk
theorem rS_io {r : Int32} (S : CallFix p m c cc nL s args Ts own) (hK : va_K D vwCl [(cI, .int)] s) (hN : nW s) (hA : ∀ q, H0.size ≤ q → A q) (hP : va_P D vwCl ws H) (hD : va_D A ws) (hS : va_S A H0 H locs) (hc : uI l D cI y wsy rm (As) wc wc r) (cw : CallB R s args own index y bytes maxL ret wsy rm 0 0 n ∧ (Cond.static y).before args s = true) (is : List Nat) (hnd : va_nd is = true) (hC : is.map (fun i => ws[i]?) = wc.map some) (hn : As.length = n) (hsize : ls.size = nL) (hst : st0 = As.reverse ++ rest) (hroom : (rest.map fun v => v.category).sum ≤ 8) (hdg : decode cc pc = .ok (.invokestatic index, 3)) (hcs : cells ≤ R.cells ∧ slots ≤ R.slots)
    (kk : ∀ (H1 : Heap) (locs1 : List Loc), va_P D vwCl ws H1 → va_D A ws → va_S A H0 H1 locs1 → W p l e R s m args below meth c H1 locs1 cells slots Q (F0 m (pc + 3) ls (.int r :: rest))) : W p l e R s m args below meth c H locs cells slots Q (F0 m pc ls st0) := by
  have hDc : va_D (fun _ => True) wc := va_D.ofMap hD is hC hnd
  exact aft_i (va_runS (As := As) (rest := rest) S (hc H.size) cw (preS_u (sub_P hP is hC) hDc hK hN) rfl hn hsize hst (lv_room hroom) hdg hcs) hP hD hS hA is hC rfl (px_self is wc ws hC) kk
theorem rS_l {r : Int64} (S : CallFix p m c cc nL s args Ts own) (hK : va_K D vwCl [(cI, .int)] s) (hN : nW s) (hA : ∀ q, H0.size ≤ q → A q) (hP : va_P D vwCl ws H) (hD : va_D A ws) (hS : va_S A H0 H locs) (hc : uL l D cI y wsy rm (As) wc w1 r) (cw : CallB R s args own index y bytes maxL ret wsy rm 0 0 n ∧ (Cond.static y).before args s = true) (is : List Nat) (hnd : va_nd is = true) (hC : is.map (fun i => ws[i]?) = wc.map some) (hw : w1.map Prod.fst = wc.map Prod.fst) (hx' : px ws w1 is = ws') (hn : As.length = n) (hsize : ls.size = nL) (hst : st0 = As.reverse ++ rest) (hroom : (rest.map fun v => v.category).sum ≤ 8) (hdg : decode cc pc = .ok (.invokestatic index, 3)) (hcs : cells ≤ R.cells ∧ slots ≤ R.slots)
    (kk : ∀ (H1 : Heap) (locs1 : List Loc), va_P D vwCl ws' H1 → va_D A ws' → va_S A H0 H1 locs1 → W p l e R s m args below meth c H1 locs1 cells slots Q (F0 m (pc + 3) ls (.long r :: rest))) : W p l e R s m args below meth c H locs cells slots Q (F0 m pc ls st0) := by
  have hDc : va_D (fun _ => True) wc := va_D.ofMap hD is hC hnd
  exact aft_l (va_runS (As := As) (rest := rest) S (hc H.size) cw (preS_u (sub_P hP is hC) hDc hK hN) rfl hn hsize hst (lv_room hroom) hdg hcs) hP hD hS hA is hC hw hx' kk
theorem rS_lo {r : Int64} (S : CallFix p m c cc nL s args Ts own) (hK : va_K D vwCl [(cI, .int)] s) (hN : nW s) (hA : ∀ q, H0.size ≤ q → A q) (hP : va_P D vwCl ws H) (hD : va_D A ws) (hS : va_S A H0 H locs) (hc : uL l D cI y wsy rm (As) wc wc r) (cw : CallB R s args own index y bytes maxL ret wsy rm 0 0 n ∧ (Cond.static y).before args s = true) (is : List Nat) (hnd : va_nd is = true) (hC : is.map (fun i => ws[i]?) = wc.map some) (hn : As.length = n) (hsize : ls.size = nL) (hst : st0 = As.reverse ++ rest) (hroom : (rest.map fun v => v.category).sum ≤ 8) (hdg : decode cc pc = .ok (.invokestatic index, 3)) (hcs : cells ≤ R.cells ∧ slots ≤ R.slots)
    (kk : ∀ (H1 : Heap) (locs1 : List Loc), va_P D vwCl ws H1 → va_D A ws → va_S A H0 H1 locs1 → W p l e R s m args below meth c H1 locs1 cells slots Q (F0 m (pc + 3) ls (.long r :: rest))) : W p l e R s m args below meth c H locs cells slots Q (F0 m pc ls st0) := by
  have hDc : va_D (fun _ => True) wc := va_D.ofMap hD is hC hnd
  exact aft_l (va_runS (As := As) (rest := rest) S (hc H.size) cw (preS_u (sub_P hP is hC) hDc hK hN) rfl hn hsize hst (lv_room hroom) hdg hcs) hP hD hS hA is hC rfl (px_self is wc ws hC) kk
theorem rS_v  (S : CallFix p m c cc nL s args Ts own) (hK : va_K D vwCl [(cI, .int)] s) (hN : nW s) (hA : ∀ q, H0.size ≤ q → A q) (hP : va_P D vwCl ws H) (hD : va_D A ws) (hS : va_S A H0 H locs) (hc : uV l D cI y wsy rm (As) wc w1 ) (cw : CallB R s args own index y bytes maxL ret wsy rm 0 0 n ∧ (Cond.static y).before args s = true) (is : List Nat) (hnd : va_nd is = true) (hC : is.map (fun i => ws[i]?) = wc.map some) (hw : w1.map Prod.fst = wc.map Prod.fst) (hx' : px ws w1 is = ws') (hn : As.length = n) (hsize : ls.size = nL) (hst : st0 = As.reverse ++ rest) (hroom : (rest.map fun v => v.category).sum ≤ 8) (hdg : decode cc pc = .ok (.invokestatic index, 3)) (hcs : cells ≤ R.cells ∧ slots ≤ R.slots)
    (kk : ∀ (H1 : Heap) (locs1 : List Loc), va_P D vwCl ws' H1 → va_D A ws' → va_S A H0 H1 locs1 → W p l e R s m args below meth c H1 locs1 cells slots Q (F0 m (pc + 3) ls (rest))) : W p l e R s m args below meth c H locs cells slots Q (F0 m pc ls st0) := by
  have hDc : va_D (fun _ => True) wc := va_D.ofMap hD is hC hnd
  exact aft_v (va_runS (As := As) (rest := rest) S (hc H.size) cw (preS_u (sub_P hP is hC) hDc hK hN) rfl hn hsize hst (lv_room hroom) hdg hcs) hP hD hS hA is hC hw hx' kk
theorem rS_vo  (S : CallFix p m c cc nL s args Ts own) (hK : va_K D vwCl [(cI, .int)] s) (hN : nW s) (hA : ∀ q, H0.size ≤ q → A q) (hP : va_P D vwCl ws H) (hD : va_D A ws) (hS : va_S A H0 H locs) (hc : uV l D cI y wsy rm (As) wc wc ) (cw : CallB R s args own index y bytes maxL ret wsy rm 0 0 n ∧ (Cond.static y).before args s = true) (is : List Nat) (hnd : va_nd is = true) (hC : is.map (fun i => ws[i]?) = wc.map some) (hn : As.length = n) (hsize : ls.size = nL) (hst : st0 = As.reverse ++ rest) (hroom : (rest.map fun v => v.category).sum ≤ 8) (hdg : decode cc pc = .ok (.invokestatic index, 3)) (hcs : cells ≤ R.cells ∧ slots ≤ R.slots)
    (kk : ∀ (H1 : Heap) (locs1 : List Loc), va_P D vwCl ws H1 → va_D A ws → va_S A H0 H1 locs1 → W p l e R s m args below meth c H1 locs1 cells slots Q (F0 m (pc + 3) ls (rest))) : W p l e R s m args below meth c H locs cells slots Q (F0 m pc ls st0) := by
  have hDc : va_D (fun _ => True) wc := va_D.ofMap hD is hC hnd
  exact aft_v (va_runS (As := As) (rest := rest) S (hc H.size) cw (preS_u (sub_P hP is hC) hDc hK hN) rfl hn hsize hst (lv_room hroom) hdg hcs) hP hD hS hA is hC rfl (px_self is wc ws hC) kk
theorem rVN_i {r : Int32} (S : CallFix p m c cc nL s args Ts own) (hK : va_K D vwCl [(cI, .int)] s) (hN : nW s) (hA : ∀ q, H0.size ≤ q → A q) (hP : va_P D vwCl ws H) (hD : va_D A ws) (hS : va_S A H0 H locs) (hc : uI l D cI y wsy rm (.ref b :: As) wc w1 r) (cw : va_CN R s args own index y host bytes maxL ret wsy rm 0 0 n ∧ (Cond.instanceMethod y).before args s = true ∧ (Cond.selects C y y).before args s = true) (rc : ∃ cell : Cell, H[b]? = some cell ∧ cell.vm.isStatics = false ∧ s.vm.findClass C = some cell.cls) (is : List Nat) (hnd : va_nd is = true) (hC : is.map (fun i => ws[i]?) = wc.map some) (hw : w1.map Prod.fst = wc.map Prod.fst) (hx' : px ws w1 is = ws') (hn : As.length = n) (hsize : ls.size = nL) (hst : st0 = As.reverse ++ .ref b :: rest) (hroom : (rest.map fun v => v.category).sum ≤ 8) (hdg : decode cc pc = .ok (.invokevirtual index, 3)) (hcs : cells ≤ R.cells ∧ slots ≤ R.slots)
    (kk : ∀ (H1 : Heap) (locs1 : List Loc), va_P D vwCl ws' H1 → va_D A ws' → va_S A H0 H1 locs1 → W p l e R s m args below meth c H1 locs1 cells slots Q (F0 m (pc + 3) ls (.int r :: rest))) : W p l e R s m args below meth c H locs cells slots Q (F0 m pc ls st0) := by
  have hDc : va_D (fun _ => True) wc := va_D.ofMap hD is hC hnd
  exact aft_i (va_runVN (As := As) (rest := rest) S (hc H.size) cw (preV_u (sub_P hP is hC) hDc hK hN rc) rfl hn hsize hst (lv_room hroom) hdg hcs) hP hD hS hA is hC hw hx' kk
theorem rVN_io {r : Int32} (S : CallFix p m c cc nL s args Ts own) (hK : va_K D vwCl [(cI, .int)] s) (hN : nW s) (hA : ∀ q, H0.size ≤ q → A q) (hP : va_P D vwCl ws H) (hD : va_D A ws) (hS : va_S A H0 H locs) (hc : uI l D cI y wsy rm (.ref b :: As) wc wc r) (cw : va_CN R s args own index y host bytes maxL ret wsy rm 0 0 n ∧ (Cond.instanceMethod y).before args s = true ∧ (Cond.selects C y y).before args s = true) (rc : ∃ cell : Cell, H[b]? = some cell ∧ cell.vm.isStatics = false ∧ s.vm.findClass C = some cell.cls) (is : List Nat) (hnd : va_nd is = true) (hC : is.map (fun i => ws[i]?) = wc.map some) (hn : As.length = n) (hsize : ls.size = nL) (hst : st0 = As.reverse ++ .ref b :: rest) (hroom : (rest.map fun v => v.category).sum ≤ 8) (hdg : decode cc pc = .ok (.invokevirtual index, 3)) (hcs : cells ≤ R.cells ∧ slots ≤ R.slots)
    (kk : ∀ (H1 : Heap) (locs1 : List Loc), va_P D vwCl ws H1 → va_D A ws → va_S A H0 H1 locs1 → W p l e R s m args below meth c H1 locs1 cells slots Q (F0 m (pc + 3) ls (.int r :: rest))) : W p l e R s m args below meth c H locs cells slots Q (F0 m pc ls st0) := by
  have hDc : va_D (fun _ => True) wc := va_D.ofMap hD is hC hnd
  exact aft_i (va_runVN (As := As) (rest := rest) S (hc H.size) cw (preV_u (sub_P hP is hC) hDc hK hN rc) rfl hn hsize hst (lv_room hroom) hdg hcs) hP hD hS hA is hC rfl (px_self is wc ws hC) kk
theorem rVN_l {r : Int64} (S : CallFix p m c cc nL s args Ts own) (hK : va_K D vwCl [(cI, .int)] s) (hN : nW s) (hA : ∀ q, H0.size ≤ q → A q) (hP : va_P D vwCl ws H) (hD : va_D A ws) (hS : va_S A H0 H locs) (hc : uL l D cI y wsy rm (.ref b :: As) wc w1 r) (cw : va_CN R s args own index y host bytes maxL ret wsy rm 0 0 n ∧ (Cond.instanceMethod y).before args s = true ∧ (Cond.selects C y y).before args s = true) (rc : ∃ cell : Cell, H[b]? = some cell ∧ cell.vm.isStatics = false ∧ s.vm.findClass C = some cell.cls) (is : List Nat) (hnd : va_nd is = true) (hC : is.map (fun i => ws[i]?) = wc.map some) (hw : w1.map Prod.fst = wc.map Prod.fst) (hx' : px ws w1 is = ws') (hn : As.length = n) (hsize : ls.size = nL) (hst : st0 = As.reverse ++ .ref b :: rest) (hroom : (rest.map fun v => v.category).sum ≤ 8) (hdg : decode cc pc = .ok (.invokevirtual index, 3)) (hcs : cells ≤ R.cells ∧ slots ≤ R.slots)
    (kk : ∀ (H1 : Heap) (locs1 : List Loc), va_P D vwCl ws' H1 → va_D A ws' → va_S A H0 H1 locs1 → W p l e R s m args below meth c H1 locs1 cells slots Q (F0 m (pc + 3) ls (.long r :: rest))) : W p l e R s m args below meth c H locs cells slots Q (F0 m pc ls st0) := by
  have hDc : va_D (fun _ => True) wc := va_D.ofMap hD is hC hnd
  exact aft_l (va_runVN (As := As) (rest := rest) S (hc H.size) cw (preV_u (sub_P hP is hC) hDc hK hN rc) rfl hn hsize hst (lv_room hroom) hdg hcs) hP hD hS hA is hC hw hx' kk
theorem rVN_lo {r : Int64} (S : CallFix p m c cc nL s args Ts own) (hK : va_K D vwCl [(cI, .int)] s) (hN : nW s) (hA : ∀ q, H0.size ≤ q → A q) (hP : va_P D vwCl ws H) (hD : va_D A ws) (hS : va_S A H0 H locs) (hc : uL l D cI y wsy rm (.ref b :: As) wc wc r) (cw : va_CN R s args own index y host bytes maxL ret wsy rm 0 0 n ∧ (Cond.instanceMethod y).before args s = true ∧ (Cond.selects C y y).before args s = true) (rc : ∃ cell : Cell, H[b]? = some cell ∧ cell.vm.isStatics = false ∧ s.vm.findClass C = some cell.cls) (is : List Nat) (hnd : va_nd is = true) (hC : is.map (fun i => ws[i]?) = wc.map some) (hn : As.length = n) (hsize : ls.size = nL) (hst : st0 = As.reverse ++ .ref b :: rest) (hroom : (rest.map fun v => v.category).sum ≤ 8) (hdg : decode cc pc = .ok (.invokevirtual index, 3)) (hcs : cells ≤ R.cells ∧ slots ≤ R.slots)
    (kk : ∀ (H1 : Heap) (locs1 : List Loc), va_P D vwCl ws H1 → va_D A ws → va_S A H0 H1 locs1 → W p l e R s m args below meth c H1 locs1 cells slots Q (F0 m (pc + 3) ls (.long r :: rest))) : W p l e R s m args below meth c H locs cells slots Q (F0 m pc ls st0) := by
  have hDc : va_D (fun _ => True) wc := va_D.ofMap hD is hC hnd
  exact aft_l (va_runVN (As := As) (rest := rest) S (hc H.size) cw (preV_u (sub_P hP is hC) hDc hK hN rc) rfl hn hsize hst (lv_room hroom) hdg hcs) hP hD hS hA is hC rfl (px_self is wc ws hC) kk
theorem rVN_v  (S : CallFix p m c cc nL s args Ts own) (hK : va_K D vwCl [(cI, .int)] s) (hN : nW s) (hA : ∀ q, H0.size ≤ q → A q) (hP : va_P D vwCl ws H) (hD : va_D A ws) (hS : va_S A H0 H locs) (hc : uV l D cI y wsy rm (.ref b :: As) wc w1 ) (cw : va_CN R s args own index y host bytes maxL ret wsy rm 0 0 n ∧ (Cond.instanceMethod y).before args s = true ∧ (Cond.selects C y y).before args s = true) (rc : ∃ cell : Cell, H[b]? = some cell ∧ cell.vm.isStatics = false ∧ s.vm.findClass C = some cell.cls) (is : List Nat) (hnd : va_nd is = true) (hC : is.map (fun i => ws[i]?) = wc.map some) (hw : w1.map Prod.fst = wc.map Prod.fst) (hx' : px ws w1 is = ws') (hn : As.length = n) (hsize : ls.size = nL) (hst : st0 = As.reverse ++ .ref b :: rest) (hroom : (rest.map fun v => v.category).sum ≤ 8) (hdg : decode cc pc = .ok (.invokevirtual index, 3)) (hcs : cells ≤ R.cells ∧ slots ≤ R.slots)
    (kk : ∀ (H1 : Heap) (locs1 : List Loc), va_P D vwCl ws' H1 → va_D A ws' → va_S A H0 H1 locs1 → W p l e R s m args below meth c H1 locs1 cells slots Q (F0 m (pc + 3) ls (rest))) : W p l e R s m args below meth c H locs cells slots Q (F0 m pc ls st0) := by
  have hDc : va_D (fun _ => True) wc := va_D.ofMap hD is hC hnd
  exact aft_v (va_runVN (As := As) (rest := rest) S (hc H.size) cw (preV_u (sub_P hP is hC) hDc hK hN rc) rfl hn hsize hst (lv_room hroom) hdg hcs) hP hD hS hA is hC hw hx' kk
theorem rVN_vo  (S : CallFix p m c cc nL s args Ts own) (hK : va_K D vwCl [(cI, .int)] s) (hN : nW s) (hA : ∀ q, H0.size ≤ q → A q) (hP : va_P D vwCl ws H) (hD : va_D A ws) (hS : va_S A H0 H locs) (hc : uV l D cI y wsy rm (.ref b :: As) wc wc ) (cw : va_CN R s args own index y host bytes maxL ret wsy rm 0 0 n ∧ (Cond.instanceMethod y).before args s = true ∧ (Cond.selects C y y).before args s = true) (rc : ∃ cell : Cell, H[b]? = some cell ∧ cell.vm.isStatics = false ∧ s.vm.findClass C = some cell.cls) (is : List Nat) (hnd : va_nd is = true) (hC : is.map (fun i => ws[i]?) = wc.map some) (hn : As.length = n) (hsize : ls.size = nL) (hst : st0 = As.reverse ++ .ref b :: rest) (hroom : (rest.map fun v => v.category).sum ≤ 8) (hdg : decode cc pc = .ok (.invokevirtual index, 3)) (hcs : cells ≤ R.cells ∧ slots ≤ R.slots)
    (kk : ∀ (H1 : Heap) (locs1 : List Loc), va_P D vwCl ws H1 → va_D A ws → va_S A H0 H1 locs1 → W p l e R s m args below meth c H1 locs1 cells slots Q (F0 m (pc + 3) ls (rest))) : W p l e R s m args below meth c H locs cells slots Q (F0 m pc ls st0) := by
  have hDc : va_D (fun _ => True) wc := va_D.ofMap hD is hC hnd
  exact aft_v (va_runVN (As := As) (rest := rest) S (hc H.size) cw (preV_u (sub_P hP is hC) hDc hK hN rc) rfl hn hsize hst (lv_room hroom) hdg hcs) hP hD hS hA is hC rfl (px_self is wc ws hC) kk
theorem rSN_i {r : Int32} (S : CallFix p m c cc nL s args Ts own) (hK : va_K D vwCl [(cI, .int)] s) (hN : nW s) (hA : ∀ q, H0.size ≤ q → A q) (hP : va_P D vwCl ws H) (hD : va_D A ws) (hS : va_S A H0 H locs) (hc : uI l D cI y wsy rm (As) wc w1 r) (cw : va_CN R s args own index y host bytes maxL ret wsy rm 0 0 n ∧ (Cond.static y).before args s = true ∧ True) (is : List Nat) (hnd : va_nd is = true) (hC : is.map (fun i => ws[i]?) = wc.map some) (hw : w1.map Prod.fst = wc.map Prod.fst) (hx' : px ws w1 is = ws') (hn : As.length = n) (hsize : ls.size = nL) (hst : st0 = As.reverse ++ rest) (hroom : (rest.map fun v => v.category).sum ≤ 8) (hdg : decode cc pc = .ok (.invokestatic index, 3)) (hcs : cells ≤ R.cells ∧ slots ≤ R.slots)
    (kk : ∀ (H1 : Heap) (locs1 : List Loc), va_P D vwCl ws' H1 → va_D A ws' → va_S A H0 H1 locs1 → W p l e R s m args below meth c H1 locs1 cells slots Q (F0 m (pc + 3) ls (.int r :: rest))) : W p l e R s m args below meth c H locs cells slots Q (F0 m pc ls st0) := by
  have hDc : va_D (fun _ => True) wc := va_D.ofMap hD is hC hnd
  exact aft_i (va_runSN (As := As) (rest := rest) S (hc H.size) cw (preS_u (sub_P hP is hC) hDc hK hN) rfl hn hsize hst (lv_room hroom) hdg hcs) hP hD hS hA is hC hw hx' kk
theorem rSN_io {r : Int32} (S : CallFix p m c cc nL s args Ts own) (hK : va_K D vwCl [(cI, .int)] s) (hN : nW s) (hA : ∀ q, H0.size ≤ q → A q) (hP : va_P D vwCl ws H) (hD : va_D A ws) (hS : va_S A H0 H locs) (hc : uI l D cI y wsy rm (As) wc wc r) (cw : va_CN R s args own index y host bytes maxL ret wsy rm 0 0 n ∧ (Cond.static y).before args s = true ∧ True) (is : List Nat) (hnd : va_nd is = true) (hC : is.map (fun i => ws[i]?) = wc.map some) (hn : As.length = n) (hsize : ls.size = nL) (hst : st0 = As.reverse ++ rest) (hroom : (rest.map fun v => v.category).sum ≤ 8) (hdg : decode cc pc = .ok (.invokestatic index, 3)) (hcs : cells ≤ R.cells ∧ slots ≤ R.slots)
    (kk : ∀ (H1 : Heap) (locs1 : List Loc), va_P D vwCl ws H1 → va_D A ws → va_S A H0 H1 locs1 → W p l e R s m args below meth c H1 locs1 cells slots Q (F0 m (pc + 3) ls (.int r :: rest))) : W p l e R s m args below meth c H locs cells slots Q (F0 m pc ls st0) := by
  have hDc : va_D (fun _ => True) wc := va_D.ofMap hD is hC hnd
  exact aft_i (va_runSN (As := As) (rest := rest) S (hc H.size) cw (preS_u (sub_P hP is hC) hDc hK hN) rfl hn hsize hst (lv_room hroom) hdg hcs) hP hD hS hA is hC rfl (px_self is wc ws hC) kk
theorem rSN_l {r : Int64} (S : CallFix p m c cc nL s args Ts own) (hK : va_K D vwCl [(cI, .int)] s) (hN : nW s) (hA : ∀ q, H0.size ≤ q → A q) (hP : va_P D vwCl ws H) (hD : va_D A ws) (hS : va_S A H0 H locs) (hc : uL l D cI y wsy rm (As) wc w1 r) (cw : va_CN R s args own index y host bytes maxL ret wsy rm 0 0 n ∧ (Cond.static y).before args s = true ∧ True) (is : List Nat) (hnd : va_nd is = true) (hC : is.map (fun i => ws[i]?) = wc.map some) (hw : w1.map Prod.fst = wc.map Prod.fst) (hx' : px ws w1 is = ws') (hn : As.length = n) (hsize : ls.size = nL) (hst : st0 = As.reverse ++ rest) (hroom : (rest.map fun v => v.category).sum ≤ 8) (hdg : decode cc pc = .ok (.invokestatic index, 3)) (hcs : cells ≤ R.cells ∧ slots ≤ R.slots)
    (kk : ∀ (H1 : Heap) (locs1 : List Loc), va_P D vwCl ws' H1 → va_D A ws' → va_S A H0 H1 locs1 → W p l e R s m args below meth c H1 locs1 cells slots Q (F0 m (pc + 3) ls (.long r :: rest))) : W p l e R s m args below meth c H locs cells slots Q (F0 m pc ls st0) := by
  have hDc : va_D (fun _ => True) wc := va_D.ofMap hD is hC hnd
  exact aft_l (va_runSN (As := As) (rest := rest) S (hc H.size) cw (preS_u (sub_P hP is hC) hDc hK hN) rfl hn hsize hst (lv_room hroom) hdg hcs) hP hD hS hA is hC hw hx' kk
theorem rSN_lo {r : Int64} (S : CallFix p m c cc nL s args Ts own) (hK : va_K D vwCl [(cI, .int)] s) (hN : nW s) (hA : ∀ q, H0.size ≤ q → A q) (hP : va_P D vwCl ws H) (hD : va_D A ws) (hS : va_S A H0 H locs) (hc : uL l D cI y wsy rm (As) wc wc r) (cw : va_CN R s args own index y host bytes maxL ret wsy rm 0 0 n ∧ (Cond.static y).before args s = true ∧ True) (is : List Nat) (hnd : va_nd is = true) (hC : is.map (fun i => ws[i]?) = wc.map some) (hn : As.length = n) (hsize : ls.size = nL) (hst : st0 = As.reverse ++ rest) (hroom : (rest.map fun v => v.category).sum ≤ 8) (hdg : decode cc pc = .ok (.invokestatic index, 3)) (hcs : cells ≤ R.cells ∧ slots ≤ R.slots)
    (kk : ∀ (H1 : Heap) (locs1 : List Loc), va_P D vwCl ws H1 → va_D A ws → va_S A H0 H1 locs1 → W p l e R s m args below meth c H1 locs1 cells slots Q (F0 m (pc + 3) ls (.long r :: rest))) : W p l e R s m args below meth c H locs cells slots Q (F0 m pc ls st0) := by
  have hDc : va_D (fun _ => True) wc := va_D.ofMap hD is hC hnd
  exact aft_l (va_runSN (As := As) (rest := rest) S (hc H.size) cw (preS_u (sub_P hP is hC) hDc hK hN) rfl hn hsize hst (lv_room hroom) hdg hcs) hP hD hS hA is hC rfl (px_self is wc ws hC) kk
theorem rSN_v  (S : CallFix p m c cc nL s args Ts own) (hK : va_K D vwCl [(cI, .int)] s) (hN : nW s) (hA : ∀ q, H0.size ≤ q → A q) (hP : va_P D vwCl ws H) (hD : va_D A ws) (hS : va_S A H0 H locs) (hc : uV l D cI y wsy rm (As) wc w1 ) (cw : va_CN R s args own index y host bytes maxL ret wsy rm 0 0 n ∧ (Cond.static y).before args s = true ∧ True) (is : List Nat) (hnd : va_nd is = true) (hC : is.map (fun i => ws[i]?) = wc.map some) (hw : w1.map Prod.fst = wc.map Prod.fst) (hx' : px ws w1 is = ws') (hn : As.length = n) (hsize : ls.size = nL) (hst : st0 = As.reverse ++ rest) (hroom : (rest.map fun v => v.category).sum ≤ 8) (hdg : decode cc pc = .ok (.invokestatic index, 3)) (hcs : cells ≤ R.cells ∧ slots ≤ R.slots)
    (kk : ∀ (H1 : Heap) (locs1 : List Loc), va_P D vwCl ws' H1 → va_D A ws' → va_S A H0 H1 locs1 → W p l e R s m args below meth c H1 locs1 cells slots Q (F0 m (pc + 3) ls (rest))) : W p l e R s m args below meth c H locs cells slots Q (F0 m pc ls st0) := by
  have hDc : va_D (fun _ => True) wc := va_D.ofMap hD is hC hnd
  exact aft_v (va_runSN (As := As) (rest := rest) S (hc H.size) cw (preS_u (sub_P hP is hC) hDc hK hN) rfl hn hsize hst (lv_room hroom) hdg hcs) hP hD hS hA is hC hw hx' kk
theorem rSN_vo  (S : CallFix p m c cc nL s args Ts own) (hK : va_K D vwCl [(cI, .int)] s) (hN : nW s) (hA : ∀ q, H0.size ≤ q → A q) (hP : va_P D vwCl ws H) (hD : va_D A ws) (hS : va_S A H0 H locs) (hc : uV l D cI y wsy rm (As) wc wc ) (cw : va_CN R s args own index y host bytes maxL ret wsy rm 0 0 n ∧ (Cond.static y).before args s = true ∧ True) (is : List Nat) (hnd : va_nd is = true) (hC : is.map (fun i => ws[i]?) = wc.map some) (hn : As.length = n) (hsize : ls.size = nL) (hst : st0 = As.reverse ++ rest) (hroom : (rest.map fun v => v.category).sum ≤ 8) (hdg : decode cc pc = .ok (.invokestatic index, 3)) (hcs : cells ≤ R.cells ∧ slots ≤ R.slots)
    (kk : ∀ (H1 : Heap) (locs1 : List Loc), va_P D vwCl ws H1 → va_D A ws → va_S A H0 H1 locs1 → W p l e R s m args below meth c H1 locs1 cells slots Q (F0 m (pc + 3) ls (rest))) : W p l e R s m args below meth c H locs cells slots Q (F0 m pc ls st0) := by
  have hDc : va_D (fun _ => True) wc := va_D.ofMap hD is hC hnd
  exact aft_v (va_runSN (As := As) (rest := rest) S (hc H.size) cw (preS_u (sub_P hP is hC) hDc hK hN) rfl hn hsize hst (lv_room hroom) hdg hcs) hP hD hS hA is hC rfl (px_self is wc ws hC) kk
end RC
