theorem hPt {D : va_G} {cl : List vw_C} {w : va_W} {t : State} {H : Heap} (ht : t.heap = H) (hP : va_P D cl w H) : va_P D cl w t.heap := by rw [ht]; exact hP
theorem jnS {α β : Sort _} {r : α} {f : α → β} {o : β} (h : jn r f = o) : ∃ K, K = r ∧ f K = o := ⟨r, rfl, h⟩
theorem nzS {α β : Type} [OfNat α 0] [DecidableEq α] {y : α} {r : Option β} {b : β} (h : nz y r = some b) : ¬ y = 0 ∧ r = some b := by
  unfold nz at h
  by_cases c : y = 0
  · rw [if_pos c] at h; cases h
  · rw [if_neg c] at h; exact ⟨c, h⟩
theorem nbS {β : Type} {y : Int32} {r : Option β} {b : β} (h : nb y r = some b) : narrow .boolean (.int y) = .int y ∧ r = some b := by
  unfold nb at h
  by_cases c : y = 0 ∨ y = 1
  · rw [if_pos c] at h
    refine ⟨?_, h⟩
    rcases c with rfl | rfl <;> rfl
  · rw [if_neg c] at h; cases h
theorem rng_in {n : Nat} {i : Int32} (hn : n < 2 ^ 31) (h0 : ¬ i < 0) (h1 : ¬ Int32.ofNat n ≤ i) : ¬ (i < 0 ∨ n ≤ i.toNatClampNeg) := by
  obtain ⟨j, hj, rfl⟩ := nI_of h0
  rintro (h | h)
  · exact h0 h
  · rw [nI_clamp hj] at h
    exact h1 (nI_le h hj)
theorem rng_out {n : Nat} {i : Int32} (hn : n < 2 ^ 31) (h1 : Int32.ofNat n ≤ i) : i < 0 ∨ n ≤ i.toNatClampNeg := by
  by_cases h0 : i < 0
  · exact Or.inl h0
  · obtain ⟨j, hj, rfl⟩ := nI_of h0
    rw [nI_clamp hj]
    refine Or.inr (Nat.not_lt.mp fun q => ?_)
    exact nI_ge q hn h1
def wH (A : Nat → Nat) (cI : ClassId) (h : HS) : va_W := [(A 0, .inr (0, [.int (h 10 0), .int (h 11 0), .int (h 12 0), .ref (A 1), .ref (A 2), .ref (A 3), .ref (A 4), .ref (A 5), .ref (A 6), .ref (A 7), .ref (A 8), .ref (A 9), .ref (A 10)])), (A 1, .inl (cI, 8, .inl (h 0))), (A 2, .inl (cI, 8, .inl (h 1))), (A 3, .inl (cI, 8, .inl (h 2))), (A 4, .inl (cI, 8, .inl (h 3))), (A 5, .inl (cI, 8, .inl (h 4))), (A 6, .inl (cI, 8, .inl (h 5))), (A 7, .inl (cI, 6, .inl (h 6))), (A 8, .inl (cI, 6, .inl (h 7))), (A 9, .inl (cI, 6, .inl (h 8))), (A 10, .inl (cI, 6, .inl (h 9)))]
def wHH (A B : Nat → Nat) (cI : ClassId) (h g : HS) : va_W := [(A 0, .inr (0, [.int (h 10 0), .int (h 11 0), .int (h 12 0), .ref (A 1), .ref (A 2), .ref (A 3), .ref (A 4), .ref (A 5), .ref (A 6), .ref (A 7), .ref (A 8), .ref (A 9), .ref (A 10)])), (A 1, .inl (cI, 8, .inl (h 0))), (A 2, .inl (cI, 8, .inl (h 1))), (A 3, .inl (cI, 8, .inl (h 2))), (A 4, .inl (cI, 8, .inl (h 3))), (A 5, .inl (cI, 8, .inl (h 4))), (A 6, .inl (cI, 8, .inl (h 5))), (A 7, .inl (cI, 6, .inl (h 6))), (A 8, .inl (cI, 6, .inl (h 7))), (A 9, .inl (cI, 6, .inl (h 8))), (A 10, .inl (cI, 6, .inl (h 9))), (B 0, .inr (0, [.int (g 10 0), .int (g 11 0), .int (g 12 0), .ref (B 1), .ref (B 2), .ref (B 3), .ref (B 4), .ref (B 5), .ref (B 6), .ref (B 7), .ref (B 8), .ref (B 9), .ref (B 10)])), (B 1, .inl (cI, 8, .inl (g 0))), (B 2, .inl (cI, 8, .inl (g 1))), (B 3, .inl (cI, 8, .inl (g 2))), (B 4, .inl (cI, 8, .inl (g 3))), (B 5, .inl (cI, 8, .inl (g 4))), (B 6, .inl (cI, 8, .inl (g 5))), (B 7, .inl (cI, 6, .inl (g 6))), (B 8, .inl (cI, 6, .inl (g 7))), (B 9, .inl (cI, 6, .inl (g 8))), (B 10, .inl (cI, 6, .inl (g 9)))]
def wX (A : Nat → Nat → Nat) (cI : ClassId) (x n m k : HS) : va_W := [(A 0 0, .inr (1, [.ref (A 1 0), .ref (A 2 0), .ref (A 3 0), .int (x 3 0), .ref (A 0 1), .int (x 4 0), .ref (A 0 2), .int (x 5 0), .ref (A 0 3)])), (A 1 0, .inr (0, [.int (n 10 0), .int (n 11 0), .int (n 12 0), .ref (A 1 1), .ref (A 1 2), .ref (A 1 3), .ref (A 1 4), .ref (A 1 5), .ref (A 1 6), .ref (A 1 7), .ref (A 1 8), .ref (A 1 9), .ref (A 1 10)])), (A 1 1, .inl (cI, 8, .inl (n 0))), (A 1 2, .inl (cI, 8, .inl (n 1))), (A 1 3, .inl (cI, 8, .inl (n 2))), (A 1 4, .inl (cI, 8, .inl (n 3))), (A 1 5, .inl (cI, 8, .inl (n 4))), (A 1 6, .inl (cI, 8, .inl (n 5))), (A 1 7, .inl (cI, 6, .inl (n 6))), (A 1 8, .inl (cI, 6, .inl (n 7))), (A 1 9, .inl (cI, 6, .inl (n 8))), (A 1 10, .inl (cI, 6, .inl (n 9))), (A 2 0, .inr (0, [.int (m 10 0), .int (m 11 0), .int (m 12 0), .ref (A 2 1), .ref (A 2 2), .ref (A 2 3), .ref (A 2 4), .ref (A 2 5), .ref (A 2 6), .ref (A 2 7), .ref (A 2 8), .ref (A 2 9), .ref (A 2 10)])), (A 2 1, .inl (cI, 8, .inl (m 0))), (A 2 2, .inl (cI, 8, .inl (m 1))), (A 2 3, .inl (cI, 8, .inl (m 2))), (A 2 4, .inl (cI, 8, .inl (m 3))), (A 2 5, .inl (cI, 8, .inl (m 4))), (A 2 6, .inl (cI, 8, .inl (m 5))), (A 2 7, .inl (cI, 6, .inl (m 6))), (A 2 8, .inl (cI, 6, .inl (m 7))), (A 2 9, .inl (cI, 6, .inl (m 8))), (A 2 10, .inl (cI, 6, .inl (m 9))), (A 3 0, .inr (0, [.int (k 10 0), .int (k 11 0), .int (k 12 0), .ref (A 3 1), .ref (A 3 2), .ref (A 3 3), .ref (A 3 4), .ref (A 3 5), .ref (A 3 6), .ref (A 3 7), .ref (A 3 8), .ref (A 3 9), .ref (A 3 10)])), (A 3 1, .inl (cI, 8, .inl (k 0))), (A 3 2, .inl (cI, 8, .inl (k 1))), (A 3 3, .inl (cI, 8, .inl (k 2))), (A 3 4, .inl (cI, 8, .inl (k 3))), (A 3 5, .inl (cI, 8, .inl (k 4))), (A 3 6, .inl (cI, 8, .inl (k 5))), (A 3 7, .inl (cI, 6, .inl (k 6))), (A 3 8, .inl (cI, 6, .inl (k 7))), (A 3 9, .inl (cI, 6, .inl (k 8))), (A 3 10, .inl (cI, 6, .inl (k 9))), (A 0 1, .inl (cI, 96, .inl (x 0))), (A 0 2, .inl (cI, 16, .inl (x 1))), (A 0 3, .inl (cI, 7, .inl (x 2)))]
def wM (A : Nat → Nat) (cI : ClassId) (t : HS) : va_W := [(A 0, .inr (2, [.ref (A 1), .ref (A 2), .ref (A 3), .ref (A 4), .ref (A 5), .ref (A 6), .ref (A 7), .ref (A 8), .ref (A 9), .ref (A 10), .ref (A 11), .int (t 20 0), .int (t 21 0), .int (t 22 0), .ref (A 12), .ref (A 13), .ref (A 14), .ref (A 15), .int (t 23 0), .int (t 24 0), .int (t 25 0), .ref (A 16), .int (t 26 0), .int (t 27 0), .int (t 28 0), .int (t 29 0), .ref (A 17), .ref (A 18), .ref (A 19), .int (t 30 0), .int (t 31 0)])), (A 1, .inl (cI, 7, .inl (t 0))), (A 2, .inl (cI, 8, .inl (t 1))), (A 3, .inl (cI, 8, .inl (t 2))), (A 4, .inl (cI, 8, .inl (t 3))), (A 5, .inl (cI, 8, .inl (t 4))), (A 6, .inl (cI, 8, .inl (t 5))), (A 7, .inl (cI, 8, .inl (t 6))), (A 8, .inl (cI, 6, .inl (t 7))), (A 9, .inl (cI, 6, .inl (t 8))), (A 10, .inl (cI, 6, .inl (t 9))), (A 11, .inl (cI, 6, .inl (t 10))), (A 12, .inl (cI, 96, .inl (t 11))), (A 13, .inl (cI, 48, .inl (t 12))), (A 14, .inl (cI, 48, .inl (t 13))), (A 15, .inl (cI, 144, .inl (t 14))), (A 16, .inl (cI, 225, .inl (t 15))), (A 17, .inl (cI, 6, .inl (t 16))), (A 18, .inl (cI, 8, .inl (t 17))), (A 19, .inl (cI, 16, .inl (t 18)))]
section XR
variable {p : Program} {l : Launch} {e : Env} {R : Room} {s : State} {m : MethodId} {args : Array Value} {below : List Frame} {meth : Method} {c : Code} {H : Heap} {locs : List Loc} {cells slots : Nat} {Q : State → Prop}
variable {pc : Nat} {ls : Array Slot} {rest st0 : List Value} {A : Nat → Prop} {H0 : Heap} {D : va_G} {cI : ClassId} {ws ws' : va_W} {cc : ByteArray} {a : Nat}
theorem W_in {g : JFrame} (k : ∀ WW : Heap → List Loc → JFrame → Prop, (∀ H locs g, WW H locs g ↔ W p l e R s m args below meth c H locs cells slots Q g) → WW H locs g) : W p l e R s m args below meth c H locs cells slots Q g := k _ (fun _ _ _ => Iff.rfl)
theorem x_iald (hexec : p.tables.exec = Jvm.exec) (hb : c.code = cc) (hK : va_K D vwCl [(cI, .int)] s) (hP : va_P D vwCl ws H) (q0 : Nat) {n : Nat} {f : Nat → Int32} (ha : ws[q0]? = some (a, .inl (cI, n, .inl f))) {i v : Int32} (hv : rd n f i = some v) (hdg : decode cc pc = .ok (.iaload, 1))
    (kk : W p l e R s m args below meth c H locs cells slots Q (F0 m (pc + 1) ls (.int v :: rest))) : W p l e R s m args below meth c H locs cells slots Q (F0 m pc ls (.int i :: .ref a :: rest)) := by
  obtain ⟨h1, rfl⟩ := rd_some hv
  exact va_iald hexec hb hK hP q0 0 ha rfl h1 hdg kk
theorem x_iast (hexec : p.tables.exec = Jvm.exec) (hb : c.code = cc) (hK : va_K D vwCl [(cI, .int)] s) (hP : va_P D vwCl ws H) (hD : va_D A ws) (hS : va_S A H0 H locs) (q0 : Nat) {n : Nat} {f g : Nat → Int32} (ha : ws[q0]? = some (a, .inl (cI, n, .inl f))) {i x : Int32} (hv : wr n f i x = some g) (hE : ws.set q0 (a, .inl (cI, n, .inl g)) = ws') (hdg : decode cc pc = .ok (.iastore, 1))
    (kk : ∀ (H1 : Heap) (locs1 : List Loc), va_P D vwCl ws' H1 → va_D A ws' → va_S A H0 H1 locs1 → W p l e R s m args below meth c H1 locs1 cells slots Q (F0 m (pc + 1) ls rest)) : W p l e R s m args below meth c H locs cells slots Q (F0 m pc ls (.int x :: .int i :: .ref a :: rest)) := by
  obtain ⟨h1, rfl⟩ := wr_some hv
  subst hE
  exact va_iast hexec hb hK hP hD hS q0 0 ha rfl h1 hdg kk
theorem sw_in (hexec : p.tables.exec = Jvm.exec) (hb : c.code = cc) {dflt lo hi : Int} {offs : Array Int} {len : Nat} {x : Int32} {off v : Int} {tgt : Nat} (hdg : decode cc pc = .ok (.tableswitch dflt lo hi offs, len)) (hx : x.toInt = v) (h1 : ¬ v < lo) (h2 : ¬ hi < v) (ho : offs[(v - lo).toNat]? = some off) (ht : (pc : Int) + off = (tgt : Int))
    (k : W p l e R s m args below meth c H locs cells slots Q (F0 m tgt ls rest)) : W p l e R s m args below meth c H locs cells slots Q (F0 m pc ls (.int x :: rest)) := by
  subst hx
  exact lv_tableIn hexec hb hdg h1 h2 ho ht k
end XR
set_option maxHeartbeats 4000000 in
set_option maxRecDepth 100000 in
theorem c_X1_at (l : Launch) (D : va_G) (cI : ClassId) (n : Nat) (hn : n < 2 ^ 31) (a : Nat) (f : Nat → Int32) (i : Int32) : uI l D cI yX1_at wsX1_at ({ frames := 0, cells := 0, slots := 0, locals := 0 } : Room) [.ref a, .int i] [(a, .inl (cI, n, .inl f))] [(a, .inl (cI, n, .inl f))] (atv n f i) := by
  intro sz
  refine Met.ofW (cc := cX1_at) (maxL := 2) (ret := (some .int)) (by decide) rfl ?_
  intro p e s m args below meth c s₁ B hml hv
  obtain ⟨rfl, hsz, hP, hK, hD0, hN⟩ := hv
  have hx := B.exec
  have hb := B.bytes
  have hr := B.returns
  have hts := atoms_spec (ws := wsX1_at) B.pre
  have hown : s.vm.findClass RX1 = some m.cls := findClass_of_methodNamed B.named
  have hlocks := B.notSynchronized
  subst hsz
  have hD := hD0.self (sz := s.heap.size)
  generalize hAe : va_A [(a, .inl (cI, n, .inl f))] s.heap.size = G at hD ⊢
  have hA : ∀ q : Nat, s.heap.size ≤ q → G q := fun q h => by rw [← hAe]; exact Or.inr h
  have hS : va_S G s.heap s.heap [] := va_S.rf
  have hl := lv_entry ([.ref a, .int i]) (n := 2) (Nat.le_of_ble_eq_true rfl)
  rw [lg_entry_eq]
  generalize (lg_sl ([.ref a, .int i]) ++ List.replicate (2 - (lg_sl ([.ref a, .int i])).length) Slot.unset).toArray = ls at hl ⊢
  have hl : lv_has ls 2 [(0, .ref a), (1, .int i)] := hl
  obtain ⟨r, er⟩ : ∃ r, atv n f i = r := ⟨_, rfl⟩
  rw [er]
  unfold atv at er
  have fin : ∀ r2 : Int32, r2 = r → W p l e (headSpec wsX1_at ({ frames := 0, cells := 0, slots := 0, locals := 0 } : Room)).room s m [.ref a, .int i].toArray below meth c s.heap [] 0 0 (MQ below (va_Qi (fun (x : Int32) (_ : Unit) => x = r) (fun _ t => va_P D vwCl [(a, .inl (cI, n, .inl f))] t.heap) G) [.ref a, .int i].toArray s 0 0 G) (F0 m 21 ls [.int r2]) := by
    intro r2 e2
    exact W.iret (v := r2) hx hb hr (fun t ht hW => ⟨⟨r2, (), rfl, e2, hPt ht hP⟩, hS.F ht⟩) hS.2.2 dX1_at_21
  refine lv_aload_n hx hb dX1_at_0 rfl (lv_at hl 0 rfl) ?_
  refine lv_ifnull hx hb dX1_at_1 ?_
  refine lv_iload_n hx hb dX1_at_4 rfl (lv_at hl 1 rfl) ?_
  refine lv_if_lt (tgt := 20) hx hb dX1_at_5 (by decide) (fun c1 => ?_) (fun c1 => ?_)
  · refine lv_iconst (v := (0 : Int32)) hx hb dX1_at_20 (by decide) ?_
    exact fin _ (by rw [← er, if_pos (Or.inl c1)])
  · refine lv_iload_n hx hb dX1_at_8 rfl (lv_at hl 1 rfl) ?_
    refine lv_aload_n hx hb dX1_at_9 rfl (lv_at hl 0 rfl) ?_
    refine va_alen hx hb hK hP 0 0 rfl rfl (v := Int32.ofNat n) rfl dX1_at_10 ?_
    refine lv_icmp_ge (tgt := 20) hx hb dX1_at_11 (by decide) (fun c2 => ?_) (fun c2 => ?_)
    · refine lv_iconst (v := (0 : Int32)) hx hb dX1_at_20 (by decide) ?_
      exact fin _ (by rw [← er, if_pos (rng_out hn c2)])
    · refine lv_aload_n hx hb dX1_at_14 rfl (lv_at hl 0 rfl) ?_
      refine lv_iload_n hx hb dX1_at_15 rfl (lv_at hl 1 rfl) ?_
      refine va_iald hx hb hK hP 0 0 rfl rfl (rng_in hn c1 c2) dX1_at_16 ?_
      refine lv_goto (tgt := 21) hx hb dX1_at_17 (by decide) ?_
      exact fin _ (by rw [← er, if_neg (rng_in hn c1 c2)])
set_option maxHeartbeats 4000000 in
set_option maxRecDepth 100000 in
theorem c_X1_put (l : Launch) (D : va_G) (cI : ClassId) (n : Nat) (hn : n < 2 ^ 31) (a : Nat) (f : Nat → Int32) (i v : Int32) : uV l D cI yX1_put wsX1_put ({ frames := 0, cells := 0, slots := 0, locals := 0 } : Room) [.ref a, .int i, .int v] [(a, .inl (cI, n, .inl f))] [(a, .inl (cI, n, .inl (ptv n f i v)))] := by
  intro sz
  refine Met.ofW (cc := cX1_put) (maxL := 3) (ret := none) (by decide) rfl ?_
  intro p e s m args below meth c s₁ B hml hv
  obtain ⟨rfl, hsz, hP, hK, hD0, hN⟩ := hv
  have hx := B.exec
  have hb := B.bytes
  have hr := B.returns
  have hts := atoms_spec (ws := wsX1_put) B.pre
  have hown : s.vm.findClass RX1 = some m.cls := findClass_of_methodNamed B.named
  have hlocks := B.notSynchronized
  subst hsz
  have hD := hD0.self (sz := s.heap.size)
  generalize hAe : va_A [(a, .inl (cI, n, .inl f))] s.heap.size = G at hD ⊢
  have hA : ∀ q : Nat, s.heap.size ≤ q → G q := fun q h => by rw [← hAe]; exact Or.inr h
  have hS : va_S G s.heap s.heap [] := va_S.rf
  have hl := lv_entry ([.ref a, .int i, .int v]) (n := 3) (Nat.le_of_ble_eq_true rfl)
  rw [lg_entry_eq]
  generalize (lg_sl ([.ref a, .int i, .int v]) ++ List.replicate (3 - (lg_sl ([.ref a, .int i, .int v])).length) Slot.unset).toArray = ls at hl ⊢
  have hl : lv_has ls 3 [(0, .ref a), (1, .int i), (2, .int v)] := hl
  obtain ⟨r, er⟩ : ∃ r, ptv n f i v = r := ⟨_, rfl⟩
  rw [er]
  unfold ptv at er
  refine lv_aload_n hx hb dX1_put_0 rfl (lv_at hl 0 rfl) ?_
  refine lv_ifnull hx hb dX1_put_1 ?_
  refine lv_iload_n hx hb dX1_put_4 rfl (lv_at hl 1 rfl) ?_
  refine lv_if_lt (tgt := 18) hx hb dX1_put_5 (by decide) (fun c1 => ?_) (fun c1 => ?_)
  · have e2 : f = r := by rw [← er, if_pos (Or.inl c1)]
    rw [e2] at hP
    exact W.vret hx hb hr (fun t ht hW => ⟨⟨(), rfl, trivial, hPt ht hP⟩, hS.F ht⟩) hS.2.2 dX1_put_18
  · refine lv_iload_n hx hb dX1_put_8 rfl (lv_at hl 1 rfl) ?_
    refine lv_aload_n hx hb dX1_put_9 rfl (lv_at hl 0 rfl) ?_
    refine va_alen hx hb hK hP 0 0 rfl rfl (v := Int32.ofNat n) rfl dX1_put_10 ?_
    refine lv_icmp_ge (tgt := 18) hx hb dX1_put_11 (by decide) (fun c2 => ?_) (fun c2 => ?_)
    · have e2 : f = r := by rw [← er, if_pos (rng_out hn c2)]
      rw [e2] at hP
      exact W.vret hx hb hr (fun t ht hW => ⟨⟨(), rfl, trivial, hPt ht hP⟩, hS.F ht⟩) hS.2.2 dX1_put_18
    · refine lv_aload_n hx hb dX1_put_14 rfl (lv_at hl 0 rfl) ?_
      refine lv_iload_n hx hb dX1_put_15 rfl (lv_at hl 1 rfl) ?_
      refine lv_iload_n hx hb dX1_put_16 rfl (lv_at hl 2 rfl) ?_
      refine va_iast hx hb hK hP hD hS 0 0 rfl rfl (rng_in hn c1 c2) dX1_put_17 (fun H locs hP hD hS => ?_)
      have e2 : upd f i.toNatClampNeg v = r := by rw [← er, if_neg (rng_in hn c1 c2)]
      rw [e2] at hP
      exact W.vret hx hb hr (fun t ht hW => ⟨⟨(), rfl, trivial, hPt ht hP⟩, hS.F ht⟩) hS.2.2 dX1_put_18
set_option maxHeartbeats 4000000 in
set_option maxRecDepth 100000 in
theorem c_X1_copyRow (l : Launch) (D : va_G) (cI : ClassId) (n : Nat) (hn : n < 2 ^ 31) (a b : Nat) (f g : Nat → Int32) : uV l D cI yX1_copyRow wsX1_copyRow ({ frames := 1, cells := 0, slots := 0, locals := 21 } : Room) [.ref a, .ref b] [(a, .inl (cI, n, .inl f)), (b, .inl (cI, n, .inl g))] [(a, .inl (cI, n, .inl f)), (b, .inl (cI, n, .inl (cpv n f g)))] := by
  intro sz
  refine Met.ofW (cc := cX1_copyRow) (maxL := 2) (ret := none) (by decide) rfl ?_
  intro p e s m args below meth c s₁ B hml hv
  obtain ⟨rfl, hsz, hP, hK, hD0, hN⟩ := hv
  have hx := B.exec
  have hb := B.bytes
  have hr := B.returns
  have hts := atoms_spec (ws := wsX1_copyRow) B.pre
  have hown : s.vm.findClass RX1 = some m.cls := findClass_of_methodNamed B.named
  have hlocks := B.notSynchronized
  subst hsz
  have hD := hD0.self (sz := s.heap.size)
  generalize hAe : va_A [(a, .inl (cI, n, .inl f)), (b, .inl (cI, n, .inl g))] s.heap.size = G at hD ⊢
  have hA : ∀ q : Nat, s.heap.size ≤ q → G q := fun q h => by rw [← hAe]; exact Or.inr h
  have hS : va_S G s.heap s.heap [] := va_S.rf
  have hl := lv_entry ([.ref a, .ref b]) (n := 2) (Nat.le_of_ble_eq_true rfl)
  rw [lg_entry_eq]
  generalize (lg_sl ([.ref a, .ref b]) ++ List.replicate (2 - (lg_sl ([.ref a, .ref b])).length) Slot.unset).toArray = ls at hl ⊢
  have hl : lv_has ls 2 [(0, .ref a), (1, .ref b)] := hl
  have hnn : ¬ Int32.ofNat n < 0 := nI_pos hn
  have hnc : (Int32.ofNat n).toNatClampNeg = n := nI_clamp hn
  refine lv_aload_n hx hb dX1_copyRow_0 rfl (lv_at hl 0 rfl) ?_
  refine lv_ifnull hx hb dX1_copyRow_1 ?_
  refine lv_aload_n hx hb dX1_copyRow_4 rfl (lv_at hl 1 rfl) ?_
  refine lv_ifnull hx hb dX1_copyRow_5 ?_
  refine lv_aload_n hx hb dX1_copyRow_8 rfl (lv_at hl 0 rfl) ?_
  refine lv_iconst (v := (0 : Int32)) hx hb dX1_copyRow_9 (by decide) ?_
  refine lv_aload_n hx hb dX1_copyRow_10 rfl (lv_at hl 1 rfl) ?_
  refine lv_iconst (v := (0 : Int32)) hx hb dX1_copyRow_11 (by decide) ?_
  refine lv_aload_n hx hb dX1_copyRow_12 rfl (lv_at hl 0 rfl) ?_
  refine va_alen hx hb hK hP 0 0 rfl rfl (v := Int32.ofNat n) rfl dX1_copyRow_13 ?_
  refine lv_aload_n hx hb dX1_copyRow_14 rfl (lv_at hl 1 rfl) ?_
  refine va_alen hx hb hK hP 1 0 rfl rfl (v := Int32.ofNat n) rfl dX1_copyRow_15 ?_
  refine va_mmin hx hb (hml.trans hl.1.symm) hown (hts (.methodLink RX1 275 Lib.Math.min.name) (by decide +kernel)) (hts (.static Lib.Math.min.name) (by decide +kernel)) (hts (.initialized "java/lang/Math") (by decide +kernel)) (hts (.code Lib.Math.min.name Lib.Math.min.code 2 (some .int)) (by decide +kernel)) (Nat.le_of_ble_eq_true rfl) (Nat.le_of_ble_eq_true rfl) (Nat.le_of_ble_eq_true rfl) (Nat.le_of_ble_eq_true rfl) dX1_copyRow_16 ?_
  rw [show (if Int32.ofNat n < Int32.ofNat n then Int32.ofNat n else Int32.ofNat n) = Int32.ofNat n from ite_self _]
  refine va_copyi hx hb (hml.trans hl.1.symm) hown (hts (.methodLink RX1 280 arraycopyName) (by decide +kernel)) (hts (.native arraycopyName) (by decide +kernel)) (hts (.static arraycopyName) (by decide +kernel)) (hts (.initialized "java/lang/System") (by decide +kernel)) hK hP hD hS 0 1 0 0 rfl rfl rfl rfl rfl (by decide) (by decide) hnn (by rw [hnc]; exact Nat.le_of_eq (Nat.zero_add n)) (by rw [hnc]; exact Nat.le_of_eq (Nat.zero_add n)) (fun _ _ => rfl) (Nat.le_of_ble_eq_true rfl) (Nat.le_of_ble_eq_true rfl) dX1_copyRow_19 (fun H locs hP hD hS => ?_)
  rw [hnc] at hP
  exact W.vret hx hb hr (fun t ht hW => ⟨⟨(), rfl, trivial, hPt ht hP⟩, hS.F ht⟩) hS.2.2 dX1_copyRow_22
theorem sa_X0_h_0 (A : Nat → Nat) (cI : ClassId) (h : HS) (f : Nat → Int32) : (wH A cI h).set 1 (A 1, .inl (cI, 8, .inl f)) = wH A cI (st h 0 f) := rfl
theorem sa_X0_h_1 (A : Nat → Nat) (cI : ClassId) (h : HS) (f : Nat → Int32) : (wH A cI h).set 2 (A 2, .inl (cI, 8, .inl f)) = wH A cI (st h 1 f) := rfl
theorem sa_X0_h_2 (A : Nat → Nat) (cI : ClassId) (h : HS) (f : Nat → Int32) : (wH A cI h).set 3 (A 3, .inl (cI, 8, .inl f)) = wH A cI (st h 2 f) := rfl
theorem sa_X0_h_3 (A : Nat → Nat) (cI : ClassId) (h : HS) (f : Nat → Int32) : (wH A cI h).set 4 (A 4, .inl (cI, 8, .inl f)) = wH A cI (st h 3 f) := rfl
theorem sa_X0_h_4 (A : Nat → Nat) (cI : ClassId) (h : HS) (f : Nat → Int32) : (wH A cI h).set 5 (A 5, .inl (cI, 8, .inl f)) = wH A cI (st h 4 f) := rfl
theorem sa_X0_h_5 (A : Nat → Nat) (cI : ClassId) (h : HS) (f : Nat → Int32) : (wH A cI h).set 6 (A 6, .inl (cI, 8, .inl f)) = wH A cI (st h 5 f) := rfl
theorem sa_X0_h_6 (A : Nat → Nat) (cI : ClassId) (h : HS) (f : Nat → Int32) : (wH A cI h).set 7 (A 7, .inl (cI, 6, .inl f)) = wH A cI (st h 6 f) := rfl
theorem sa_X0_h_7 (A : Nat → Nat) (cI : ClassId) (h : HS) (f : Nat → Int32) : (wH A cI h).set 8 (A 8, .inl (cI, 6, .inl f)) = wH A cI (st h 7 f) := rfl
theorem sa_X0_h_8 (A : Nat → Nat) (cI : ClassId) (h : HS) (f : Nat → Int32) : (wH A cI h).set 9 (A 9, .inl (cI, 6, .inl f)) = wH A cI (st h 8 f) := rfl
theorem sa_X0_h_9 (A : Nat → Nat) (cI : ClassId) (h : HS) (f : Nat → Int32) : (wH A cI h).set 10 (A 10, .inl (cI, 6, .inl f)) = wH A cI (st h 9 f) := rfl
theorem sf_X0_h_10 (A : Nat → Nat) (cI : ClassId) (h : HS) (v : Int32) : (wH A cI h).set 0 (A 0, .inr (0, ([.int (h 10 0), .int (h 11 0), .int (h 12 0), .ref (A 1), .ref (A 2), .ref (A 3), .ref (A 4), .ref (A 5), .ref (A 6), .ref (A 7), .ref (A 8), .ref (A 9), .ref (A 10)] : List Value).set 0 (.int v))) = wH A cI (st h 10 (fun _ => v)) := rfl
theorem sf_X0_h_11 (A : Nat → Nat) (cI : ClassId) (h : HS) (v : Int32) : (wH A cI h).set 0 (A 0, .inr (0, ([.int (h 10 0), .int (h 11 0), .int (h 12 0), .ref (A 1), .ref (A 2), .ref (A 3), .ref (A 4), .ref (A 5), .ref (A 6), .ref (A 7), .ref (A 8), .ref (A 9), .ref (A 10)] : List Value).set 1 (.int v))) = wH A cI (st h 11 (fun _ => v)) := rfl
theorem sf_X0_h_12 (A : Nat → Nat) (cI : ClassId) (h : HS) (v : Int32) : (wH A cI h).set 0 (A 0, .inr (0, ([.int (h 10 0), .int (h 11 0), .int (h 12 0), .ref (A 1), .ref (A 2), .ref (A 3), .ref (A 4), .ref (A 5), .ref (A 6), .ref (A 7), .ref (A 8), .ref (A 9), .ref (A 10)] : List Value).set 2 (.int v))) = wH A cI (st h 12 (fun _ => v)) := rfl
theorem sa_HH_h_0 (A B : Nat → Nat) (cI : ClassId) (h g : HS) (f : Nat → Int32) : (wHH A B cI h g).set 1 (A 1, .inl (cI, 8, .inl f)) = wHH A B cI (st h 0 f) g := rfl
theorem sa_HH_h_1 (A B : Nat → Nat) (cI : ClassId) (h g : HS) (f : Nat → Int32) : (wHH A B cI h g).set 2 (A 2, .inl (cI, 8, .inl f)) = wHH A B cI (st h 1 f) g := rfl
theorem sa_HH_h_2 (A B : Nat → Nat) (cI : ClassId) (h g : HS) (f : Nat → Int32) : (wHH A B cI h g).set 3 (A 3, .inl (cI, 8, .inl f)) = wHH A B cI (st h 2 f) g := rfl
theorem sa_HH_h_3 (A B : Nat → Nat) (cI : ClassId) (h g : HS) (f : Nat → Int32) : (wHH A B cI h g).set 4 (A 4, .inl (cI, 8, .inl f)) = wHH A B cI (st h 3 f) g := rfl
theorem sa_HH_h_4 (A B : Nat → Nat) (cI : ClassId) (h g : HS) (f : Nat → Int32) : (wHH A B cI h g).set 5 (A 5, .inl (cI, 8, .inl f)) = wHH A B cI (st h 4 f) g := rfl
theorem sa_HH_h_5 (A B : Nat → Nat) (cI : ClassId) (h g : HS) (f : Nat → Int32) : (wHH A B cI h g).set 6 (A 6, .inl (cI, 8, .inl f)) = wHH A B cI (st h 5 f) g := rfl
theorem sa_HH_h_6 (A B : Nat → Nat) (cI : ClassId) (h g : HS) (f : Nat → Int32) : (wHH A B cI h g).set 7 (A 7, .inl (cI, 6, .inl f)) = wHH A B cI (st h 6 f) g := rfl
theorem sa_HH_h_7 (A B : Nat → Nat) (cI : ClassId) (h g : HS) (f : Nat → Int32) : (wHH A B cI h g).set 8 (A 8, .inl (cI, 6, .inl f)) = wHH A B cI (st h 7 f) g := rfl
theorem sa_HH_h_8 (A B : Nat → Nat) (cI : ClassId) (h g : HS) (f : Nat → Int32) : (wHH A B cI h g).set 9 (A 9, .inl (cI, 6, .inl f)) = wHH A B cI (st h 8 f) g := rfl
theorem sa_HH_h_9 (A B : Nat → Nat) (cI : ClassId) (h g : HS) (f : Nat → Int32) : (wHH A B cI h g).set 10 (A 10, .inl (cI, 6, .inl f)) = wHH A B cI (st h 9 f) g := rfl
theorem sf_HH_h_10 (A B : Nat → Nat) (cI : ClassId) (h g : HS) (v : Int32) : (wHH A B cI h g).set 0 (A 0, .inr (0, ([.int (h 10 0), .int (h 11 0), .int (h 12 0), .ref (A 1), .ref (A 2), .ref (A 3), .ref (A 4), .ref (A 5), .ref (A 6), .ref (A 7), .ref (A 8), .ref (A 9), .ref (A 10)] : List Value).set 0 (.int v))) = wHH A B cI (st h 10 (fun _ => v)) g := rfl
theorem sf_HH_h_11 (A B : Nat → Nat) (cI : ClassId) (h g : HS) (v : Int32) : (wHH A B cI h g).set 0 (A 0, .inr (0, ([.int (h 10 0), .int (h 11 0), .int (h 12 0), .ref (A 1), .ref (A 2), .ref (A 3), .ref (A 4), .ref (A 5), .ref (A 6), .ref (A 7), .ref (A 8), .ref (A 9), .ref (A 10)] : List Value).set 1 (.int v))) = wHH A B cI (st h 11 (fun _ => v)) g := rfl
theorem sf_HH_h_12 (A B : Nat → Nat) (cI : ClassId) (h g : HS) (v : Int32) : (wHH A B cI h g).set 0 (A 0, .inr (0, ([.int (h 10 0), .int (h 11 0), .int (h 12 0), .ref (A 1), .ref (A 2), .ref (A 3), .ref (A 4), .ref (A 5), .ref (A 6), .ref (A 7), .ref (A 8), .ref (A 9), .ref (A 10)] : List Value).set 2 (.int v))) = wHH A B cI (st h 12 (fun _ => v)) g := rfl
theorem sa_HH_o_0 (A B : Nat → Nat) (cI : ClassId) (h g : HS) (f : Nat → Int32) : (wHH A B cI h g).set 12 (B 1, .inl (cI, 8, .inl f)) = wHH A B cI h (st g 0 f) := rfl
theorem sa_HH_o_1 (A B : Nat → Nat) (cI : ClassId) (h g : HS) (f : Nat → Int32) : (wHH A B cI h g).set 13 (B 2, .inl (cI, 8, .inl f)) = wHH A B cI h (st g 1 f) := rfl
theorem sa_HH_o_2 (A B : Nat → Nat) (cI : ClassId) (h g : HS) (f : Nat → Int32) : (wHH A B cI h g).set 14 (B 3, .inl (cI, 8, .inl f)) = wHH A B cI h (st g 2 f) := rfl
theorem sa_HH_o_3 (A B : Nat → Nat) (cI : ClassId) (h g : HS) (f : Nat → Int32) : (wHH A B cI h g).set 15 (B 4, .inl (cI, 8, .inl f)) = wHH A B cI h (st g 3 f) := rfl
theorem sa_HH_o_4 (A B : Nat → Nat) (cI : ClassId) (h g : HS) (f : Nat → Int32) : (wHH A B cI h g).set 16 (B 5, .inl (cI, 8, .inl f)) = wHH A B cI h (st g 4 f) := rfl
theorem sa_HH_o_5 (A B : Nat → Nat) (cI : ClassId) (h g : HS) (f : Nat → Int32) : (wHH A B cI h g).set 17 (B 6, .inl (cI, 8, .inl f)) = wHH A B cI h (st g 5 f) := rfl
theorem sa_HH_o_6 (A B : Nat → Nat) (cI : ClassId) (h g : HS) (f : Nat → Int32) : (wHH A B cI h g).set 18 (B 7, .inl (cI, 6, .inl f)) = wHH A B cI h (st g 6 f) := rfl
theorem sa_HH_o_7 (A B : Nat → Nat) (cI : ClassId) (h g : HS) (f : Nat → Int32) : (wHH A B cI h g).set 19 (B 8, .inl (cI, 6, .inl f)) = wHH A B cI h (st g 7 f) := rfl
theorem sa_HH_o_8 (A B : Nat → Nat) (cI : ClassId) (h g : HS) (f : Nat → Int32) : (wHH A B cI h g).set 20 (B 9, .inl (cI, 6, .inl f)) = wHH A B cI h (st g 8 f) := rfl
theorem sa_HH_o_9 (A B : Nat → Nat) (cI : ClassId) (h g : HS) (f : Nat → Int32) : (wHH A B cI h g).set 21 (B 10, .inl (cI, 6, .inl f)) = wHH A B cI h (st g 9 f) := rfl
theorem sf_HH_o_10 (A B : Nat → Nat) (cI : ClassId) (h g : HS) (v : Int32) : (wHH A B cI h g).set 11 (B 0, .inr (0, ([.int (g 10 0), .int (g 11 0), .int (g 12 0), .ref (B 1), .ref (B 2), .ref (B 3), .ref (B 4), .ref (B 5), .ref (B 6), .ref (B 7), .ref (B 8), .ref (B 9), .ref (B 10)] : List Value).set 0 (.int v))) = wHH A B cI h (st g 10 (fun _ => v)) := rfl
theorem sf_HH_o_11 (A B : Nat → Nat) (cI : ClassId) (h g : HS) (v : Int32) : (wHH A B cI h g).set 11 (B 0, .inr (0, ([.int (g 10 0), .int (g 11 0), .int (g 12 0), .ref (B 1), .ref (B 2), .ref (B 3), .ref (B 4), .ref (B 5), .ref (B 6), .ref (B 7), .ref (B 8), .ref (B 9), .ref (B 10)] : List Value).set 1 (.int v))) = wHH A B cI h (st g 11 (fun _ => v)) := rfl
theorem sf_HH_o_12 (A B : Nat → Nat) (cI : ClassId) (h g : HS) (v : Int32) : (wHH A B cI h g).set 11 (B 0, .inr (0, ([.int (g 10 0), .int (g 11 0), .int (g 12 0), .ref (B 1), .ref (B 2), .ref (B 3), .ref (B 4), .ref (B 5), .ref (B 6), .ref (B 7), .ref (B 8), .ref (B 9), .ref (B 10)] : List Value).set 2 (.int v))) = wHH A B cI h (st g 12 (fun _ => v)) := rfl
theorem sa_X1_x_0 (A : Nat → Nat → Nat) (cI : ClassId) (x n m k : HS) (f : Nat → Int32) : (wX A cI x n m k).set 34 (A 0 1, .inl (cI, 96, .inl f)) = wX A cI (st x 0 f) n m k := rfl
theorem sa_X1_x_1 (A : Nat → Nat → Nat) (cI : ClassId) (x n m k : HS) (f : Nat → Int32) : (wX A cI x n m k).set 35 (A 0 2, .inl (cI, 16, .inl f)) = wX A cI (st x 1 f) n m k := rfl
theorem sa_X1_x_2 (A : Nat → Nat → Nat) (cI : ClassId) (x n m k : HS) (f : Nat → Int32) : (wX A cI x n m k).set 36 (A 0 3, .inl (cI, 7, .inl f)) = wX A cI (st x 2 f) n m k := rfl
theorem sf_X1_x_3 (A : Nat → Nat → Nat) (cI : ClassId) (x n m k : HS) (v : Int32) : (wX A cI x n m k).set 0 (A 0 0, .inr (1, ([.ref (A 1 0), .ref (A 2 0), .ref (A 3 0), .int (x 3 0), .ref (A 0 1), .int (x 4 0), .ref (A 0 2), .int (x 5 0), .ref (A 0 3)] : List Value).set 3 (.int v))) = wX A cI (st x 3 (fun _ => v)) n m k := rfl
theorem sf_X1_x_4 (A : Nat → Nat → Nat) (cI : ClassId) (x n m k : HS) (v : Int32) : (wX A cI x n m k).set 0 (A 0 0, .inr (1, ([.ref (A 1 0), .ref (A 2 0), .ref (A 3 0), .int (x 3 0), .ref (A 0 1), .int (x 4 0), .ref (A 0 2), .int (x 5 0), .ref (A 0 3)] : List Value).set 5 (.int v))) = wX A cI (st x 4 (fun _ => v)) n m k := rfl
theorem sf_X1_x_5 (A : Nat → Nat → Nat) (cI : ClassId) (x n m k : HS) (v : Int32) : (wX A cI x n m k).set 0 (A 0 0, .inr (1, ([.ref (A 1 0), .ref (A 2 0), .ref (A 3 0), .int (x 3 0), .ref (A 0 1), .int (x 4 0), .ref (A 0 2), .int (x 5 0), .ref (A 0 3)] : List Value).set 7 (.int v))) = wX A cI (st x 5 (fun _ => v)) n m k := rfl
theorem sa_X1_n_0 (A : Nat → Nat → Nat) (cI : ClassId) (x n m k : HS) (f : Nat → Int32) : (wX A cI x n m k).set 2 (A 1 1, .inl (cI, 8, .inl f)) = wX A cI x (st n 0 f) m k := rfl
theorem sa_X1_n_1 (A : Nat → Nat → Nat) (cI : ClassId) (x n m k : HS) (f : Nat → Int32) : (wX A cI x n m k).set 3 (A 1 2, .inl (cI, 8, .inl f)) = wX A cI x (st n 1 f) m k := rfl
theorem sa_X1_n_2 (A : Nat → Nat → Nat) (cI : ClassId) (x n m k : HS) (f : Nat → Int32) : (wX A cI x n m k).set 4 (A 1 3, .inl (cI, 8, .inl f)) = wX A cI x (st n 2 f) m k := rfl
theorem sa_X1_n_3 (A : Nat → Nat → Nat) (cI : ClassId) (x n m k : HS) (f : Nat → Int32) : (wX A cI x n m k).set 5 (A 1 4, .inl (cI, 8, .inl f)) = wX A cI x (st n 3 f) m k := rfl
theorem sa_X1_n_4 (A : Nat → Nat → Nat) (cI : ClassId) (x n m k : HS) (f : Nat → Int32) : (wX A cI x n m k).set 6 (A 1 5, .inl (cI, 8, .inl f)) = wX A cI x (st n 4 f) m k := rfl
theorem sa_X1_n_5 (A : Nat → Nat → Nat) (cI : ClassId) (x n m k : HS) (f : Nat → Int32) : (wX A cI x n m k).set 7 (A 1 6, .inl (cI, 8, .inl f)) = wX A cI x (st n 5 f) m k := rfl
theorem sa_X1_n_6 (A : Nat → Nat → Nat) (cI : ClassId) (x n m k : HS) (f : Nat → Int32) : (wX A cI x n m k).set 8 (A 1 7, .inl (cI, 6, .inl f)) = wX A cI x (st n 6 f) m k := rfl
theorem sa_X1_n_7 (A : Nat → Nat → Nat) (cI : ClassId) (x n m k : HS) (f : Nat → Int32) : (wX A cI x n m k).set 9 (A 1 8, .inl (cI, 6, .inl f)) = wX A cI x (st n 7 f) m k := rfl
theorem sa_X1_n_8 (A : Nat → Nat → Nat) (cI : ClassId) (x n m k : HS) (f : Nat → Int32) : (wX A cI x n m k).set 10 (A 1 9, .inl (cI, 6, .inl f)) = wX A cI x (st n 8 f) m k := rfl
theorem sa_X1_n_9 (A : Nat → Nat → Nat) (cI : ClassId) (x n m k : HS) (f : Nat → Int32) : (wX A cI x n m k).set 11 (A 1 10, .inl (cI, 6, .inl f)) = wX A cI x (st n 9 f) m k := rfl
theorem sa_X1_m_0 (A : Nat → Nat → Nat) (cI : ClassId) (x n m k : HS) (f : Nat → Int32) : (wX A cI x n m k).set 13 (A 2 1, .inl (cI, 8, .inl f)) = wX A cI x n (st m 0 f) k := rfl
theorem sa_X1_m_1 (A : Nat → Nat → Nat) (cI : ClassId) (x n m k : HS) (f : Nat → Int32) : (wX A cI x n m k).set 14 (A 2 2, .inl (cI, 8, .inl f)) = wX A cI x n (st m 1 f) k := rfl
theorem sa_X1_m_2 (A : Nat → Nat → Nat) (cI : ClassId) (x n m k : HS) (f : Nat → Int32) : (wX A cI x n m k).set 15 (A 2 3, .inl (cI, 8, .inl f)) = wX A cI x n (st m 2 f) k := rfl
theorem sa_X1_m_3 (A : Nat → Nat → Nat) (cI : ClassId) (x n m k : HS) (f : Nat → Int32) : (wX A cI x n m k).set 16 (A 2 4, .inl (cI, 8, .inl f)) = wX A cI x n (st m 3 f) k := rfl
theorem sa_X1_m_4 (A : Nat → Nat → Nat) (cI : ClassId) (x n m k : HS) (f : Nat → Int32) : (wX A cI x n m k).set 17 (A 2 5, .inl (cI, 8, .inl f)) = wX A cI x n (st m 4 f) k := rfl
theorem sa_X1_m_5 (A : Nat → Nat → Nat) (cI : ClassId) (x n m k : HS) (f : Nat → Int32) : (wX A cI x n m k).set 18 (A 2 6, .inl (cI, 8, .inl f)) = wX A cI x n (st m 5 f) k := rfl
theorem sa_X1_m_6 (A : Nat → Nat → Nat) (cI : ClassId) (x n m k : HS) (f : Nat → Int32) : (wX A cI x n m k).set 19 (A 2 7, .inl (cI, 6, .inl f)) = wX A cI x n (st m 6 f) k := rfl
theorem sa_X1_m_7 (A : Nat → Nat → Nat) (cI : ClassId) (x n m k : HS) (f : Nat → Int32) : (wX A cI x n m k).set 20 (A 2 8, .inl (cI, 6, .inl f)) = wX A cI x n (st m 7 f) k := rfl
theorem sa_X1_m_8 (A : Nat → Nat → Nat) (cI : ClassId) (x n m k : HS) (f : Nat → Int32) : (wX A cI x n m k).set 21 (A 2 9, .inl (cI, 6, .inl f)) = wX A cI x n (st m 8 f) k := rfl
theorem sa_X1_m_9 (A : Nat → Nat → Nat) (cI : ClassId) (x n m k : HS) (f : Nat → Int32) : (wX A cI x n m k).set 22 (A 2 10, .inl (cI, 6, .inl f)) = wX A cI x n (st m 9 f) k := rfl
theorem sa_X1_k_0 (A : Nat → Nat → Nat) (cI : ClassId) (x n m k : HS) (f : Nat → Int32) : (wX A cI x n m k).set 24 (A 3 1, .inl (cI, 8, .inl f)) = wX A cI x n m (st k 0 f) := rfl
theorem sa_X1_k_1 (A : Nat → Nat → Nat) (cI : ClassId) (x n m k : HS) (f : Nat → Int32) : (wX A cI x n m k).set 25 (A 3 2, .inl (cI, 8, .inl f)) = wX A cI x n m (st k 1 f) := rfl
theorem sa_X1_k_2 (A : Nat → Nat → Nat) (cI : ClassId) (x n m k : HS) (f : Nat → Int32) : (wX A cI x n m k).set 26 (A 3 3, .inl (cI, 8, .inl f)) = wX A cI x n m (st k 2 f) := rfl
theorem sa_X1_k_3 (A : Nat → Nat → Nat) (cI : ClassId) (x n m k : HS) (f : Nat → Int32) : (wX A cI x n m k).set 27 (A 3 4, .inl (cI, 8, .inl f)) = wX A cI x n m (st k 3 f) := rfl
theorem sa_X1_k_4 (A : Nat → Nat → Nat) (cI : ClassId) (x n m k : HS) (f : Nat → Int32) : (wX A cI x n m k).set 28 (A 3 5, .inl (cI, 8, .inl f)) = wX A cI x n m (st k 4 f) := rfl
theorem sa_X1_k_5 (A : Nat → Nat → Nat) (cI : ClassId) (x n m k : HS) (f : Nat → Int32) : (wX A cI x n m k).set 29 (A 3 6, .inl (cI, 8, .inl f)) = wX A cI x n m (st k 5 f) := rfl
theorem sa_X1_k_6 (A : Nat → Nat → Nat) (cI : ClassId) (x n m k : HS) (f : Nat → Int32) : (wX A cI x n m k).set 30 (A 3 7, .inl (cI, 6, .inl f)) = wX A cI x n m (st k 6 f) := rfl
theorem sa_X1_k_7 (A : Nat → Nat → Nat) (cI : ClassId) (x n m k : HS) (f : Nat → Int32) : (wX A cI x n m k).set 31 (A 3 8, .inl (cI, 6, .inl f)) = wX A cI x n m (st k 7 f) := rfl
theorem sa_X1_k_8 (A : Nat → Nat → Nat) (cI : ClassId) (x n m k : HS) (f : Nat → Int32) : (wX A cI x n m k).set 32 (A 3 9, .inl (cI, 6, .inl f)) = wX A cI x n m (st k 8 f) := rfl
theorem sa_X1_k_9 (A : Nat → Nat → Nat) (cI : ClassId) (x n m k : HS) (f : Nat → Int32) : (wX A cI x n m k).set 33 (A 3 10, .inl (cI, 6, .inl f)) = wX A cI x n m (st k 9 f) := rfl
theorem sa_X2_t_0 (A : Nat → Nat) (cI : ClassId) (t : HS) (f : Nat → Int32) : (wM A cI t).set 1 (A 1, .inl (cI, 7, .inl f)) = wM A cI (st t 0 f) := rfl
theorem sa_X2_t_1 (A : Nat → Nat) (cI : ClassId) (t : HS) (f : Nat → Int32) : (wM A cI t).set 2 (A 2, .inl (cI, 8, .inl f)) = wM A cI (st t 1 f) := rfl
theorem sa_X2_t_2 (A : Nat → Nat) (cI : ClassId) (t : HS) (f : Nat → Int32) : (wM A cI t).set 3 (A 3, .inl (cI, 8, .inl f)) = wM A cI (st t 2 f) := rfl
theorem sa_X2_t_3 (A : Nat → Nat) (cI : ClassId) (t : HS) (f : Nat → Int32) : (wM A cI t).set 4 (A 4, .inl (cI, 8, .inl f)) = wM A cI (st t 3 f) := rfl
theorem sa_X2_t_4 (A : Nat → Nat) (cI : ClassId) (t : HS) (f : Nat → Int32) : (wM A cI t).set 5 (A 5, .inl (cI, 8, .inl f)) = wM A cI (st t 4 f) := rfl
theorem sa_X2_t_5 (A : Nat → Nat) (cI : ClassId) (t : HS) (f : Nat → Int32) : (wM A cI t).set 6 (A 6, .inl (cI, 8, .inl f)) = wM A cI (st t 5 f) := rfl
theorem sa_X2_t_6 (A : Nat → Nat) (cI : ClassId) (t : HS) (f : Nat → Int32) : (wM A cI t).set 7 (A 7, .inl (cI, 8, .inl f)) = wM A cI (st t 6 f) := rfl
theorem sa_X2_t_7 (A : Nat → Nat) (cI : ClassId) (t : HS) (f : Nat → Int32) : (wM A cI t).set 8 (A 8, .inl (cI, 6, .inl f)) = wM A cI (st t 7 f) := rfl
theorem sa_X2_t_8 (A : Nat → Nat) (cI : ClassId) (t : HS) (f : Nat → Int32) : (wM A cI t).set 9 (A 9, .inl (cI, 6, .inl f)) = wM A cI (st t 8 f) := rfl
theorem sa_X2_t_9 (A : Nat → Nat) (cI : ClassId) (t : HS) (f : Nat → Int32) : (wM A cI t).set 10 (A 10, .inl (cI, 6, .inl f)) = wM A cI (st t 9 f) := rfl
theorem sa_X2_t_10 (A : Nat → Nat) (cI : ClassId) (t : HS) (f : Nat → Int32) : (wM A cI t).set 11 (A 11, .inl (cI, 6, .inl f)) = wM A cI (st t 10 f) := rfl
theorem sa_X2_t_11 (A : Nat → Nat) (cI : ClassId) (t : HS) (f : Nat → Int32) : (wM A cI t).set 12 (A 12, .inl (cI, 96, .inl f)) = wM A cI (st t 11 f) := rfl
theorem sa_X2_t_12 (A : Nat → Nat) (cI : ClassId) (t : HS) (f : Nat → Int32) : (wM A cI t).set 13 (A 13, .inl (cI, 48, .inl f)) = wM A cI (st t 12 f) := rfl
theorem sa_X2_t_13 (A : Nat → Nat) (cI : ClassId) (t : HS) (f : Nat → Int32) : (wM A cI t).set 14 (A 14, .inl (cI, 48, .inl f)) = wM A cI (st t 13 f) := rfl
theorem sa_X2_t_14 (A : Nat → Nat) (cI : ClassId) (t : HS) (f : Nat → Int32) : (wM A cI t).set 15 (A 15, .inl (cI, 144, .inl f)) = wM A cI (st t 14 f) := rfl
theorem sa_X2_t_15 (A : Nat → Nat) (cI : ClassId) (t : HS) (f : Nat → Int32) : (wM A cI t).set 16 (A 16, .inl (cI, 225, .inl f)) = wM A cI (st t 15 f) := rfl
theorem sa_X2_t_16 (A : Nat → Nat) (cI : ClassId) (t : HS) (f : Nat → Int32) : (wM A cI t).set 17 (A 17, .inl (cI, 6, .inl f)) = wM A cI (st t 16 f) := rfl
theorem sa_X2_t_17 (A : Nat → Nat) (cI : ClassId) (t : HS) (f : Nat → Int32) : (wM A cI t).set 18 (A 18, .inl (cI, 8, .inl f)) = wM A cI (st t 17 f) := rfl
theorem sa_X2_t_18 (A : Nat → Nat) (cI : ClassId) (t : HS) (f : Nat → Int32) : (wM A cI t).set 19 (A 19, .inl (cI, 16, .inl f)) = wM A cI (st t 18 f) := rfl
theorem sf_X2_t_20 (A : Nat → Nat) (cI : ClassId) (t : HS) (v : Int32) : (wM A cI t).set 0 (A 0, .inr (2, ([.ref (A 1), .ref (A 2), .ref (A 3), .ref (A 4), .ref (A 5), .ref (A 6), .ref (A 7), .ref (A 8), .ref (A 9), .ref (A 10), .ref (A 11), .int (t 20 0), .int (t 21 0), .int (t 22 0), .ref (A 12), .ref (A 13), .ref (A 14), .ref (A 15), .int (t 23 0), .int (t 24 0), .int (t 25 0), .ref (A 16), .int (t 26 0), .int (t 27 0), .int (t 28 0), .int (t 29 0), .ref (A 17), .ref (A 18), .ref (A 19), .int (t 30 0), .int (t 31 0)] : List Value).set 11 (.int v))) = wM A cI (st t 20 (fun _ => v)) := rfl
theorem sf_X2_t_21 (A : Nat → Nat) (cI : ClassId) (t : HS) (v : Int32) : (wM A cI t).set 0 (A 0, .inr (2, ([.ref (A 1), .ref (A 2), .ref (A 3), .ref (A 4), .ref (A 5), .ref (A 6), .ref (A 7), .ref (A 8), .ref (A 9), .ref (A 10), .ref (A 11), .int (t 20 0), .int (t 21 0), .int (t 22 0), .ref (A 12), .ref (A 13), .ref (A 14), .ref (A 15), .int (t 23 0), .int (t 24 0), .int (t 25 0), .ref (A 16), .int (t 26 0), .int (t 27 0), .int (t 28 0), .int (t 29 0), .ref (A 17), .ref (A 18), .ref (A 19), .int (t 30 0), .int (t 31 0)] : List Value).set 12 (.int v))) = wM A cI (st t 21 (fun _ => v)) := rfl
theorem sf_X2_t_22 (A : Nat → Nat) (cI : ClassId) (t : HS) (v : Int32) : (wM A cI t).set 0 (A 0, .inr (2, ([.ref (A 1), .ref (A 2), .ref (A 3), .ref (A 4), .ref (A 5), .ref (A 6), .ref (A 7), .ref (A 8), .ref (A 9), .ref (A 10), .ref (A 11), .int (t 20 0), .int (t 21 0), .int (t 22 0), .ref (A 12), .ref (A 13), .ref (A 14), .ref (A 15), .int (t 23 0), .int (t 24 0), .int (t 25 0), .ref (A 16), .int (t 26 0), .int (t 27 0), .int (t 28 0), .int (t 29 0), .ref (A 17), .ref (A 18), .ref (A 19), .int (t 30 0), .int (t 31 0)] : List Value).set 13 (.int v))) = wM A cI (st t 22 (fun _ => v)) := rfl
theorem sf_X2_t_23 (A : Nat → Nat) (cI : ClassId) (t : HS) (v : Int32) : (wM A cI t).set 0 (A 0, .inr (2, ([.ref (A 1), .ref (A 2), .ref (A 3), .ref (A 4), .ref (A 5), .ref (A 6), .ref (A 7), .ref (A 8), .ref (A 9), .ref (A 10), .ref (A 11), .int (t 20 0), .int (t 21 0), .int (t 22 0), .ref (A 12), .ref (A 13), .ref (A 14), .ref (A 15), .int (t 23 0), .int (t 24 0), .int (t 25 0), .ref (A 16), .int (t 26 0), .int (t 27 0), .int (t 28 0), .int (t 29 0), .ref (A 17), .ref (A 18), .ref (A 19), .int (t 30 0), .int (t 31 0)] : List Value).set 18 (.int v))) = wM A cI (st t 23 (fun _ => v)) := rfl
theorem sf_X2_t_24 (A : Nat → Nat) (cI : ClassId) (t : HS) (v : Int32) : (wM A cI t).set 0 (A 0, .inr (2, ([.ref (A 1), .ref (A 2), .ref (A 3), .ref (A 4), .ref (A 5), .ref (A 6), .ref (A 7), .ref (A 8), .ref (A 9), .ref (A 10), .ref (A 11), .int (t 20 0), .int (t 21 0), .int (t 22 0), .ref (A 12), .ref (A 13), .ref (A 14), .ref (A 15), .int (t 23 0), .int (t 24 0), .int (t 25 0), .ref (A 16), .int (t 26 0), .int (t 27 0), .int (t 28 0), .int (t 29 0), .ref (A 17), .ref (A 18), .ref (A 19), .int (t 30 0), .int (t 31 0)] : List Value).set 19 (.int v))) = wM A cI (st t 24 (fun _ => v)) := rfl
theorem sf_X2_t_25 (A : Nat → Nat) (cI : ClassId) (t : HS) (v : Int32) : (wM A cI t).set 0 (A 0, .inr (2, ([.ref (A 1), .ref (A 2), .ref (A 3), .ref (A 4), .ref (A 5), .ref (A 6), .ref (A 7), .ref (A 8), .ref (A 9), .ref (A 10), .ref (A 11), .int (t 20 0), .int (t 21 0), .int (t 22 0), .ref (A 12), .ref (A 13), .ref (A 14), .ref (A 15), .int (t 23 0), .int (t 24 0), .int (t 25 0), .ref (A 16), .int (t 26 0), .int (t 27 0), .int (t 28 0), .int (t 29 0), .ref (A 17), .ref (A 18), .ref (A 19), .int (t 30 0), .int (t 31 0)] : List Value).set 20 (.int v))) = wM A cI (st t 25 (fun _ => v)) := rfl
theorem sf_X2_t_26 (A : Nat → Nat) (cI : ClassId) (t : HS) (v : Int32) : (wM A cI t).set 0 (A 0, .inr (2, ([.ref (A 1), .ref (A 2), .ref (A 3), .ref (A 4), .ref (A 5), .ref (A 6), .ref (A 7), .ref (A 8), .ref (A 9), .ref (A 10), .ref (A 11), .int (t 20 0), .int (t 21 0), .int (t 22 0), .ref (A 12), .ref (A 13), .ref (A 14), .ref (A 15), .int (t 23 0), .int (t 24 0), .int (t 25 0), .ref (A 16), .int (t 26 0), .int (t 27 0), .int (t 28 0), .int (t 29 0), .ref (A 17), .ref (A 18), .ref (A 19), .int (t 30 0), .int (t 31 0)] : List Value).set 22 (.int v))) = wM A cI (st t 26 (fun _ => v)) := rfl
theorem sf_X2_t_27 (A : Nat → Nat) (cI : ClassId) (t : HS) (v : Int32) : (wM A cI t).set 0 (A 0, .inr (2, ([.ref (A 1), .ref (A 2), .ref (A 3), .ref (A 4), .ref (A 5), .ref (A 6), .ref (A 7), .ref (A 8), .ref (A 9), .ref (A 10), .ref (A 11), .int (t 20 0), .int (t 21 0), .int (t 22 0), .ref (A 12), .ref (A 13), .ref (A 14), .ref (A 15), .int (t 23 0), .int (t 24 0), .int (t 25 0), .ref (A 16), .int (t 26 0), .int (t 27 0), .int (t 28 0), .int (t 29 0), .ref (A 17), .ref (A 18), .ref (A 19), .int (t 30 0), .int (t 31 0)] : List Value).set 23 (.int v))) = wM A cI (st t 27 (fun _ => v)) := rfl
theorem sf_X2_t_28 (A : Nat → Nat) (cI : ClassId) (t : HS) (v : Int32) : (wM A cI t).set 0 (A 0, .inr (2, ([.ref (A 1), .ref (A 2), .ref (A 3), .ref (A 4), .ref (A 5), .ref (A 6), .ref (A 7), .ref (A 8), .ref (A 9), .ref (A 10), .ref (A 11), .int (t 20 0), .int (t 21 0), .int (t 22 0), .ref (A 12), .ref (A 13), .ref (A 14), .ref (A 15), .int (t 23 0), .int (t 24 0), .int (t 25 0), .ref (A 16), .int (t 26 0), .int (t 27 0), .int (t 28 0), .int (t 29 0), .ref (A 17), .ref (A 18), .ref (A 19), .int (t 30 0), .int (t 31 0)] : List Value).set 24 (.int v))) = wM A cI (st t 28 (fun _ => v)) := rfl
theorem sf_X2_t_29 (A : Nat → Nat) (cI : ClassId) (t : HS) (v : Int32) : (wM A cI t).set 0 (A 0, .inr (2, ([.ref (A 1), .ref (A 2), .ref (A 3), .ref (A 4), .ref (A 5), .ref (A 6), .ref (A 7), .ref (A 8), .ref (A 9), .ref (A 10), .ref (A 11), .int (t 20 0), .int (t 21 0), .int (t 22 0), .ref (A 12), .ref (A 13), .ref (A 14), .ref (A 15), .int (t 23 0), .int (t 24 0), .int (t 25 0), .ref (A 16), .int (t 26 0), .int (t 27 0), .int (t 28 0), .int (t 29 0), .ref (A 17), .ref (A 18), .ref (A 19), .int (t 30 0), .int (t 31 0)] : List Value).set 25 (.int v))) = wM A cI (st t 29 (fun _ => v)) := rfl
theorem sf_X2_t_30 (A : Nat → Nat) (cI : ClassId) (t : HS) (v : Int32) : (wM A cI t).set 0 (A 0, .inr (2, ([.ref (A 1), .ref (A 2), .ref (A 3), .ref (A 4), .ref (A 5), .ref (A 6), .ref (A 7), .ref (A 8), .ref (A 9), .ref (A 10), .ref (A 11), .int (t 20 0), .int (t 21 0), .int (t 22 0), .ref (A 12), .ref (A 13), .ref (A 14), .ref (A 15), .int (t 23 0), .int (t 24 0), .int (t 25 0), .ref (A 16), .int (t 26 0), .int (t 27 0), .int (t 28 0), .int (t 29 0), .ref (A 17), .ref (A 18), .ref (A 19), .int (t 30 0), .int (t 31 0)] : List Value).set 29 (.int v))) = wM A cI (st t 30 (fun _ => v)) := rfl
theorem sf_X2_t_31 (A : Nat → Nat) (cI : ClassId) (t : HS) (v : Int32) : (wM A cI t).set 0 (A 0, .inr (2, ([.ref (A 1), .ref (A 2), .ref (A 3), .ref (A 4), .ref (A 5), .ref (A 6), .ref (A 7), .ref (A 8), .ref (A 9), .ref (A 10), .ref (A 11), .int (t 20 0), .int (t 21 0), .int (t 22 0), .ref (A 12), .ref (A 13), .ref (A 14), .ref (A 15), .int (t 23 0), .int (t 24 0), .int (t 25 0), .ref (A 16), .int (t 26 0), .int (t 27 0), .int (t 28 0), .int (t 29 0), .ref (A 17), .ref (A 18), .ref (A 19), .int (t 30 0), .int (t 31 0)] : List Value).set 30 (.int v))) = wM A cI (st t 31 (fun _ => v)) := rfl
theorem sc_HH_oh_0 (A B : Nat → Nat) (cI : ClassId) (h g : HS) (f : Nat → Int32) : px (wHH A B cI h g) [(B 1, .inl (cI, 8, .inl (g 0))), (A 1, .inl (cI, 8, .inl f))] [12, 1] = wHH A B cI (st h 0 f) g := rfl
theorem sc_HH_oh_1 (A B : Nat → Nat) (cI : ClassId) (h g : HS) (f : Nat → Int32) : px (wHH A B cI h g) [(B 2, .inl (cI, 8, .inl (g 1))), (A 2, .inl (cI, 8, .inl f))] [13, 2] = wHH A B cI (st h 1 f) g := rfl
theorem sc_HH_oh_2 (A B : Nat → Nat) (cI : ClassId) (h g : HS) (f : Nat → Int32) : px (wHH A B cI h g) [(B 3, .inl (cI, 8, .inl (g 2))), (A 3, .inl (cI, 8, .inl f))] [14, 3] = wHH A B cI (st h 2 f) g := rfl
theorem sc_HH_oh_3 (A B : Nat → Nat) (cI : ClassId) (h g : HS) (f : Nat → Int32) : px (wHH A B cI h g) [(B 4, .inl (cI, 8, .inl (g 3))), (A 4, .inl (cI, 8, .inl f))] [15, 4] = wHH A B cI (st h 3 f) g := rfl
theorem sc_HH_oh_4 (A B : Nat → Nat) (cI : ClassId) (h g : HS) (f : Nat → Int32) : px (wHH A B cI h g) [(B 5, .inl (cI, 8, .inl (g 4))), (A 5, .inl (cI, 8, .inl f))] [16, 5] = wHH A B cI (st h 4 f) g := rfl
theorem sc_HH_oh_5 (A B : Nat → Nat) (cI : ClassId) (h g : HS) (f : Nat → Int32) : px (wHH A B cI h g) [(B 6, .inl (cI, 8, .inl (g 5))), (A 6, .inl (cI, 8, .inl f))] [17, 6] = wHH A B cI (st h 5 f) g := rfl
theorem sc_HH_oh_6 (A B : Nat → Nat) (cI : ClassId) (h g : HS) (f : Nat → Int32) : px (wHH A B cI h g) [(B 7, .inl (cI, 6, .inl (g 6))), (A 7, .inl (cI, 6, .inl f))] [18, 7] = wHH A B cI (st h 6 f) g := rfl
theorem sc_HH_oh_7 (A B : Nat → Nat) (cI : ClassId) (h g : HS) (f : Nat → Int32) : px (wHH A B cI h g) [(B 8, .inl (cI, 6, .inl (g 7))), (A 8, .inl (cI, 6, .inl f))] [19, 8] = wHH A B cI (st h 7 f) g := rfl
theorem sc_HH_oh_8 (A B : Nat → Nat) (cI : ClassId) (h g : HS) (f : Nat → Int32) : px (wHH A B cI h g) [(B 9, .inl (cI, 6, .inl (g 8))), (A 9, .inl (cI, 6, .inl f))] [20, 9] = wHH A B cI (st h 8 f) g := rfl
theorem sc_HH_oh_9 (A B : Nat → Nat) (cI : ClassId) (h g : HS) (f : Nat → Int32) : px (wHH A B cI h g) [(B 10, .inl (cI, 6, .inl (g 9))), (A 10, .inl (cI, 6, .inl f))] [21, 10] = wHH A B cI (st h 9 f) g := rfl
