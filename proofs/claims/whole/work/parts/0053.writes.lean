/-! a hall behind a write -/
theorem WF.set0 {h : HS} {nc nb : Nat} (w : WF h nc nb) {f : Nat → Int32} (hz : ∀ i, nc ≤ i → f i = 0) : WF (st h 0 f) nc nb :=
  ⟨w.1, fun c hc => ⟨(w.2.1 c hc).1, (w.2.1 c hc).2.1, (w.2.1 c hc).2.2.1, (w.2.1 c hc).2.2.2.1, (w.2.1 c hc).2.2.2.2⟩, w.2.2.1, fun b hb => ⟨(w.2.2.2.1 b hb).1, (w.2.2.2.1 b hb).2.1, (w.2.2.2.1 b hb).2.2⟩, fun j hj i hi => by
    by_cases q : j = 0
    · subst q; exact hz i hi
    · rw [st_ne q]; exact w.2.2.2.2.1 j hj i hi, fun j h6 hj i hi => by
    by_cases q : j = 0
    · subst q; omega
    · rw [st_ne q]; exact w.2.2.2.2.2.1 j h6 hj i hi, fun j hj => by rw [st_ne (show j ≠ 0 by omega)]; exact w.2.2.2.2.2.2 j hj⟩
theorem WF.set1 {h : HS} {nc nb : Nat} (w : WF h nc nb) {f : Nat → Int32} (hf : ∀ c, c < nc → inR 0 9 (f c)) (hz : ∀ i, nc ≤ i → f i = 0) : WF (st h 1 f) nc nb :=
  ⟨w.1, fun c hc => ⟨hf c hc, (w.2.1 c hc).2.1, (w.2.1 c hc).2.2.1, (w.2.1 c hc).2.2.2.1, (w.2.1 c hc).2.2.2.2⟩, w.2.2.1, fun b hb => ⟨(w.2.2.2.1 b hb).1, (w.2.2.2.1 b hb).2.1, (w.2.2.2.1 b hb).2.2⟩, fun j hj i hi => by
    by_cases q : j = 1
    · subst q; exact hz i hi
    · rw [st_ne q]; exact w.2.2.2.2.1 j hj i hi, fun j h6 hj i hi => by
    by_cases q : j = 1
    · subst q; omega
    · rw [st_ne q]; exact w.2.2.2.2.2.1 j h6 hj i hi, fun j hj => by rw [st_ne (show j ≠ 1 by omega)]; exact w.2.2.2.2.2.2 j hj⟩
theorem WF.set2 {h : HS} {nc nb : Nat} (w : WF h nc nb) {f : Nat → Int32} (hf : ∀ c, c < nc → inR 0 5 (f c)) (hz : ∀ i, nc ≤ i → f i = 0) : WF (st h 2 f) nc nb :=
  ⟨w.1, fun c hc => ⟨(w.2.1 c hc).1, hf c hc, (w.2.1 c hc).2.2.1, (w.2.1 c hc).2.2.2.1, (w.2.1 c hc).2.2.2.2⟩, w.2.2.1, fun b hb => ⟨(w.2.2.2.1 b hb).1, (w.2.2.2.1 b hb).2.1, (w.2.2.2.1 b hb).2.2⟩, fun j hj i hi => by
    by_cases q : j = 2
    · subst q; exact hz i hi
    · rw [st_ne q]; exact w.2.2.2.2.1 j hj i hi, fun j h6 hj i hi => by
    by_cases q : j = 2
    · subst q; omega
    · rw [st_ne q]; exact w.2.2.2.2.2.1 j h6 hj i hi, fun j hj => by rw [st_ne (show j ≠ 2 by omega)]; exact w.2.2.2.2.2.2 j hj⟩
theorem WF.set3 {h : HS} {nc nb : Nat} (w : WF h nc nb) {f : Nat → Int32} (hf : ∀ c, c < nc → inR 0 99 (f c)) (hz : ∀ i, nc ≤ i → f i = 0) : WF (st h 3 f) nc nb :=
  ⟨w.1, fun c hc => ⟨(w.2.1 c hc).1, (w.2.1 c hc).2.1, hf c hc, (w.2.1 c hc).2.2.2.1, (w.2.1 c hc).2.2.2.2⟩, w.2.2.1, fun b hb => ⟨(w.2.2.2.1 b hb).1, (w.2.2.2.1 b hb).2.1, (w.2.2.2.1 b hb).2.2⟩, fun j hj i hi => by
    by_cases q : j = 3
    · subst q; exact hz i hi
    · rw [st_ne q]; exact w.2.2.2.2.1 j hj i hi, fun j h6 hj i hi => by
    by_cases q : j = 3
    · subst q; omega
    · rw [st_ne q]; exact w.2.2.2.2.2.1 j h6 hj i hi, fun j hj => by rw [st_ne (show j ≠ 3 by omega)]; exact w.2.2.2.2.2.2 j hj⟩
theorem WF.set4 {h : HS} {nc nb : Nat} (w : WF h nc nb) {f : Nat → Int32} (hf : ∀ c, c < nc → (f c = -9 ∨ ∃ b, b < nb ∧ f c = nI b)) (hz : ∀ i, nc ≤ i → f i = 0) : WF (st h 4 f) nc nb :=
  ⟨w.1, fun c hc => ⟨(w.2.1 c hc).1, (w.2.1 c hc).2.1, (w.2.1 c hc).2.2.1, hf c hc, (w.2.1 c hc).2.2.2.2⟩, w.2.2.1, fun b hb => ⟨(w.2.2.2.1 b hb).1, (w.2.2.2.1 b hb).2.1, (w.2.2.2.1 b hb).2.2⟩, fun j hj i hi => by
    by_cases q : j = 4
    · subst q; exact hz i hi
    · rw [st_ne q]; exact w.2.2.2.2.1 j hj i hi, fun j h6 hj i hi => by
    by_cases q : j = 4
    · subst q; omega
    · rw [st_ne q]; exact w.2.2.2.2.2.1 j h6 hj i hi, fun j hj => by rw [st_ne (show j ≠ 4 by omega)]; exact w.2.2.2.2.2.2 j hj⟩
theorem WF.set6 {h : HS} {nc nb : Nat} (w : WF h nc nb) {f : Nat → Int32} (hz : ∀ i, nb ≤ i → f i = 0) : WF (st h 6 f) nc nb :=
  ⟨w.1, fun c hc => ⟨(w.2.1 c hc).1, (w.2.1 c hc).2.1, (w.2.1 c hc).2.2.1, (w.2.1 c hc).2.2.2.1, (w.2.1 c hc).2.2.2.2⟩, w.2.2.1, fun b hb => ⟨(w.2.2.2.1 b hb).1, (w.2.2.2.1 b hb).2.1, (w.2.2.2.1 b hb).2.2⟩, fun j hj i hi => by
    by_cases q : j = 6
    · subst q; omega
    · rw [st_ne q]; exact w.2.2.2.2.1 j hj i hi, fun j h6 hj i hi => by
    by_cases q : j = 6
    · subst q; exact hz i hi
    · rw [st_ne q]; exact w.2.2.2.2.2.1 j h6 hj i hi, fun j hj => by rw [st_ne (show j ≠ 6 by omega)]; exact w.2.2.2.2.2.2 j hj⟩
theorem WF.set7 {h : HS} {nc nb : Nat} (w : WF h nc nb) {f : Nat → Int32} (hf : ∀ b, b < nb → inR 0 9 (f b)) (hz : ∀ i, nb ≤ i → f i = 0) : WF (st h 7 f) nc nb :=
  ⟨w.1, fun c hc => ⟨(w.2.1 c hc).1, (w.2.1 c hc).2.1, (w.2.1 c hc).2.2.1, (w.2.1 c hc).2.2.2.1, (w.2.1 c hc).2.2.2.2⟩, w.2.2.1, fun b hb => ⟨hf b hb, (w.2.2.2.1 b hb).2.1, (w.2.2.2.1 b hb).2.2⟩, fun j hj i hi => by
    by_cases q : j = 7
    · subst q; omega
    · rw [st_ne q]; exact w.2.2.2.2.1 j hj i hi, fun j h6 hj i hi => by
    by_cases q : j = 7
    · subst q; exact hz i hi
    · rw [st_ne q]; exact w.2.2.2.2.2.1 j h6 hj i hi, fun j hj => by rw [st_ne (show j ≠ 7 by omega)]; exact w.2.2.2.2.2.2 j hj⟩
theorem WF.set8 {h : HS} {nc nb : Nat} (w : WF h nc nb) {f : Nat → Int32} (hf : ∀ b, b < nb → inR 0 999 (f b)) (hz : ∀ i, nb ≤ i → f i = 0) : WF (st h 8 f) nc nb :=
  ⟨w.1, fun c hc => ⟨(w.2.1 c hc).1, (w.2.1 c hc).2.1, (w.2.1 c hc).2.2.1, (w.2.1 c hc).2.2.2.1, (w.2.1 c hc).2.2.2.2⟩, w.2.2.1, fun b hb => ⟨(w.2.2.2.1 b hb).1, hf b hb, (w.2.2.2.1 b hb).2.2⟩, fun j hj i hi => by
    by_cases q : j = 8
    · subst q; omega
    · rw [st_ne q]; exact w.2.2.2.2.1 j hj i hi, fun j h6 hj i hi => by
    by_cases q : j = 8
    · subst q; exact hz i hi
    · rw [st_ne q]; exact w.2.2.2.2.2.1 j h6 hj i hi, fun j hj => by rw [st_ne (show j ≠ 8 by omega)]; exact w.2.2.2.2.2.2 j hj⟩
theorem WF.set9 {h : HS} {nc nb : Nat} (w : WF h nc nb) {f : Nat → Int32} (hf : ∀ b, b < nb → inR 0 99 (f b)) (hz : ∀ i, nb ≤ i → f i = 0) : WF (st h 9 f) nc nb :=
  ⟨w.1, fun c hc => ⟨(w.2.1 c hc).1, (w.2.1 c hc).2.1, (w.2.1 c hc).2.2.1, (w.2.1 c hc).2.2.2.1, (w.2.1 c hc).2.2.2.2⟩, w.2.2.1, fun b hb => ⟨(w.2.2.2.1 b hb).1, (w.2.2.2.1 b hb).2.1, hf b hb⟩, fun j hj i hi => by
    by_cases q : j = 9
    · subst q; omega
    · rw [st_ne q]; exact w.2.2.2.2.1 j hj i hi, fun j h6 hj i hi => by
    by_cases q : j = 9
    · subst q; exact hz i hi
    · rw [st_ne q]; exact w.2.2.2.2.2.1 j h6 hj i hi, fun j hj => by rw [st_ne (show j ≠ 9 by omega)]; exact w.2.2.2.2.2.2 j hj⟩
theorem WF.set12 {h : HS} {nc nb : Nat} (w : WF h nc nb) (v : Int32) : WF (st h 12 (fun _ => v)) nc nb :=
  ⟨⟨w.1.1, w.1.2.1, w.1.2.2.1, w.1.2.2.2.1, fun _ => rfl⟩, w.2.1, w.2.2.1, w.2.2.2.1, fun j hj i hi => by
    by_cases q : j = 12
    · subst q; omega
    · rw [st_ne q]; exact w.2.2.2.2.1 j hj i hi, fun j h6 hj i hi => by
    by_cases q : j = 12
    · subst q; omega
    · rw [st_ne q]; exact w.2.2.2.2.2.1 j h6 hj i hi, fun j hj => by rw [st_ne (show j ≠ 12 by omega)]; exact w.2.2.2.2.2.2 j hj⟩
theorem upd_all {f : Nat → Int32} {k n : Nat} {v : Int32} {P : Int32 → Prop} (hf : ∀ i, i < n → P (f i)) (hv : P v) : ∀ i, i < n → P (upd f k v i) := by
  intro i hi
  by_cases q : i = k
  · rw [q, upd_eq]; exact hv
  · rw [upd_ne q]; exact hf i hi
theorem upd_zero {f : Nat → Int32} {k n : Nat} {v : Int32} (hk : k < n) (hf : ∀ i, n ≤ i → f i = 0) : ∀ i, n ≤ i → upd f k v i = 0 := by
  intro i hi
  rw [upd_ne (by omega)]
  exact hf i hi
theorem WF.z {h : HS} {nc nb : Nat} (w : WF h nc nb) {k : Nat} (hk : k < 6) : ∀ i, nc ≤ i → h k i = 0 := w.2.2.2.2.1 k hk
theorem WF.zb {h : HS} {nc nb : Nat} (w : WF h nc nb) {k : Nat} (h6 : 6 ≤ k) (hk : k < 10) : ∀ i, nb ≤ i → h k i = 0 := w.2.2.2.2.2.1 k h6 hk
theorem WF.put4 {h : HS} {nc nb c : Nat} (w : WF h nc nb) (hc : c < nc) {v : Int32} (hv : v = -9 ∨ ∃ b, b < nb ∧ v = nI b) : WF (st h 4 (upd (h 4) c v)) nc nb :=
  w.set4 (upd_all (P := fun v => v = -9 ∨ ∃ b, b < nb ∧ v = nI b) (fun i hi => w.hol hi) hv) (upd_zero hc (w.z (by omega)))
theorem WF.put8 {h : HS} {nc nb b : Nat} (w : WF h nc nb) (hb : b < nb) {v : Int32} (hv : inR 0 999 v) : WF (st h 8 (upd (h 8) b v)) nc nb :=
  w.set8 (upd_all (P := inR 0 999) (fun i hi => w.pur hi) hv) (upd_zero hb (w.zb (by omega) (by omega)))
theorem WF.put9 {h : HS} {nc nb b : Nat} (w : WF h nc nb) (hb : b < nb) {v : Int32} (hv : inR 0 99 v) : WF (st h 9 (upd (h 9) b v)) nc nb :=
  w.set9 (upd_all (P := inR 0 99) (fun i hi => w.bel hi) hv) (upd_zero hb (w.zb (by omega) (by omega)))
theorem WF.put3 {h : HS} {nc nb c : Nat} (w : WF h nc nb) (hc : c < nc) {v : Int32} (hv : inR 0 99 v) : WF (st h 3 (upd (h 3) c v)) nc nb :=
  w.set3 (upd_all (P := inR 0 99) (fun i hi => w.age hi) hv) (upd_zero hc (w.z (by omega)))
/-! the check's side of a write: what stands in its core -/
theorem rel.put {h t : HS} (r : rel h t) {k : Nat} {f : Nat → Int32} {h' : HS} (hk : mo h' k = f) (ho : ∀ j, core j = true → j ≠ k → mo h' j = mo h j) : rel h' (st t k f) := by
  intro j hj
  by_cases q : j = k
  · subst q; rw [st_eq, hk]
  · rw [st_ne q, ho j hj q]; exact r j hj
theorem rel.same {h t : HS} (r : rel h t) {k : Nat} {f : Nat → Int32} (hk : core k = false) : rel h (st t k f) := by
  intro j hj
  rw [st_ne (fun q => by rw [q, hk] at hj; cases hj)]
  exact r j hj
theorem core_cases {j : Nat} (h : core j = true) : j = 1 ∨ j = 2 ∨ j = 3 ∨ j = 4 ∨ j = 5 ∨ j = 6 ∨ j = 7 ∨ j = 8 ∨ j = 9 ∨ j = 10 ∨ j = 20 ∨ j = 21 ∨ j = 22 := by
  unfold core at h
  simp only [Bool.or_eq_true, Bool.and_eq_true, Nat.ble_eq] at h
  omega
/-- a write of the class, and the check's: places of the core by name -/
theorem rel.w8 {h t : HS} (r : rel h t) (f : Nat → Int32) : rel (st h 8 f) (st t 9 f) := r.put rfl (fun j hj q => by
  rcases core_cases hj with e | e | e | e | e | e | e | e | e | e | e | e | e <;> subst e <;> first | rfl | exact absurd rfl q)
theorem rel.w9 {h t : HS} (r : rel h t) (f : Nat → Int32) : rel (st h 9 f) (st t 10 f) := r.put rfl (fun j hj q => by
  rcases core_cases hj with e | e | e | e | e | e | e | e | e | e | e | e | e <;> subst e <;> first | rfl | exact absurd rfl q)
theorem rel.w3 {h t : HS} (r : rel h t) (f : Nat → Int32) : rel (st h 3 f) (st t 4 f) := r.put rfl (fun j hj q => by
  rcases core_cases hj with e | e | e | e | e | e | e | e | e | e | e | e | e <;> subst e <;> first | rfl | exact absurd rfl q)
theorem rel.w2 {h t : HS} (r : rel h t) (f : Nat → Int32) : rel (st h 2 f) (st t 3 f) := r.put rfl (fun j hj q => by
  rcases core_cases hj with e | e | e | e | e | e | e | e | e | e | e | e | e <;> subst e <;> first | rfl | exact absurd rfl q)
theorem rel.w0 {h t : HS} (r : rel h t) (f : Nat → Int32) : rel (st h 0 f) (st t 1 f) := r.put rfl (fun j hj q => by
  rcases core_cases hj with e | e | e | e | e | e | e | e | e | e | e | e | e <;> subst e <;> first | rfl | exact absurd rfl q)
theorem rel.w5 {h t : HS} (r : rel h t) (f : Nat → Int32) : rel (st h 5 f) (st t 6 f) := r.put rfl (fun j hj q => by
  rcases core_cases hj with e | e | e | e | e | e | e | e | e | e | e | e | e <;> subst e <;> first | rfl | exact absurd rfl q)
theorem rel.w6 {h t : HS} (r : rel h t) (f : Nat → Int32) : rel (st h 6 f) (st t 7 f) := r.put rfl (fun j hj q => by
  rcases core_cases hj with e | e | e | e | e | e | e | e | e | e | e | e | e <;> subst e <;> first | rfl | exact absurd rfl q)
theorem rel.w7 {h t : HS} (r : rel h t) (f : Nat → Int32) : rel (st h 7 f) (st t 8 f) := r.put rfl (fun j hj q => by
  rcases core_cases hj with e | e | e | e | e | e | e | e | e | e | e | e | e <;> subst e <;> first | rfl | exact absurd rfl q)
theorem rel.w12 {h t : HS} (r : rel h t) (f : Nat → Int32) : rel (st h 12 f) (st t 22 f) := r.put rfl (fun j hj q => by
  rcases core_cases hj with e | e | e | e | e | e | e | e | e | e | e | e | e <;> subst e <;> first | rfl | exact absurd rfl q)
theorem mh_st4 (h : HS) (f : Nat → Int32) : mh (st h 4 f) = fun i => if i < (h 10 0).toNatClampNeg then hm (f i) else 0 := by
  funext i
  unfold mh
  rw [st_ne (show (10 : Nat) ≠ 4 by decide), st_eq]
theorem mo_5 (h : HS) : mo h 5 = mh h := rfl
theorem mo_ne5 (h : HS) (f : Nat → Int32) {j : Nat} (hj : core j = true) (q : j ≠ 5) : mo (st h 4 f) j = mo h j := by
  rcases core_cases hj with e | e | e | e | e | e | e | e | e | e | e | e | e
  · rw [e]; exact (st_ne (show (0 : Nat) ≠ 4 by decide) : st h 4 f 0 = h 0)
  · rw [e]; exact (st_ne (show (1 : Nat) ≠ 4 by decide) : st h 4 f 1 = h 1)
  · rw [e]; exact (st_ne (show (2 : Nat) ≠ 4 by decide) : st h 4 f 2 = h 2)
  · rw [e]; exact (st_ne (show (3 : Nat) ≠ 4 by decide) : st h 4 f 3 = h 3)
  · exact absurd e q
  · rw [e]; exact (st_ne (show (5 : Nat) ≠ 4 by decide) : st h 4 f 5 = h 5)
  · rw [e]; exact (st_ne (show (6 : Nat) ≠ 4 by decide) : st h 4 f 6 = h 6)
  · rw [e]; exact (st_ne (show (7 : Nat) ≠ 4 by decide) : st h 4 f 7 = h 7)
  · rw [e]; exact (st_ne (show (8 : Nat) ≠ 4 by decide) : st h 4 f 8 = h 8)
  · rw [e]; exact (st_ne (show (9 : Nat) ≠ 4 by decide) : st h 4 f 9 = h 9)
  · rw [e]; exact (st_ne (show (10 : Nat) ≠ 4 by decide) : st h 4 f 10 = h 10)
  · rw [e]; exact (st_ne (show (11 : Nat) ≠ 4 by decide) : st h 4 f 11 = h 11)
  · rw [e]; exact (st_ne (show (12 : Nat) ≠ 4 by decide) : st h 4 f 12 = h 12)
theorem rel.w4 {h t : HS} {nc nb c : Nat} (w : WF h nc nb) (hc : c < nc) (r : rel h t) (v : Int32) : rel (st h 4 (upd (h 4) c v)) (st t 5 (upd (t 5) c (hm v))) := by
  refine r.put ?_ (fun j hj q => mo_ne5 h _ hj q)
  have h8 := w.nc8
  have r5 : t 5 = mh h := r 5 rfl
  rw [mo_5, mh_st4, r5]
  funext i
  by_cases q : i = c
  · rw [q, upd_eq, upd_eq, w.c, nI_clamp (by omega), if_pos hc]
  · rw [upd_ne q, upd_ne q]; rfl
theorem fr.put {t t' : HS} (h : fr t t') {k : Nat} {f : Nat → Int32} (hk : core k = true) : fr t (st t' k f) := fun j hj q => by
  rw [st_ne (fun e => by rw [e, hk] at hj; cases hj)]
  exact h j hj q
theorem fr.put16 {t t' : HS} (h : fr t t') {f : Nat → Int32} : fr t (st t' 16 f) := fun j hj q => by
  rw [st_ne q]
  exact h j hj q
theorem held_up {x : Int32} {m : Nat} (hx : 0 ≤ x.toInt) (hm : m < 2 ^ 31) : f_X2_held x (nI m) = mn (nI m) x := by
  unfold f_X2_held mn
  rw [if_pos (Int32.le_iff_toInt_le.mpr (by rw [show ((0 : Int32)).toInt = 0 from rfl]; exact hx))]
  by_cases q : x < nI m
  · rw [if_pos q, if_pos (lt_le q)]
  · rw [if_neg q]
    by_cases q2 : x ≤ nI m
    · rw [if_pos q2]
      apply Int32.toInt_inj.mp
      rw [Int32.lt_iff_toInt_lt] at q
      rw [Int32.le_iff_toInt_le] at q2
      omega
    · rw [if_neg q2]
theorem held_dn {x : Int32} (hx : x.toInt ≤ 99) : f_X2_held x 99 = mx 0 x := by
  unfold f_X2_held mx
  have z0 : ((0 : Int32)).toInt = 0 := rfl
  have z9 : ((99 : Int32)).toInt = 99 := rfl
  by_cases q : 0 ≤ x
  · rw [if_pos q, if_pos (Int32.le_iff_toInt_le.mpr (by rw [z9]; exact hx))]
    by_cases q2 : 0 < x
    · rw [if_pos q2]
    · rw [if_neg q2]
      apply Int32.toInt_inj.mp
      rw [Int32.lt_iff_toInt_lt] at q2
      rw [Int32.le_iff_toInt_le] at q
      omega
  · rw [if_neg q, if_neg]
    rw [Int32.le_iff_toInt_le] at q
    rw [Int32.lt_iff_toInt_lt]
    omega
theorem mn_in {x : Int32} {m : Nat} (hx : 0 ≤ x.toInt) (hm : m < 2 ^ 31) : inR 0 m (mn (nI m) x) := by
  unfold mn inR
  split
  next q =>
    rw [Int32.lt_iff_toInt_lt, nI_toInt hm] at q
    omega
  next q => rw [nI_toInt hm]; omega
theorem mx_in {x : Int32} {b : Int} (hx : x.toInt ≤ b) (hb : 0 ≤ b) : inR 0 b (mx 0 x) := by
  unfold mx inR
  have z0 : ((0 : Int32)).toInt = 0 := rfl
  split
  next q => rw [Int32.lt_iff_toInt_lt] at q; omega
  next q => omega
