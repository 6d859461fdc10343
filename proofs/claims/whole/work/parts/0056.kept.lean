/-! the check's rows kept, and put back -/
def kp (f g : Nat → Int32) (b i n : Nat) : Nat → Int32 := fun j => if b + i ≤ j ∧ j < b + n then g (j - b) else f j
def rs (f kept : Nat → Int32) (b i n : Nat) : Nat → Int32 := fun q => if i ≤ q ∧ q < n then kept (b + q) else f q
theorem kp_0 (f g : Nat → Int32) (b n : Nat) : kp f g b n n = f := by
  funext j; unfold kp; rw [if_neg (by omega)]
theorem rs_0 (f g : Nat → Int32) (b n : Nat) : rs f g b n n = f := by
  funext j; unfold rs; rw [if_neg (by omega)]
theorem kp_s (f g : Nat → Int32) (b i n : Nat) (h : i < n) : kp (upd f (b + i) (g i)) g b (i + 1) n = kp f g b i n := by
  funext j
  unfold kp
  by_cases q : j = b + i
  · subst q
    rw [if_neg (by omega), if_pos (by omega), upd_eq, show b + i - b = i by omega]
  · by_cases z : b + (i + 1) ≤ j ∧ j < b + n
    · rw [if_pos z, if_pos (by omega)]
    · rw [if_neg z, if_neg (by omega), upd_ne q]
theorem rs_s (f kept : Nat → Int32) (b i n : Nat) (h : i < n) : rs (upd f i (kept (b + i))) kept b (i + 1) n = rs f kept b i n := by
  funext j
  unfold rs
  by_cases q : j = i
  · subst q
    rw [if_neg (by omega), if_pos (by omega), upd_eq]
  · by_cases z : i + 1 ≤ j ∧ j < n
    · rw [if_pos z, if_pos (by omega)]
    · rw [if_neg z, if_neg (by omega), upd_ne q]
theorem kp_in {f g : Nat → Int32} {b n q : Nat} (h : q < n) : kp f g b 0 n (b + q) = g q := by
  unfold kp; rw [if_pos (by omega), show b + q - b = q by omega]
theorem kp_out {f g : Nat → Int32} {b n j : Nat} (h : j < b ∨ b + n ≤ j) : kp f g b 0 n j = f j := by
  unfold kp; rw [if_neg (by omega)]
theorem st4 (t : HS) {a c : Nat} (hac : a ≠ c) (A B C E : Nat → Int32) : st (st (st (st t a A) c B) a C) c E = st (st t a C) c E := by
  funext j
  by_cases q : j = c
  · subst q; rw [st_eq, st_eq]
  · rw [st_ne q, st_ne q]
    by_cases z : j = a
    · subst z; rw [st_eq, st_eq]
    · rw [st_ne z, st_ne q, st_ne z, st_ne z]
/-- the state behind rows kept: the slice's text, the cursor -/
def kst (t : HS) (f : Nat → Int32) (c : Nat) : HS := st (st t 15 f) 28 (fun _ => nI c)
theorem kst_o {t : HS} {f : Nat → Int32} {c k : Nat} (h1 : k ≠ 15) (h2 : k ≠ 28) : kst t f c k = t k := by
  unfold kst; rw [st_ne h2, st_ne h1]
theorem kst_kst (t : HS) (f g : Nat → Int32) (c d : Nat) : kst (kst t f c) g d = kst t g d := st4 t (by decide) _ _ _ _
/-- the state behind rows put back -/
def rst (t : HS) (k : Nat) (f : Nat → Int32) (c : Nat) : HS := st (st t k f) 28 (fun _ => nI c)
theorem rst_o {t : HS} {f : Nat → Int32} {c k j : Nat} (h1 : j ≠ k) (h2 : j ≠ 28) : rst t k f c j = t j := by
  unfold rst; rw [st_ne h2, st_ne h1]
theorem rst_k {t : HS} {f : Nat → Int32} {c k : Nat} (h2 : k ≠ 28) : rst t k f c k = f := by
  unfold rst; rw [st_ne h2, st_eq]
theorem rst_rst (t : HS) {k : Nat} (hk : k ≠ 28) (f g : Nat → Int32) (c d : Nat) : rst (rst t k f c) k g d = rst t k g d := st4 t hk _ _ _ _
theorem pasK_1 : ∀ (m i n b : Nat) (t : HS) (f : Nat → Int32), i + m = 8 → m < n → b + 8 ≤ 225 → ¬ t 27 0 = 0 → ∀ K : HS → Option HS, L_X2_passes_1_2 K n (nI i) (kst t f (b + i)) = K (kst t (kp f (t 1) b i 8) (b + 8))
  | 0, i, n + 1, b, t, f, hi, _, hb, hz, K => by
    have : i = 8 := by omega
    subst this
    rw [L_X2_passes_1_2, if_pos (by decide), kp_0]
  | m + 1, i, n + 1, b, t, f, hi, hn, hb, hz, K => by
    have ih := pasK_1 m (i + 1) n b t (upd f (b + i) (t 1 i)) (by omega) (by omega) hb hz K
    rw [L_X2_passes_1_2, if_neg (show ¬ (8 : Int32) ≤ nI i from nI_ge (b := 8) (by omega) (by omega)), kst_o (k := 27) (by decide) (by decide), if_neg hz, kst_o (k := 1) (by decide) (by decide), rd_nI _ (by omega) (by omega), Option.bind_some]
    rw [show (kst t f (b + i)) 15 = f from rfl, show (kst t f (b + i)) 28 0 = nI (b + i) from rfl, wr_nI _ _ (by omega) (by omega), Option.bind_some]
    rw [kp_s f (t 1) b i 8 (by omega)] at ih
    rw [← ih, nI_1]
    simp only [jnE]
    rw [show (st (kst t f (b + i)) 15 (upd f (b + i) (t 1 i))) 28 0 = nI (b + i) from rfl, nI_1]
    rw [show st (st (kst t f (b + i)) 15 (upd f (b + i) (t 1 i))) 28 (fun _ => nI (b + i + 1)) = kst t (upd f (b + i) (t 1 i)) (b + (i + 1)) from st4 t (by decide) _ _ _ _]
theorem pasR_1 : ∀ (m i n b : Nat) (t : HS) (f : Nat → Int32), i + m = 8 → m < n → b + 8 ≤ 225 → t 27 0 = 0 → ∀ K : HS → Option HS, L_X2_passes_1_2 K n (nI i) (rst t 1 f (b + i)) = K (rst t 1 (rs f (t 15) b i 8) (b + 8))
  | 0, i, n + 1, b, t, f, hi, _, hb, hz, K => by
    have : i = 8 := by omega
    subst this
    rw [L_X2_passes_1_2, if_pos (by decide), rs_0]
  | m + 1, i, n + 1, b, t, f, hi, hn, hb, hz, K => by
    have ih := pasR_1 m (i + 1) n b t (upd f i (t 15 (b + i))) (by omega) (by omega) hb hz K
    rw [L_X2_passes_1_2, if_neg (show ¬ (8 : Int32) ≤ nI i from nI_ge (b := 8) (by omega) (by omega)), rst_o (j := 27) (by decide) (by decide), if_pos hz, rst_o (j := 15) (by decide) (by decide), show (rst t 1 f (b + i)) 28 0 = nI (b + i) from rfl, rd_nI _ (by omega) (by omega), Option.bind_some, rst_k (by decide), wr_nI _ _ (by omega) (by omega), Option.bind_some]
    rw [rs_s f (t 15) b i 8 (by omega)] at ih
    rw [← ih, nI_1]
    simp only [jnE]
    rw [show (st (rst t 1 f (b + i)) 1 (upd f i (t 15 (b + i)))) 28 0 = nI (b + i) from rfl, nI_1]
    rw [show st (st (rst t 1 f (b + i)) 1 (upd f i (t 15 (b + i)))) 28 (fun _ => nI (b + i + 1)) = rst t 1 (upd f i (t 15 (b + i))) (b + (i + 1)) from st4 t (by decide) _ _ _ _]
theorem fK_1 (b : Nat) (t : HS) (f : Nat → Int32) (hb : b + 8 ≤ 225) (hz : ¬ t 27 0 = 0) : f_X2_passes_1 (kst t f b) = some (kst t (kp f (t 1) b 0 8) (b + 8)) := by
  have x := pasK_1 8 0 fuel b t f (by omega) (by unfold fuel; omega) hb hz (fun x => some x)
  rw [nI0, Nat.add_zero] at x
  unfold f_X2_passes_1
  simp only [jnE]
  rw [x]
theorem fR_1 (b : Nat) (t : HS) (hb : b + 8 ≤ 225) (hz : t 27 0 = 0) (hc : t 28 = fun _ => nI b) : f_X2_passes_1 t = some (rst t 1 (rs (t 1) (t 15) b 0 8) (b + 8)) := by
  have x := pasR_1 8 0 fuel b t (t 1) (by omega) (by unfold fuel; omega) hb hz (fun x => some x)
  rw [show rst t 1 (t 1) (b + 0) = t from by unfold rst; rw [st_same (h := t) (k := 1) rfl]; exact st_same hc] at x
  rw [nI0] at x
  unfold f_X2_passes_1
  simp only [jnE]
  rw [x]
theorem pasK_2 : ∀ (m i n b : Nat) (t : HS) (f : Nat → Int32), i + m = 8 → m < n → b + 8 ≤ 225 → ¬ t 27 0 = 0 → ∀ K : HS → Option HS, L_X2_passes_2_2 K n (nI i) (kst t f (b + i)) = K (kst t (kp f (t 2) b i 8) (b + 8))
  | 0, i, n + 1, b, t, f, hi, _, hb, hz, K => by
    have : i = 8 := by omega
    subst this
    rw [L_X2_passes_2_2, if_pos (by decide), kp_0]
  | m + 1, i, n + 1, b, t, f, hi, hn, hb, hz, K => by
    have ih := pasK_2 m (i + 1) n b t (upd f (b + i) (t 2 i)) (by omega) (by omega) hb hz K
    rw [L_X2_passes_2_2, if_neg (show ¬ (8 : Int32) ≤ nI i from nI_ge (b := 8) (by omega) (by omega)), kst_o (k := 27) (by decide) (by decide), if_neg hz, kst_o (k := 2) (by decide) (by decide), rd_nI _ (by omega) (by omega), Option.bind_some]
    rw [show (kst t f (b + i)) 15 = f from rfl, show (kst t f (b + i)) 28 0 = nI (b + i) from rfl, wr_nI _ _ (by omega) (by omega), Option.bind_some]
    rw [kp_s f (t 2) b i 8 (by omega)] at ih
    rw [← ih, nI_1]
    simp only [jnE]
    rw [show (st (kst t f (b + i)) 15 (upd f (b + i) (t 2 i))) 28 0 = nI (b + i) from rfl, nI_1]
    rw [show st (st (kst t f (b + i)) 15 (upd f (b + i) (t 2 i))) 28 (fun _ => nI (b + i + 1)) = kst t (upd f (b + i) (t 2 i)) (b + (i + 1)) from st4 t (by decide) _ _ _ _]
theorem pasR_2 : ∀ (m i n b : Nat) (t : HS) (f : Nat → Int32), i + m = 8 → m < n → b + 8 ≤ 225 → t 27 0 = 0 → ∀ K : HS → Option HS, L_X2_passes_2_2 K n (nI i) (rst t 2 f (b + i)) = K (rst t 2 (rs f (t 15) b i 8) (b + 8))
  | 0, i, n + 1, b, t, f, hi, _, hb, hz, K => by
    have : i = 8 := by omega
    subst this
    rw [L_X2_passes_2_2, if_pos (by decide), rs_0]
  | m + 1, i, n + 1, b, t, f, hi, hn, hb, hz, K => by
    have ih := pasR_2 m (i + 1) n b t (upd f i (t 15 (b + i))) (by omega) (by omega) hb hz K
    rw [L_X2_passes_2_2, if_neg (show ¬ (8 : Int32) ≤ nI i from nI_ge (b := 8) (by omega) (by omega)), rst_o (j := 27) (by decide) (by decide), if_pos hz, rst_o (j := 15) (by decide) (by decide), show (rst t 2 f (b + i)) 28 0 = nI (b + i) from rfl, rd_nI _ (by omega) (by omega), Option.bind_some, rst_k (by decide), wr_nI _ _ (by omega) (by omega), Option.bind_some]
    rw [rs_s f (t 15) b i 8 (by omega)] at ih
    rw [← ih, nI_1]
    simp only [jnE]
    rw [show (st (rst t 2 f (b + i)) 2 (upd f i (t 15 (b + i)))) 28 0 = nI (b + i) from rfl, nI_1]
    rw [show st (st (rst t 2 f (b + i)) 2 (upd f i (t 15 (b + i)))) 28 (fun _ => nI (b + i + 1)) = rst t 2 (upd f i (t 15 (b + i))) (b + (i + 1)) from st4 t (by decide) _ _ _ _]
theorem fK_2 (b : Nat) (t : HS) (f : Nat → Int32) (hb : b + 8 ≤ 225) (hz : ¬ t 27 0 = 0) : f_X2_passes_2 (kst t f b) = some (kst t (kp f (t 2) b 0 8) (b + 8)) := by
  have x := pasK_2 8 0 fuel b t f (by omega) (by unfold fuel; omega) hb hz (fun x => some x)
  rw [nI0, Nat.add_zero] at x
  unfold f_X2_passes_2
  simp only [jnE]
  rw [x]
theorem fR_2 (b : Nat) (t : HS) (hb : b + 8 ≤ 225) (hz : t 27 0 = 0) (hc : t 28 = fun _ => nI b) : f_X2_passes_2 t = some (rst t 2 (rs (t 2) (t 15) b 0 8) (b + 8)) := by
  have x := pasR_2 8 0 fuel b t (t 2) (by omega) (by unfold fuel; omega) hb hz (fun x => some x)
  rw [show rst t 2 (t 2) (b + 0) = t from by unfold rst; rw [st_same (h := t) (k := 2) rfl]; exact st_same hc] at x
  rw [nI0] at x
  unfold f_X2_passes_2
  simp only [jnE]
  rw [x]
theorem pasK_3 : ∀ (m i n b : Nat) (t : HS) (f : Nat → Int32), i + m = 8 → m < n → b + 8 ≤ 225 → ¬ t 27 0 = 0 → ∀ K : HS → Option HS, L_X2_passes_3_2 K n (nI i) (kst t f (b + i)) = K (kst t (kp f (t 3) b i 8) (b + 8))
  | 0, i, n + 1, b, t, f, hi, _, hb, hz, K => by
    have : i = 8 := by omega
    subst this
    rw [L_X2_passes_3_2, if_pos (by decide), kp_0]
  | m + 1, i, n + 1, b, t, f, hi, hn, hb, hz, K => by
    have ih := pasK_3 m (i + 1) n b t (upd f (b + i) (t 3 i)) (by omega) (by omega) hb hz K
    rw [L_X2_passes_3_2, if_neg (show ¬ (8 : Int32) ≤ nI i from nI_ge (b := 8) (by omega) (by omega)), kst_o (k := 27) (by decide) (by decide), if_neg hz, kst_o (k := 3) (by decide) (by decide), rd_nI _ (by omega) (by omega), Option.bind_some]
    rw [show (kst t f (b + i)) 15 = f from rfl, show (kst t f (b + i)) 28 0 = nI (b + i) from rfl, wr_nI _ _ (by omega) (by omega), Option.bind_some]
    rw [kp_s f (t 3) b i 8 (by omega)] at ih
    rw [← ih, nI_1]
    simp only [jnE]
    rw [show (st (kst t f (b + i)) 15 (upd f (b + i) (t 3 i))) 28 0 = nI (b + i) from rfl, nI_1]
    rw [show st (st (kst t f (b + i)) 15 (upd f (b + i) (t 3 i))) 28 (fun _ => nI (b + i + 1)) = kst t (upd f (b + i) (t 3 i)) (b + (i + 1)) from st4 t (by decide) _ _ _ _]
theorem pasR_3 : ∀ (m i n b : Nat) (t : HS) (f : Nat → Int32), i + m = 8 → m < n → b + 8 ≤ 225 → t 27 0 = 0 → ∀ K : HS → Option HS, L_X2_passes_3_2 K n (nI i) (rst t 3 f (b + i)) = K (rst t 3 (rs f (t 15) b i 8) (b + 8))
  | 0, i, n + 1, b, t, f, hi, _, hb, hz, K => by
    have : i = 8 := by omega
    subst this
    rw [L_X2_passes_3_2, if_pos (by decide), rs_0]
  | m + 1, i, n + 1, b, t, f, hi, hn, hb, hz, K => by
    have ih := pasR_3 m (i + 1) n b t (upd f i (t 15 (b + i))) (by omega) (by omega) hb hz K
    rw [L_X2_passes_3_2, if_neg (show ¬ (8 : Int32) ≤ nI i from nI_ge (b := 8) (by omega) (by omega)), rst_o (j := 27) (by decide) (by decide), if_pos hz, rst_o (j := 15) (by decide) (by decide), show (rst t 3 f (b + i)) 28 0 = nI (b + i) from rfl, rd_nI _ (by omega) (by omega), Option.bind_some, rst_k (by decide), wr_nI _ _ (by omega) (by omega), Option.bind_some]
    rw [rs_s f (t 15) b i 8 (by omega)] at ih
    rw [← ih, nI_1]
    simp only [jnE]
    rw [show (st (rst t 3 f (b + i)) 3 (upd f i (t 15 (b + i)))) 28 0 = nI (b + i) from rfl, nI_1]
    rw [show st (st (rst t 3 f (b + i)) 3 (upd f i (t 15 (b + i)))) 28 (fun _ => nI (b + i + 1)) = rst t 3 (upd f i (t 15 (b + i))) (b + (i + 1)) from st4 t (by decide) _ _ _ _]
theorem fK_3 (b : Nat) (t : HS) (f : Nat → Int32) (hb : b + 8 ≤ 225) (hz : ¬ t 27 0 = 0) : f_X2_passes_3 (kst t f b) = some (kst t (kp f (t 3) b 0 8) (b + 8)) := by
  have x := pasK_3 8 0 fuel b t f (by omega) (by unfold fuel; omega) hb hz (fun x => some x)
  rw [nI0, Nat.add_zero] at x
  unfold f_X2_passes_3
  simp only [jnE]
  rw [x]
theorem fR_3 (b : Nat) (t : HS) (hb : b + 8 ≤ 225) (hz : t 27 0 = 0) (hc : t 28 = fun _ => nI b) : f_X2_passes_3 t = some (rst t 3 (rs (t 3) (t 15) b 0 8) (b + 8)) := by
  have x := pasR_3 8 0 fuel b t (t 3) (by omega) (by unfold fuel; omega) hb hz (fun x => some x)
  rw [show rst t 3 (t 3) (b + 0) = t from by unfold rst; rw [st_same (h := t) (k := 3) rfl]; exact st_same hc] at x
  rw [nI0] at x
  unfold f_X2_passes_3
  simp only [jnE]
  rw [x]
theorem pasK_4 : ∀ (m i n b : Nat) (t : HS) (f : Nat → Int32), i + m = 8 → m < n → b + 8 ≤ 225 → ¬ t 27 0 = 0 → ∀ K : HS → Option HS, L_X2_passes_4_2 K n (nI i) (kst t f (b + i)) = K (kst t (kp f (t 4) b i 8) (b + 8))
  | 0, i, n + 1, b, t, f, hi, _, hb, hz, K => by
    have : i = 8 := by omega
    subst this
    rw [L_X2_passes_4_2, if_pos (by decide), kp_0]
  | m + 1, i, n + 1, b, t, f, hi, hn, hb, hz, K => by
    have ih := pasK_4 m (i + 1) n b t (upd f (b + i) (t 4 i)) (by omega) (by omega) hb hz K
    rw [L_X2_passes_4_2, if_neg (show ¬ (8 : Int32) ≤ nI i from nI_ge (b := 8) (by omega) (by omega)), kst_o (k := 27) (by decide) (by decide), if_neg hz, kst_o (k := 4) (by decide) (by decide), rd_nI _ (by omega) (by omega), Option.bind_some]
    rw [show (kst t f (b + i)) 15 = f from rfl, show (kst t f (b + i)) 28 0 = nI (b + i) from rfl, wr_nI _ _ (by omega) (by omega), Option.bind_some]
    rw [kp_s f (t 4) b i 8 (by omega)] at ih
    rw [← ih, nI_1]
    simp only [jnE]
    rw [show (st (kst t f (b + i)) 15 (upd f (b + i) (t 4 i))) 28 0 = nI (b + i) from rfl, nI_1]
    rw [show st (st (kst t f (b + i)) 15 (upd f (b + i) (t 4 i))) 28 (fun _ => nI (b + i + 1)) = kst t (upd f (b + i) (t 4 i)) (b + (i + 1)) from st4 t (by decide) _ _ _ _]
theorem pasR_4 : ∀ (m i n b : Nat) (t : HS) (f : Nat → Int32), i + m = 8 → m < n → b + 8 ≤ 225 → t 27 0 = 0 → ∀ K : HS → Option HS, L_X2_passes_4_2 K n (nI i) (rst t 4 f (b + i)) = K (rst t 4 (rs f (t 15) b i 8) (b + 8))
  | 0, i, n + 1, b, t, f, hi, _, hb, hz, K => by
    have : i = 8 := by omega
    subst this
    rw [L_X2_passes_4_2, if_pos (by decide), rs_0]
  | m + 1, i, n + 1, b, t, f, hi, hn, hb, hz, K => by
    have ih := pasR_4 m (i + 1) n b t (upd f i (t 15 (b + i))) (by omega) (by omega) hb hz K
    rw [L_X2_passes_4_2, if_neg (show ¬ (8 : Int32) ≤ nI i from nI_ge (b := 8) (by omega) (by omega)), rst_o (j := 27) (by decide) (by decide), if_pos hz, rst_o (j := 15) (by decide) (by decide), show (rst t 4 f (b + i)) 28 0 = nI (b + i) from rfl, rd_nI _ (by omega) (by omega), Option.bind_some, rst_k (by decide), wr_nI _ _ (by omega) (by omega), Option.bind_some]
    rw [rs_s f (t 15) b i 8 (by omega)] at ih
    rw [← ih, nI_1]
    simp only [jnE]
    rw [show (st (rst t 4 f (b + i)) 4 (upd f i (t 15 (b + i)))) 28 0 = nI (b + i) from rfl, nI_1]
    rw [show st (st (rst t 4 f (b + i)) 4 (upd f i (t 15 (b + i)))) 28 (fun _ => nI (b + i + 1)) = rst t 4 (upd f i (t 15 (b + i))) (b + (i + 1)) from st4 t (by decide) _ _ _ _]
theorem fK_4 (b : Nat) (t : HS) (f : Nat → Int32) (hb : b + 8 ≤ 225) (hz : ¬ t 27 0 = 0) : f_X2_passes_4 (kst t f b) = some (kst t (kp f (t 4) b 0 8) (b + 8)) := by
  have x := pasK_4 8 0 fuel b t f (by omega) (by unfold fuel; omega) hb hz (fun x => some x)
  rw [nI0, Nat.add_zero] at x
  unfold f_X2_passes_4
  simp only [jnE]
  rw [x]
theorem fR_4 (b : Nat) (t : HS) (hb : b + 8 ≤ 225) (hz : t 27 0 = 0) (hc : t 28 = fun _ => nI b) : f_X2_passes_4 t = some (rst t 4 (rs (t 4) (t 15) b 0 8) (b + 8)) := by
  have x := pasR_4 8 0 fuel b t (t 4) (by omega) (by unfold fuel; omega) hb hz (fun x => some x)
  rw [show rst t 4 (t 4) (b + 0) = t from by unfold rst; rw [st_same (h := t) (k := 4) rfl]; exact st_same hc] at x
  rw [nI0] at x
  unfold f_X2_passes_4
  simp only [jnE]
  rw [x]
theorem pasK_5 : ∀ (m i n b : Nat) (t : HS) (f : Nat → Int32), i + m = 8 → m < n → b + 8 ≤ 225 → ¬ t 27 0 = 0 → ∀ K : HS → Option HS, L_X2_passes_5_2 K n (nI i) (kst t f (b + i)) = K (kst t (kp f (t 5) b i 8) (b + 8))
  | 0, i, n + 1, b, t, f, hi, _, hb, hz, K => by
    have : i = 8 := by omega
    subst this
    rw [L_X2_passes_5_2, if_pos (by decide), kp_0]
  | m + 1, i, n + 1, b, t, f, hi, hn, hb, hz, K => by
    have ih := pasK_5 m (i + 1) n b t (upd f (b + i) (t 5 i)) (by omega) (by omega) hb hz K
    rw [L_X2_passes_5_2, if_neg (show ¬ (8 : Int32) ≤ nI i from nI_ge (b := 8) (by omega) (by omega)), kst_o (k := 27) (by decide) (by decide), if_neg hz, kst_o (k := 5) (by decide) (by decide), rd_nI _ (by omega) (by omega), Option.bind_some]
    rw [show (kst t f (b + i)) 15 = f from rfl, show (kst t f (b + i)) 28 0 = nI (b + i) from rfl, wr_nI _ _ (by omega) (by omega), Option.bind_some]
    rw [kp_s f (t 5) b i 8 (by omega)] at ih
    rw [← ih, nI_1]
    simp only [jnE]
    rw [show (st (kst t f (b + i)) 15 (upd f (b + i) (t 5 i))) 28 0 = nI (b + i) from rfl, nI_1]
    rw [show st (st (kst t f (b + i)) 15 (upd f (b + i) (t 5 i))) 28 (fun _ => nI (b + i + 1)) = kst t (upd f (b + i) (t 5 i)) (b + (i + 1)) from st4 t (by decide) _ _ _ _]
theorem pasR_5 : ∀ (m i n b : Nat) (t : HS) (f : Nat → Int32), i + m = 8 → m < n → b + 8 ≤ 225 → t 27 0 = 0 → ∀ K : HS → Option HS, L_X2_passes_5_2 K n (nI i) (rst t 5 f (b + i)) = K (rst t 5 (rs f (t 15) b i 8) (b + 8))
  | 0, i, n + 1, b, t, f, hi, _, hb, hz, K => by
    have : i = 8 := by omega
    subst this
    rw [L_X2_passes_5_2, if_pos (by decide), rs_0]
  | m + 1, i, n + 1, b, t, f, hi, hn, hb, hz, K => by
    have ih := pasR_5 m (i + 1) n b t (upd f i (t 15 (b + i))) (by omega) (by omega) hb hz K
    rw [L_X2_passes_5_2, if_neg (show ¬ (8 : Int32) ≤ nI i from nI_ge (b := 8) (by omega) (by omega)), rst_o (j := 27) (by decide) (by decide), if_pos hz, rst_o (j := 15) (by decide) (by decide), show (rst t 5 f (b + i)) 28 0 = nI (b + i) from rfl, rd_nI _ (by omega) (by omega), Option.bind_some, rst_k (by decide), wr_nI _ _ (by omega) (by omega), Option.bind_some]
    rw [rs_s f (t 15) b i 8 (by omega)] at ih
    rw [← ih, nI_1]
    simp only [jnE]
    rw [show (st (rst t 5 f (b + i)) 5 (upd f i (t 15 (b + i)))) 28 0 = nI (b + i) from rfl, nI_1]
    rw [show st (st (rst t 5 f (b + i)) 5 (upd f i (t 15 (b + i)))) 28 (fun _ => nI (b + i + 1)) = rst t 5 (upd f i (t 15 (b + i))) (b + (i + 1)) from st4 t (by decide) _ _ _ _]
theorem fK_5 (b : Nat) (t : HS) (f : Nat → Int32) (hb : b + 8 ≤ 225) (hz : ¬ t 27 0 = 0) : f_X2_passes_5 (kst t f b) = some (kst t (kp f (t 5) b 0 8) (b + 8)) := by
  have x := pasK_5 8 0 fuel b t f (by omega) (by unfold fuel; omega) hb hz (fun x => some x)
  rw [nI0, Nat.add_zero] at x
  unfold f_X2_passes_5
  simp only [jnE]
  rw [x]
theorem fR_5 (b : Nat) (t : HS) (hb : b + 8 ≤ 225) (hz : t 27 0 = 0) (hc : t 28 = fun _ => nI b) : f_X2_passes_5 t = some (rst t 5 (rs (t 5) (t 15) b 0 8) (b + 8)) := by
  have x := pasR_5 8 0 fuel b t (t 5) (by omega) (by unfold fuel; omega) hb hz (fun x => some x)
  rw [show rst t 5 (t 5) (b + 0) = t from by unfold rst; rw [st_same (h := t) (k := 5) rfl]; exact st_same hc] at x
  rw [nI0] at x
  unfold f_X2_passes_5
  simp only [jnE]
  rw [x]
theorem pasK_6 : ∀ (m i n b : Nat) (t : HS) (f : Nat → Int32), i + m = 8 → m < n → b + 8 ≤ 225 → ¬ t 27 0 = 0 → ∀ K : HS → Option HS, L_X2_passes_6_2 K n (nI i) (kst t f (b + i)) = K (kst t (kp f (t 6) b i 8) (b + 8))
  | 0, i, n + 1, b, t, f, hi, _, hb, hz, K => by
    have : i = 8 := by omega
    subst this
    rw [L_X2_passes_6_2, if_pos (by decide), kp_0]
  | m + 1, i, n + 1, b, t, f, hi, hn, hb, hz, K => by
    have ih := pasK_6 m (i + 1) n b t (upd f (b + i) (t 6 i)) (by omega) (by omega) hb hz K
    rw [L_X2_passes_6_2, if_neg (show ¬ (8 : Int32) ≤ nI i from nI_ge (b := 8) (by omega) (by omega)), kst_o (k := 27) (by decide) (by decide), if_neg hz, kst_o (k := 6) (by decide) (by decide), rd_nI _ (by omega) (by omega), Option.bind_some]
    rw [show (kst t f (b + i)) 15 = f from rfl, show (kst t f (b + i)) 28 0 = nI (b + i) from rfl, wr_nI _ _ (by omega) (by omega), Option.bind_some]
    rw [kp_s f (t 6) b i 8 (by omega)] at ih
    rw [← ih, nI_1]
    simp only [jnE]
    rw [show (st (kst t f (b + i)) 15 (upd f (b + i) (t 6 i))) 28 0 = nI (b + i) from rfl, nI_1]
    rw [show st (st (kst t f (b + i)) 15 (upd f (b + i) (t 6 i))) 28 (fun _ => nI (b + i + 1)) = kst t (upd f (b + i) (t 6 i)) (b + (i + 1)) from st4 t (by decide) _ _ _ _]
theorem pasR_6 : ∀ (m i n b : Nat) (t : HS) (f : Nat → Int32), i + m = 8 → m < n → b + 8 ≤ 225 → t 27 0 = 0 → ∀ K : HS → Option HS, L_X2_passes_6_2 K n (nI i) (rst t 6 f (b + i)) = K (rst t 6 (rs f (t 15) b i 8) (b + 8))
  | 0, i, n + 1, b, t, f, hi, _, hb, hz, K => by
    have : i = 8 := by omega
    subst this
    rw [L_X2_passes_6_2, if_pos (by decide), rs_0]
  | m + 1, i, n + 1, b, t, f, hi, hn, hb, hz, K => by
    have ih := pasR_6 m (i + 1) n b t (upd f i (t 15 (b + i))) (by omega) (by omega) hb hz K
    rw [L_X2_passes_6_2, if_neg (show ¬ (8 : Int32) ≤ nI i from nI_ge (b := 8) (by omega) (by omega)), rst_o (j := 27) (by decide) (by decide), if_pos hz, rst_o (j := 15) (by decide) (by decide), show (rst t 6 f (b + i)) 28 0 = nI (b + i) from rfl, rd_nI _ (by omega) (by omega), Option.bind_some, rst_k (by decide), wr_nI _ _ (by omega) (by omega), Option.bind_some]
    rw [rs_s f (t 15) b i 8 (by omega)] at ih
    rw [← ih, nI_1]
    simp only [jnE]
    rw [show (st (rst t 6 f (b + i)) 6 (upd f i (t 15 (b + i)))) 28 0 = nI (b + i) from rfl, nI_1]
    rw [show st (st (rst t 6 f (b + i)) 6 (upd f i (t 15 (b + i)))) 28 (fun _ => nI (b + i + 1)) = rst t 6 (upd f i (t 15 (b + i))) (b + (i + 1)) from st4 t (by decide) _ _ _ _]
theorem fK_6 (b : Nat) (t : HS) (f : Nat → Int32) (hb : b + 8 ≤ 225) (hz : ¬ t 27 0 = 0) : f_X2_passes_6 (kst t f b) = some (kst t (kp f (t 6) b 0 8) (b + 8)) := by
  have x := pasK_6 8 0 fuel b t f (by omega) (by unfold fuel; omega) hb hz (fun x => some x)
  rw [nI0, Nat.add_zero] at x
  unfold f_X2_passes_6
  simp only [jnE]
  rw [x]
theorem fR_6 (b : Nat) (t : HS) (hb : b + 8 ≤ 225) (hz : t 27 0 = 0) (hc : t 28 = fun _ => nI b) : f_X2_passes_6 t = some (rst t 6 (rs (t 6) (t 15) b 0 8) (b + 8)) := by
  have x := pasR_6 8 0 fuel b t (t 6) (by omega) (by unfold fuel; omega) hb hz (fun x => some x)
  rw [show rst t 6 (t 6) (b + 0) = t from by unfold rst; rw [st_same (h := t) (k := 6) rfl]; exact st_same hc] at x
  rw [nI0] at x
  unfold f_X2_passes_6
  simp only [jnE]
  rw [x]
theorem pasK_7 : ∀ (m i n b : Nat) (t : HS) (f : Nat → Int32), i + m = 6 → m < n → b + 6 ≤ 225 → ¬ t 27 0 = 0 → ∀ K : HS → Option HS, L_X2_passes_7_2 K n (nI i) (kst t f (b + i)) = K (kst t (kp f (t 7) b i 6) (b + 6))
  | 0, i, n + 1, b, t, f, hi, _, hb, hz, K => by
    have : i = 6 := by omega
    subst this
    rw [L_X2_passes_7_2, if_pos (by decide), kp_0]
  | m + 1, i, n + 1, b, t, f, hi, hn, hb, hz, K => by
    have ih := pasK_7 m (i + 1) n b t (upd f (b + i) (t 7 i)) (by omega) (by omega) hb hz K
    rw [L_X2_passes_7_2, if_neg (show ¬ (6 : Int32) ≤ nI i from nI_ge (b := 6) (by omega) (by omega)), kst_o (k := 27) (by decide) (by decide), if_neg hz, kst_o (k := 7) (by decide) (by decide), rd_nI _ (by omega) (by omega), Option.bind_some]
    rw [show (kst t f (b + i)) 15 = f from rfl, show (kst t f (b + i)) 28 0 = nI (b + i) from rfl, wr_nI _ _ (by omega) (by omega), Option.bind_some]
    rw [kp_s f (t 7) b i 6 (by omega)] at ih
    rw [← ih, nI_1]
    simp only [jnE]
    rw [show (st (kst t f (b + i)) 15 (upd f (b + i) (t 7 i))) 28 0 = nI (b + i) from rfl, nI_1]
    rw [show st (st (kst t f (b + i)) 15 (upd f (b + i) (t 7 i))) 28 (fun _ => nI (b + i + 1)) = kst t (upd f (b + i) (t 7 i)) (b + (i + 1)) from st4 t (by decide) _ _ _ _]
theorem pasR_7 : ∀ (m i n b : Nat) (t : HS) (f : Nat → Int32), i + m = 6 → m < n → b + 6 ≤ 225 → t 27 0 = 0 → ∀ K : HS → Option HS, L_X2_passes_7_2 K n (nI i) (rst t 7 f (b + i)) = K (rst t 7 (rs f (t 15) b i 6) (b + 6))
  | 0, i, n + 1, b, t, f, hi, _, hb, hz, K => by
    have : i = 6 := by omega
    subst this
    rw [L_X2_passes_7_2, if_pos (by decide), rs_0]
  | m + 1, i, n + 1, b, t, f, hi, hn, hb, hz, K => by
    have ih := pasR_7 m (i + 1) n b t (upd f i (t 15 (b + i))) (by omega) (by omega) hb hz K
    rw [L_X2_passes_7_2, if_neg (show ¬ (6 : Int32) ≤ nI i from nI_ge (b := 6) (by omega) (by omega)), rst_o (j := 27) (by decide) (by decide), if_pos hz, rst_o (j := 15) (by decide) (by decide), show (rst t 7 f (b + i)) 28 0 = nI (b + i) from rfl, rd_nI _ (by omega) (by omega), Option.bind_some, rst_k (by decide), wr_nI _ _ (by omega) (by omega), Option.bind_some]
    rw [rs_s f (t 15) b i 6 (by omega)] at ih
    rw [← ih, nI_1]
    simp only [jnE]
    rw [show (st (rst t 7 f (b + i)) 7 (upd f i (t 15 (b + i)))) 28 0 = nI (b + i) from rfl, nI_1]
    rw [show st (st (rst t 7 f (b + i)) 7 (upd f i (t 15 (b + i)))) 28 (fun _ => nI (b + i + 1)) = rst t 7 (upd f i (t 15 (b + i))) (b + (i + 1)) from st4 t (by decide) _ _ _ _]
theorem fK_7 (b : Nat) (t : HS) (f : Nat → Int32) (hb : b + 6 ≤ 225) (hz : ¬ t 27 0 = 0) : f_X2_passes_7 (kst t f b) = some (kst t (kp f (t 7) b 0 6) (b + 6)) := by
  have x := pasK_7 6 0 fuel b t f (by omega) (by unfold fuel; omega) hb hz (fun x => some x)
  rw [nI0, Nat.add_zero] at x
  unfold f_X2_passes_7
  simp only [jnE]
  rw [x]
theorem fR_7 (b : Nat) (t : HS) (hb : b + 6 ≤ 225) (hz : t 27 0 = 0) (hc : t 28 = fun _ => nI b) : f_X2_passes_7 t = some (rst t 7 (rs (t 7) (t 15) b 0 6) (b + 6)) := by
  have x := pasR_7 6 0 fuel b t (t 7) (by omega) (by unfold fuel; omega) hb hz (fun x => some x)
  rw [show rst t 7 (t 7) (b + 0) = t from by unfold rst; rw [st_same (h := t) (k := 7) rfl]; exact st_same hc] at x
  rw [nI0] at x
  unfold f_X2_passes_7
  simp only [jnE]
  rw [x]
theorem pasK_8 : ∀ (m i n b : Nat) (t : HS) (f : Nat → Int32), i + m = 6 → m < n → b + 6 ≤ 225 → ¬ t 27 0 = 0 → ∀ K : HS → Option HS, L_X2_passes_8_2 K n (nI i) (kst t f (b + i)) = K (kst t (kp f (t 8) b i 6) (b + 6))
  | 0, i, n + 1, b, t, f, hi, _, hb, hz, K => by
    have : i = 6 := by omega
    subst this
    rw [L_X2_passes_8_2, if_pos (by decide), kp_0]
  | m + 1, i, n + 1, b, t, f, hi, hn, hb, hz, K => by
    have ih := pasK_8 m (i + 1) n b t (upd f (b + i) (t 8 i)) (by omega) (by omega) hb hz K
    rw [L_X2_passes_8_2, if_neg (show ¬ (6 : Int32) ≤ nI i from nI_ge (b := 6) (by omega) (by omega)), kst_o (k := 27) (by decide) (by decide), if_neg hz, kst_o (k := 8) (by decide) (by decide), rd_nI _ (by omega) (by omega), Option.bind_some]
    rw [show (kst t f (b + i)) 15 = f from rfl, show (kst t f (b + i)) 28 0 = nI (b + i) from rfl, wr_nI _ _ (by omega) (by omega), Option.bind_some]
    rw [kp_s f (t 8) b i 6 (by omega)] at ih
    rw [← ih, nI_1]
    simp only [jnE]
    rw [show (st (kst t f (b + i)) 15 (upd f (b + i) (t 8 i))) 28 0 = nI (b + i) from rfl, nI_1]
    rw [show st (st (kst t f (b + i)) 15 (upd f (b + i) (t 8 i))) 28 (fun _ => nI (b + i + 1)) = kst t (upd f (b + i) (t 8 i)) (b + (i + 1)) from st4 t (by decide) _ _ _ _]
theorem pasR_8 : ∀ (m i n b : Nat) (t : HS) (f : Nat → Int32), i + m = 6 → m < n → b + 6 ≤ 225 → t 27 0 = 0 → ∀ K : HS → Option HS, L_X2_passes_8_2 K n (nI i) (rst t 8 f (b + i)) = K (rst t 8 (rs f (t 15) b i 6) (b + 6))
  | 0, i, n + 1, b, t, f, hi, _, hb, hz, K => by
    have : i = 6 := by omega
    subst this
    rw [L_X2_passes_8_2, if_pos (by decide), rs_0]
  | m + 1, i, n + 1, b, t, f, hi, hn, hb, hz, K => by
    have ih := pasR_8 m (i + 1) n b t (upd f i (t 15 (b + i))) (by omega) (by omega) hb hz K
    rw [L_X2_passes_8_2, if_neg (show ¬ (6 : Int32) ≤ nI i from nI_ge (b := 6) (by omega) (by omega)), rst_o (j := 27) (by decide) (by decide), if_pos hz, rst_o (j := 15) (by decide) (by decide), show (rst t 8 f (b + i)) 28 0 = nI (b + i) from rfl, rd_nI _ (by omega) (by omega), Option.bind_some, rst_k (by decide), wr_nI _ _ (by omega) (by omega), Option.bind_some]
    rw [rs_s f (t 15) b i 6 (by omega)] at ih
    rw [← ih, nI_1]
    simp only [jnE]
    rw [show (st (rst t 8 f (b + i)) 8 (upd f i (t 15 (b + i)))) 28 0 = nI (b + i) from rfl, nI_1]
    rw [show st (st (rst t 8 f (b + i)) 8 (upd f i (t 15 (b + i)))) 28 (fun _ => nI (b + i + 1)) = rst t 8 (upd f i (t 15 (b + i))) (b + (i + 1)) from st4 t (by decide) _ _ _ _]
theorem fK_8 (b : Nat) (t : HS) (f : Nat → Int32) (hb : b + 6 ≤ 225) (hz : ¬ t 27 0 = 0) : f_X2_passes_8 (kst t f b) = some (kst t (kp f (t 8) b 0 6) (b + 6)) := by
  have x := pasK_8 6 0 fuel b t f (by omega) (by unfold fuel; omega) hb hz (fun x => some x)
  rw [nI0, Nat.add_zero] at x
  unfold f_X2_passes_8
  simp only [jnE]
  rw [x]
theorem fR_8 (b : Nat) (t : HS) (hb : b + 6 ≤ 225) (hz : t 27 0 = 0) (hc : t 28 = fun _ => nI b) : f_X2_passes_8 t = some (rst t 8 (rs (t 8) (t 15) b 0 6) (b + 6)) := by
  have x := pasR_8 6 0 fuel b t (t 8) (by omega) (by unfold fuel; omega) hb hz (fun x => some x)
  rw [show rst t 8 (t 8) (b + 0) = t from by unfold rst; rw [st_same (h := t) (k := 8) rfl]; exact st_same hc] at x
  rw [nI0] at x
  unfold f_X2_passes_8
  simp only [jnE]
  rw [x]
theorem pasK_9 : ∀ (m i n b : Nat) (t : HS) (f : Nat → Int32), i + m = 6 → m < n → b + 6 ≤ 225 → ¬ t 27 0 = 0 → ∀ K : HS → Option HS, L_X2_passes_9_2 K n (nI i) (kst t f (b + i)) = K (kst t (kp f (t 9) b i 6) (b + 6))
  | 0, i, n + 1, b, t, f, hi, _, hb, hz, K => by
    have : i = 6 := by omega
    subst this
    rw [L_X2_passes_9_2, if_pos (by decide), kp_0]
  | m + 1, i, n + 1, b, t, f, hi, hn, hb, hz, K => by
    have ih := pasK_9 m (i + 1) n b t (upd f (b + i) (t 9 i)) (by omega) (by omega) hb hz K
    rw [L_X2_passes_9_2, if_neg (show ¬ (6 : Int32) ≤ nI i from nI_ge (b := 6) (by omega) (by omega)), kst_o (k := 27) (by decide) (by decide), if_neg hz, kst_o (k := 9) (by decide) (by decide), rd_nI _ (by omega) (by omega), Option.bind_some]
    rw [show (kst t f (b + i)) 15 = f from rfl, show (kst t f (b + i)) 28 0 = nI (b + i) from rfl, wr_nI _ _ (by omega) (by omega), Option.bind_some]
    rw [kp_s f (t 9) b i 6 (by omega)] at ih
    rw [← ih, nI_1]
    simp only [jnE]
    rw [show (st (kst t f (b + i)) 15 (upd f (b + i) (t 9 i))) 28 0 = nI (b + i) from rfl, nI_1]
    rw [show st (st (kst t f (b + i)) 15 (upd f (b + i) (t 9 i))) 28 (fun _ => nI (b + i + 1)) = kst t (upd f (b + i) (t 9 i)) (b + (i + 1)) from st4 t (by decide) _ _ _ _]
theorem pasR_9 : ∀ (m i n b : Nat) (t : HS) (f : Nat → Int32), i + m = 6 → m < n → b + 6 ≤ 225 → t 27 0 = 0 → ∀ K : HS → Option HS, L_X2_passes_9_2 K n (nI i) (rst t 9 f (b + i)) = K (rst t 9 (rs f (t 15) b i 6) (b + 6))
  | 0, i, n + 1, b, t, f, hi, _, hb, hz, K => by
    have : i = 6 := by omega
    subst this
    rw [L_X2_passes_9_2, if_pos (by decide), rs_0]
  | m + 1, i, n + 1, b, t, f, hi, hn, hb, hz, K => by
    have ih := pasR_9 m (i + 1) n b t (upd f i (t 15 (b + i))) (by omega) (by omega) hb hz K
    rw [L_X2_passes_9_2, if_neg (show ¬ (6 : Int32) ≤ nI i from nI_ge (b := 6) (by omega) (by omega)), rst_o (j := 27) (by decide) (by decide), if_pos hz, rst_o (j := 15) (by decide) (by decide), show (rst t 9 f (b + i)) 28 0 = nI (b + i) from rfl, rd_nI _ (by omega) (by omega), Option.bind_some, rst_k (by decide), wr_nI _ _ (by omega) (by omega), Option.bind_some]
    rw [rs_s f (t 15) b i 6 (by omega)] at ih
    rw [← ih, nI_1]
    simp only [jnE]
    rw [show (st (rst t 9 f (b + i)) 9 (upd f i (t 15 (b + i)))) 28 0 = nI (b + i) from rfl, nI_1]
    rw [show st (st (rst t 9 f (b + i)) 9 (upd f i (t 15 (b + i)))) 28 (fun _ => nI (b + i + 1)) = rst t 9 (upd f i (t 15 (b + i))) (b + (i + 1)) from st4 t (by decide) _ _ _ _]
theorem fK_9 (b : Nat) (t : HS) (f : Nat → Int32) (hb : b + 6 ≤ 225) (hz : ¬ t 27 0 = 0) : f_X2_passes_9 (kst t f b) = some (kst t (kp f (t 9) b 0 6) (b + 6)) := by
  have x := pasK_9 6 0 fuel b t f (by omega) (by unfold fuel; omega) hb hz (fun x => some x)
  rw [nI0, Nat.add_zero] at x
  unfold f_X2_passes_9
  simp only [jnE]
  rw [x]
theorem fR_9 (b : Nat) (t : HS) (hb : b + 6 ≤ 225) (hz : t 27 0 = 0) (hc : t 28 = fun _ => nI b) : f_X2_passes_9 t = some (rst t 9 (rs (t 9) (t 15) b 0 6) (b + 6)) := by
  have x := pasR_9 6 0 fuel b t (t 9) (by omega) (by unfold fuel; omega) hb hz (fun x => some x)
  rw [show rst t 9 (t 9) (b + 0) = t from by unfold rst; rw [st_same (h := t) (k := 9) rfl]; exact st_same hc] at x
  rw [nI0] at x
  unfold f_X2_passes_9
  simp only [jnE]
  rw [x]
theorem pasK_10 : ∀ (m i n b : Nat) (t : HS) (f : Nat → Int32), i + m = 6 → m < n → b + 6 ≤ 225 → ¬ t 27 0 = 0 → ∀ K : HS → Option HS, L_X2_passes_10_2 K n (nI i) (kst t f (b + i)) = K (kst t (kp f (t 10) b i 6) (b + 6))
  | 0, i, n + 1, b, t, f, hi, _, hb, hz, K => by
    have : i = 6 := by omega
    subst this
    rw [L_X2_passes_10_2, if_pos (by decide), kp_0]
  | m + 1, i, n + 1, b, t, f, hi, hn, hb, hz, K => by
    have ih := pasK_10 m (i + 1) n b t (upd f (b + i) (t 10 i)) (by omega) (by omega) hb hz K
    rw [L_X2_passes_10_2, if_neg (show ¬ (6 : Int32) ≤ nI i from nI_ge (b := 6) (by omega) (by omega)), kst_o (k := 27) (by decide) (by decide), if_neg hz, kst_o (k := 10) (by decide) (by decide), rd_nI _ (by omega) (by omega), Option.bind_some]
    rw [show (kst t f (b + i)) 15 = f from rfl, show (kst t f (b + i)) 28 0 = nI (b + i) from rfl, wr_nI _ _ (by omega) (by omega), Option.bind_some]
    rw [kp_s f (t 10) b i 6 (by omega)] at ih
    rw [← ih, nI_1]
    simp only [jnE]
    rw [show (st (kst t f (b + i)) 15 (upd f (b + i) (t 10 i))) 28 0 = nI (b + i) from rfl, nI_1]
    rw [show st (st (kst t f (b + i)) 15 (upd f (b + i) (t 10 i))) 28 (fun _ => nI (b + i + 1)) = kst t (upd f (b + i) (t 10 i)) (b + (i + 1)) from st4 t (by decide) _ _ _ _]
theorem pasR_10 : ∀ (m i n b : Nat) (t : HS) (f : Nat → Int32), i + m = 6 → m < n → b + 6 ≤ 225 → t 27 0 = 0 → ∀ K : HS → Option HS, L_X2_passes_10_2 K n (nI i) (rst t 10 f (b + i)) = K (rst t 10 (rs f (t 15) b i 6) (b + 6))
  | 0, i, n + 1, b, t, f, hi, _, hb, hz, K => by
    have : i = 6 := by omega
    subst this
    rw [L_X2_passes_10_2, if_pos (by decide), rs_0]
  | m + 1, i, n + 1, b, t, f, hi, hn, hb, hz, K => by
    have ih := pasR_10 m (i + 1) n b t (upd f i (t 15 (b + i))) (by omega) (by omega) hb hz K
    rw [L_X2_passes_10_2, if_neg (show ¬ (6 : Int32) ≤ nI i from nI_ge (b := 6) (by omega) (by omega)), rst_o (j := 27) (by decide) (by decide), if_pos hz, rst_o (j := 15) (by decide) (by decide), show (rst t 10 f (b + i)) 28 0 = nI (b + i) from rfl, rd_nI _ (by omega) (by omega), Option.bind_some, rst_k (by decide), wr_nI _ _ (by omega) (by omega), Option.bind_some]
    rw [rs_s f (t 15) b i 6 (by omega)] at ih
    rw [← ih, nI_1]
    simp only [jnE]
    rw [show (st (rst t 10 f (b + i)) 10 (upd f i (t 15 (b + i)))) 28 0 = nI (b + i) from rfl, nI_1]
    rw [show st (st (rst t 10 f (b + i)) 10 (upd f i (t 15 (b + i)))) 28 (fun _ => nI (b + i + 1)) = rst t 10 (upd f i (t 15 (b + i))) (b + (i + 1)) from st4 t (by decide) _ _ _ _]
theorem fK_10 (b : Nat) (t : HS) (f : Nat → Int32) (hb : b + 6 ≤ 225) (hz : ¬ t 27 0 = 0) : f_X2_passes_10 (kst t f b) = some (kst t (kp f (t 10) b 0 6) (b + 6)) := by
  have x := pasK_10 6 0 fuel b t f (by omega) (by unfold fuel; omega) hb hz (fun x => some x)
  rw [nI0, Nat.add_zero] at x
  unfold f_X2_passes_10
  simp only [jnE]
  rw [x]
theorem fR_10 (b : Nat) (t : HS) (hb : b + 6 ≤ 225) (hz : t 27 0 = 0) (hc : t 28 = fun _ => nI b) : f_X2_passes_10 t = some (rst t 10 (rs (t 10) (t 15) b 0 6) (b + 6)) := by
  have x := pasR_10 6 0 fuel b t (t 10) (by omega) (by unfold fuel; omega) hb hz (fun x => some x)
  rw [show rst t 10 (t 10) (b + 0) = t from by unfold rst; rw [st_same (h := t) (k := 10) rfl]; exact st_same hc] at x
  rw [nI0] at x
  unfold f_X2_passes_10
  simp only [jnE]
  rw [x]
theorem oneK (b : Nat) (t : HS) (f : Nat → Int32) (v : Int32) (hb : b < 225) (hz : ¬ t 27 0 = 0) : f_X2_passOne v (kst t f b) = some (v, kst t (upd f b v) (b + 1)) := by
  unfold f_X2_passOne
  rw [kst_o (k := 27) (by decide) (by decide), if_neg hz, if_neg hz, show (kst t f b) 15 = f from rfl, show (kst t f b) 28 0 = nI b from rfl, wr_nI _ _ (by omega) (by omega), Option.bind_some]
  simp only [jnE]
  rw [show (st (kst t f b) 15 (upd f b v)) 28 0 = nI b from rfl, nI_1]
  rw [show st (st (kst t f b) 15 (upd f b v)) 28 (fun _ => nI (b + 1)) = kst t (upd f b v) (b + 1) from st4 t (by decide) _ _ _ _]
theorem oneR (b : Nat) (t : HS) (v : Int32) (hb : b < 225) (hz : t 27 0 = 0) (hc : t 28 0 = nI b) : f_X2_passOne v t = some (t 15 b, st t 28 (fun _ => nI (b + 1))) := by
  unfold f_X2_passOne
  rw [if_pos hz, hc, rd_nI _ (by omega) (by omega), Option.bind_some, if_pos hz]
  simp only [jnE]
  rw [nI_1]
/-- slice w of a row holds the core of m -/
def sl (f : Nat → Int32) (w : Nat) (m : HS) : Prop := (∀ q, q < 8 → f (75 * w + 0 + q) = m 1 q) ∧ (∀ q, q < 8 → f (75 * w + 8 + q) = m 2 q) ∧ (∀ q, q < 8 → f (75 * w + 16 + q) = m 3 q) ∧ (∀ q, q < 8 → f (75 * w + 24 + q) = m 4 q) ∧ (∀ q, q < 8 → f (75 * w + 32 + q) = m 5 q) ∧ (∀ q, q < 8 → f (75 * w + 40 + q) = m 6 q) ∧ (∀ q, q < 6 → f (75 * w + 48 + q) = m 7 q) ∧ (∀ q, q < 6 → f (75 * w + 54 + q) = m 8 q) ∧ (∀ q, q < 6 → f (75 * w + 60 + q) = m 9 q) ∧ (∀ q, q < 6 → f (75 * w + 66 + q) = m 10 q) ∧ f (75 * w + 72) = m 20 0 ∧ f (75 * w + 73) = m 21 0 ∧ f (75 * w + 74) = m 22 0
theorem sl.congr {f f' : Nat → Int32} {w : Nat} {m : HS} (h : ∀ j, 75 * w ≤ j → j < 75 * w + 75 → f' j = f j) (s : sl f w m) : sl f' w m := by
  obtain ⟨s0, s1, s2, s3, s4, s5, s6, s7, s8, s9, s10, s11, s12⟩ := s
  exact ⟨fun q hq => by rw [h _ (by omega) (by omega)]; exact s0 q hq, fun q hq => by rw [h _ (by omega) (by omega)]; exact s1 q hq, fun q hq => by rw [h _ (by omega) (by omega)]; exact s2 q hq, fun q hq => by rw [h _ (by omega) (by omega)]; exact s3 q hq, fun q hq => by rw [h _ (by omega) (by omega)]; exact s4 q hq, fun q hq => by rw [h _ (by omega) (by omega)]; exact s5 q hq, fun q hq => by rw [h _ (by omega) (by omega)]; exact s6 q hq, fun q hq => by rw [h _ (by omega) (by omega)]; exact s7 q hq, fun q hq => by rw [h _ (by omega) (by omega)]; exact s8 q hq, fun q hq => by rw [h _ (by omega) (by omega)]; exact s9 q hq, by rw [h _ (by omega) (by omega)]; exact s10, by rw [h _ (by omega) (by omega)]; exact s11, by rw [h _ (by omega) (by omega)]; exact s12⟩
def kpA (t : HS) (w : Nat) : Nat → Int32 := upd (upd (upd (kp (kp (kp (kp (kp (kp (kp (kp (kp (kp (t 15) (t 1) (75 * w + 0) 0 8) (t 2) (75 * w + 8) 0 8) (t 3) (75 * w + 16) 0 8) (t 4) (75 * w + 24) 0 8) (t 5) (75 * w + 32) 0 8) (t 6) (75 * w + 40) 0 8) (t 7) (75 * w + 48) 0 6) (t 8) (75 * w + 54) 0 6) (t 9) (75 * w + 60) 0 6) (t 10) (75 * w + 66) 0 6) (75 * w + 72) (t 20 0)) (75 * w + 73) (t 21 0)) (75 * w + 74) (t 22 0)
theorem keep_run {t : HS} {w : Nat} (hw : w ≤ 2) (c20 : ∀ i, t 20 i = t 20 0) (c21 : ∀ i, t 21 i = t 21 0) (c22 : ∀ i, t 22 i = t 22 0) : f_X2_passesAll (nI w) 1 t = some (kst (st t 27 (fun _ => 1)) (kpA t w) (75 * w + 75)) := by
  unfold f_X2_passesAll
  simp only [jnE, nb]
  rw [if_pos (Or.inr trivial)]
  have hz : ¬ (st t 27 (fun _ => 1)) 27 0 = 0 := by rw [st_eq]; decide
  have e0 : st (st t 28 (fun _ => (75 : Int32) * nI w)) 27 (fun _ => 1) = kst (st t 27 (fun _ => 1)) (t 15) (75 * w) := by
    rw [show (75 : Int32) = nI 75 from rfl, pk_mul]
    unfold kst
    rw [st_same (h := st t 27 (fun _ => 1)) (k := 15) (f := t 15) rfl]
    funext j
    by_cases q : j = 27
    · subst q; rfl
    · by_cases z : j = 28
      · subst z; rfl
      · rw [st_ne q, st_ne z, st_ne z, st_ne q]
  rw [e0]
  have s1 := fK_1 (75 * w + 0) (st t 27 (fun _ => 1)) (t 15) (by omega) hz
  have s2 := fK_2 (75 * w + 8) (st t 27 (fun _ => 1)) (kp (t 15) (t 1) (75 * w + 0) 0 8) (by omega) hz
  have s3 := fK_3 (75 * w + 16) (st t 27 (fun _ => 1)) (kp (kp (t 15) (t 1) (75 * w + 0) 0 8) (t 2) (75 * w + 8) 0 8) (by omega) hz
  have s4 := fK_4 (75 * w + 24) (st t 27 (fun _ => 1)) (kp (kp (kp (t 15) (t 1) (75 * w + 0) 0 8) (t 2) (75 * w + 8) 0 8) (t 3) (75 * w + 16) 0 8) (by omega) hz
  have s5 := fK_5 (75 * w + 32) (st t 27 (fun _ => 1)) (kp (kp (kp (kp (t 15) (t 1) (75 * w + 0) 0 8) (t 2) (75 * w + 8) 0 8) (t 3) (75 * w + 16) 0 8) (t 4) (75 * w + 24) 0 8) (by omega) hz
  have s6 := fK_6 (75 * w + 40) (st t 27 (fun _ => 1)) (kp (kp (kp (kp (kp (t 15) (t 1) (75 * w + 0) 0 8) (t 2) (75 * w + 8) 0 8) (t 3) (75 * w + 16) 0 8) (t 4) (75 * w + 24) 0 8) (t 5) (75 * w + 32) 0 8) (by omega) hz
  have s7 := fK_7 (75 * w + 48) (st t 27 (fun _ => 1)) (kp (kp (kp (kp (kp (kp (t 15) (t 1) (75 * w + 0) 0 8) (t 2) (75 * w + 8) 0 8) (t 3) (75 * w + 16) 0 8) (t 4) (75 * w + 24) 0 8) (t 5) (75 * w + 32) 0 8) (t 6) (75 * w + 40) 0 8) (by omega) hz
  have s8 := fK_8 (75 * w + 54) (st t 27 (fun _ => 1)) (kp (kp (kp (kp (kp (kp (kp (t 15) (t 1) (75 * w + 0) 0 8) (t 2) (75 * w + 8) 0 8) (t 3) (75 * w + 16) 0 8) (t 4) (75 * w + 24) 0 8) (t 5) (75 * w + 32) 0 8) (t 6) (75 * w + 40) 0 8) (t 7) (75 * w + 48) 0 6) (by omega) hz
  have s9 := fK_9 (75 * w + 60) (st t 27 (fun _ => 1)) (kp (kp (kp (kp (kp (kp (kp (kp (t 15) (t 1) (75 * w + 0) 0 8) (t 2) (75 * w + 8) 0 8) (t 3) (75 * w + 16) 0 8) (t 4) (75 * w + 24) 0 8) (t 5) (75 * w + 32) 0 8) (t 6) (75 * w + 40) 0 8) (t 7) (75 * w + 48) 0 6) (t 8) (75 * w + 54) 0 6) (by omega) hz
  have s10 := fK_10 (75 * w + 66) (st t 27 (fun _ => 1)) (kp (kp (kp (kp (kp (kp (kp (kp (kp (t 15) (t 1) (75 * w + 0) 0 8) (t 2) (75 * w + 8) 0 8) (t 3) (75 * w + 16) 0 8) (t 4) (75 * w + 24) 0 8) (t 5) (75 * w + 32) 0 8) (t 6) (75 * w + 40) 0 8) (t 7) (75 * w + 48) 0 6) (t 8) (75 * w + 54) 0 6) (t 9) (75 * w + 60) 0 6) (by omega) hz
  rw [show 75 * w = 75 * w + 0 from rfl]
  rw [s1, Option.bind_some, show (st t 27 (fun _ => 1)) 1 = t 1 from rfl, show 75 * w + 0 + 8 = 75 * w + 8 from by omega]
  rw [s2, Option.bind_some, show (st t 27 (fun _ => 1)) 2 = t 2 from rfl, show 75 * w + 8 + 8 = 75 * w + 16 from by omega]
  rw [s3, Option.bind_some, show (st t 27 (fun _ => 1)) 3 = t 3 from rfl, show 75 * w + 16 + 8 = 75 * w + 24 from by omega]
  rw [s4, Option.bind_some, show (st t 27 (fun _ => 1)) 4 = t 4 from rfl, show 75 * w + 24 + 8 = 75 * w + 32 from by omega]
  rw [s5, Option.bind_some, show (st t 27 (fun _ => 1)) 5 = t 5 from rfl, show 75 * w + 32 + 8 = 75 * w + 40 from by omega]
  rw [s6, Option.bind_some, show (st t 27 (fun _ => 1)) 6 = t 6 from rfl, show 75 * w + 40 + 8 = 75 * w + 48 from by omega]
  rw [s7, Option.bind_some, show (st t 27 (fun _ => 1)) 7 = t 7 from rfl, show 75 * w + 48 + 6 = 75 * w + 54 from by omega]
  rw [s8, Option.bind_some, show (st t 27 (fun _ => 1)) 8 = t 8 from rfl, show 75 * w + 54 + 6 = 75 * w + 60 from by omega]
  rw [s9, Option.bind_some, show (st t 27 (fun _ => 1)) 9 = t 9 from rfl, show 75 * w + 60 + 6 = 75 * w + 66 from by omega]
  rw [s10, Option.bind_some, show (st t 27 (fun _ => 1)) 10 = t 10 from rfl, show 75 * w + 66 + 6 = 75 * w + 72 from by omega]
  rw [kst_o (k := 20) (by decide) (by decide), show (st t 27 (fun _ => 1)) 20 = t 20 from rfl, oneK (75 * w + 72) _ _ _ (by omega) hz, Option.bind_some]
  rw [st_same (h := kst (st t 27 (fun _ => 1)) _ _) (k := 20) (f := fun _ => t 20 0) (by rw [kst_o (by decide) (by decide)]; funext i; exact c20 i), show 75 * w + 72 + 1 = 75 * w + 73 from by omega]
  rw [kst_o (k := 21) (by decide) (by decide), show (st t 27 (fun _ => 1)) 21 = t 21 from rfl, oneK (75 * w + 73) _ _ _ (by omega) hz, Option.bind_some]
  rw [st_same (h := kst (st t 27 (fun _ => 1)) _ _) (k := 21) (f := fun _ => t 21 0) (by rw [kst_o (by decide) (by decide)]; funext i; exact c21 i), show 75 * w + 73 + 1 = 75 * w + 74 from by omega]
  rw [kst_o (k := 22) (by decide) (by decide), show (st t 27 (fun _ => 1)) 22 = t 22 from rfl, oneK (75 * w + 74) _ _ _ (by omega) hz, Option.bind_some]
  rw [st_same (h := kst (st t 27 (fun _ => 1)) _ _) (k := 22) (f := fun _ => t 22 0) (by rw [kst_o (by decide) (by decide)]; funext i; exact c22 i), show 75 * w + 74 + 1 = 75 * w + 75 from by omega]
  rfl
theorem kpA_sl (t : HS) (w : Nat) : sl (kpA t w) w t := ⟨fun q hq => by unfold kpA; rw [upd_ne (by omega), upd_ne (by omega), upd_ne (by omega), kp_out (by omega), kp_out (by omega), kp_out (by omega), kp_out (by omega), kp_out (by omega), kp_out (by omega), kp_out (by omega), kp_out (by omega), kp_out (by omega), kp_in hq], fun q hq => by unfold kpA; rw [upd_ne (by omega), upd_ne (by omega), upd_ne (by omega), kp_out (by omega), kp_out (by omega), kp_out (by omega), kp_out (by omega), kp_out (by omega), kp_out (by omega), kp_out (by omega), kp_out (by omega), kp_in hq], fun q hq => by unfold kpA; rw [upd_ne (by omega), upd_ne (by omega), upd_ne (by omega), kp_out (by omega), kp_out (by omega), kp_out (by omega), kp_out (by omega), kp_out (by omega), kp_out (by omega), kp_out (by omega), kp_in hq], fun q hq => by unfold kpA; rw [upd_ne (by omega), upd_ne (by omega), upd_ne (by omega), kp_out (by omega), kp_out (by omega), kp_out (by omega), kp_out (by omega), kp_out (by omega), kp_out (by omega), kp_in hq], fun q hq => by unfold kpA; rw [upd_ne (by omega), upd_ne (by omega), upd_ne (by omega), kp_out (by omega), kp_out (by omega), kp_out (by omega), kp_out (by omega), kp_out (by omega), kp_in hq], fun q hq => by unfold kpA; rw [upd_ne (by omega), upd_ne (by omega), upd_ne (by omega), kp_out (by omega), kp_out (by omega), kp_out (by omega), kp_out (by omega), kp_in hq], fun q hq => by unfold kpA; rw [upd_ne (by omega), upd_ne (by omega), upd_ne (by omega), kp_out (by omega), kp_out (by omega), kp_out (by omega), kp_in hq], fun q hq => by unfold kpA; rw [upd_ne (by omega), upd_ne (by omega), upd_ne (by omega), kp_out (by omega), kp_out (by omega), kp_in hq], fun q hq => by unfold kpA; rw [upd_ne (by omega), upd_ne (by omega), upd_ne (by omega), kp_out (by omega), kp_in hq], fun q hq => by unfold kpA; rw [upd_ne (by omega), upd_ne (by omega), upd_ne (by omega), kp_in hq], by unfold kpA; rw [upd_ne (by omega), upd_ne (by omega), upd_eq], by unfold kpA; rw [upd_ne (by omega), upd_eq], by unfold kpA; rw [upd_eq]⟩
theorem kpA_out (t : HS) (w j : Nat) (h : j < 75 * w ∨ 75 * w + 75 ≤ j) : kpA t w j = t 15 j := by
  unfold kpA
  rw [upd_ne (by omega), upd_ne (by omega), upd_ne (by omega), kp_out (by omega), kp_out (by omega), kp_out (by omega), kp_out (by omega), kp_out (by omega), kp_out (by omega), kp_out (by omega), kp_out (by omega), kp_out (by omega), kp_out (by omega)]
theorem rs_full {f g m : Nat → Int32} {b n : Nat} (h1 : ∀ q, q < n → g (b + q) = m q) (h2 : ∀ q, n ≤ q → f q = 0) (h3 : ∀ q, n ≤ q → m q = 0) : rs f g b 0 n = m := by
  funext q
  unfold rs
  by_cases z : q < n
  · rw [if_pos (by omega), h1 q z]
  · rw [if_neg (by omega), h2 q (by omega), h3 q (by omega)]
/-- rows of the check end where they end -/
def zM (t : HS) : Prop := (∀ k, 1 ≤ k → k ≤ 6 → ∀ i, 8 ≤ i → t k i = 0) ∧ (∀ k, 7 ≤ k → k ≤ 10 → ∀ i, 6 ≤ i → t k i = 0) ∧ ∀ k, 20 ≤ k → k ≤ 22 → ∀ i, t k i = t k 0
theorem zM_of {h t : HS} {nc nb : Nat} (w : WF h nc nb) (r : rel h t) : zM t := by
  have h8 := w.nc8
  have h6 := w.nb6
  refine ⟨fun k h1 h2 i hi => ?_, fun k h1 h2 i hi => ?_, fun k h1 h2 i => ?_⟩
  · rcases (show k = 1 ∨ k = 2 ∨ k = 3 ∨ k = 4 ∨ k = 5 ∨ k = 6 by omega) with e | e | e | e | e | e <;> subst e
    · rw [r 1 rfl]; exact w.z (k := 0) (by omega) i (by omega)
    · rw [r 2 rfl]; exact w.z (k := 1) (by omega) i (by omega)
    · rw [r 3 rfl]; exact w.z (k := 2) (by omega) i (by omega)
    · rw [r 4 rfl]; exact w.z (k := 3) (by omega) i (by omega)
    · rw [r 5 rfl]; exact w.mh_out (by omega)
    · rw [r 6 rfl]; exact w.z (k := 5) (by omega) i (by omega)
  · rcases (show k = 7 ∨ k = 8 ∨ k = 9 ∨ k = 10 by omega) with e | e | e | e <;> subst e
    · rw [r 7 rfl]; exact w.zb (k := 6) (by omega) (by omega) i (by omega)
    · rw [r 8 rfl]; exact w.zb (k := 7) (by omega) (by omega) i (by omega)
    · rw [r 9 rfl]; exact w.zb (k := 8) (by omega) (by omega) i (by omega)
    · rw [r 10 rfl]; exact w.zb (k := 9) (by omega) (by omega) i (by omega)
  · rcases (show k = 20 ∨ k = 21 ∨ k = 22 by omega) with e | e | e <;> subst e
    · rw [r 20 rfl]; show h 10 i = h 10 0; rw [w.c, w.c]
    · rw [r 21 rfl]; show h 11 i = h 11 0; rw [w.b, w.b]
    · rw [r 22 rfl]; exact w.1.2.2.2.2 i
theorem rel.refl (h : HS) : rel h (mo h) := fun _ _ => rfl
theorem rest_run {t m : HS} {w : Nat} (hw : w ≤ 2) (zt : zM t) (zm : zM m) (s : sl (t 15) w m) : ∃ t', f_X2_passesAll (nI w) 0 t = some t' ∧ (∀ k, core k = true → t' k = m k) ∧ ∀ k, core k = false → k ≠ 27 → k ≠ 28 → t' k = t k := by
  obtain ⟨s1, s2, s3, s4, s5, s6, s7, s8, s9, s10, s20, s21, s22⟩ := s
  unfold f_X2_passesAll
  simp only [jnE, nb]
  rw [if_pos (Or.inl trivial)]
  obtain ⟨t0, e0⟩ : ∃ t0, t0 = st (st t 28 (fun _ => (75 : Int32) * nI w)) 27 (fun _ => 0) := ⟨_, rfl⟩
  rw [← e0]
  have o0 : ∀ k, k ≠ 27 → k ≠ 28 → t0 k = t k := fun k h1 h2 => by rw [e0, st_ne h1, st_ne h2]
  have z0 : t0 27 0 = 0 := by rw [e0, st_eq]
  have c0 : t0 28 = fun _ => nI (75 * w + 0) := by
    rw [e0, st_ne (by decide), st_eq, show (75 : Int32) = nI 75 from rfl, pk_mul]; rfl
  obtain ⟨t1, e1⟩ : ∃ y, y = rst t0 1 (rs (t0 1) (t0 15) (75 * w + 0) 0 8) (75 * w + 0 + 8) := ⟨_, rfl⟩
  rw [fR_1 (75 * w + 0) t0 (by omega) z0 c0, Option.bind_some, ← e1]
  have o1 : ∀ j, j ≠ 1 → j ≠ 28 → t1 j = t0 j := fun j h1 h2 => by rw [e1, rst_o h1 h2]
  have z1 : t1 27 0 = 0 := by rw [o1 27 (by decide) (by decide)]; exact z0
  have c1 : t1 28 = fun _ => nI (75 * w + 8) := by rw [e1]; unfold rst; rw [st_eq, show 75 * w + 0 + 8 = 75 * w + 8 from by omega]
  have k1 : t0 15 = t 15 := by rw [o0 15 (by decide) (by decide)]
  have v1 : t0 1 = t 1 := by rw [o0 1 (by decide) (by decide)]
  have m1 : t1 1 = m 1 := by
    rw [e1, rst_k (by decide), k1, v1]
    exact rs_full s1 (zt.1 1 (by decide) (by decide)) (zm.1 1 (by decide) (by decide))
  obtain ⟨t2, e2⟩ : ∃ y, y = rst t1 2 (rs (t1 2) (t1 15) (75 * w + 8) 0 8) (75 * w + 8 + 8) := ⟨_, rfl⟩
  rw [fR_2 (75 * w + 8) t1 (by omega) z1 c1, Option.bind_some, ← e2]
  have o2 : ∀ j, j ≠ 2 → j ≠ 28 → t2 j = t1 j := fun j h1 h2 => by rw [e2, rst_o h1 h2]
  have z2 : t2 27 0 = 0 := by rw [o2 27 (by decide) (by decide)]; exact z1
  have c2 : t2 28 = fun _ => nI (75 * w + 16) := by rw [e2]; unfold rst; rw [st_eq, show 75 * w + 8 + 8 = 75 * w + 16 from by omega]
  have k2 : t1 15 = t 15 := by rw [o1 15 (by decide) (by decide), o0 15 (by decide) (by decide)]
  have v2 : t1 2 = t 2 := by rw [o1 2 (by decide) (by decide), o0 2 (by decide) (by decide)]
  have m2 : t2 2 = m 2 := by
    rw [e2, rst_k (by decide), k2, v2]
    exact rs_full s2 (zt.1 2 (by decide) (by decide)) (zm.1 2 (by decide) (by decide))
  obtain ⟨t3, e3⟩ : ∃ y, y = rst t2 3 (rs (t2 3) (t2 15) (75 * w + 16) 0 8) (75 * w + 16 + 8) := ⟨_, rfl⟩
  rw [fR_3 (75 * w + 16) t2 (by omega) z2 c2, Option.bind_some, ← e3]
  have o3 : ∀ j, j ≠ 3 → j ≠ 28 → t3 j = t2 j := fun j h1 h2 => by rw [e3, rst_o h1 h2]
  have z3 : t3 27 0 = 0 := by rw [o3 27 (by decide) (by decide)]; exact z2
  have c3 : t3 28 = fun _ => nI (75 * w + 24) := by rw [e3]; unfold rst; rw [st_eq, show 75 * w + 16 + 8 = 75 * w + 24 from by omega]
  have k3 : t2 15 = t 15 := by rw [o2 15 (by decide) (by decide), o1 15 (by decide) (by decide), o0 15 (by decide) (by decide)]
  have v3 : t2 3 = t 3 := by rw [o2 3 (by decide) (by decide), o1 3 (by decide) (by decide), o0 3 (by decide) (by decide)]
  have m3 : t3 3 = m 3 := by
    rw [e3, rst_k (by decide), k3, v3]
    exact rs_full s3 (zt.1 3 (by decide) (by decide)) (zm.1 3 (by decide) (by decide))
  obtain ⟨t4, e4⟩ : ∃ y, y = rst t3 4 (rs (t3 4) (t3 15) (75 * w + 24) 0 8) (75 * w + 24 + 8) := ⟨_, rfl⟩
  rw [fR_4 (75 * w + 24) t3 (by omega) z3 c3, Option.bind_some, ← e4]
  have o4 : ∀ j, j ≠ 4 → j ≠ 28 → t4 j = t3 j := fun j h1 h2 => by rw [e4, rst_o h1 h2]
  have z4 : t4 27 0 = 0 := by rw [o4 27 (by decide) (by decide)]; exact z3
  have c4 : t4 28 = fun _ => nI (75 * w + 32) := by rw [e4]; unfold rst; rw [st_eq, show 75 * w + 24 + 8 = 75 * w + 32 from by omega]
  have k4 : t3 15 = t 15 := by rw [o3 15 (by decide) (by decide), o2 15 (by decide) (by decide), o1 15 (by decide) (by decide), o0 15 (by decide) (by decide)]
  have v4 : t3 4 = t 4 := by rw [o3 4 (by decide) (by decide), o2 4 (by decide) (by decide), o1 4 (by decide) (by decide), o0 4 (by decide) (by decide)]
  have m4 : t4 4 = m 4 := by
    rw [e4, rst_k (by decide), k4, v4]
    exact rs_full s4 (zt.1 4 (by decide) (by decide)) (zm.1 4 (by decide) (by decide))
  obtain ⟨t5, e5⟩ : ∃ y, y = rst t4 5 (rs (t4 5) (t4 15) (75 * w + 32) 0 8) (75 * w + 32 + 8) := ⟨_, rfl⟩
  rw [fR_5 (75 * w + 32) t4 (by omega) z4 c4, Option.bind_some, ← e5]
  have o5 : ∀ j, j ≠ 5 → j ≠ 28 → t5 j = t4 j := fun j h1 h2 => by rw [e5, rst_o h1 h2]
  have z5 : t5 27 0 = 0 := by rw [o5 27 (by decide) (by decide)]; exact z4
  have c5 : t5 28 = fun _ => nI (75 * w + 40) := by rw [e5]; unfold rst; rw [st_eq, show 75 * w + 32 + 8 = 75 * w + 40 from by omega]
  have k5 : t4 15 = t 15 := by rw [o4 15 (by decide) (by decide), o3 15 (by decide) (by decide), o2 15 (by decide) (by decide), o1 15 (by decide) (by decide), o0 15 (by decide) (by decide)]
  have v5 : t4 5 = t 5 := by rw [o4 5 (by decide) (by decide), o3 5 (by decide) (by decide), o2 5 (by decide) (by decide), o1 5 (by decide) (by decide), o0 5 (by decide) (by decide)]
  have m5 : t5 5 = m 5 := by
    rw [e5, rst_k (by decide), k5, v5]
    exact rs_full s5 (zt.1 5 (by decide) (by decide)) (zm.1 5 (by decide) (by decide))
  obtain ⟨t6, e6⟩ : ∃ y, y = rst t5 6 (rs (t5 6) (t5 15) (75 * w + 40) 0 8) (75 * w + 40 + 8) := ⟨_, rfl⟩
  rw [fR_6 (75 * w + 40) t5 (by omega) z5 c5, Option.bind_some, ← e6]
  have o6 : ∀ j, j ≠ 6 → j ≠ 28 → t6 j = t5 j := fun j h1 h2 => by rw [e6, rst_o h1 h2]
  have z6 : t6 27 0 = 0 := by rw [o6 27 (by decide) (by decide)]; exact z5
  have c6 : t6 28 = fun _ => nI (75 * w + 48) := by rw [e6]; unfold rst; rw [st_eq, show 75 * w + 40 + 8 = 75 * w + 48 from by omega]
  have k6 : t5 15 = t 15 := by rw [o5 15 (by decide) (by decide), o4 15 (by decide) (by decide), o3 15 (by decide) (by decide), o2 15 (by decide) (by decide), o1 15 (by decide) (by decide), o0 15 (by decide) (by decide)]
  have v6 : t5 6 = t 6 := by rw [o5 6 (by decide) (by decide), o4 6 (by decide) (by decide), o3 6 (by decide) (by decide), o2 6 (by decide) (by decide), o1 6 (by decide) (by decide), o0 6 (by decide) (by decide)]
  have m6 : t6 6 = m 6 := by
    rw [e6, rst_k (by decide), k6, v6]
    exact rs_full s6 (zt.1 6 (by decide) (by decide)) (zm.1 6 (by decide) (by decide))
  obtain ⟨t7, e7⟩ : ∃ y, y = rst t6 7 (rs (t6 7) (t6 15) (75 * w + 48) 0 6) (75 * w + 48 + 6) := ⟨_, rfl⟩
  rw [fR_7 (75 * w + 48) t6 (by omega) z6 c6, Option.bind_some, ← e7]
  have o7 : ∀ j, j ≠ 7 → j ≠ 28 → t7 j = t6 j := fun j h1 h2 => by rw [e7, rst_o h1 h2]
  have z7 : t7 27 0 = 0 := by rw [o7 27 (by decide) (by decide)]; exact z6
  have c7 : t7 28 = fun _ => nI (75 * w + 54) := by rw [e7]; unfold rst; rw [st_eq, show 75 * w + 48 + 6 = 75 * w + 54 from by omega]
  have k7 : t6 15 = t 15 := by rw [o6 15 (by decide) (by decide), o5 15 (by decide) (by decide), o4 15 (by decide) (by decide), o3 15 (by decide) (by decide), o2 15 (by decide) (by decide), o1 15 (by decide) (by decide), o0 15 (by decide) (by decide)]
  have v7 : t6 7 = t 7 := by rw [o6 7 (by decide) (by decide), o5 7 (by decide) (by decide), o4 7 (by decide) (by decide), o3 7 (by decide) (by decide), o2 7 (by decide) (by decide), o1 7 (by decide) (by decide), o0 7 (by decide) (by decide)]
  have m7 : t7 7 = m 7 := by
    rw [e7, rst_k (by decide), k7, v7]
    exact rs_full s7 (zt.2.1 7 (by decide) (by decide)) (zm.2.1 7 (by decide) (by decide))
  obtain ⟨t8, e8⟩ : ∃ y, y = rst t7 8 (rs (t7 8) (t7 15) (75 * w + 54) 0 6) (75 * w + 54 + 6) := ⟨_, rfl⟩
  rw [fR_8 (75 * w + 54) t7 (by omega) z7 c7, Option.bind_some, ← e8]
  have o8 : ∀ j, j ≠ 8 → j ≠ 28 → t8 j = t7 j := fun j h1 h2 => by rw [e8, rst_o h1 h2]
  have z8 : t8 27 0 = 0 := by rw [o8 27 (by decide) (by decide)]; exact z7
  have c8 : t8 28 = fun _ => nI (75 * w + 60) := by rw [e8]; unfold rst; rw [st_eq, show 75 * w + 54 + 6 = 75 * w + 60 from by omega]
  have k8 : t7 15 = t 15 := by rw [o7 15 (by decide) (by decide), o6 15 (by decide) (by decide), o5 15 (by decide) (by decide), o4 15 (by decide) (by decide), o3 15 (by decide) (by decide), o2 15 (by decide) (by decide), o1 15 (by decide) (by decide), o0 15 (by decide) (by decide)]
  have v8 : t7 8 = t 8 := by rw [o7 8 (by decide) (by decide), o6 8 (by decide) (by decide), o5 8 (by decide) (by decide), o4 8 (by decide) (by decide), o3 8 (by decide) (by decide), o2 8 (by decide) (by decide), o1 8 (by decide) (by decide), o0 8 (by decide) (by decide)]
  have m8 : t8 8 = m 8 := by
    rw [e8, rst_k (by decide), k8, v8]
    exact rs_full s8 (zt.2.1 8 (by decide) (by decide)) (zm.2.1 8 (by decide) (by decide))
  obtain ⟨t9, e9⟩ : ∃ y, y = rst t8 9 (rs (t8 9) (t8 15) (75 * w + 60) 0 6) (75 * w + 60 + 6) := ⟨_, rfl⟩
  rw [fR_9 (75 * w + 60) t8 (by omega) z8 c8, Option.bind_some, ← e9]
  have o9 : ∀ j, j ≠ 9 → j ≠ 28 → t9 j = t8 j := fun j h1 h2 => by rw [e9, rst_o h1 h2]
  have z9 : t9 27 0 = 0 := by rw [o9 27 (by decide) (by decide)]; exact z8
  have c9 : t9 28 = fun _ => nI (75 * w + 66) := by rw [e9]; unfold rst; rw [st_eq, show 75 * w + 60 + 6 = 75 * w + 66 from by omega]
  have k9 : t8 15 = t 15 := by rw [o8 15 (by decide) (by decide), o7 15 (by decide) (by decide), o6 15 (by decide) (by decide), o5 15 (by decide) (by decide), o4 15 (by decide) (by decide), o3 15 (by decide) (by decide), o2 15 (by decide) (by decide), o1 15 (by decide) (by decide), o0 15 (by decide) (by decide)]
  have v9 : t8 9 = t 9 := by rw [o8 9 (by decide) (by decide), o7 9 (by decide) (by decide), o6 9 (by decide) (by decide), o5 9 (by decide) (by decide), o4 9 (by decide) (by decide), o3 9 (by decide) (by decide), o2 9 (by decide) (by decide), o1 9 (by decide) (by decide), o0 9 (by decide) (by decide)]
  have m9 : t9 9 = m 9 := by
    rw [e9, rst_k (by decide), k9, v9]
    exact rs_full s9 (zt.2.1 9 (by decide) (by decide)) (zm.2.1 9 (by decide) (by decide))
  obtain ⟨t10, e10⟩ : ∃ y, y = rst t9 10 (rs (t9 10) (t9 15) (75 * w + 66) 0 6) (75 * w + 66 + 6) := ⟨_, rfl⟩
  rw [fR_10 (75 * w + 66) t9 (by omega) z9 c9, Option.bind_some, ← e10]
  have o10 : ∀ j, j ≠ 10 → j ≠ 28 → t10 j = t9 j := fun j h1 h2 => by rw [e10, rst_o h1 h2]
  have z10 : t10 27 0 = 0 := by rw [o10 27 (by decide) (by decide)]; exact z9
  have c10 : t10 28 = fun _ => nI (75 * w + 72) := by rw [e10]; unfold rst; rw [st_eq, show 75 * w + 66 + 6 = 75 * w + 72 from by omega]
  have k10 : t9 15 = t 15 := by rw [o9 15 (by decide) (by decide), o8 15 (by decide) (by decide), o7 15 (by decide) (by decide), o6 15 (by decide) (by decide), o5 15 (by decide) (by decide), o4 15 (by decide) (by decide), o3 15 (by decide) (by decide), o2 15 (by decide) (by decide), o1 15 (by decide) (by decide), o0 15 (by decide) (by decide)]
  have v10 : t9 10 = t 10 := by rw [o9 10 (by decide) (by decide), o8 10 (by decide) (by decide), o7 10 (by decide) (by decide), o6 10 (by decide) (by decide), o5 10 (by decide) (by decide), o4 10 (by decide) (by decide), o3 10 (by decide) (by decide), o2 10 (by decide) (by decide), o1 10 (by decide) (by decide), o0 10 (by decide) (by decide)]
  have m10 : t10 10 = m 10 := by
    rw [e10, rst_k (by decide), k10, v10]
    exact rs_full s10 (zt.2.1 10 (by decide) (by decide)) (zm.2.1 10 (by decide) (by decide))
  obtain ⟨t11, e11⟩ : ∃ y, y = st (st t10 28 (fun _ => nI (75 * w + 72 + 1))) 20 (fun _ => t10 15 (75 * w + 72)) := ⟨_, rfl⟩
  rw [oneR (75 * w + 72) t10 _ (by omega) z10 (by rw [c10]), Option.bind_some]
  rw [← e11]
  have o11 : ∀ j, j ≠ 20 → j ≠ 28 → t11 j = t10 j := fun j h1 h2 => by rw [e11, st_ne h1, st_ne h2]
  have z11 : t11 27 0 = 0 := by rw [o11 27 (by decide) (by decide)]; exact z10
  have c11 : t11 28 = fun _ => nI (75 * w + 73) := by rw [e11, st_ne (by decide), st_eq]
  have k11 : t10 15 = t 15 := by rw [o10 15 (by decide) (by decide), o9 15 (by decide) (by decide), o8 15 (by decide) (by decide), o7 15 (by decide) (by decide), o6 15 (by decide) (by decide), o5 15 (by decide) (by decide), o4 15 (by decide) (by decide), o3 15 (by decide) (by decide), o2 15 (by decide) (by decide), o1 15 (by decide) (by decide), o0 15 (by decide) (by decide)]
  have m11 : t11 20 = m 20 := by
    rw [e11, st_eq, k11]
    funext q
    rw [s20, zm.2.2 20 (by decide) (by decide) q]
  obtain ⟨t12, e12⟩ : ∃ y, y = st (st t11 28 (fun _ => nI (75 * w + 73 + 1))) 21 (fun _ => t11 15 (75 * w + 73)) := ⟨_, rfl⟩
  rw [oneR (75 * w + 73) t11 _ (by omega) z11 (by rw [c11]), Option.bind_some]
  rw [← e12]
  have o12 : ∀ j, j ≠ 21 → j ≠ 28 → t12 j = t11 j := fun j h1 h2 => by rw [e12, st_ne h1, st_ne h2]
  have z12 : t12 27 0 = 0 := by rw [o12 27 (by decide) (by decide)]; exact z11
  have c12 : t12 28 = fun _ => nI (75 * w + 74) := by rw [e12, st_ne (by decide), st_eq]
  have k12 : t11 15 = t 15 := by rw [o11 15 (by decide) (by decide), o10 15 (by decide) (by decide), o9 15 (by decide) (by decide), o8 15 (by decide) (by decide), o7 15 (by decide) (by decide), o6 15 (by decide) (by decide), o5 15 (by decide) (by decide), o4 15 (by decide) (by decide), o3 15 (by decide) (by decide), o2 15 (by decide) (by decide), o1 15 (by decide) (by decide), o0 15 (by decide) (by decide)]
  have m12 : t12 21 = m 21 := by
    rw [e12, st_eq, k12]
    funext q
    rw [s21, zm.2.2 21 (by decide) (by decide) q]
  obtain ⟨t13, e13⟩ : ∃ y, y = st (st t12 28 (fun _ => nI (75 * w + 74 + 1))) 22 (fun _ => t12 15 (75 * w + 74)) := ⟨_, rfl⟩
  rw [oneR (75 * w + 74) t12 _ (by omega) z12 (by rw [c12]), Option.bind_some]
  rw [← e13]
  have o13 : ∀ j, j ≠ 22 → j ≠ 28 → t13 j = t12 j := fun j h1 h2 => by rw [e13, st_ne h1, st_ne h2]
  have z13 : t13 27 0 = 0 := by rw [o13 27 (by decide) (by decide)]; exact z12
  have c13 : t13 28 = fun _ => nI (75 * w + 75) := by rw [e13, st_ne (by decide), st_eq]
  have k13 : t12 15 = t 15 := by rw [o12 15 (by decide) (by decide), o11 15 (by decide) (by decide), o10 15 (by decide) (by decide), o9 15 (by decide) (by decide), o8 15 (by decide) (by decide), o7 15 (by decide) (by decide), o6 15 (by decide) (by decide), o5 15 (by decide) (by decide), o4 15 (by decide) (by decide), o3 15 (by decide) (by decide), o2 15 (by decide) (by decide), o1 15 (by decide) (by decide), o0 15 (by decide) (by decide)]
  have m13 : t13 22 = m 22 := by
    rw [e13, st_eq, k13]
    funext q
    rw [s22, zm.2.2 22 (by decide) (by decide) q]
  refine ⟨t13, rfl, fun k hk => ?_, fun k hk h1 h2 => ?_⟩
  · rcases core_cases hk with e | e | e | e | e | e | e | e | e | e | e | e | e <;> subst e
    · rw [o13 1 (by decide) (by decide), o12 1 (by decide) (by decide), o11 1 (by decide) (by decide), o10 1 (by decide) (by decide), o9 1 (by decide) (by decide), o8 1 (by decide) (by decide), o7 1 (by decide) (by decide), o6 1 (by decide) (by decide), o5 1 (by decide) (by decide), o4 1 (by decide) (by decide), o3 1 (by decide) (by decide), o2 1 (by decide) (by decide)]; exact m1
    · rw [o13 2 (by decide) (by decide), o12 2 (by decide) (by decide), o11 2 (by decide) (by decide), o10 2 (by decide) (by decide), o9 2 (by decide) (by decide), o8 2 (by decide) (by decide), o7 2 (by decide) (by decide), o6 2 (by decide) (by decide), o5 2 (by decide) (by decide), o4 2 (by decide) (by decide), o3 2 (by decide) (by decide)]; exact m2
    · rw [o13 3 (by decide) (by decide), o12 3 (by decide) (by decide), o11 3 (by decide) (by decide), o10 3 (by decide) (by decide), o9 3 (by decide) (by decide), o8 3 (by decide) (by decide), o7 3 (by decide) (by decide), o6 3 (by decide) (by decide), o5 3 (by decide) (by decide), o4 3 (by decide) (by decide)]; exact m3
    · rw [o13 4 (by decide) (by decide), o12 4 (by decide) (by decide), o11 4 (by decide) (by decide), o10 4 (by decide) (by decide), o9 4 (by decide) (by decide), o8 4 (by decide) (by decide), o7 4 (by decide) (by decide), o6 4 (by decide) (by decide), o5 4 (by decide) (by decide)]; exact m4
    · rw [o13 5 (by decide) (by decide), o12 5 (by decide) (by decide), o11 5 (by decide) (by decide), o10 5 (by decide) (by decide), o9 5 (by decide) (by decide), o8 5 (by decide) (by decide), o7 5 (by decide) (by decide), o6 5 (by decide) (by decide)]; exact m5
    · rw [o13 6 (by decide) (by decide), o12 6 (by decide) (by decide), o11 6 (by decide) (by decide), o10 6 (by decide) (by decide), o9 6 (by decide) (by decide), o8 6 (by decide) (by decide), o7 6 (by decide) (by decide)]; exact m6
    · rw [o13 7 (by decide) (by decide), o12 7 (by decide) (by decide), o11 7 (by decide) (by decide), o10 7 (by decide) (by decide), o9 7 (by decide) (by decide), o8 7 (by decide) (by decide)]; exact m7
    · rw [o13 8 (by decide) (by decide), o12 8 (by decide) (by decide), o11 8 (by decide) (by decide), o10 8 (by decide) (by decide), o9 8 (by decide) (by decide)]; exact m8
    · rw [o13 9 (by decide) (by decide), o12 9 (by decide) (by decide), o11 9 (by decide) (by decide), o10 9 (by decide) (by decide)]; exact m9
    · rw [o13 10 (by decide) (by decide), o12 10 (by decide) (by decide), o11 10 (by decide) (by decide)]; exact m10
    · rw [o13 20 (by decide) (by decide), o12 20 (by decide) (by decide)]; exact m11
    · rw [o13 21 (by decide) (by decide)]; exact m12
    · exact m13
  · have nk : ∀ j, core j = true → k ≠ j := fun j hj e => by rw [e, hj] at hk; cases hk
    rw [o13 k (nk 22 rfl) h2, o12 k (nk 21 rfl) h2, o11 k (nk 20 rfl) h2, o10 k (nk 10 rfl) h2, o9 k (nk 9 rfl) h2, o8 k (nk 8 rfl) h2, o7 k (nk 7 rfl) h2, o6 k (nk 6 rfl) h2, o5 k (nk 5 rfl) h2, o4 k (nk 4 rfl) h2, o3 k (nk 3 rfl) h2, o2 k (nk 2 rfl) h2, o1 k (nk 1 rfl) h2, o0 k h1 h2]
/-- what a question leaves as it is, but what is kept in passing -/
def G1 (t t' : HS) : Prop := (∀ k, core k = false → k ≠ 15 → k ≠ 16 → k ≠ 27 → k ≠ 28 → t' k = t k) ∧ ∀ j, j < 150 → t' 15 j = t 15 j
def G0 (t t' : HS) : Prop := (∀ k, core k = false → k ≠ 15 → k ≠ 16 → k ≠ 27 → k ≠ 28 → t' k = t k) ∧ ∀ j, j < 75 → t' 15 j = t 15 j
theorem G1.g0 {t t' : HS} (h : G1 t t') : G0 t t' := ⟨h.1, fun j hj => h.2 j (by omega)⟩
theorem G0.rf {t : HS} : G0 t t := ⟨fun _ _ _ _ _ _ => rfl, fun _ _ => rfl⟩
theorem G1.rf {t : HS} : G1 t t := ⟨fun _ _ _ _ _ _ => rfl, fun _ _ => rfl⟩
theorem G0.tr {t t' t'' : HS} (a : G0 t t') (b : G0 t' t'') : G0 t t'' := ⟨fun k h1 h2 h3 h4 h5 => (b.1 k h1 h2 h3 h4 h5).trans (a.1 k h1 h2 h3 h4 h5), fun j hj => (b.2 j hj).trans (a.2 j hj)⟩
theorem G1.tr {t t' t'' : HS} (a : G1 t t') (b : G1 t' t'') : G1 t t'' := ⟨fun k h1 h2 h3 h4 h5 => (b.1 k h1 h2 h3 h4 h5).trans (a.1 k h1 h2 h3 h4 h5), fun j hj => (b.2 j hj).trans (a.2 j hj)⟩
theorem G1.of_fr {t t' : HS} (h : fr t t') : G1 t t' := ⟨fun k h1 _ h3 _ _ => h k h1 h3, fun j _ => by rw [h 15 rfl (by decide)]⟩
theorem G0.of_fr {t t' : HS} (h : fr t t') : G0 t t' := (G1.of_fr h).g0
theorem G1.a29 {t t' : HS} (h : G1 t t') : t' 29 = t 29 := h.1 29 rfl (by decide) (by decide) (by decide) (by decide)
theorem G0.a29 {t t' : HS} (h : G0 t t') : t' 29 = t 29 := h.1 29 rfl (by decide) (by decide) (by decide) (by decide)
theorem keep_M {h t : HS} {nc nb w : Nat} (wf : WF h nc nb) (r : rel h t) (hw : w ≤ 2) : ∃ t', f_X2_passesAll (nI w) 1 t = some t' ∧ rel h t' ∧ (∀ k, core k = false → k ≠ 15 → k ≠ 27 → k ≠ 28 → t' k = t k) ∧ sl (t' 15) w (mo h) ∧ ∀ j, (j < 75 * w ∨ 75 * w + 75 ≤ j) → t' 15 j = t 15 j := by
  have z := zM_of wf r
  refine ⟨_, keep_run hw (z.2.2 20 (by decide) (by decide)) (z.2.2 21 (by decide) (by decide)) (z.2.2 22 (by decide) (by decide)), fun k hk => ?_, fun k hk h1 h2 h3 => ?_, ?_, fun j hj => ?_⟩
  · have nk : ∀ j, core j = false → k ≠ j := fun j hj e => by rw [e, hj] at hk; cases hk
    rw [kst_o (nk 15 rfl) (nk 28 rfl), st_ne (nk 27 rfl)]
    exact r k hk
  · rw [kst_o h1 h3, st_ne h2]
  · rw [show (kst (st t 27 (fun _ => 1)) (kpA t w) (75 * w + 75)) 15 = kpA t w from rfl]
    obtain ⟨s1, s2, s3, s4, s5, s6, s7, s8, s9, s10, s20, s21, s22⟩ := kpA_sl t w
    exact ⟨fun q hq => by rw [s1 q hq, r 1 rfl], fun q hq => by rw [s2 q hq, r 2 rfl], fun q hq => by rw [s3 q hq, r 3 rfl], fun q hq => by rw [s4 q hq, r 4 rfl], fun q hq => by rw [s5 q hq, r 5 rfl], fun q hq => by rw [s6 q hq, r 6 rfl], fun q hq => by rw [s7 q hq, r 7 rfl], fun q hq => by rw [s8 q hq, r 8 rfl], fun q hq => by rw [s9 q hq, r 9 rfl], fun q hq => by rw [s10 q hq, r 10 rfl], by rw [s20, r 20 rfl], by rw [s21, r 21 rfl], by rw [s22, r 22 rfl]⟩
  · exact kpA_out t w j hj
theorem rest_M {h g t : HS} {nc nb nc' nb' w : Nat} (wf : WF h nc nb) (r : rel h t) (hw : w ≤ 2) (wg : WF g nc' nb') (s : sl (t 15) w (mo g)) : ∃ t', f_X2_passesAll (nI w) 0 t = some t' ∧ rel g t' ∧ ∀ k, core k = false → k ≠ 27 → k ≠ 28 → t' k = t k :=
  rest_run hw (zM_of wf r) (zM_of wg (rel.refl g)) s
/-- a question: what stands is kept; whatever is done to the core alone; it is put back -/
theorem thinks_M {h t : HS} {nc nb : Nat} (wf : WF h nc nb) (r : rel h t) : ∃ t1, f_X2_thinks t = some t1 ∧ rel h t1 ∧ G1 t t1 ∧ ∀ (g t2 : HS) (nc' nb' : Nat), WF g nc' nb' → rel g t2 → fr t1 t2 → ∃ t3, f_X2_forgets t2 = some t3 ∧ rel h t3 ∧ G1 t t3 := by
  obtain ⟨t1, a1, a2, a3, a4, a5⟩ := keep_M (w := 2) wf r (by omega)
  have g1 : G1 t t1 := ⟨fun k h1 h2 _ h4 h5 => a3 k h1 h2 h4 h5, fun j hj => a5 j (by omega)⟩
  refine ⟨t1, ?_, a2, g1, fun g t2 nc' nb' wg rg fg => ?_⟩
  · unfold f_X2_thinks
    rw [show (2 : Int32) = nI 2 from rfl, a1]; rfl
  · obtain ⟨t3, b1, b2, b3⟩ := rest_M (w := 2) wg rg (by omega) wf (by rw [fg 15 rfl (by decide)]; exact a4)
    refine ⟨t3, ?_, b2, g1.tr ((G1.of_fr fg).tr ⟨fun k h1 _ _ h4 h5 => b3 k h1 h4 h5, fun j _ => by rw [b3 15 rfl (by decide) (by decide)]⟩)⟩
    unfold f_X2_forgets
    rw [show (2 : Int32) = nI 2 from rfl, b1]; rfl
theorem changes_M {h t : HS} {nc nb : Nat} (wf : WF h nc nb) (r : rel h t) : ∃ t1, f_X2_changes t = some t1 ∧ rel h t1 ∧ G0 t t1 ∧ ∀ (g t2 : HS) (nc' nb' : Nat), WF g nc' nb' → rel g t2 → G1 t1 t2 → ∃ t3, f_X2_changesBack t2 = some t3 ∧ rel h t3 ∧ G0 t t3 := by
  obtain ⟨t1, a1, a2, a3, a4, a5⟩ := keep_M (w := 1) wf r (by omega)
  have g1 : G0 t t1 := ⟨fun k h1 h2 _ h4 h5 => a3 k h1 h2 h4 h5, fun j hj => a5 j (by omega)⟩
  refine ⟨t1, ?_, a2, g1, fun g t2 nc' nb' wg rg fg => ?_⟩
  · unfold f_X2_changes
    rw [show f_X2_passesAll 1 1 t = some t1 from a1]; rfl
  · obtain ⟨t3, b1, b2, b3⟩ := rest_M (w := 1) wg rg (by omega) wf (a4.congr (fun j h1 h2 => fg.2 j (by omega)))
    refine ⟨t3, ?_, b2, g1.tr (fg.g0.tr ⟨fun k h1 _ _ h4 h5 => b3 k h1 h4 h5, fun j _ => by rw [b3 15 rfl (by decide) (by decide)]⟩)⟩
    unfold f_X2_changesBack
    rw [show (1 : Int32) = nI 1 from rfl, b1]; rfl
