/-! long numbers, and Euclid -/
def eL (n : Nat) : Int64 := Int64.ofNat n
theorem eL_i {n : Nat} (h : n < 2 ^ 62) : (eL n).toInt = (n : Int) := Int64.toInt_ofNat_of_lt (by omega)
theorem eL_0 : eL 0 = 0 := rfl
theorem eL_1 : eL 1 = 1 := rfl
theorem eL_add (a b : Nat) : eL a + eL b = eL (a + b) := (Int64.ofNat_add a b).symm
theorem eL_mul (a b : Nat) : eL a * eL b = eL (a * b) := (Int64.ofNat_mul a b).symm
theorem eL_eq {a b : Nat} (ha : a < 2 ^ 62) (hb : b < 2 ^ 62) : eL a = eL b ↔ a = b := by
  rw [← Int64.toInt_inj, eL_i ha, eL_i hb]; omega
theorem eL_ne0 {a : Nat} (h0 : 0 < a) (ha : a < 2 ^ 62) : ¬ eL a = 0 := by
  intro q
  have := (eL_eq (b := 0) ha (by omega)).mp q
  omega
theorem eL_mod {a b : Nat} (ha : a < 2 ^ 62) (hb : b < 2 ^ 62) : eL a - eL a / eL b * eL b = eL (a % b) := by
  have hm : a % b ≤ a := Nat.mod_le a b
  apply Int64.toInt_inj.mp
  rw [Jvm.Kit.i64_rem_nonneg (by rw [eL_i ha]; omega), eL_i ha, eL_i hb, eL_i (by omega)]
  rfl
theorem eL_w {n : Nat} (h : n < 2 ^ 31) : (nI n).toInt64 = eL n := Int64.toInt_inj.mp (by rw [Int32.toInt_toInt64, nI_toInt h, eL_i (by omega)])
theorem half_mod {b r : Nat} (h0 : 0 < r) (h : r < b) : 2 * (b % r) < b := by
  by_cases q : 2 * r ≤ b
  · have := Nat.mod_lt b h0
    omega
  · have e : b % r = b - r := by
      rw [Nat.mod_eq_sub_mod (by omega), Nat.mod_eq_of_lt (by omega)]
    rw [e]
    omega
/-- one step of either -/
theorem euX_s {j0 j2 : Int64} {j4 : Int32} (K : Int64 → Option Int64) {a b : Nat} (n i : Nat) (ha : a < 2 ^ 62) (hb : b < 2 ^ 62) (h0 : 0 < b) (hi : i < 128) : L_X1_inLeastTerms_25 j0 j2 j4 K (n + 1) (eL a) (eL b) (nI i) = L_X1_inLeastTerms_25 j0 j2 j4 K n (eL b) (eL (a % b)) (nI (i + 1)) := by
  rw [L_X1_inLeastTerms_25, if_neg (show ¬ (128 : Int32) ≤ nI i from nI_ge (b := 128) hi (by omega)), if_neg (fun q => eL_ne0 h0 hb ((lg_cmp_eq _ _).mp q)), eL_mod ha hb, nI_1]
  unfold nz
  rw [if_neg (eL_ne0 h0 hb)]
theorem euX_0 {j0 j2 : Int64} {j4 : Int32} (K : Int64 → Option Int64) {a : Nat} (n i : Nat) : L_X1_inLeastTerms_25 j0 j2 j4 K (n + 1) (eL a) (eL 0) (nI i) = K (eL a) := by
  rw [L_X1_inLeastTerms_25, if_pos ((lg_cmp_eq (eL 0) 0).mpr rfl), ite_self]
theorem euM_s {j0 j2 : Int64} (K : Int64 → Option Int64) {a b : Nat} (n : Nat) (ha : a < 2 ^ 62) (hb : b < 2 ^ 62) (h0 : 0 < b) : L_X2_divisor_6 j0 j2 K (n + 1) (eL a) (eL b) = L_X2_divisor_6 j0 j2 K n (eL b) (eL (a % b)) := by
  rw [L_X2_divisor_6, if_neg (fun q => eL_ne0 h0 hb ((lg_cmp_eq _ _).mp q)), eL_mod ha hb]
  unfold nz
  rw [if_neg (eL_ne0 h0 hb)]
theorem euM_0 {j0 j2 : Int64} (K : Int64 → Option Int64) {a : Nat} (n : Nat) : L_X2_divisor_6 j0 j2 K (n + 1) (eL a) (eL 0) = K (eL a) := by
  rw [L_X2_divisor_6, if_pos ((lg_cmp_eq (eL 0) 0).mpr rfl)]
/-- both come to the same divisor, at least 1 -/
theorem euclid_XM (j0 j2 : Int64) (j4 : Int32) : ∀ (k a b : Nat), a < 2 ^ 62 → b < 2 ^ 62 → b < 2 ^ k → 0 < a + b → ∃ g, 0 < g ∧ g < 2 ^ 62 ∧ (∀ K n i, 2 * k + 1 ≤ n → i + 2 * k < 128 → L_X1_inLeastTerms_25 j0 j2 j4 K n (eL a) (eL b) (nI i) = K (eL g)) ∧ ∀ K n, 2 * k + 1 ≤ n → L_X2_divisor_6 j0 j2 K n (eL a) (eL b) = K (eL g)
  | 0, a, b, ha, hb, hk, h0 => by
    have : b = 0 := by rw [Nat.pow_zero] at hk; omega
    subst this
    refine ⟨a, by omega, ha, fun K n i hn hi => ?_, fun K n hn => ?_⟩
    · cases n with
      | zero => omega
      | succ n => exact euX_0 K n i
    · cases n with
      | zero => omega
      | succ n => exact euM_0 K n
  | k + 1, a, b, ha, hb, hk, h0 => by
    by_cases q : b = 0
    · subst q
      refine ⟨a, by omega, ha, fun K n i hn hi => ?_, fun K n hn => ?_⟩
      · cases n with
        | zero => omega
        | succ n => exact euX_0 K n i
      · cases n with
        | zero => omega
        | succ n => exact euM_0 K n
    · have hm : a % b < b := Nat.mod_lt a (by omega)
      by_cases z : a % b = 0
      · refine ⟨b, by omega, hb, fun K n i hn hi => ?_, fun K n hn => ?_⟩
        · obtain ⟨n, rfl⟩ : ∃ n', n = n' + 2 := ⟨n - 2, by omega⟩
          rw [euX_s K (n + 1) i ha hb (by omega) (by omega), z]
          exact euX_0 K n (i + 1)
        · obtain ⟨n, rfl⟩ : ∃ n', n = n' + 2 := ⟨n - 2, by omega⟩
          rw [euM_s K (n + 1) ha hb (by omega), z]
          exact euM_0 K n
      · have hh := half_mod (b := b) (r := a % b) (by omega) hm
        have hmm : b % (a % b) ≤ b := Nat.mod_le _ _
        have hp : b % (a % b) < 2 ^ k := by rw [Nat.pow_succ] at hk; omega
        obtain ⟨g, g1, g2, X, M⟩ := euclid_XM j0 j2 j4 k (a % b) (b % (a % b)) (by omega) (by omega) hp (by omega)
        refine ⟨g, g1, g2, fun K n i hn hi => ?_, fun K n hn => ?_⟩
        · obtain ⟨n, rfl⟩ : ∃ n', n = n' + 2 := ⟨n - 2, by omega⟩
          rw [euX_s K (n + 1) i ha hb (by omega) (by omega), euX_s K n (i + 1) hb (by omega) (by omega) (by omega)]
          exact X K n (i + 1 + 1) (by omega) (by omega)
        · obtain ⟨n, rfl⟩ : ∃ n', n = n' + 2 := ⟨n - 2, by omega⟩
          rw [euM_s K (n + 1) ha hb (by omega), euM_s K n hb (by omega) (by omega)]
          exact M K n (by omega)
/-- the fraction, told in least terms: below the line 1 at least -/
theorem least_XM {a b : Nat} {part : Int32} (ha : a < 2 ^ 62) (hb : b < 2 ^ 31) (h0 : 0 < b) (hp : part = 0 ∨ part = 1) : ∃ v, f_X1_inLeastTerms (eL a) (eL b) part = some v ∧ f_X2_partOf (eL a) (eL b) part = some v := by
  by_cases q : a = 0
  · subst q
    have D : f_X2_divisor (eL 0) (eL b) = some (eL b) := by
      unfold f_X2_divisor
      simp only [jnE]
      rw [show fuel = 998 + 2 from rfl, euM_s _ 999 (by omega) (by omega) h0, Nat.zero_mod]
      exact euM_0 _ 998
    refine ⟨part.toInt64, ?_, ?_⟩
    · unfold f_X1_inLeastTerms
      rw [if_pos ((lg_cmp_le _ _).mpr (by rw [eL_0, Int64.le_iff_toInt_le]; omega))]
    · have nb0 := eL_ne0 h0 (by omega)
      unfold f_X2_partOf
      rw [D]
      rcases hp with rfl | rfl
      · rw [if_pos rfl, Option.bind_some]
        unfold nz
        rw [if_neg nb0, eL_0, Int64.zero_div]
        rfl
      · rw [if_neg (by decide), Option.bind_some]
        unfold nz
        rw [if_neg nb0]
        congr 1
        apply Int64.toInt_inj.mp
        rw [Jvm.Kit.i64_div (by rw [eL_i (by omega)]; omega), eL_i (by omega), Int.tdiv_self (by omega)]
        rfl
  · obtain ⟨g, g1, g2, X, M⟩ := euclid_XM (eL a) (eL b) part 31 a b ha (by omega) hb (by omega)
    have gn := eL_ne0 g1 g2
    have x := X (fun (j5_61 : Int64) => if 0 < (lg_cmp j5_61 (0 : Int64)) then if part = 0 then nz j5_61 (some (eL a / j5_61)) else nz j5_61 (some (eL b / j5_61)) else some (part).toInt64) fuel 0 (by unfold fuel; omega) (by omega)
    rw [nI0] at x
    have D : f_X2_divisor (eL a) (eL b) = some (eL g) := by
      unfold f_X2_divisor
      simp only [jnE]
      obtain ⟨g', -, -, -, M'⟩ := euclid_XM (eL a) (eL b) part 31 a b ha (by omega) hb (by omega)
      exact M (fun x => some x) fuel (by unfold fuel; omega)
    have pos : ∀ c : Nat, 0 < c → c < 2 ^ 62 → (0 : Int64) < eL c := fun c h h2 => by
      rw [Int64.lt_iff_toInt_lt, eL_i h2, Int64.toInt_zero]; omega
    refine ⟨if part = 0 then eL a / eL g else eL b / eL g, ?_, ?_⟩
    · unfold f_X1_inLeastTerms
      have c1 : ¬ lg_cmp (eL a) 0 ≤ 0 := fun z => by
        have := (lg_cmp_le _ _).mp z
        rw [Int64.le_iff_toInt_le, eL_i ha, Int64.toInt_zero] at this
        omega
      rw [if_neg c1, if_pos ((lg_cmp_gt _ _).mpr (pos b h0 (by omega)))]
      simp only [jnE]
      rw [x, if_pos ((lg_cmp_gt _ _).mpr (pos g g1 g2))]
      unfold nz
      rw [if_neg gn, if_neg gn]
      rcases hp with rfl | rfl
      · rw [if_pos rfl, if_pos rfl]
      · rw [if_neg (by decide), if_neg (by decide)]
    · unfold f_X2_partOf
      rw [D, Option.bind_some, Option.bind_some]
      unfold nz
      rw [if_neg gn, if_neg gn]
      rcases hp with rfl | rfl
      · rw [if_pos rfl, if_pos rfl]
      · rw [if_neg (by decide), if_neg (by decide)]
