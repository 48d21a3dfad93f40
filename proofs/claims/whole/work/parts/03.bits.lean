/-! the printed shifts and masks over numbers below 2^31; the marks -/
theorem sr_dig {c : Nat} (hc : c < 2 ^ 31) : nI c &&& 3 = nI (c % 4) := pk_andN (by omega) 2 (by decide)
theorem sr_shr2 {c : Nat} (hc : c < 2 ^ 31) : nI c >>> ((2 : Int32) &&& 31) = nI (c / 4) := pk_shrN hc _ 2 (by decide)
theorem sr_dv (c i : Nat) : c / 4 ^ i / 4 = c / 4 ^ (i + 1) := by rw [Nat.div_div_eq_div_mul, Nat.pow_succ]
theorem sr_dvlt {c : Nat} (i : Nat) (hc : c < 2 ^ 31) : c / 4 ^ i < 2 ^ 31 := Nat.lt_of_le_of_lt (Nat.div_le_self _ _) hc
theorem sr_digi {c : Nat} (i : Nat) (hc : c < 2 ^ 31) : nI (c / 4 ^ i) &&& 3 = nI (sr_d c i) := sr_dig (sr_dvlt i hc)
theorem sr_shri {c : Nat} (i : Nat) (hc : c < 2 ^ 31) : nI (c / 4 ^ i) >>> ((2 : Int32) &&& 31) = nI (c / 4 ^ (i + 1)) := by rw [sr_shr2 (sr_dvlt i hc), sr_dv]
theorem sr_c0 (c : Nat) : c / 4 ^ 0 = c := by rw [Nat.pow_zero, Nat.div_one]
theorem sr_mul2 (m : Nat) : (2 : Int32) * nI m = nI (2 * m) := pk_mul 2 m
theorem sr_pow : ∀ n, n < 8 → (1 : Int32) <<< ((2 * nI n) &&& 31) = nI (4 ^ n) := by decide +kernel
theorem sr_22 (m : Nat) : 2 ^ (2 * m) = 4 ^ m := by rw [Nat.pow_mul]
theorem sr_shrD {c m : Nat} (hc : c < 2 ^ 31) (hm : m < 8) : nI c >>> ((2 * nI m) &&& 31) = nI (c / 4 ^ m) := by
  rw [sr_mul2, pk_shrN hc _ (2 * m) (s_l (2 * m) (by omega)), sr_22]
theorem sr_shlD {c m : Nat} (hm : m < 8) (h : c * 4 ^ m < 2 ^ 31) : nI c <<< ((2 * nI m) &&& 31) = nI (c * 4 ^ m) := by
  rw [sr_mul2, pk_shlN _ (2 * m) (s_l (2 * m) (by omega)) (by rw [sr_22]; omega), sr_22]
theorem sr_sub1 {n : Nat} (h : 0 < n) : nI n - 1 = nI (n - 1) := pk_sub (b := 1) h
theorem sr_subi {n i : Nat} (h : i < n) : nI n - 1 - nI i = nI (n - 1 - i) := by
  rw [sr_sub1 (by omega), pk_sub (by omega)]
theorem sr_at {n c i : Nat} (hi : i < n) (hn : n ≤ 6) (hc : c < 2 ^ 31) : (nI c >>> ((2 * (nI n - 1 - nI i)) &&& 31)) &&& 3 = nI (sr_d c (n - 1 - i)) := by
  rw [sr_subi hi, sr_shrD hc (by omega), sr_digi _ hc]
theorem sr_or (a b : Nat) : nI a ||| nI b = nI (a ||| b) := by
  apply Int32.toBitVec_inj.1
  show BitVec.ofNat 32 a ||| BitVec.ofNat 32 b = BitVec.ofNat 32 (a ||| b)
  apply BitVec.eq_of_getLsbD_eq
  intro i hi
  simp [hi]
theorem sr_or4 {c x : Nat} (hc : c < 4096) (hx : x < 4) : (nI c <<< ((2 : Int32) &&& 31)) ||| nI x = nI (c * 4 + x) := by
  rw [pk_shlN _ 2 (by decide) (by omega), sr_or]
  have h := Nat.two_pow_add_eq_or_of_lt (i := 2) (b := x) (by omega) c
  rw [Nat.mul_comm c (2 ^ 2), ← h]
theorem sr_lin {c n : Nat} (h : c < 4 ^ n) {x : Nat} (hx : x < 4) : c * 4 + x < 4 ^ (n + 1) := by
  rw [Nat.pow_succ]
  omega
def sr_Mk (M : Nat → Int32) (P : Nat → Bool) (N : Nat) : Prop := ∀ k, k < 5472 → bt (M (k / 32)) (k % 32) = (decide (k < N) && P k)
theorem sr_Mk0 {M : Nat → Int32} {P : Nat → Bool} (h : ∀ j, j < 171 → M j = 0) : sr_Mk M P 0 := by
  intro k hk
  rw [h (k / 32) (by omega), b_0, decide_eq_false (by omega), Bool.false_and]
theorem sr_Mkf {M : Nat → Int32} {P : Nat → Bool} {k : Nat} (h : sr_Mk M P k) (z : P k = false) : sr_Mk M P (k + 1) := by
  intro j hj
  rw [h j hj]
  by_cases e : j = k
  · subst e; rw [z, Bool.and_false, Bool.and_false]
  · have i : (j < k) ↔ (j < k + 1) := by omega
    rw [decide_eq_decide.mpr i]
theorem sr_Mkt {M : Nat → Int32} {P : Nat → Bool} {k : Nat} (h : sr_Mk M P k) (z : P k = true) : sr_Mk (upd M (k / 32) (M (k / 32) ||| ((1 : Int32) <<< (nI (k % 32) &&& 31)))) P (k + 1) := by
  intro j hj
  have hk : k % 32 < 32 := Nat.mod_lt _ (by decide)
  by_cases e : j / 32 = k / 32
  · have t : bt ((1 : Int32) <<< (nI (k % 32) &&& 31)) (j % 32) = decide (k % 32 = j % 32) := by
      unfold bt
      rw [nf_sh (k % 32) hk, BitVec.getLsbD_twoPow, decide_eq_true hk, Bool.true_and]
    rw [e, pk_us, b_or, t, ← e, h j hj]
    by_cases f : k % 32 = j % 32
    · have q : j = k := by omega
      subst q
      rw [decide_eq_true (show j % 32 = j % 32 from rfl), decide_eq_true (show j < j + 1 by omega), z]
      simp
    · have i : (j < k) ↔ (j < k + 1) := by omega
      rw [decide_eq_false f, Bool.or_false, decide_eq_decide.mpr i]
  · have q : j ≠ k := fun q => e (by rw [q])
    have i : (j < k) ↔ (j < k + 1) := by omega
    rw [pk_un e, h j hj, decide_eq_decide.mpr i]
theorem sr_low (x : Int32) {b : Bool} (h : bt x 0 = b) : x &&& 1 = sr_bI b := by
  have h2 : decide (x.toBitVec.toNat % 2 = 1) = b := by rw [← Nat.testBit_zero]; exact h
  rw [pk_and x 1 (by decide)]
  show nI (x.toBitVec.toNat % 2) = _
  cases b
  · have n1 : ¬ x.toBitVec.toNat % 2 = 1 := of_decide_eq_false h2
    have n0 : x.toBitVec.toNat % 2 = 0 := by omega
    rw [n0]; rfl
  · rw [of_decide_eq_true h2]; rfl
theorem sr_Mkr {M : Nat → Int32} {P : Nat → Bool} {k : Nat} (h : sr_Mk M P 5461) (hk : k < 5461) : (M (k / 32) >>> (nI (k % 32) &&& 31)) &&& 1 = sr_bI (P k) := by
  have hm : k % 32 < 32 := Nat.mod_lt _ (by decide)
  apply sr_low
  rw [b_sshr (k % 32) hm _ (by decide), Nat.add_zero, if_pos hm, h k (by omega), decide_eq_true hk, Bool.true_and]
theorem sr_k32 {k : Nat} (h : k < 2 ^ 31) : nI k / 32 = nI (k / 32) := pk_div (d := 32) h (by decide) (by decide)
theorem sr_r32 {k : Nat} (h : k < 2 ^ 31) : nI k - nI k / 32 * 32 = nI (k % 32) := pk_rem (d := 32) h (by decide) (by decide)
